def b_X1_lower_2 : Nat → MemL → Int32 → (MemL → Prop) → Prop
  | 0 => fun _ _ _ => False
  | n + 1 => fun hl v1 Qp => (((48 : Int32) ≤ v1 → Qp hl) ∧ (¬ ((48 : Int32) ≤ v1) → ((((hl 41 0) &&& (1 : Int64)) = (1 : Int64) → Qp hl) ∧ (¬ (((hl 41 0) &&& (1 : Int64)) = (1 : Int64)) → ((((hl 41 1) &&& (1 : Int64)) = (1 : Int64) → Qp hl) ∧ (¬ (((hl 41 1) &&& (1 : Int64)) = (1 : Int64)) → ((¬ (2 : Int64) = 0) ∧ ((¬ (2 : Int64) = 0) ∧ (∀ hl6 : MemL, hl6 = (up2L (up2L hl 41 0 ((hl 41 0) / (2 : Int64))) 41 1 (((up2L hl 41 0 ((hl 41 0) / (2 : Int64))) 41 1) / (2 : Int64))) → b_X1_lower_2 n hl6 (v1 + (1 : Int32)) Qp)))))))))
def p_X1_lower (hl : MemL) (Qp : MemL → Prop) : Prop := (∃ n2, b_X1_lower_2 n2 hl (0 : Int32) Qp)
set_option maxHeartbeats 4000000 in
set_option maxRecDepth 100000 in
theorem t_X1_lower_2 (E : xE) {p : Program} {l : Launch} {e : Env} {R : Room} {s : State} {m : MethodId} {args : Array Value} {below : List Frame} {meth : Method} {c : Code} (C : mC (wdX E) p s m meth c args cX1_lower 2 RX1 none) (hR : 0 ≤ R.frames ∧ 0 ≤ R.locals) {h : Mem} (Qp : MemL → Prop) : ∀ (n : Nat) (hl : MemL) (v1 : Int32) (H : Heap) (locs : List Loc) (ls : Array Slot), mD (wdX E) h hl s H locs → lv_has ls 2 [(0, .ref (wad (wdX E) 41)), (1, .int v1)] → b_X1_lower_2 n hl v1 Qp → W p l e R s m args below meth c H locs 0 0 (MQ below (mQv (wdX E) (fun h1 hl1 => h = h1 ∧ Qp hl1)) args s 0 0 (wA (wdX E))) (F0 m 2 ls []) := by
  have hx := C.x
  have hb := C.b
  intro n
  induction n with
  | zero => intro hl v1 H locs ls Dy lv hwp; exact hwp.elim
  | succ n ih =>
    intro hl v1 H locs ls Dy lv hwp
    simp only [b_X1_lower_2] at hwp
    refine lv_iload_n hx hb dX1_lower_2 rfl (lv_at lv 1 rfl) ?_
    refine lv_bipush (v := (48 : Int32)) hx hb dX1_lower_3 (by decide) ?_
    refine lv_icmp_ge (tgt := 61) hx hb dX1_lower_5 (by decide) (fun c1 => ?_) (fun c1 => ?_)
    · have hwp := hwp.1 c1
      exact x_vret C Dy ⟨rfl, hwp⟩ dX1_lower_61
    · have hwp := hwp.2 c1
      refine lv_aload_n hx hb dX1_lower_8 rfl (lv_at lv 0 rfl) ?_
      refine gf_X1_9_41 C Dy dX1_lower_9 ?_
      refine lv_lconst (v := (1 : Int64)) hx hb dX1_lower_12 (by decide) ?_
      refine lv_land hx hb dX1_lower_13 ?_
      refine lv_lconst (v := (1 : Int64)) hx hb dX1_lower_14 (by decide) ?_
      refine W.lcmp hx hb dX1_lower_15 ?_
      refine lv_if_eq (tgt := 30) hx hb dX1_lower_16 (by decide) (fun c2 => ?_) (fun c2 => ?_)
      · have hwp := hwp.1 ((lg_cmp_eq _ _).mp c2)
        exact x_vret C Dy ⟨rfl, hwp⟩ dX1_lower_30
      · have hwp := hwp.2 (fun z => c2 ((lg_cmp_eq _ _).mpr z))
        refine lv_aload_n hx hb dX1_lower_19 rfl (lv_at lv 0 rfl) ?_
        refine gf_X1_15_41 C Dy dX1_lower_20 ?_
        refine lv_lconst (v := (1 : Int64)) hx hb dX1_lower_23 (by decide) ?_
        refine lv_land hx hb dX1_lower_24 ?_
        refine lv_lconst (v := (1 : Int64)) hx hb dX1_lower_25 (by decide) ?_
        refine W.lcmp hx hb dX1_lower_26 ?_
        refine lv_if_ne (tgt := 31) hx hb dX1_lower_27 (by decide) (fun c3 => ?_) (fun c3 => ?_)
        · have hwp := hwp.2 (fun z => c3 ((lg_cmp_eq _ _).mpr z))
          refine lv_aload_n hx hb dX1_lower_31 rfl (lv_at lv 0 rfl) ?_
          refine lv_dup hx hb dX1_lower_32 rfl ?_
          refine gf_X1_9_41 C Dy dX1_lower_33 ?_
          refine lv_ldc2 hx hb C.ow (C.ts _ k_712) dX1_lower_36 ?_
          obtain ⟨g4, hwp⟩ := hwp
          refine lv_ldiv hx hb dX1_lower_39 g4 ?_
          refine pf_X1_9_41 C Dy dX1_lower_40 (fun H locs Dy => ?_)
          refine lv_aload_n hx hb dX1_lower_43 rfl (lv_at lv 0 rfl) ?_
          refine lv_dup hx hb dX1_lower_44 rfl ?_
          refine gf_X1_15_41 C Dy dX1_lower_45 ?_
          refine lv_ldc2 hx hb C.ow (C.ts _ k_712) dX1_lower_48 ?_
          obtain ⟨g5, hwp⟩ := hwp
          refine lv_ldiv hx hb dX1_lower_51 g5 ?_
          refine pf_X1_15_41 C Dy dX1_lower_52 (fun H locs Dy => ?_)
          obtain ⟨hl6, ehl6⟩ : ∃ z : MemL, z = (up2L (up2L hl 41 0 ((hl 41 0) / (2 : Int64))) 41 1 (((up2L hl 41 0 ((hl 41 0) / (2 : Int64))) 41 1) / (2 : Int64))) := ⟨_, rfl⟩
          rw [← ehl6] at Dy
          have hwp := hwp hl6 ehl6
          refine lv_iinc (v := (v1 + (1 : Int32))) (lv' := [(1, .int (v1 + (1 : Int32))), (0, .ref (wad (wdX E) 41))]) hx hb dX1_lower_55 lv (k := 1) rfl rfl (by decide) rfl (fun ls lv => ?_)
          refine lv_goto (tgt := 2) hx hb dX1_lower_58 (by decide) ?_
          exact ih hl6 (v1 + (1 : Int32)) _ _ _ Dy (lv_sub lv [1, 0] rfl) hwp
        · have hwp := hwp.1 ((lg_cmp_eq _ _).mp c3)
          exact x_vret C Dy ⟨rfl, hwp⟩ dX1_lower_30
set_option maxHeartbeats 4000000 in
set_option maxRecDepth 100000 in
theorem m_X1_lower (E : xE) (l : Launch) (h : Mem) (hl : MemL) (Qp : MemL → Prop) (hwp : p_X1_lower hl Qp) : Met l yX1_lower (wsU yX1_lower cX1_lower 2 none) ({ frames := 0, cells := 0, slots := 0, locals := 0 } : Room) (mPc (wdX E) [.ref (wad (wdX E) 41)] h hl) (mQv (wdX E) (fun h1 hl1 => h = h1 ∧ Qp hl1)) 0 0 (wA (wdX E)) := by
  refine x_met RX1 [(0, .ref (wad (wdX E) 41))] (by decide) rfl (Nat.le_of_ble_eq_true rfl) rfl ?_
  intro p e s m args below meth c ls C Dy lv
  have hx := C.x
  have hb := C.b
  have hR : 0 ≤ ({ frames := 0, cells := 0, slots := 0, locals := 0 } : Room).frames ∧ 0 ≤ ({ frames := 0, cells := 0, slots := 0, locals := 0 } : Room).locals := ⟨Nat.le_refl _, Nat.le_refl _⟩
  unfold p_X1_lower at hwp
  refine lv_iconst (v := (0 : Int32)) hx hb dX1_lower_0 (by decide) ?_
  refine lv_istore_n (lv' := [(1, .int (0 : Int32)), (0, .ref (wad (wdX E) 41))]) hx hb dX1_lower_1 rfl lv (by decide) rfl (fun ls lv => ?_)
  obtain ⟨n0, hwp⟩ := hwp
  exact t_X1_lower_2 E C hR Qp n0 hl (0 : Int32) _ _ _ Dy (lv_sub lv [1, 0] rfl) hwp
def b_X1_reckon_162 (h : Mem) (hl : MemL) (Qp : Mem → MemL → Prop) : Prop := (p_X1_lower hl (fun hl24 => Qp h hl24))
def b_X1_reckon_117 : Nat → Mem → MemL → Int32 → Int32 → (Mem → MemL → Prop) → Prop
  | 0 => fun _ _ _ _ _ => False
  | n + 1 => fun h hl v3 v7 Qp => (((6 : Int32) ≤ v7 → b_X1_reckon_162 h hl Qp) ∧ (¬ ((6 : Int32) ≤ v7) → (p_X1_waysTo h hl v3 v7 (fun r21 => b_X1_reckon_117 n h (up2L hl 41 0 ((hl 41 0) - r21)) v3 (v7 + (1 : Int32)) Qp))))
def b_X1_reckon_12 : Nat → Mem → MemL → Int32 → Int32 → Int32 → Int32 → Int32 → (Mem → MemL → Prop) → Prop
  | 0 => fun _ _ _ _ _ _ _ _ => False
  | n + 1 => fun h hl v2 v3 v5 v6 v7 Qp => (((6 : Int32) ≤ v7 → (vp_in (if (12 : Int32) < v6 then (12 : Int32) else v6) 13 ∧ ((v5 = (6 : Int32) → (∀ hl6 : MemL, hl6 = (up2L (up2L hl 41 1 (hl 44 (if (12 : Int32) < v6 then (12 : Int32) else v6).toNatClampNeg)) 41 0 ((up2L hl 41 1 (hl 44 (if (12 : Int32) < v6 then (12 : Int32) else v6).toNatClampNeg)) 41 1)) → (∃ n117, b_X1_reckon_117 n117 h hl6 v3 (-1 : Int32) Qp))) ∧ (¬ (v5 = (6 : Int32)) → (p_X1_waysTo h (up2L hl 41 1 (hl 44 (if (12 : Int32) < v6 then (12 : Int32) else v6).toNatClampNeg)) v3 v5 (fun r4 => b_X1_reckon_162 h (up2L (up2L hl 41 1 (hl 44 (if (12 : Int32) < v6 then (12 : Int32) else v6).toNatClampNeg)) 41 0 r4) Qp)))))) ∧ (¬ ((6 : Int32) ≤ v7) → (p_X0_ordersOf h v3 v7 (fun r7 => (p_J6_bitCount (v2 &&& r7) (fun r9 => (vp_in v7 6 ∧ (p_X0_bansOf (up2 h 42 v7.toNatClampNeg r9) v3 v7 (fun r12 => (p_J6_bitCount (v2 &&& r12) (fun r14 => (vp_in v7 6 ∧ (vp_in v7 6 ∧ (vp_in v7 6 ∧ (∀ x19 : Int32, x19 = (v6 + (((up2 (up2 h 42 v7.toNatClampNeg r9) 43 v7.toNatClampNeg r14) 42 v7.toNatClampNeg) + ((up2 (up2 h 42 v7.toNatClampNeg r9) 43 v7.toNatClampNeg r14) 43 v7.toNatClampNeg))) → b_X1_reckon_12 n (up2 (up2 h 42 v7.toNatClampNeg r9) 43 v7.toNatClampNeg r14) hl v2 v3 v5 x19 (v7 + (1 : Int32)) Qp)))))))))))))))
def p_X1_reckon (h : Mem) (hl : MemL) (v2 : Int32) (v3 : Int32) (v4 : Int32) (v5 : Int32) (Qp : Mem → MemL → Prop) : Prop := (p_X1_layPowers hl v4 (fun hl26 => (∃ n12, b_X1_reckon_12 n12 h hl26 v2 v3 v5 (0 : Int32) (0 : Int32) Qp)))
set_option maxHeartbeats 4000000 in
set_option maxRecDepth 100000 in
theorem t_X1_reckon_162 (E : xE) {p : Program} {l : Launch} {e : Env} {R : Room} {s : State} {m : MethodId} {args : Array Value} {below : List Frame} {meth : Method} {c : Code} (C : mC (wdX E) p s m meth c args cX1_reckon 8 RX1 none) (hR : 3 ≤ R.frames ∧ 76 ≤ R.locals)  (Qp : Mem → MemL → Prop) : ∀ (h : Mem) (hl : MemL) (H : Heap) (locs : List Loc) (ls : Array Slot), mD (wdX E) h hl s H locs → lv_has ls 8 [(0, .ref (wad (wdX E) 41))] → b_X1_reckon_162 h hl Qp → W p l e R s m args below meth c H locs 0 0 (MQ below (mQv (wdX E) (fun h1 hl1 => Qp h1 hl1)) args s 0 0 (wA (wdX E))) (F0 m 162 ls []) := by
  have hx := C.x
  have hb := C.b
  intro h hl H locs ls Dy lv hwp
  unfold b_X1_reckon_162 at hwp
  refine lv_aload_n hx hb dX1_reckon_162 rfl (lv_at lv 0 rfl) ?_
  refine x_cont_v Dy (x_runV (As := []) (rest := []) C Dy (m_X1_lower E l _ _ _ hwp) (cw_X1_60 C rfl rfl ⟨Nat.le_trans (Nat.le_of_ble_eq_true rfl) hR.1, Nat.le_trans (Nat.le_of_ble_eq_true rfl) hR.2⟩) wx_41 rfl rfl lv.1 rfl (Nat.le_of_ble_eq_true rfl) dX1_reckon_163 ⟨Nat.zero_le _, Nat.zero_le _⟩) (fun h24 hl24 H locs hwp Dy => ?_)
  obtain ⟨rfl, hwp⟩ := hwp
  exact x_vret C Dy hwp dX1_reckon_166
set_option maxHeartbeats 4000000 in
set_option maxRecDepth 100000 in
theorem t_X1_reckon_117 (E : xE) {p : Program} {l : Launch} {e : Env} {R : Room} {s : State} {m : MethodId} {args : Array Value} {below : List Frame} {meth : Method} {c : Code} (C : mC (wdX E) p s m meth c args cX1_reckon 8 RX1 none) (hR : 3 ≤ R.frames ∧ 76 ≤ R.locals)  (Qp : Mem → MemL → Prop) : ∀ (n : Nat) (h : Mem) (hl : MemL) (v3 : Int32) (v7 : Int32) (H : Heap) (locs : List Loc) (ls : Array Slot), mD (wdX E) h hl s H locs → lv_has ls 8 [(0, .ref (wad (wdX E) 41)), (1, .ref (wad (wdX E) 7)), (3, .int v3), (7, .int v7)] → b_X1_reckon_117 n h hl v3 v7 Qp → W p l e R s m args below meth c H locs 0 0 (MQ below (mQv (wdX E) (fun h1 hl1 => Qp h1 hl1)) args s 0 0 (wA (wdX E))) (F0 m 117 ls []) := by
  have hx := C.x
  have hb := C.b
  intro n
  induction n with
  | zero => intro h hl v3 v7 H locs ls Dy lv hwp; exact hwp.elim
  | succ n ih =>
    intro h hl v3 v7 H locs ls Dy lv hwp
    simp only [b_X1_reckon_117] at hwp
    refine lv_iload hx hb dX1_reckon_117 (lv_at lv 3 rfl) ?_
    refine lv_bipush (v := (6 : Int32)) hx hb dX1_reckon_119 (by decide) ?_
    refine lv_icmp_ge (tgt := 147) hx hb dX1_reckon_121 (by decide) (fun c20 => ?_) (fun c20 => ?_)
    · have hwp := hwp.1 c20
      refine lv_goto (tgt := 162) hx hb dX1_reckon_147 (by decide) ?_
      exact t_X1_reckon_162 E C hR Qp h hl _ _ _ Dy (lv_sub lv [0] rfl) hwp
    · have hwp := hwp.2 c20
      refine lv_aload_n hx hb dX1_reckon_124 rfl (lv_at lv 0 rfl) ?_
      refine lv_dup hx hb dX1_reckon_125 rfl ?_
      refine gf_X1_9_41 C Dy dX1_reckon_126 ?_
      refine lv_aload_n hx hb dX1_reckon_129 rfl (lv_at lv 0 rfl) ?_
      refine lv_aload_n hx hb dX1_reckon_130 rfl (lv_at lv 1 rfl) ?_
      refine lv_iload_n hx hb dX1_reckon_131 rfl (lv_at lv 2 rfl) ?_
      refine lv_iload hx hb dX1_reckon_132 (lv_at lv 3 rfl) ?_
      refine x_cont_l Dy (x_runV (As := [.ref (wad (wdX E) 7), .int v3, .int v7]) (rest := [.long (hl 41 0), .ref (wad (wdX E) 41)]) C Dy (m_X1_waysTo E l _ _ v3 v7 _ hwp) (cw_X1_56 C rfl rfl ⟨Nat.le_trans (Nat.le_of_ble_eq_true rfl) hR.1, Nat.le_trans (Nat.le_of_ble_eq_true rfl) hR.2⟩) wx_41 rfl rfl lv.1 rfl (Nat.le_of_ble_eq_true rfl) dX1_reckon_134 ⟨Nat.zero_le _, Nat.zero_le _⟩) (fun r21 h22 hl22 H locs hwp Dy => ?_)
      obtain ⟨rfl, rfl, hwp⟩ := hwp
      refine lv_lsub hx hb dX1_reckon_137 ?_
      refine pf_X1_9_41 C Dy dX1_reckon_138 (fun H locs Dy => ?_)
      refine lv_iinc (v := (v7 + (1 : Int32))) (lv' := [(7, .int (v7 + (1 : Int32))), (0, .ref (wad (wdX E) 41)), (1, .ref (wad (wdX E) 7)), (3, .int v3)]) hx hb dX1_reckon_141 lv (k := 3) rfl rfl (by decide) rfl (fun ls lv => ?_)
      refine lv_goto (tgt := 117) hx hb dX1_reckon_144 (by decide) ?_
      exact ih h (up2L hl 41 0 ((hl 41 0) - r21)) v3 (v7 + (1 : Int32)) _ _ _ Dy (lv_sub lv [1, 2, 3, 0] rfl) hwp
set_option maxHeartbeats 4000000 in
set_option maxRecDepth 100000 in
theorem t_X1_reckon_12 (E : xE) {p : Program} {l : Launch} {e : Env} {R : Room} {s : State} {m : MethodId} {args : Array Value} {below : List Frame} {meth : Method} {c : Code} (C : mC (wdX E) p s m meth c args cX1_reckon 8 RX1 none) (hR : 3 ≤ R.frames ∧ 76 ≤ R.locals)  (Qp : Mem → MemL → Prop) : ∀ (n : Nat) (h : Mem) (hl : MemL) (v2 : Int32) (v3 : Int32) (v5 : Int32) (v6 : Int32) (v7 : Int32) (H : Heap) (locs : List Loc) (ls : Array Slot), mD (wdX E) h hl s H locs → lv_has ls 8 [(0, .ref (wad (wdX E) 41)), (1, .ref (wad (wdX E) 7)), (2, .int v2), (3, .int v3), (5, .int v5), (6, .int v6), (7, .int v7)] → b_X1_reckon_12 n h hl v2 v3 v5 v6 v7 Qp → W p l e R s m args below meth c H locs 0 0 (MQ below (mQv (wdX E) (fun h1 hl1 => Qp h1 hl1)) args s 0 0 (wA (wdX E))) (F0 m 12 ls []) := by
  have hx := C.x
  have hb := C.b
  intro n
  induction n with
  | zero => intro h hl v2 v3 v5 v6 v7 H locs ls Dy lv hwp; exact hwp.elim
  | succ n ih =>
    intro h hl v2 v3 v5 v6 v7 H locs ls Dy lv hwp
    simp only [b_X1_reckon_12] at hwp
    refine lv_iload hx hb dX1_reckon_12 (lv_at lv 6 rfl) ?_
    refine lv_bipush (v := (6 : Int32)) hx hb dX1_reckon_14 (by decide) ?_
    refine lv_icmp_ge (tgt := 83) hx hb dX1_reckon_16 (by decide) (fun c1 => ?_) (fun c1 => ?_)
    · have hwp := hwp.1 c1
      refine lv_aload_n hx hb dX1_reckon_83 rfl (lv_at lv 0 rfl) ?_
      refine lv_aload_n hx hb dX1_reckon_84 rfl (lv_at lv 0 rfl) ?_
      refine gf_X1_25_41 C Dy dX1_reckon_85 ?_
      refine lv_iload hx hb dX1_reckon_88 (lv_at lv 5 rfl) ?_
      refine lv_bipush (v := (12 : Int32)) hx hb dX1_reckon_90 (by decide) ?_
      refine va_mmin hx hb (C.ml.trans lv.1.symm) C.ow (C.ts _ k_685) (C.ts _ k_686) (C.ts _ k_15) (C.ts _ k_687) (Nat.le_trans (Nat.le_of_ble_eq_true rfl) hR.1) (Nat.le_trans (Nat.le_of_ble_eq_true rfl) hR.2) (Nat.zero_le _) (Nat.zero_le _) dX1_reckon_92 ?_
      obtain ⟨g2, hwp⟩ := hwp
      refine x_lald C Dy wxa_44 g2 dX1_reckon_95 ?_
      refine pf_X1_15_41 C Dy dX1_reckon_96 (fun H locs Dy => ?_)
      refine lv_iload hx hb dX1_reckon_99 (lv_at lv 4 rfl) ?_
      refine lv_bipush (v := (6 : Int32)) hx hb dX1_reckon_101 (by decide) ?_
      refine lv_icmp_ne (tgt := 150) hx hb dX1_reckon_103 (by decide) (fun c3 => ?_) (fun c3 => ?_)
      · have hwp := hwp.2 c3
        refine lv_aload_n hx hb dX1_reckon_150 rfl (lv_at lv 0 rfl) ?_
        refine lv_aload_n hx hb dX1_reckon_151 rfl (lv_at lv 0 rfl) ?_
        refine lv_aload_n hx hb dX1_reckon_152 rfl (lv_at lv 1 rfl) ?_
        refine lv_iload_n hx hb dX1_reckon_153 rfl (lv_at lv 3 rfl) ?_
        refine lv_iload hx hb dX1_reckon_154 (lv_at lv 4 rfl) ?_
        refine x_cont_l Dy (x_runV (As := [.ref (wad (wdX E) 7), .int v3, .int v5]) (rest := [.ref (wad (wdX E) 41)]) C Dy (m_X1_waysTo E l _ _ v3 v5 _ hwp) (cw_X1_56 C rfl rfl ⟨Nat.le_trans (Nat.le_of_ble_eq_true rfl) hR.1, Nat.le_trans (Nat.le_of_ble_eq_true rfl) hR.2⟩) wx_41 rfl rfl lv.1 rfl (Nat.le_of_ble_eq_true rfl) dX1_reckon_156 ⟨Nat.zero_le _, Nat.zero_le _⟩) (fun r4 h5 hl5 H locs hwp Dy => ?_)
        obtain ⟨rfl, rfl, hwp⟩ := hwp
        refine pf_X1_9_41 C Dy dX1_reckon_159 (fun H locs Dy => ?_)
        exact t_X1_reckon_162 E C hR Qp h (up2L (up2L hl 41 1 (hl 44 (if (12 : Int32) < v6 then (12 : Int32) else v6).toNatClampNeg)) 41 0 r4) _ _ _ Dy (lv_sub lv [0] rfl) hwp
      · have hwp := hwp.1 c3
        refine lv_aload_n hx hb dX1_reckon_106 rfl (lv_at lv 0 rfl) ?_
        refine lv_aload_n hx hb dX1_reckon_107 rfl (lv_at lv 0 rfl) ?_
        refine gf_X1_15_41 C Dy dX1_reckon_108 ?_
        refine pf_X1_9_41 C Dy dX1_reckon_111 (fun H locs Dy => ?_)
        obtain ⟨hl6, ehl6⟩ : ∃ z : MemL, z = (up2L (up2L hl 41 1 (hl 44 (if (12 : Int32) < v6 then (12 : Int32) else v6).toNatClampNeg)) 41 0 ((up2L hl 41 1 (hl 44 (if (12 : Int32) < v6 then (12 : Int32) else v6).toNatClampNeg)) 41 1)) := ⟨_, rfl⟩
        rw [← ehl6] at Dy
        have hwp := hwp hl6 ehl6
        refine lv_iconst (v := (-1 : Int32)) hx hb dX1_reckon_114 (by decide) ?_
        refine lv_istore (lv' := [(7, .int (-1 : Int32)), (0, .ref (wad (wdX E) 41)), (1, .ref (wad (wdX E) 7)), (2, .int v2), (3, .int v3), (5, .int v5), (6, .int v6)]) hx hb dX1_reckon_115 lv (by decide) rfl (fun ls lv => ?_)
        obtain ⟨n0, hwp⟩ := hwp
        exact t_X1_reckon_117 E C hR Qp n0 h hl6 v3 (-1 : Int32) _ _ _ Dy (lv_sub lv [1, 2, 4, 0] rfl) hwp
    · have hwp := hwp.2 c1
      refine lv_aload_n hx hb dX1_reckon_19 rfl (lv_at lv 0 rfl) ?_
      refine gf_X1_18_41 C Dy dX1_reckon_20 ?_
      refine lv_iload hx hb dX1_reckon_23 (lv_at lv 6 rfl) ?_
      refine lv_iload_n hx hb dX1_reckon_25 rfl (lv_at lv 2 rfl) ?_
      refine lv_aload_n hx hb dX1_reckon_26 rfl (lv_at lv 1 rfl) ?_
      refine lv_iload_n hx hb dX1_reckon_27 rfl (lv_at lv 3 rfl) ?_
      refine lv_iload hx hb dX1_reckon_28 (lv_at lv 6 rfl) ?_
      refine x_cont_i Dy (x_runV (As := [.int v3, .int v7]) (rest := [.int v2, .int v7, .ref (wad (wdX E) 42)]) C Dy (m_X0_ordersOf E l _ _ v3 v7 _ hwp) (cw_X1_36 C rfl rfl ⟨Nat.le_trans (Nat.le_of_ble_eq_true rfl) hR.1, Nat.le_trans (Nat.le_of_ble_eq_true rfl) hR.2⟩) wx_7 rfl rfl lv.1 rfl (Nat.le_of_ble_eq_true rfl) dX1_reckon_30 ⟨Nat.zero_le _, Nat.zero_le _⟩) (fun r7 h8 hl8 H locs hwp Dy => ?_)
      obtain ⟨rfl, rfl, hwp⟩ := hwp
      refine lv_iand hx hb dX1_reckon_33 ?_
      refine x_cont_i Dy (x_runS (As := [.int (v2 &&& r7)]) (rest := [.int v7, .ref (wad (wdX E) 42)]) C Dy (m_J6_bitCount (wdX E) l _ _ (v2 &&& r7) _ hwp) (cw_X1_42 C rfl rfl ⟨Nat.le_trans (Nat.le_of_ble_eq_true rfl) hR.1, Nat.le_trans (Nat.le_of_ble_eq_true rfl) hR.2⟩) rfl lv.1 rfl (Nat.le_of_ble_eq_true rfl) dX1_reckon_34 ⟨Nat.zero_le _, Nat.zero_le _⟩) (fun r9 h10 hl10 H locs hwp Dy => ?_)
      obtain ⟨rfl, rfl, hwp⟩ := hwp
      obtain ⟨g11, hwp⟩ := hwp
      refine x_iast C Dy wxa_42 g11 dX1_reckon_37 (fun H locs Dy => ?_)
      refine lv_aload_n hx hb dX1_reckon_38 rfl (lv_at lv 0 rfl) ?_
      refine gf_X1_22_41 C Dy dX1_reckon_39 ?_
      refine lv_iload hx hb dX1_reckon_42 (lv_at lv 6 rfl) ?_
      refine lv_iload_n hx hb dX1_reckon_44 rfl (lv_at lv 2 rfl) ?_
      refine lv_aload_n hx hb dX1_reckon_45 rfl (lv_at lv 1 rfl) ?_
      refine lv_iload_n hx hb dX1_reckon_46 rfl (lv_at lv 3 rfl) ?_
      refine lv_iload hx hb dX1_reckon_47 (lv_at lv 6 rfl) ?_
      refine x_cont_i Dy (x_runV (As := [.int v3, .int v7]) (rest := [.int v2, .int v7, .ref (wad (wdX E) 43)]) C Dy (m_X0_bansOf E l _ _ v3 v7 _ hwp) (cw_X1_48 C rfl rfl ⟨Nat.le_trans (Nat.le_of_ble_eq_true rfl) hR.1, Nat.le_trans (Nat.le_of_ble_eq_true rfl) hR.2⟩) wx_7 rfl rfl lv.1 rfl (Nat.le_of_ble_eq_true rfl) dX1_reckon_49 ⟨Nat.zero_le _, Nat.zero_le _⟩) (fun r12 h13 hl13 H locs hwp Dy => ?_)
      obtain ⟨rfl, rfl, hwp⟩ := hwp
      refine lv_iand hx hb dX1_reckon_52 ?_
      refine x_cont_i Dy (x_runS (As := [.int (v2 &&& r12)]) (rest := [.int v7, .ref (wad (wdX E) 43)]) C Dy (m_J6_bitCount (wdX E) l _ _ (v2 &&& r12) _ hwp) (cw_X1_42 C rfl rfl ⟨Nat.le_trans (Nat.le_of_ble_eq_true rfl) hR.1, Nat.le_trans (Nat.le_of_ble_eq_true rfl) hR.2⟩) rfl lv.1 rfl (Nat.le_of_ble_eq_true rfl) dX1_reckon_53 ⟨Nat.zero_le _, Nat.zero_le _⟩) (fun r14 h15 hl15 H locs hwp Dy => ?_)
      obtain ⟨rfl, rfl, hwp⟩ := hwp
      obtain ⟨g16, hwp⟩ := hwp
      refine x_iast C Dy wxa_43 g16 dX1_reckon_56 (fun H locs Dy => ?_)
      refine lv_iload hx hb dX1_reckon_57 (lv_at lv 5 rfl) ?_
      refine lv_aload_n hx hb dX1_reckon_59 rfl (lv_at lv 0 rfl) ?_
      refine gf_X1_18_41 C Dy dX1_reckon_60 ?_
      refine lv_iload hx hb dX1_reckon_63 (lv_at lv 6 rfl) ?_
      obtain ⟨g17, hwp⟩ := hwp
      refine x_iald C Dy wxa_42 g17 dX1_reckon_65 ?_
      refine lv_aload_n hx hb dX1_reckon_66 rfl (lv_at lv 0 rfl) ?_
      refine gf_X1_22_41 C Dy dX1_reckon_67 ?_
      refine lv_iload hx hb dX1_reckon_70 (lv_at lv 6 rfl) ?_
      obtain ⟨g18, hwp⟩ := hwp
      refine x_iald C Dy wxa_43 g18 dX1_reckon_72 ?_
      refine lv_iadd hx hb dX1_reckon_73 ?_
      refine lv_iadd hx hb dX1_reckon_74 ?_
      refine lv_topi (fun x19 ex19 => ?_)
      have hwp := hwp x19 ex19
      refine lv_istore (lv' := [(6, .int x19), (0, .ref (wad (wdX E) 41)), (1, .ref (wad (wdX E) 7)), (2, .int v2), (3, .int v3), (5, .int v5), (7, .int v7)]) hx hb dX1_reckon_75 lv (by decide) rfl (fun ls lv => ?_)
      refine lv_iinc (v := (v7 + (1 : Int32))) (lv' := [(7, .int (v7 + (1 : Int32))), (6, .int x19), (0, .ref (wad (wdX E) 41)), (1, .ref (wad (wdX E) 7)), (2, .int v2), (3, .int v3), (5, .int v5)]) hx hb dX1_reckon_77 lv (k := 6) rfl rfl (by decide) rfl (fun ls lv => ?_)
      refine lv_goto (tgt := 12) hx hb dX1_reckon_80 (by decide) ?_
      exact ih (up2 (up2 h 42 v7.toNatClampNeg r9) 43 v7.toNatClampNeg r14) hl v2 v3 v5 x19 (v7 + (1 : Int32)) _ _ _ Dy (lv_sub lv [2, 3, 4, 5, 6, 1, 0] rfl) hwp
set_option maxHeartbeats 4000000 in
set_option maxRecDepth 100000 in
theorem m_X1_reckon (E : xE) (l : Launch) (h : Mem) (hl : MemL) (v2 : Int32) (v3 : Int32) (v4 : Int32) (v5 : Int32) (Qp : Mem → MemL → Prop) (hwp : p_X1_reckon h hl v2 v3 v4 v5 Qp) : Met l yX1_reckon (wsU yX1_reckon cX1_reckon 8 none) ({ frames := 3, cells := 0, slots := 0, locals := 76 } : Room) (mPc (wdX E) [.ref (wad (wdX E) 41), .ref (wad (wdX E) 7), .int v2, .int v3, .int v4, .int v5] h hl) (mQv (wdX E) (fun h1 hl1 => Qp h1 hl1)) 0 0 (wA (wdX E)) := by
  refine x_met RX1 [(0, .ref (wad (wdX E) 41)), (1, .ref (wad (wdX E) 7)), (2, .int v2), (3, .int v3), (4, .int v4), (5, .int v5)] (by decide) rfl (Nat.le_of_ble_eq_true rfl) rfl ?_
  intro p e s m args below meth c ls C Dy lv
  have hx := C.x
  have hb := C.b
  have hR : 3 ≤ ({ frames := 3, cells := 0, slots := 0, locals := 76 } : Room).frames ∧ 76 ≤ ({ frames := 3, cells := 0, slots := 0, locals := 76 } : Room).locals := ⟨Nat.le_refl _, Nat.le_refl _⟩
  unfold p_X1_reckon at hwp
  refine lv_aload_n hx hb dX1_reckon_0 rfl (lv_at lv 0 rfl) ?_
  refine lv_iload hx hb dX1_reckon_1 (lv_at lv 4 rfl) ?_
  refine x_cont_v Dy (x_runV (As := [.int v4]) (rest := []) C Dy (m_X1_layPowers E l _ _ v4 _ hwp) (cw_X1_32 C rfl rfl ⟨Nat.le_trans (Nat.le_of_ble_eq_true rfl) hR.1, Nat.le_trans (Nat.le_of_ble_eq_true rfl) hR.2⟩) wx_41 rfl rfl lv.1 rfl (Nat.le_of_ble_eq_true rfl) dX1_reckon_3 ⟨Nat.zero_le _, Nat.zero_le _⟩) (fun h26 hl26 H locs hwp Dy => ?_)
  obtain ⟨rfl, hwp⟩ := hwp
  refine lv_iconst (v := (0 : Int32)) hx hb dX1_reckon_6 (by decide) ?_
  refine lv_istore (lv' := [(6, .int (0 : Int32)), (0, .ref (wad (wdX E) 41)), (1, .ref (wad (wdX E) 7)), (2, .int v2), (3, .int v3), (4, .int v4), (5, .int v5)]) hx hb dX1_reckon_7 lv (by decide) rfl (fun ls lv => ?_)
  refine lv_iconst (v := (0 : Int32)) hx hb dX1_reckon_9 (by decide) ?_
  refine lv_istore (lv' := [(7, .int (0 : Int32)), (6, .int (0 : Int32)), (0, .ref (wad (wdX E) 41)), (1, .ref (wad (wdX E) 7)), (2, .int v2), (3, .int v3), (4, .int v4), (5, .int v5)]) hx hb dX1_reckon_10 lv (by decide) rfl (fun ls lv => ?_)
  obtain ⟨n0, hwp⟩ := hwp
  exact t_X1_reckon_12 E C hR Qp n0 h hl26 v2 v3 v5 (0 : Int32) (0 : Int32) _ _ _ Dy (lv_sub lv [2, 3, 4, 5, 7, 1, 0] rfl) hwp
def p_X2_isFull (h : Mem) (Qp : Int32 → Prop) : Prop := Qp (if (h 35 2) < (8 : Int32) then (0 : Int32) else (1 : Int32))
set_option maxHeartbeats 4000000 in
set_option maxRecDepth 100000 in
theorem m_X2_isFull (E : xE) (l : Launch) (h : Mem) (hl : MemL) (Qp : Int32 → Prop) (hwp : p_X2_isFull h Qp) : Met l yX2_isFull (wsU yX2_isFull cX2_isFull 1 (some .boolean)) ({ frames := 0, cells := 0, slots := 0, locals := 0 } : Room) (mPc (wdX E) [.ref (wad (wdX E) 35)] h hl) (mQz (wdX E) (fun r h1 hl1 => h = h1 ∧ hl = hl1 ∧ Qp r)) 0 0 (wA (wdX E)) := by
  refine x_met RX2 [(0, .ref (wad (wdX E) 35))] (by decide) rfl (Nat.le_of_ble_eq_true rfl) rfl ?_
  intro p e s m args below meth c ls C Dy lv
  have hx := C.x
  have hb := C.b
  have hR : 0 ≤ ({ frames := 0, cells := 0, slots := 0, locals := 0 } : Room).frames ∧ 0 ≤ ({ frames := 0, cells := 0, slots := 0, locals := 0 } : Room).locals := ⟨Nat.le_refl _, Nat.le_refl _⟩
  unfold p_X2_isFull at hwp
  refine lv_aload_n hx hb dX2_isFull_0 rfl (lv_at lv 0 rfl) ?_
  refine gf_X2_18_35 C Dy dX2_isFull_1 ?_
  refine lv_bipush (v := (8 : Int32)) hx hb dX2_isFull_4 (by decide) ?_
  refine lv_icmp_lt (tgt := 13) hx hb dX2_isFull_6 (by decide) (fun c1 => ?_) (fun c1 => ?_)
  · try simp only [if_pos c1] at hwp
    refine lv_iconst (v := (0 : Int32)) hx hb dX2_isFull_13 (by decide) ?_
    exact x_zret C Dy z01_0 ⟨rfl, rfl, hwp⟩ dX2_isFull_14
  · try simp only [if_neg c1] at hwp
    refine lv_iconst (v := (1 : Int32)) hx hb dX2_isFull_9 (by decide) ?_
    refine lv_goto (tgt := 14) hx hb dX2_isFull_10 (by decide) ?_
    exact x_zret C Dy z01_1 ⟨rfl, rfl, hwp⟩ dX2_isFull_14
def p_X2_append (h : Mem) (v1 : Int32) (v2 : Int32) (Qp : Mem → Prop) : Prop := (((8 : Int32) ≤ (h 35 2) → Qp h) ∧ (¬ ((8 : Int32) ≤ (h 35 2)) → (vp_in (h 35 2) 8 ∧ (vp_in ((up2 h 36 (h 35 2).toNatClampNeg v1) 35 2) 8 ∧ (∀ h4 : Mem, h4 = (up2 (up2 (up2 h 36 (h 35 2).toNatClampNeg v1) 37 ((up2 h 36 (h 35 2).toNatClampNeg v1) 35 2).toNatClampNeg v2) 35 2 (((up2 (up2 h 36 (h 35 2).toNatClampNeg v1) 37 ((up2 h 36 (h 35 2).toNatClampNeg v1) 35 2).toNatClampNeg v2) 35 2) + (1 : Int32))) → Qp (up2 h4 35 3 (1 : Int32)))))))
set_option maxHeartbeats 4000000 in
set_option maxRecDepth 100000 in
theorem m_X2_append (E : xE) (l : Launch) (h : Mem) (hl : MemL) (v1 : Int32) (v2 : Int32) (Qp : Mem → Prop) (hwp : p_X2_append h v1 v2 Qp) : Met l yX2_append (wsU yX2_append cX2_append 3 none) ({ frames := 0, cells := 0, slots := 0, locals := 0 } : Room) (mPc (wdX E) [.ref (wad (wdX E) 35), .int v1, .int v2] h hl) (mQv (wdX E) (fun h1 hl1 => hl = hl1 ∧ Qp h1)) 0 0 (wA (wdX E)) := by
  refine x_met RX2 [(0, .ref (wad (wdX E) 35)), (1, .int v1), (2, .int v2)] (by decide) rfl (Nat.le_of_ble_eq_true rfl) rfl ?_
  intro p e s m args below meth c ls C Dy lv
  have hx := C.x
  have hb := C.b
  have hR : 0 ≤ ({ frames := 0, cells := 0, slots := 0, locals := 0 } : Room).frames ∧ 0 ≤ ({ frames := 0, cells := 0, slots := 0, locals := 0 } : Room).locals := ⟨Nat.le_refl _, Nat.le_refl _⟩
  unfold p_X2_append at hwp
  refine lv_aload_n hx hb dX2_append_0 rfl (lv_at lv 0 rfl) ?_
  refine gf_X2_18_35 C Dy dX2_append_1 ?_
  refine lv_bipush (v := (8 : Int32)) hx hb dX2_append_4 (by decide) ?_
  refine lv_icmp_ge (tgt := 44) hx hb dX2_append_6 (by decide) (fun c1 => ?_) (fun c1 => ?_)
  · have hwp := hwp.1 c1
    exact x_vret C Dy ⟨rfl, hwp⟩ dX2_append_44
  · have hwp := hwp.2 c1
    refine lv_aload_n hx hb dX2_append_9 rfl (lv_at lv 0 rfl) ?_
    refine gf_X2_9_35 C Dy dX2_append_10 ?_
    refine lv_aload_n hx hb dX2_append_13 rfl (lv_at lv 0 rfl) ?_
    refine gf_X2_18_35 C Dy dX2_append_14 ?_
    refine lv_iload_n hx hb dX2_append_17 rfl (lv_at lv 1 rfl) ?_
    obtain ⟨g2, hwp⟩ := hwp
    refine x_iast C Dy wxa_36 g2 dX2_append_18 (fun H locs Dy => ?_)
    refine lv_aload_n hx hb dX2_append_19 rfl (lv_at lv 0 rfl) ?_
    refine gf_X2_15_35 C Dy dX2_append_20 ?_
    refine lv_aload_n hx hb dX2_append_23 rfl (lv_at lv 0 rfl) ?_
    refine gf_X2_18_35 C Dy dX2_append_24 ?_
    refine lv_iload_n hx hb dX2_append_27 rfl (lv_at lv 2 rfl) ?_
    obtain ⟨g3, hwp⟩ := hwp
    refine x_iast C Dy wxa_37 g3 dX2_append_28 (fun H locs Dy => ?_)
    refine lv_aload_n hx hb dX2_append_29 rfl (lv_at lv 0 rfl) ?_
    refine lv_dup hx hb dX2_append_30 rfl ?_
    refine gf_X2_18_35 C Dy dX2_append_31 ?_
    refine lv_iconst (v := (1 : Int32)) hx hb dX2_append_34 (by decide) ?_
    refine lv_iadd hx hb dX2_append_35 ?_
    refine pf_X2_18_35 C Dy dX2_append_36 (fun H locs Dy => ?_)
    obtain ⟨h4, eh4⟩ : ∃ z : Mem, z = (up2 (up2 (up2 h 36 (h 35 2).toNatClampNeg v1) 37 ((up2 h 36 (h 35 2).toNatClampNeg v1) 35 2).toNatClampNeg v2) 35 2 (((up2 (up2 h 36 (h 35 2).toNatClampNeg v1) 37 ((up2 h 36 (h 35 2).toNatClampNeg v1) 35 2).toNatClampNeg v2) 35 2) + (1 : Int32))) := ⟨_, rfl⟩
    rw [← eh4] at Dy
    have hwp := hwp h4 eh4
    refine lv_aload_n hx hb dX2_append_39 rfl (lv_at lv 0 rfl) ?_
    refine lv_iconst (v := (1 : Int32)) hx hb dX2_append_40 (by decide) ?_
    refine pf_X2_22_35 C Dy z01_1 dX2_append_41 (fun H locs Dy => ?_)
    exact x_vret C Dy ⟨rfl, hwp⟩ dX2_append_44
def p_X2_clear (h : Mem) (Qp : Mem → Prop) : Prop := Qp (up2 (up2 h 35 2 (0 : Int32)) 35 3 (1 : Int32))
set_option maxHeartbeats 4000000 in
set_option maxRecDepth 100000 in
theorem m_X2_clear (E : xE) (l : Launch) (h : Mem) (hl : MemL) (Qp : Mem → Prop) (hwp : p_X2_clear h Qp) : Met l yX2_clear (wsU yX2_clear cX2_clear 1 none) ({ frames := 0, cells := 0, slots := 0, locals := 0 } : Room) (mPc (wdX E) [.ref (wad (wdX E) 35)] h hl) (mQv (wdX E) (fun h1 hl1 => hl = hl1 ∧ Qp h1)) 0 0 (wA (wdX E)) := by
  refine x_met RX2 [(0, .ref (wad (wdX E) 35))] (by decide) rfl (Nat.le_of_ble_eq_true rfl) rfl ?_
  intro p e s m args below meth c ls C Dy lv
  have hx := C.x
  have hb := C.b
  have hR : 0 ≤ ({ frames := 0, cells := 0, slots := 0, locals := 0 } : Room).frames ∧ 0 ≤ ({ frames := 0, cells := 0, slots := 0, locals := 0 } : Room).locals := ⟨Nat.le_refl _, Nat.le_refl _⟩
  unfold p_X2_clear at hwp
  refine lv_aload_n hx hb dX2_clear_0 rfl (lv_at lv 0 rfl) ?_
  refine lv_iconst (v := (0 : Int32)) hx hb dX2_clear_1 (by decide) ?_
  refine pf_X2_18_35 C Dy dX2_clear_2 (fun H locs Dy => ?_)
  refine lv_aload_n hx hb dX2_clear_5 rfl (lv_at lv 0 rfl) ?_
  refine lv_iconst (v := (1 : Int32)) hx hb dX2_clear_6 (by decide) ?_
  refine pf_X2_22_35 C Dy z01_1 dX2_clear_7 (fun H locs Dy => ?_)
  exact x_vret C Dy ⟨rfl, hwp⟩ dX2_clear_10
def p_X2_leastFitting (h : Mem) (Qp : Int32 → Prop) : Prop := (((h 35 5) = 0 → Qp (-1 : Int32)) ∧ (¬ ((h 35 5) = 0) → (vp_in (0 : Int32) 4096 ∧ Qp (h 38 (0 : Int32).toNatClampNeg))))
set_option maxHeartbeats 4000000 in
set_option maxRecDepth 100000 in
theorem m_X2_leastFitting (E : xE) (l : Launch) (h : Mem) (hl : MemL) (Qp : Int32 → Prop) (hwp : p_X2_leastFitting h Qp) : Met l yX2_leastFitting (wsU yX2_leastFitting cX2_leastFitting 1 (some .int)) ({ frames := 0, cells := 0, slots := 0, locals := 0 } : Room) (mPc (wdX E) [.ref (wad (wdX E) 35)] h hl) (mQi (wdX E) (fun r h1 hl1 => h = h1 ∧ hl = hl1 ∧ Qp r)) 0 0 (wA (wdX E)) := by
  refine x_met RX2 [(0, .ref (wad (wdX E) 35))] (by decide) rfl (Nat.le_of_ble_eq_true rfl) rfl ?_
  intro p e s m args below meth c ls C Dy lv
  have hx := C.x
  have hb := C.b
  have hR : 0 ≤ ({ frames := 0, cells := 0, slots := 0, locals := 0 } : Room).frames ∧ 0 ≤ ({ frames := 0, cells := 0, slots := 0, locals := 0 } : Room).locals := ⟨Nat.le_refl _, Nat.le_refl _⟩
  unfold p_X2_leastFitting at hwp
  refine lv_aload_n hx hb dX2_leastFitting_0 rfl (lv_at lv 0 rfl) ?_
  refine gf_X2_29_35 C Dy dX2_leastFitting_1 ?_
  refine lv_if_ne (tgt := 11) hx hb dX2_leastFitting_4 (by decide) (fun c1 => ?_) (fun c1 => ?_)
  · have hwp := hwp.2 c1
    refine lv_aload_n hx hb dX2_leastFitting_11 rfl (lv_at lv 0 rfl) ?_
    refine gf_X2_26_35 C Dy dX2_leastFitting_12 ?_
    refine lv_iconst (v := (0 : Int32)) hx hb dX2_leastFitting_15 (by decide) ?_
    obtain ⟨g2, hwp⟩ := hwp
    refine x_iald C Dy wxa_38 g2 dX2_leastFitting_16 ?_
    exact x_iret C Dy ⟨rfl, rfl, hwp⟩ dX2_leastFitting_17
  · have hwp := hwp.1 c1
    refine lv_iconst (v := (-1 : Int32)) hx hb dX2_leastFitting_7 (by decide) ?_
    refine lv_goto (tgt := 17) hx hb dX2_leastFitting_8 (by decide) ?_
    exact x_iret C Dy ⟨rfl, rfl, hwp⟩ dX2_leastFitting_17
def b_X2_comesOut_2 : Nat → Mem → Int32 → Int32 → (Int32 → Prop) → Prop
  | 0 => fun _ _ _ _ => False
  | n + 1 => fun h v2 v3 Qp => (((h 35 2) ≤ v3 → Qp (1 : Int32)) ∧ (¬ ((h 35 2) ≤ v3) → (vp_in v3 8 ∧ (p_X0_deedBy h v2 (h 36 v3.toNatClampNeg) (fun r3 => (vp_in v3 8 ∧ ((r3 = (h 37 v3.toNatClampNeg) → b_X2_comesOut_2 n h v2 (v3 + (1 : Int32)) Qp) ∧ (¬ (r3 = (h 37 v3.toNatClampNeg)) → Qp (0 : Int32)))))))))
def p_X2_comesOut (h : Mem) (v2 : Int32) (Qp : Int32 → Prop) : Prop := (∃ n2, b_X2_comesOut_2 n2 h v2 (0 : Int32) Qp)
set_option maxHeartbeats 4000000 in
set_option maxRecDepth 100000 in
theorem t_X2_comesOut_2 (E : xE) {p : Program} {l : Launch} {e : Env} {R : Room} {s : State} {m : MethodId} {args : Array Value} {below : List Frame} {meth : Method} {c : Code} (C : mC (wdX E) p s m meth c args cX2_comesOut 4 RX2 (some .boolean)) (hR : 1 ≤ R.frames ∧ 28 ≤ R.locals) {h : Mem} {hl : MemL} (Qp : Int32 → Prop) : ∀ (n : Nat) (v2 : Int32) (v3 : Int32) (H : Heap) (locs : List Loc) (ls : Array Slot), mD (wdX E) h hl s H locs → lv_has ls 4 [(0, .ref (wad (wdX E) 35)), (1, .ref (wad (wdX E) 7)), (2, .int v2), (3, .int v3)] → b_X2_comesOut_2 n h v2 v3 Qp → W p l e R s m args below meth c H locs 0 0 (MQ below (mQz (wdX E) (fun r h1 hl1 => h = h1 ∧ hl = hl1 ∧ Qp r)) args s 0 0 (wA (wdX E))) (F0 m 2 ls []) := by
  have hx := C.x
  have hb := C.b
  intro n
  induction n with
  | zero => intro v2 v3 H locs ls Dy lv hwp; exact hwp.elim
  | succ n ih =>
    intro v2 v3 H locs ls Dy lv hwp
    simp only [b_X2_comesOut_2] at hwp
    refine lv_iload_n hx hb dX2_comesOut_2 rfl (lv_at lv 3 rfl) ?_
    refine lv_aload_n hx hb dX2_comesOut_3 rfl (lv_at lv 0 rfl) ?_
    refine gf_X2_18_35 C Dy dX2_comesOut_4 ?_
    refine lv_icmp_ge (tgt := 38) hx hb dX2_comesOut_7 (by decide) (fun c1 => ?_) (fun c1 => ?_)
    · have hwp := hwp.1 c1
      refine lv_iconst (v := (1 : Int32)) hx hb dX2_comesOut_38 (by decide) ?_
      exact x_zret C Dy z01_1 ⟨rfl, rfl, hwp⟩ dX2_comesOut_39
    · have hwp := hwp.2 c1
      refine lv_aload_n hx hb dX2_comesOut_10 rfl (lv_at lv 1 rfl) ?_
      refine lv_iload_n hx hb dX2_comesOut_11 rfl (lv_at lv 2 rfl) ?_
      refine lv_aload_n hx hb dX2_comesOut_12 rfl (lv_at lv 0 rfl) ?_
      refine gf_X2_9_35 C Dy dX2_comesOut_13 ?_
      refine lv_iload_n hx hb dX2_comesOut_16 rfl (lv_at lv 3 rfl) ?_
      obtain ⟨g2, hwp⟩ := hwp
      refine x_iald C Dy wxa_36 g2 dX2_comesOut_17 ?_
      refine x_cont_i Dy (x_runV (As := [.int v2, .int (h 36 v3.toNatClampNeg)]) (rest := []) C Dy (m_X0_deedBy E l _ _ v2 (h 36 v3.toNatClampNeg) _ hwp) (cw_X2_58 C rfl rfl ⟨Nat.le_trans (Nat.le_of_ble_eq_true rfl) hR.1, Nat.le_trans (Nat.le_of_ble_eq_true rfl) hR.2⟩) wx_7 rfl rfl lv.1 rfl (Nat.le_of_ble_eq_true rfl) dX2_comesOut_18 ⟨Nat.zero_le _, Nat.zero_le _⟩) (fun r3 h4 hl4 H locs hwp Dy => ?_)
      obtain ⟨rfl, rfl, hwp⟩ := hwp
      refine lv_aload_n hx hb dX2_comesOut_21 rfl (lv_at lv 0 rfl) ?_
      refine gf_X2_15_35 C Dy dX2_comesOut_22 ?_
      refine lv_iload_n hx hb dX2_comesOut_25 rfl (lv_at lv 3 rfl) ?_
      obtain ⟨g5, hwp⟩ := hwp
      refine x_iald C Dy wxa_37 g5 dX2_comesOut_26 ?_
      refine lv_icmp_eq (tgt := 32) hx hb dX2_comesOut_27 (by decide) (fun c6 => ?_) (fun c6 => ?_)
      · have hwp := hwp.1 c6
        refine lv_iinc (v := (v3 + (1 : Int32))) (lv' := [(3, .int (v3 + (1 : Int32))), (0, .ref (wad (wdX E) 35)), (1, .ref (wad (wdX E) 7)), (2, .int v2)]) hx hb dX2_comesOut_32 lv (k := 3) rfl rfl (by decide) rfl (fun ls lv => ?_)
        refine lv_goto (tgt := 2) hx hb dX2_comesOut_35 (by decide) ?_
        exact ih v2 (v3 + (1 : Int32)) _ _ _ Dy (lv_sub lv [1, 2, 3, 0] rfl) hwp
      · have hwp := hwp.2 c6
        refine lv_iconst (v := (0 : Int32)) hx hb dX2_comesOut_30 (by decide) ?_
        exact x_zret C Dy z01_0 ⟨rfl, rfl, hwp⟩ dX2_comesOut_31
set_option maxHeartbeats 4000000 in
set_option maxRecDepth 100000 in
theorem m_X2_comesOut (E : xE) (l : Launch) (h : Mem) (hl : MemL) (v2 : Int32) (Qp : Int32 → Prop) (hwp : p_X2_comesOut h v2 Qp) : Met l yX2_comesOut (wsU yX2_comesOut cX2_comesOut 4 (some .boolean)) ({ frames := 1, cells := 0, slots := 0, locals := 28 } : Room) (mPc (wdX E) [.ref (wad (wdX E) 35), .ref (wad (wdX E) 7), .int v2] h hl) (mQz (wdX E) (fun r h1 hl1 => h = h1 ∧ hl = hl1 ∧ Qp r)) 0 0 (wA (wdX E)) := by
  refine x_met RX2 [(0, .ref (wad (wdX E) 35)), (1, .ref (wad (wdX E) 7)), (2, .int v2)] (by decide) rfl (Nat.le_of_ble_eq_true rfl) rfl ?_
  intro p e s m args below meth c ls C Dy lv
  have hx := C.x
  have hb := C.b
  have hR : 1 ≤ ({ frames := 1, cells := 0, slots := 0, locals := 28 } : Room).frames ∧ 28 ≤ ({ frames := 1, cells := 0, slots := 0, locals := 28 } : Room).locals := ⟨Nat.le_refl _, Nat.le_refl _⟩
  unfold p_X2_comesOut at hwp
  refine lv_iconst (v := (0 : Int32)) hx hb dX2_comesOut_0 (by decide) ?_
  refine lv_istore_n (lv' := [(3, .int (0 : Int32)), (0, .ref (wad (wdX E) 35)), (1, .ref (wad (wdX E) 7)), (2, .int v2)]) hx hb dX2_comesOut_1 rfl lv (by decide) rfl (fun ls lv => ?_)
  obtain ⟨n0, hwp⟩ := hwp
  exact t_X2_comesOut_2 E C hR Qp n0 v2 (0 : Int32) _ _ _ Dy (lv_sub lv [1, 2, 3, 0] rfl) hwp
def b_X2_sift_133 (h : Mem) (v2 : Int32) (v3 : Int32) (v4 : Int32) (K78 : Mem → Int32 → Int32 → Int32 → Prop) (Qp : Mem → Prop) : Prop := K78 h v2 v3 (v4 + (1 : Int32))
def b_X2_sift_78 : Nat → Mem → Int32 → Int32 → Int32 → (Mem → Prop) → Prop
  | 0 => fun _ _ _ _ _ => False
  | n + 1 => fun h v2 v3 v4 Qp => ((v2 < v4 → (((h 35 5) = 0 → Qp (up2 h 35 6 (0 : Int32))) ∧ (¬ ((h 35 5) = 0) → Qp h))) ∧ (¬ (v2 < v4) → (((v4 &&& v3) = 0 → (p_X2_comesOut h v4 (fun r9 => ((r9 = 0 → b_X2_sift_133 h v2 v3 v4 (fun h v2 v3 v4 => b_X2_sift_78 n h v2 v3 v4 Qp) Qp) ∧ (¬ (r9 = 0) → (vp_in (h 35 5) 4096 ∧ (∀ h13 : Mem, h13 = (up2 (up2 (up2 h 38 (h 35 5).toNatClampNeg v4) 35 5 (((up2 h 38 (h 35 5).toNatClampNeg v4) 35 5) + (1 : Int32))) 35 6 (((up2 (up2 h 38 (h 35 5).toNatClampNeg v4) 35 5 (((up2 h 38 (h 35 5).toNatClampNeg v4) 35 5) + (1 : Int32))) 35 6) &&& v4)) → b_X2_sift_133 h13 v2 v3 v4 (fun h v2 v3 v4 => b_X2_sift_78 n h v2 v3 v4 Qp) Qp))))))) ∧ (¬ ((v4 &&& v3) = 0) → b_X2_sift_133 h v2 v3 v4 (fun h v2 v3 v4 => b_X2_sift_78 n h v2 v3 v4 Qp) Qp))))
def b_X2_sift_38 : Nat → Mem → Int32 → Int32 → Int32 → (Mem → Prop) → Prop
  | 0 => fun _ _ _ _ _ => False
  | n + 1 => fun h v2 v3 v4 Qp => (((h 35 2) ≤ v4 → (∃ n78, b_X2_sift_78 n78 h v2 v3 (0 : Int32) Qp)) ∧ (¬ ((h 35 2) ≤ v4) → (vp_in v4 8 ∧ (vp_in v4 8 ∧ (p_X0_hindrances h v2 (h 36 v4.toNatClampNeg) (h 37 v4.toNatClampNeg) (fun r4 => b_X2_sift_38 n h v2 (v3 ||| r4) (v4 + (1 : Int32)) Qp))))))
def p_X2_sift (h : Mem) (Qp : Mem → Prop) : Prop := (((h 35 3) = 0 → Qp h) ∧ (¬ ((h 35 3) = 0) → (p_X0_all (up2 (up2 (up2 h 35 3 (0 : Int32)) 35 9 (-1 : Int32)) 35 5 (0 : Int32)) (fun r15 => (∃ n38, b_X2_sift_38 n38 (up2 (up2 (up2 (up2 h 35 3 (0 : Int32)) 35 9 (-1 : Int32)) 35 5 (0 : Int32)) 35 6 r15) r15 (0 : Int32) (0 : Int32) Qp)))))
set_option maxHeartbeats 4000000 in
set_option maxRecDepth 100000 in
theorem t_X2_sift_133 (E : xE) {p : Program} {l : Launch} {e : Env} {R : Room} {s : State} {m : MethodId} {args : Array Value} {below : List Frame} {meth : Method} {c : Code} (C : mC (wdX E) p s m meth c args cX2_sift 5 RX2 none) (hR : 2 ≤ R.frames ∧ 51 ≤ R.locals) {hl : MemL} (Qp : Mem → Prop) (K78 : Mem → Int32 → Int32 → Int32 → Prop) (hK78 : ∀ (h : Mem) (v2 : Int32) (v3 : Int32) (v4 : Int32) (H : Heap) (locs : List Loc) (ls : Array Slot), mD (wdX E) h hl s H locs → lv_has ls 5 [(0, .ref (wad (wdX E) 35)), (1, .ref (wad (wdX E) 7)), (2, .int v2), (3, .int v3), (4, .int v4)] → K78 h v2 v3 v4 → W p l e R s m args below meth c H locs 0 0 (MQ below (mQv (wdX E) (fun h1 hl1 => hl = hl1 ∧ Qp h1)) args s 0 0 (wA (wdX E))) (F0 m 78 ls [])) : ∀ (h : Mem) (v2 : Int32) (v3 : Int32) (v4 : Int32) (H : Heap) (locs : List Loc) (ls : Array Slot), mD (wdX E) h hl s H locs → lv_has ls 5 [(0, .ref (wad (wdX E) 35)), (1, .ref (wad (wdX E) 7)), (2, .int v2), (3, .int v3), (4, .int v4)] → b_X2_sift_133 h v2 v3 v4 K78 Qp → W p l e R s m args below meth c H locs 0 0 (MQ below (mQv (wdX E) (fun h1 hl1 => hl = hl1 ∧ Qp h1)) args s 0 0 (wA (wdX E))) (F0 m 133 ls []) := by
  have hx := C.x
  have hb := C.b
  intro h v2 v3 v4 H locs ls Dy lv hwp
  unfold b_X2_sift_133 at hwp
  refine lv_iinc (v := (v4 + (1 : Int32))) (lv' := [(4, .int (v4 + (1 : Int32))), (0, .ref (wad (wdX E) 35)), (1, .ref (wad (wdX E) 7)), (2, .int v2), (3, .int v3)]) hx hb dX2_sift_133 lv (k := 4) rfl rfl (by decide) rfl (fun ls lv => ?_)
  refine lv_goto (tgt := 78) hx hb dX2_sift_136 (by decide) ?_
  exact hK78 h v2 v3 (v4 + (1 : Int32)) _ _ _ Dy (lv_sub lv [1, 2, 3, 4, 0] rfl) hwp
set_option maxHeartbeats 4000000 in
set_option maxRecDepth 100000 in
theorem t_X2_sift_78 (E : xE) {p : Program} {l : Launch} {e : Env} {R : Room} {s : State} {m : MethodId} {args : Array Value} {below : List Frame} {meth : Method} {c : Code} (C : mC (wdX E) p s m meth c args cX2_sift 5 RX2 none) (hR : 2 ≤ R.frames ∧ 51 ≤ R.locals) {hl : MemL} (Qp : Mem → Prop) : ∀ (n : Nat) (h : Mem) (v2 : Int32) (v3 : Int32) (v4 : Int32) (H : Heap) (locs : List Loc) (ls : Array Slot), mD (wdX E) h hl s H locs → lv_has ls 5 [(0, .ref (wad (wdX E) 35)), (1, .ref (wad (wdX E) 7)), (2, .int v2), (3, .int v3), (4, .int v4)] → b_X2_sift_78 n h v2 v3 v4 Qp → W p l e R s m args below meth c H locs 0 0 (MQ below (mQv (wdX E) (fun h1 hl1 => hl = hl1 ∧ Qp h1)) args s 0 0 (wA (wdX E))) (F0 m 78 ls []) := by
  have hx := C.x
  have hb := C.b
  intro n
  induction n with
  | zero => intro h v2 v3 v4 H locs ls Dy lv hwp; exact hwp.elim
  | succ n ih =>
    intro h v2 v3 v4 H locs ls Dy lv hwp
    simp only [b_X2_sift_78] at hwp
    refine lv_iload hx hb dX2_sift_78 (lv_at lv 4 rfl) ?_
    refine lv_iload_n hx hb dX2_sift_80 rfl (lv_at lv 2 rfl) ?_
    refine lv_icmp_gt (tgt := 139) hx hb dX2_sift_81 (by decide) (fun c6 => ?_) (fun c6 => ?_)
    · have hwp := hwp.1 c6
      refine lv_aload_n hx hb dX2_sift_139 rfl (lv_at lv 0 rfl) ?_
      refine gf_X2_29_35 C Dy dX2_sift_140 ?_
      refine lv_if_ne (tgt := 151) hx hb dX2_sift_143 (by decide) (fun c7 => ?_) (fun c7 => ?_)
      · have hwp := hwp.2 c7
        exact x_vret C Dy ⟨rfl, hwp⟩ dX2_sift_151
      · have hwp := hwp.1 c7
        refine lv_aload_n hx hb dX2_sift_146 rfl (lv_at lv 0 rfl) ?_
        refine lv_iconst (v := (0 : Int32)) hx hb dX2_sift_147 (by decide) ?_
        refine pf_X2_32_35 C Dy dX2_sift_148 (fun H locs Dy => ?_)
        exact x_vret C Dy ⟨rfl, hwp⟩ dX2_sift_151
    · have hwp := hwp.2 c6
      refine lv_iload hx hb dX2_sift_84 (lv_at lv 4 rfl) ?_
      refine lv_iload_n hx hb dX2_sift_86 rfl (lv_at lv 3 rfl) ?_
      refine lv_iand hx hb dX2_sift_87 ?_
      refine lv_if_ne (tgt := 133) hx hb dX2_sift_88 (by decide) (fun c8 => ?_) (fun c8 => ?_)
      · have hwp := hwp.2 c8
        exact t_X2_sift_133 E C hR Qp (fun h v2 v3 v4 => b_X2_sift_78 n h v2 v3 v4 Qp) (fun h v2 v3 v4 H locs ls Dy lv hwp => ih h v2 v3 v4 H locs ls Dy lv hwp) h v2 v3 v4 _ _ _ Dy (lv_sub lv [0, 1, 2, 3, 4] rfl) hwp
      · have hwp := hwp.1 c8
        refine lv_aload_n hx hb dX2_sift_91 rfl (lv_at lv 0 rfl) ?_
        refine lv_aload_n hx hb dX2_sift_92 rfl (lv_at lv 1 rfl) ?_
        refine lv_iload hx hb dX2_sift_93 (lv_at lv 4 rfl) ?_
        refine x_cont_z Dy (x_runV (As := [.ref (wad (wdX E) 7), .int v4]) (rest := []) C Dy (m_X2_comesOut E l _ _ v4 _ hwp) (cw_X2_54 C rfl rfl ⟨Nat.le_trans (Nat.le_of_ble_eq_true rfl) hR.1, Nat.le_trans (Nat.le_of_ble_eq_true rfl) hR.2⟩) wx_35 rfl rfl lv.1 rfl (Nat.le_of_ble_eq_true rfl) dX2_sift_95 ⟨Nat.zero_le _, Nat.zero_le _⟩) (fun r9 h10 hl10 H locs zr9 hwp Dy => ?_)
        obtain ⟨rfl, rfl, hwp⟩ := hwp
        refine lv_if_eq (tgt := 133) hx hb dX2_sift_98 (by decide) (fun c11 => ?_) (fun c11 => ?_)
        · have hwp := hwp.1 c11
          exact t_X2_sift_133 E C hR Qp (fun h v2 v3 v4 => b_X2_sift_78 n h v2 v3 v4 Qp) (fun h v2 v3 v4 H locs ls Dy lv hwp => ih h v2 v3 v4 H locs ls Dy lv hwp) h v2 v3 v4 _ _ _ Dy (lv_sub lv [0, 1, 2, 3, 4] rfl) hwp
        · have hwp := hwp.2 c11
          refine lv_aload_n hx hb dX2_sift_101 rfl (lv_at lv 0 rfl) ?_
          refine gf_X2_26_35 C Dy dX2_sift_102 ?_
          refine lv_aload_n hx hb dX2_sift_105 rfl (lv_at lv 0 rfl) ?_
          refine gf_X2_29_35 C Dy dX2_sift_106 ?_
          refine lv_iload hx hb dX2_sift_109 (lv_at lv 4 rfl) ?_
          obtain ⟨g12, hwp⟩ := hwp
          refine x_iast C Dy wxa_38 g12 dX2_sift_111 (fun H locs Dy => ?_)
          refine lv_aload_n hx hb dX2_sift_112 rfl (lv_at lv 0 rfl) ?_
          refine lv_dup hx hb dX2_sift_113 rfl ?_
          refine gf_X2_29_35 C Dy dX2_sift_114 ?_
          refine lv_iconst (v := (1 : Int32)) hx hb dX2_sift_117 (by decide) ?_
          refine lv_iadd hx hb dX2_sift_118 ?_
          refine pf_X2_29_35 C Dy dX2_sift_119 (fun H locs Dy => ?_)
          refine lv_aload_n hx hb dX2_sift_122 rfl (lv_at lv 0 rfl) ?_
          refine lv_dup hx hb dX2_sift_123 rfl ?_
          refine gf_X2_32_35 C Dy dX2_sift_124 ?_
          refine lv_iload hx hb dX2_sift_127 (lv_at lv 4 rfl) ?_
          refine lv_iand hx hb dX2_sift_129 ?_
          refine pf_X2_32_35 C Dy dX2_sift_130 (fun H locs Dy => ?_)
          obtain ⟨h13, eh13⟩ : ∃ z : Mem, z = (up2 (up2 (up2 h 38 (h 35 5).toNatClampNeg v4) 35 5 (((up2 h 38 (h 35 5).toNatClampNeg v4) 35 5) + (1 : Int32))) 35 6 (((up2 (up2 h 38 (h 35 5).toNatClampNeg v4) 35 5 (((up2 h 38 (h 35 5).toNatClampNeg v4) 35 5) + (1 : Int32))) 35 6) &&& v4)) := ⟨_, rfl⟩
          rw [← eh13] at Dy
          have hwp := hwp h13 eh13
          exact t_X2_sift_133 E C hR Qp (fun h v2 v3 v4 => b_X2_sift_78 n h v2 v3 v4 Qp) (fun h v2 v3 v4 H locs ls Dy lv hwp => ih h v2 v3 v4 H locs ls Dy lv hwp) h13 v2 v3 v4 _ _ _ Dy (lv_sub lv [0, 1, 2, 3, 4] rfl) hwp
set_option maxHeartbeats 4000000 in
set_option maxRecDepth 100000 in
theorem t_X2_sift_38 (E : xE) {p : Program} {l : Launch} {e : Env} {R : Room} {s : State} {m : MethodId} {args : Array Value} {below : List Frame} {meth : Method} {c : Code} (C : mC (wdX E) p s m meth c args cX2_sift 5 RX2 none) (hR : 2 ≤ R.frames ∧ 51 ≤ R.locals) {hl : MemL} (Qp : Mem → Prop) : ∀ (n : Nat) (h : Mem) (v2 : Int32) (v3 : Int32) (v4 : Int32) (H : Heap) (locs : List Loc) (ls : Array Slot), mD (wdX E) h hl s H locs → lv_has ls 5 [(0, .ref (wad (wdX E) 35)), (1, .ref (wad (wdX E) 7)), (2, .int v2), (3, .int v3), (4, .int v4)] → b_X2_sift_38 n h v2 v3 v4 Qp → W p l e R s m args below meth c H locs 0 0 (MQ below (mQv (wdX E) (fun h1 hl1 => hl = hl1 ∧ Qp h1)) args s 0 0 (wA (wdX E))) (F0 m 38 ls []) := by
  have hx := C.x
  have hb := C.b
  intro n
  induction n with
  | zero => intro h v2 v3 v4 H locs ls Dy lv hwp; exact hwp.elim
  | succ n ih =>
    intro h v2 v3 v4 H locs ls Dy lv hwp
    simp only [b_X2_sift_38] at hwp
    refine lv_iload hx hb dX2_sift_38 (lv_at lv 4 rfl) ?_
    refine lv_aload_n hx hb dX2_sift_40 rfl (lv_at lv 0 rfl) ?_
    refine gf_X2_18_35 C Dy dX2_sift_41 ?_
    refine lv_icmp_ge (tgt := 75) hx hb dX2_sift_44 (by decide) (fun c1 => ?_) (fun c1 => ?_)
    · have hwp := hwp.1 c1
      refine lv_iconst (v := (0 : Int32)) hx hb dX2_sift_75 (by decide) ?_
      refine lv_istore (lv' := [(4, .int (0 : Int32)), (0, .ref (wad (wdX E) 35)), (1, .ref (wad (wdX E) 7)), (2, .int v2), (3, .int v3)]) hx hb dX2_sift_76 lv (by decide) rfl (fun ls lv => ?_)
      obtain ⟨n0, hwp⟩ := hwp
      exact t_X2_sift_78 E C hR Qp n0 h v2 v3 (0 : Int32) _ _ _ Dy (lv_sub lv [1, 2, 3, 4, 0] rfl) hwp
    · have hwp := hwp.2 c1
      refine lv_iload_n hx hb dX2_sift_47 rfl (lv_at lv 3 rfl) ?_
      refine lv_aload_n hx hb dX2_sift_48 rfl (lv_at lv 1 rfl) ?_
      refine lv_iload_n hx hb dX2_sift_49 rfl (lv_at lv 2 rfl) ?_
      refine lv_aload_n hx hb dX2_sift_50 rfl (lv_at lv 0 rfl) ?_
      refine gf_X2_9_35 C Dy dX2_sift_51 ?_
      refine lv_iload hx hb dX2_sift_54 (lv_at lv 4 rfl) ?_
      obtain ⟨g2, hwp⟩ := hwp
      refine x_iald C Dy wxa_36 g2 dX2_sift_56 ?_
      refine lv_aload_n hx hb dX2_sift_57 rfl (lv_at lv 0 rfl) ?_
      refine gf_X2_15_35 C Dy dX2_sift_58 ?_
      refine lv_iload hx hb dX2_sift_61 (lv_at lv 4 rfl) ?_
      obtain ⟨g3, hwp⟩ := hwp
      refine x_iald C Dy wxa_37 g3 dX2_sift_63 ?_
      refine x_cont_i Dy (x_runV (As := [.int v2, .int (h 36 v4.toNatClampNeg), .int (h 37 v4.toNatClampNeg)]) (rest := [.int v3]) C Dy (m_X0_hindrances E l _ _ v2 (h 36 v4.toNatClampNeg) (h 37 v4.toNatClampNeg) _ hwp) (cw_X2_50 C rfl rfl ⟨Nat.le_trans (Nat.le_of_ble_eq_true rfl) hR.1, Nat.le_trans (Nat.le_of_ble_eq_true rfl) hR.2⟩) wx_7 rfl rfl lv.1 rfl (Nat.le_of_ble_eq_true rfl) dX2_sift_64 ⟨Nat.zero_le _, Nat.zero_le _⟩) (fun r4 h5 hl5 H locs hwp Dy => ?_)
      obtain ⟨rfl, rfl, hwp⟩ := hwp
      refine lv_ior hx hb dX2_sift_67 ?_
      refine lv_istore_n (lv' := [(3, .int (v3 ||| r4)), (0, .ref (wad (wdX E) 35)), (1, .ref (wad (wdX E) 7)), (2, .int v2), (4, .int v4)]) hx hb dX2_sift_68 rfl lv (by decide) rfl (fun ls lv => ?_)
      refine lv_iinc (v := (v4 + (1 : Int32))) (lv' := [(4, .int (v4 + (1 : Int32))), (3, .int (v3 ||| r4)), (0, .ref (wad (wdX E) 35)), (1, .ref (wad (wdX E) 7)), (2, .int v2)]) hx hb dX2_sift_69 lv (k := 4) rfl rfl (by decide) rfl (fun ls lv => ?_)
      refine lv_goto (tgt := 38) hx hb dX2_sift_72 (by decide) ?_
      exact ih h v2 (v3 ||| r4) (v4 + (1 : Int32)) _ _ _ Dy (lv_sub lv [2, 3, 4, 1, 0] rfl) hwp
set_option maxHeartbeats 4000000 in
set_option maxRecDepth 100000 in
theorem m_X2_sift (E : xE) (l : Launch) (h : Mem) (hl : MemL) (Qp : Mem → Prop) (hwp : p_X2_sift h Qp) : Met l yX2_sift (wsU yX2_sift cX2_sift 5 none) ({ frames := 2, cells := 0, slots := 0, locals := 51 } : Room) (mPc (wdX E) [.ref (wad (wdX E) 35), .ref (wad (wdX E) 7)] h hl) (mQv (wdX E) (fun h1 hl1 => hl = hl1 ∧ Qp h1)) 0 0 (wA (wdX E)) := by
  refine x_met RX2 [(0, .ref (wad (wdX E) 35)), (1, .ref (wad (wdX E) 7))] (by decide) rfl (Nat.le_of_ble_eq_true rfl) rfl ?_
  intro p e s m args below meth c ls C Dy lv
  have hx := C.x
  have hb := C.b
  have hR : 2 ≤ ({ frames := 2, cells := 0, slots := 0, locals := 51 } : Room).frames ∧ 51 ≤ ({ frames := 2, cells := 0, slots := 0, locals := 51 } : Room).locals := ⟨Nat.le_refl _, Nat.le_refl _⟩
  unfold p_X2_sift at hwp
  refine lv_aload_n hx hb dX2_sift_0 rfl (lv_at lv 0 rfl) ?_
  refine gf_X2_22_35 C Dy dX2_sift_1 ?_
  refine lv_if_ne (tgt := 8) hx hb dX2_sift_4 (by decide) (fun c14 => ?_) (fun c14 => ?_)
  · have hwp := hwp.2 c14
    refine lv_aload_n hx hb dX2_sift_8 rfl (lv_at lv 0 rfl) ?_
    refine lv_iconst (v := (0 : Int32)) hx hb dX2_sift_9 (by decide) ?_
    refine pf_X2_22_35 C Dy z01_0 dX2_sift_10 (fun H locs Dy => ?_)
    refine lv_aload_n hx hb dX2_sift_13 rfl (lv_at lv 0 rfl) ?_
    refine lv_iconst (v := (-1 : Int32)) hx hb dX2_sift_14 (by decide) ?_
    refine pf_X2_41_35 C Dy dX2_sift_15 (fun H locs Dy => ?_)
    refine lv_aload_n hx hb dX2_sift_18 rfl (lv_at lv 0 rfl) ?_
    refine lv_iconst (v := (0 : Int32)) hx hb dX2_sift_19 (by decide) ?_
    refine pf_X2_29_35 C Dy dX2_sift_20 (fun H locs Dy => ?_)
    refine lv_aload_n hx hb dX2_sift_23 rfl (lv_at lv 1 rfl) ?_
    refine x_cont_i Dy (x_runV (As := []) (rest := []) C Dy (m_X0_all E l _ _ _ hwp) (cw_X2_44 C rfl rfl ⟨Nat.le_trans (Nat.le_of_ble_eq_true rfl) hR.1, Nat.le_trans (Nat.le_of_ble_eq_true rfl) hR.2⟩) wx_7 rfl rfl lv.1 rfl (Nat.le_of_ble_eq_true rfl) dX2_sift_24 ⟨Nat.zero_le _, Nat.zero_le _⟩) (fun r15 h16 hl16 H locs hwp Dy => ?_)
    obtain ⟨rfl, rfl, hwp⟩ := hwp
    refine lv_istore_n (lv' := [(2, .int r15), (0, .ref (wad (wdX E) 35)), (1, .ref (wad (wdX E) 7))]) hx hb dX2_sift_27 rfl lv (by decide) rfl (fun ls lv => ?_)
    refine lv_aload_n hx hb dX2_sift_28 rfl (lv_at lv 1 rfl) ?_
    refine lv_iload_n hx hb dX2_sift_29 rfl (lv_at lv 0 rfl) ?_
    refine pf_X2_32_35 C Dy dX2_sift_30 (fun H locs Dy => ?_)
    refine lv_iconst (v := (0 : Int32)) hx hb dX2_sift_33 (by decide) ?_
    refine lv_istore_n (lv' := [(3, .int (0 : Int32)), (2, .int r15), (0, .ref (wad (wdX E) 35)), (1, .ref (wad (wdX E) 7))]) hx hb dX2_sift_34 rfl lv (by decide) rfl (fun ls lv => ?_)
    refine lv_iconst (v := (0 : Int32)) hx hb dX2_sift_35 (by decide) ?_
    refine lv_istore (lv' := [(4, .int (0 : Int32)), (3, .int (0 : Int32)), (2, .int r15), (0, .ref (wad (wdX E) 35)), (1, .ref (wad (wdX E) 7))]) hx hb dX2_sift_36 lv (by decide) rfl (fun ls lv => ?_)
    obtain ⟨n0, hwp⟩ := hwp
    exact t_X2_sift_38 E C hR Qp n0 (up2 (up2 (up2 (up2 h 35 3 (0 : Int32)) 35 9 (-1 : Int32)) 35 5 (0 : Int32)) 35 6 r15) r15 (0 : Int32) (0 : Int32) _ _ _ Dy (lv_sub lv [3, 4, 2, 1, 0] rfl) hwp
  · have hwp := hwp.1 c14
    exact x_vret C Dy ⟨rfl, hwp⟩ dX2_sift_7
def b_X2_mostAlike_134 (h : Mem) (v2 : Int32) (v3 : Int32) (v4 : Int32) (v5 : Int32) (v6 : Int32) (v7 : Int32) (K67 : Mem → Int32 → Int32 → Int32 → Int32 → Int32 → Int32 → Prop) (Qp : Int32 → Mem → Prop) : Prop := K67 h v2 v3 v4 ((v5 - v3) &&& v3) v6 (v7 + (1 : Int32))
def b_X2_mostAlike_67 : Nat → Mem → Int32 → Int32 → Int32 → Int32 → Int32 → Int32 → (Int32 → Mem → Prop) → Prop
  | 0 => fun _ _ _ _ _ _ _ _ => False
  | n + 1 => fun h v2 v3 v4 v5 v6 v7 Qp => ((v6 ≤ v7 → Qp v4 h) ∧ (¬ (v6 ≤ v7) → (vp_in v5 4096 ∧ (((h 39 v5.toNatClampNeg) = 0 → b_X2_mostAlike_134 h v2 v3 v4 v5 v6 v7 (fun h v2 v3 v4 v5 v6 v7 => b_X2_mostAlike_67 n h v2 v3 v4 v5 v6 v7 Qp) Qp) ∧ (¬ ((h 39 v5.toNatClampNeg) = 0) → (p_X0_deedBy h v5 v2 (fun r14 => (vp_in (r14 + (1 : Int32)) 8 ∧ (vp_in v5 4096 ∧ (vp_in (r14 + (1 : Int32)) 8 ∧ (∀ h19 : Mem, h19 = (up2 h 40 (r14 + (1 : Int32)).toNatClampNeg ((h 40 (r14 + (1 : Int32)).toNatClampNeg) + (h 39 v5.toNatClampNeg))) → (vp_in (r14 + (1 : Int32)) 8 ∧ (∀ x21 : Int32, x21 = (if v4 < (h19 40 (r14 + (1 : Int32)).toNatClampNeg) then (h19 40 (r14 + (1 : Int32)).toNatClampNeg) else v4) → (vp_in v5 4096 ∧ b_X2_mostAlike_134 (up2 h19 39 v5.toNatClampNeg (0 : Int32)) v2 v3 x21 v5 v6 v7 (fun h v2 v3 v4 v5 v6 v7 => b_X2_mostAlike_67 n h v2 v3 v4 v5 v6 v7 Qp) Qp))))))))))))))
def b_X2_mostAlike_9 : Nat → Mem → Int32 → Int32 → Int32 → (Int32 → Mem → Prop) → Prop
  | 0 => fun _ _ _ _ _ => False
  | n + 1 => fun h v2 v3 v4 Qp => (((h 35 5) ≤ v4 → (p_J7_fill h 40 8 (0 : Int32) (fun h3 => (p_J6_bitCount v3 (fun r4 => (∀ x6 : Int32, x6 = ((1 : Int32) <<< (r4 &&& 31)) → (∃ n67, b_X2_mostAlike_67 n67 h3 v2 v3 (0 : Int32) (0 : Int32) x6 (0 : Int32) Qp))))))) ∧ (¬ ((h 35 5) ≤ v4) → (vp_in v4 4096 ∧ (vp_in ((h 38 v4.toNatClampNeg) &&& v3) 4096 ∧ (vp_in ((h 38 v4.toNatClampNeg) &&& v3) 4096 ∧ (∀ h10 : Mem, h10 = (up2 h 39 ((h 38 v4.toNatClampNeg) &&& v3).toNatClampNeg ((h 39 ((h 38 v4.toNatClampNeg) &&& v3).toNatClampNeg) + (1 : Int32))) → b_X2_mostAlike_9 n h10 v2 v3 (v4 + (1 : Int32)) Qp))))))
def p_X2_mostAlike (h : Mem) (v2 : Int32) (Qp : Int32 → Mem → Prop) : Prop := (p_X0_coveringLaws h v2 (fun r23 => (∃ n9, b_X2_mostAlike_9 n9 h v2 r23 (0 : Int32) Qp)))
set_option maxHeartbeats 4000000 in
set_option maxRecDepth 100000 in
theorem t_X2_mostAlike_134 (E : xE) {p : Program} {l : Launch} {e : Env} {R : Room} {s : State} {m : MethodId} {args : Array Value} {below : List Frame} {meth : Method} {c : Code} (C : mC (wdX E) p s m meth c args cX2_mostAlike 9 RX2 (some .int)) (hR : 1 ≤ R.frames ∧ 64 ≤ R.locals) {hl : MemL} (Qp : Int32 → Mem → Prop) (K67 : Mem → Int32 → Int32 → Int32 → Int32 → Int32 → Int32 → Prop) (hK67 : ∀ (h : Mem) (v2 : Int32) (v3 : Int32) (v4 : Int32) (v5 : Int32) (v6 : Int32) (v7 : Int32) (H : Heap) (locs : List Loc) (ls : Array Slot), mD (wdX E) h hl s H locs → lv_has ls 9 [(0, .ref (wad (wdX E) 35)), (1, .ref (wad (wdX E) 7)), (2, .int v2), (3, .int v3), (4, .int v4), (5, .int v5), (6, .int v6), (7, .int v7)] → K67 h v2 v3 v4 v5 v6 v7 → W p l e R s m args below meth c H locs 0 0 (MQ below (mQi (wdX E) (fun r h1 hl1 => hl = hl1 ∧ Qp r h1)) args s 0 0 (wA (wdX E))) (F0 m 67 ls [])) : ∀ (h : Mem) (v2 : Int32) (v3 : Int32) (v4 : Int32) (v5 : Int32) (v6 : Int32) (v7 : Int32) (H : Heap) (locs : List Loc) (ls : Array Slot), mD (wdX E) h hl s H locs → lv_has ls 9 [(0, .ref (wad (wdX E) 35)), (1, .ref (wad (wdX E) 7)), (2, .int v2), (3, .int v3), (4, .int v4), (5, .int v5), (6, .int v6), (7, .int v7)] → b_X2_mostAlike_134 h v2 v3 v4 v5 v6 v7 K67 Qp → W p l e R s m args below meth c H locs 0 0 (MQ below (mQi (wdX E) (fun r h1 hl1 => hl = hl1 ∧ Qp r h1)) args s 0 0 (wA (wdX E))) (F0 m 134 ls []) := by
  have hx := C.x
  have hb := C.b
  intro h v2 v3 v4 v5 v6 v7 H locs ls Dy lv hwp
  unfold b_X2_mostAlike_134 at hwp
  refine lv_iload hx hb dX2_mostAlike_134 (lv_at lv 5 rfl) ?_
  refine lv_iload_n hx hb dX2_mostAlike_136 rfl (lv_at lv 3 rfl) ?_
  refine lv_isub hx hb dX2_mostAlike_137 ?_
  refine lv_iload_n hx hb dX2_mostAlike_138 rfl (lv_at lv 3 rfl) ?_
  refine lv_iand hx hb dX2_mostAlike_139 ?_
  refine lv_istore (lv' := [(5, .int ((v5 - v3) &&& v3)), (0, .ref (wad (wdX E) 35)), (1, .ref (wad (wdX E) 7)), (2, .int v2), (3, .int v3), (4, .int v4), (6, .int v6), (7, .int v7)]) hx hb dX2_mostAlike_140 lv (by decide) rfl (fun ls lv => ?_)
  refine lv_iinc (v := (v7 + (1 : Int32))) (lv' := [(7, .int (v7 + (1 : Int32))), (5, .int ((v5 - v3) &&& v3)), (0, .ref (wad (wdX E) 35)), (1, .ref (wad (wdX E) 7)), (2, .int v2), (3, .int v3), (4, .int v4), (6, .int v6)]) hx hb dX2_mostAlike_142 lv (k := 7) rfl rfl (by decide) rfl (fun ls lv => ?_)
  refine lv_goto (tgt := 67) hx hb dX2_mostAlike_145 (by decide) ?_
  exact hK67 h v2 v3 v4 ((v5 - v3) &&& v3) v6 (v7 + (1 : Int32)) _ _ _ Dy (lv_sub lv [2, 3, 4, 5, 6, 1, 7, 0] rfl) hwp
set_option maxHeartbeats 4000000 in
set_option maxRecDepth 100000 in
theorem t_X2_mostAlike_67 (E : xE) {p : Program} {l : Launch} {e : Env} {R : Room} {s : State} {m : MethodId} {args : Array Value} {below : List Frame} {meth : Method} {c : Code} (C : mC (wdX E) p s m meth c args cX2_mostAlike 9 RX2 (some .int)) (hR : 1 ≤ R.frames ∧ 64 ≤ R.locals) {hl : MemL} (Qp : Int32 → Mem → Prop) : ∀ (n : Nat) (h : Mem) (v2 : Int32) (v3 : Int32) (v4 : Int32) (v5 : Int32) (v6 : Int32) (v7 : Int32) (H : Heap) (locs : List Loc) (ls : Array Slot), mD (wdX E) h hl s H locs → lv_has ls 9 [(0, .ref (wad (wdX E) 35)), (1, .ref (wad (wdX E) 7)), (2, .int v2), (3, .int v3), (4, .int v4), (5, .int v5), (6, .int v6), (7, .int v7)] → b_X2_mostAlike_67 n h v2 v3 v4 v5 v6 v7 Qp → W p l e R s m args below meth c H locs 0 0 (MQ below (mQi (wdX E) (fun r h1 hl1 => hl = hl1 ∧ Qp r h1)) args s 0 0 (wA (wdX E))) (F0 m 67 ls []) := by
  have hx := C.x
  have hb := C.b
  intro n
  induction n with
  | zero => intro h v2 v3 v4 v5 v6 v7 H locs ls Dy lv hwp; exact hwp.elim
  | succ n ih =>
    intro h v2 v3 v4 v5 v6 v7 H locs ls Dy lv hwp
    simp only [b_X2_mostAlike_67] at hwp
    refine lv_iload hx hb dX2_mostAlike_67 (lv_at lv 7 rfl) ?_
    refine lv_iload hx hb dX2_mostAlike_69 (lv_at lv 6 rfl) ?_
    refine lv_icmp_ge (tgt := 148) hx hb dX2_mostAlike_71 (by decide) (fun c11 => ?_) (fun c11 => ?_)
    · have hwp := hwp.1 c11
      refine lv_iload hx hb dX2_mostAlike_148 (lv_at lv 4 rfl) ?_
      exact x_iret C Dy ⟨rfl, hwp⟩ dX2_mostAlike_150
    · have hwp := hwp.2 c11
      refine lv_aload_n hx hb dX2_mostAlike_74 rfl (lv_at lv 0 rfl) ?_
      refine gf_X2_35_35 C Dy dX2_mostAlike_75 ?_
      refine lv_iload hx hb dX2_mostAlike_78 (lv_at lv 5 rfl) ?_
      obtain ⟨g12, hwp⟩ := hwp
      refine x_iald C Dy wxa_39 g12 dX2_mostAlike_80 ?_
      refine lv_if_eq (tgt := 134) hx hb dX2_mostAlike_81 (by decide) (fun c13 => ?_) (fun c13 => ?_)
      · have hwp := hwp.1 c13
        exact t_X2_mostAlike_134 E C hR Qp (fun h v2 v3 v4 v5 v6 v7 => b_X2_mostAlike_67 n h v2 v3 v4 v5 v6 v7 Qp) (fun h v2 v3 v4 v5 v6 v7 H locs ls Dy lv hwp => ih h v2 v3 v4 v5 v6 v7 H locs ls Dy lv hwp) h v2 v3 v4 v5 v6 v7 _ _ _ Dy (lv_sub lv [0, 1, 2, 3, 4, 5, 6, 7] rfl) hwp
      · have hwp := hwp.2 c13
        refine lv_aload_n hx hb dX2_mostAlike_84 rfl (lv_at lv 1 rfl) ?_
        refine lv_iload hx hb dX2_mostAlike_85 (lv_at lv 5 rfl) ?_
        refine lv_iload_n hx hb dX2_mostAlike_87 rfl (lv_at lv 2 rfl) ?_
        refine x_cont_i Dy (x_runV (As := [.int v5, .int v2]) (rest := []) C Dy (m_X0_deedBy E l _ _ v5 v2 _ hwp) (cw_X2_58 C rfl rfl ⟨Nat.le_trans (Nat.le_of_ble_eq_true rfl) hR.1, Nat.le_trans (Nat.le_of_ble_eq_true rfl) hR.2⟩) wx_7 rfl rfl lv.1 rfl (Nat.le_of_ble_eq_true rfl) dX2_mostAlike_88 ⟨Nat.zero_le _, Nat.zero_le _⟩) (fun r14 h15 hl15 H locs hwp Dy => ?_)
        obtain ⟨rfl, rfl, hwp⟩ := hwp
        refine lv_iconst (v := (1 : Int32)) hx hb dX2_mostAlike_91 (by decide) ?_
        refine lv_iadd hx hb dX2_mostAlike_92 ?_
        refine lv_istore (lv' := [(8, .int (r14 + (1 : Int32))), (0, .ref (wad (wdX E) 35)), (1, .ref (wad (wdX E) 7)), (2, .int v2), (3, .int v3), (4, .int v4), (5, .int v5), (6, .int v6), (7, .int v7)]) hx hb dX2_mostAlike_93 lv (by decide) rfl (fun ls lv => ?_)
        refine lv_aload_n hx hb dX2_mostAlike_95 rfl (lv_at lv 1 rfl) ?_
        refine gf_X2_38_35 C Dy dX2_mostAlike_96 ?_
        refine lv_iload hx hb dX2_mostAlike_99 (lv_at lv 0 rfl) ?_
        refine lv_dup2_11 hx hb dX2_mostAlike_101 rfl rfl ?_
        obtain ⟨g16, hwp⟩ := hwp
        refine x_iald C Dy wxa_40 g16 dX2_mostAlike_102 ?_
        refine lv_aload_n hx hb dX2_mostAlike_103 rfl (lv_at lv 1 rfl) ?_
        refine gf_X2_35_35 C Dy dX2_mostAlike_104 ?_
        refine lv_iload hx hb dX2_mostAlike_107 (lv_at lv 6 rfl) ?_
        obtain ⟨g17, hwp⟩ := hwp
        refine x_iald C Dy wxa_39 g17 dX2_mostAlike_109 ?_
        refine lv_iadd hx hb dX2_mostAlike_110 ?_
        obtain ⟨g18, hwp⟩ := hwp
        refine x_iast C Dy wxa_40 g18 dX2_mostAlike_111 (fun H locs Dy => ?_)
        obtain ⟨h19, eh19⟩ : ∃ z : Mem, z = (up2 h 40 (r14 + (1 : Int32)).toNatClampNeg ((h 40 (r14 + (1 : Int32)).toNatClampNeg) + (h 39 v5.toNatClampNeg))) := ⟨_, rfl⟩
        rw [← eh19] at Dy
        have hwp := hwp h19 eh19
        refine lv_iload hx hb dX2_mostAlike_112 (lv_at lv 5 rfl) ?_
        refine lv_aload_n hx hb dX2_mostAlike_114 rfl (lv_at lv 1 rfl) ?_
        refine gf_X2_38_35 C Dy dX2_mostAlike_115 ?_
        refine lv_iload hx hb dX2_mostAlike_118 (lv_at lv 0 rfl) ?_
        obtain ⟨g20, hwp⟩ := hwp
        refine x_iald C Dy wxa_40 g20 dX2_mostAlike_120 ?_
        refine va_mmax hx hb (C.ml.trans lv.1.symm) C.ow (C.ts _ k_659) (C.ts _ k_660) (C.ts _ k_15) (C.ts _ k_661) (Nat.le_trans (Nat.le_of_ble_eq_true rfl) hR.1) (Nat.le_trans (Nat.le_of_ble_eq_true rfl) hR.2) (Nat.zero_le _) (Nat.zero_le _) dX2_mostAlike_121 ?_
        refine lv_topi (fun x21 ex21 => ?_)
        have hwp := hwp x21 ex21
        refine lv_istore (lv' := [(4, .int x21), (8, .int (r14 + (1 : Int32))), (0, .ref (wad (wdX E) 35)), (1, .ref (wad (wdX E) 7)), (2, .int v2), (3, .int v3), (5, .int v5), (6, .int v6), (7, .int v7)]) hx hb dX2_mostAlike_124 lv (by decide) rfl (fun ls lv => ?_)
        refine lv_aload_n hx hb dX2_mostAlike_126 rfl (lv_at lv 2 rfl) ?_
        refine gf_X2_35_35 C Dy dX2_mostAlike_127 ?_
        refine lv_iload hx hb dX2_mostAlike_130 (lv_at lv 6 rfl) ?_
        refine lv_iconst (v := (0 : Int32)) hx hb dX2_mostAlike_132 (by decide) ?_
        obtain ⟨g22, hwp⟩ := hwp
        refine x_iast C Dy wxa_39 g22 dX2_mostAlike_133 (fun H locs Dy => ?_)
        exact t_X2_mostAlike_134 E C hR Qp (fun h v2 v3 v4 v5 v6 v7 => b_X2_mostAlike_67 n h v2 v3 v4 v5 v6 v7 Qp) (fun h v2 v3 v4 v5 v6 v7 H locs ls Dy lv hwp => ih h v2 v3 v4 v5 v6 v7 H locs ls Dy lv hwp) (up2 h19 39 v5.toNatClampNeg (0 : Int32)) v2 v3 x21 v5 v6 v7 _ _ _ Dy (lv_sub lv [2, 3, 4, 5, 0, 6, 7, 8] rfl) hwp
set_option maxHeartbeats 4000000 in
set_option maxRecDepth 100000 in
theorem t_X2_mostAlike_9 (E : xE) {p : Program} {l : Launch} {e : Env} {R : Room} {s : State} {m : MethodId} {args : Array Value} {below : List Frame} {meth : Method} {c : Code} (C : mC (wdX E) p s m meth c args cX2_mostAlike 9 RX2 (some .int)) (hR : 1 ≤ R.frames ∧ 64 ≤ R.locals) {hl : MemL} (Qp : Int32 → Mem → Prop) : ∀ (n : Nat) (h : Mem) (v2 : Int32) (v3 : Int32) (v4 : Int32) (H : Heap) (locs : List Loc) (ls : Array Slot), mD (wdX E) h hl s H locs → lv_has ls 9 [(0, .ref (wad (wdX E) 35)), (1, .ref (wad (wdX E) 7)), (2, .int v2), (3, .int v3), (4, .int v4)] → b_X2_mostAlike_9 n h v2 v3 v4 Qp → W p l e R s m args below meth c H locs 0 0 (MQ below (mQi (wdX E) (fun r h1 hl1 => hl = hl1 ∧ Qp r h1)) args s 0 0 (wA (wdX E))) (F0 m 9 ls []) := by
  have hx := C.x
  have hb := C.b
  intro n
  induction n with
  | zero => intro h v2 v3 v4 H locs ls Dy lv hwp; exact hwp.elim
  | succ n ih =>
    intro h v2 v3 v4 H locs ls Dy lv hwp
    simp only [b_X2_mostAlike_9] at hwp
    refine lv_iload hx hb dX2_mostAlike_9 (lv_at lv 4 rfl) ?_
    refine lv_aload_n hx hb dX2_mostAlike_11 rfl (lv_at lv 0 rfl) ?_
    refine gf_X2_29_35 C Dy dX2_mostAlike_12 ?_
    refine lv_icmp_ge (tgt := 42) hx hb dX2_mostAlike_15 (by decide) (fun c1 => ?_) (fun c1 => ?_)
    · have hwp := hwp.1 c1
      refine lv_aload_n hx hb dX2_mostAlike_42 rfl (lv_at lv 0 rfl) ?_
      refine gf_X2_38_35 C Dy dX2_mostAlike_43 ?_
      refine lv_iconst (v := (0 : Int32)) hx hb dX2_mostAlike_46 (by decide) ?_
      refine x_cont_v Dy (x_runS (As := [.ref (wad (wdX E) 40), .int (0 : Int32)]) (rest := []) C Dy (m_J7_fill (wdX E) l _ _ 40 8 wxa_40 (0 : Int32) _ hwp) (cw_X2_74 C rfl rfl ⟨Nat.le_trans (Nat.le_of_ble_eq_true rfl) hR.1, Nat.le_trans (Nat.le_of_ble_eq_true rfl) hR.2⟩) rfl lv.1 rfl (Nat.le_of_ble_eq_true rfl) dX2_mostAlike_47 ⟨Nat.zero_le _, Nat.zero_le _⟩) (fun h3 hl3 H locs hwp Dy => ?_)
      obtain ⟨rfl, hwp⟩ := hwp
      refine lv_iconst (v := (0 : Int32)) hx hb dX2_mostAlike_50 (by decide) ?_
      refine lv_istore (lv' := [(4, .int (0 : Int32)), (0, .ref (wad (wdX E) 35)), (1, .ref (wad (wdX E) 7)), (2, .int v2), (3, .int v3)]) hx hb dX2_mostAlike_51 lv (by decide) rfl (fun ls lv => ?_)
      refine lv_iconst (v := (0 : Int32)) hx hb dX2_mostAlike_53 (by decide) ?_
      refine lv_istore (lv' := [(5, .int (0 : Int32)), (4, .int (0 : Int32)), (0, .ref (wad (wdX E) 35)), (1, .ref (wad (wdX E) 7)), (2, .int v2), (3, .int v3)]) hx hb dX2_mostAlike_54 lv (by decide) rfl (fun ls lv => ?_)
      refine lv_iconst (v := (1 : Int32)) hx hb dX2_mostAlike_56 (by decide) ?_
      refine lv_iload_n hx hb dX2_mostAlike_57 rfl (lv_at lv 5 rfl) ?_
      refine x_cont_i Dy (x_runS (As := [.int v3]) (rest := [.int (1 : Int32)]) C Dy (m_J6_bitCount (wdX E) l _ _ v3 _ hwp) (cw_X2_80 C rfl rfl ⟨Nat.le_trans (Nat.le_of_ble_eq_true rfl) hR.1, Nat.le_trans (Nat.le_of_ble_eq_true rfl) hR.2⟩) rfl lv.1 rfl (Nat.le_of_ble_eq_true rfl) dX2_mostAlike_58 ⟨Nat.zero_le _, Nat.zero_le _⟩) (fun r4 h5 hl5 H locs hwp Dy => ?_)
      obtain ⟨rfl, rfl, hwp⟩ := hwp
      refine lv_ishl hx hb dX2_mostAlike_61 ?_
      refine lv_topi (fun x6 ex6 => ?_)
      have hwp := hwp x6 ex6
      refine lv_istore (lv' := [(6, .int x6), (5, .int (0 : Int32)), (4, .int (0 : Int32)), (0, .ref (wad (wdX E) 35)), (1, .ref (wad (wdX E) 7)), (2, .int v2), (3, .int v3)]) hx hb dX2_mostAlike_62 lv (by decide) rfl (fun ls lv => ?_)
      refine lv_iconst (v := (0 : Int32)) hx hb dX2_mostAlike_64 (by decide) ?_
      refine lv_istore (lv' := [(7, .int (0 : Int32)), (6, .int x6), (5, .int (0 : Int32)), (4, .int (0 : Int32)), (0, .ref (wad (wdX E) 35)), (1, .ref (wad (wdX E) 7)), (2, .int v2), (3, .int v3)]) hx hb dX2_mostAlike_65 lv (by decide) rfl (fun ls lv => ?_)
      obtain ⟨n0, hwp⟩ := hwp
      exact t_X2_mostAlike_67 E C hR Qp n0 h3 v2 v3 (0 : Int32) (0 : Int32) x6 (0 : Int32) _ _ _ Dy (lv_sub lv [4, 5, 6, 7, 3, 2, 1, 0] rfl) hwp
    · have hwp := hwp.2 c1
      refine lv_aload_n hx hb dX2_mostAlike_18 rfl (lv_at lv 0 rfl) ?_
      refine gf_X2_35_35 C Dy dX2_mostAlike_19 ?_
      refine lv_aload_n hx hb dX2_mostAlike_22 rfl (lv_at lv 0 rfl) ?_
      refine gf_X2_26_35 C Dy dX2_mostAlike_23 ?_
      refine lv_iload hx hb dX2_mostAlike_26 (lv_at lv 4 rfl) ?_
      obtain ⟨g7, hwp⟩ := hwp
      refine x_iald C Dy wxa_38 g7 dX2_mostAlike_28 ?_
      refine lv_iload_n hx hb dX2_mostAlike_29 rfl (lv_at lv 3 rfl) ?_
      refine lv_iand hx hb dX2_mostAlike_30 ?_
      refine lv_dup2_11 hx hb dX2_mostAlike_31 rfl rfl ?_
      obtain ⟨g8, hwp⟩ := hwp
      refine x_iald C Dy wxa_39 g8 dX2_mostAlike_32 ?_
      refine lv_iconst (v := (1 : Int32)) hx hb dX2_mostAlike_33 (by decide) ?_
      refine lv_iadd hx hb dX2_mostAlike_34 ?_
      obtain ⟨g9, hwp⟩ := hwp
      refine x_iast C Dy wxa_39 g9 dX2_mostAlike_35 (fun H locs Dy => ?_)
      obtain ⟨h10, eh10⟩ : ∃ z : Mem, z = (up2 h 39 ((h 38 v4.toNatClampNeg) &&& v3).toNatClampNeg ((h 39 ((h 38 v4.toNatClampNeg) &&& v3).toNatClampNeg) + (1 : Int32))) := ⟨_, rfl⟩
      rw [← eh10] at Dy
      have hwp := hwp h10 eh10
      refine lv_iinc (v := (v4 + (1 : Int32))) (lv' := [(4, .int (v4 + (1 : Int32))), (0, .ref (wad (wdX E) 35)), (1, .ref (wad (wdX E) 7)), (2, .int v2), (3, .int v3)]) hx hb dX2_mostAlike_36 lv (k := 4) rfl rfl (by decide) rfl (fun ls lv => ?_)
      refine lv_goto (tgt := 9) hx hb dX2_mostAlike_39 (by decide) ?_
      exact ih h10 v2 v3 (v4 + (1 : Int32)) _ _ _ Dy (lv_sub lv [1, 2, 3, 4, 0] rfl) hwp
set_option maxHeartbeats 4000000 in
set_option maxRecDepth 100000 in
theorem m_X2_mostAlike (E : xE) (l : Launch) (h : Mem) (hl : MemL) (v2 : Int32) (Qp : Int32 → Mem → Prop) (hwp : p_X2_mostAlike h v2 Qp) : Met l yX2_mostAlike (wsU yX2_mostAlike cX2_mostAlike 9 (some .int)) ({ frames := 1, cells := 0, slots := 0, locals := 64 } : Room) (mPc (wdX E) [.ref (wad (wdX E) 35), .ref (wad (wdX E) 7), .int v2] h hl) (mQi (wdX E) (fun r h1 hl1 => hl = hl1 ∧ Qp r h1)) 0 0 (wA (wdX E)) := by
  refine x_met RX2 [(0, .ref (wad (wdX E) 35)), (1, .ref (wad (wdX E) 7)), (2, .int v2)] (by decide) rfl (Nat.le_of_ble_eq_true rfl) rfl ?_
  intro p e s m args below meth c ls C Dy lv
  have hx := C.x
  have hb := C.b
  have hR : 1 ≤ ({ frames := 1, cells := 0, slots := 0, locals := 64 } : Room).frames ∧ 64 ≤ ({ frames := 1, cells := 0, slots := 0, locals := 64 } : Room).locals := ⟨Nat.le_refl _, Nat.le_refl _⟩
  unfold p_X2_mostAlike at hwp
  refine lv_aload_n hx hb dX2_mostAlike_0 rfl (lv_at lv 1 rfl) ?_
  refine lv_iload_n hx hb dX2_mostAlike_1 rfl (lv_at lv 2 rfl) ?_
  refine x_cont_i Dy (x_runV (As := [.int v2]) (rest := []) C Dy (m_X0_coveringLaws E l _ _ v2 _ hwp) (cw_X2_70 C rfl rfl ⟨Nat.le_trans (Nat.le_of_ble_eq_true rfl) hR.1, Nat.le_trans (Nat.le_of_ble_eq_true rfl) hR.2⟩) wx_7 rfl rfl lv.1 rfl (Nat.le_of_ble_eq_true rfl) dX2_mostAlike_2 ⟨Nat.zero_le _, Nat.zero_le _⟩) (fun r23 h24 hl24 H locs hwp Dy => ?_)
  obtain ⟨rfl, rfl, hwp⟩ := hwp
  refine lv_istore_n (lv' := [(3, .int r23), (0, .ref (wad (wdX E) 35)), (1, .ref (wad (wdX E) 7)), (2, .int v2)]) hx hb dX2_mostAlike_5 rfl lv (by decide) rfl (fun ls lv => ?_)
  refine lv_iconst (v := (0 : Int32)) hx hb dX2_mostAlike_6 (by decide) ?_
  refine lv_istore (lv' := [(4, .int (0 : Int32)), (3, .int r23), (0, .ref (wad (wdX E) 35)), (1, .ref (wad (wdX E) 7)), (2, .int v2)]) hx hb dX2_mostAlike_7 lv (by decide) rfl (fun ls lv => ?_)
  obtain ⟨n0, hwp⟩ := hwp
  exact t_X2_mostAlike_9 E C hR Qp n0 h v2 r23 (0 : Int32) _ _ _ Dy (lv_sub lv [2, 3, 4, 1, 0] rfl) hwp
def b_X2_hourToWatch_61 (h : Mem) (v2 : Int32) (v3 : Int32) (K17 : Mem → Int32 → Int32 → Prop) (Qp : Int32 → Mem → Prop) : Prop := K17 h v2 (v3 + (1 : Int32))
def b_X2_hourToWatch_53 (h : Mem) (v3 : Int32) (v4 : Int32) (K17 : Mem → Int32 → Int32 → Prop) (Qp : Int32 → Mem → Prop) : Prop := b_X2_hourToWatch_61 (up2 h 35 9 v3) v4 v3 K17 Qp
def b_X2_hourToWatch_17 : Nat → Mem → Int32 → Int32 → (Int32 → Mem → Prop) → Prop
  | 0 => fun _ _ _ _ => False
  | n + 1 => fun h v2 v3 Qp => (((24 : Int32) ≤ v3 → Qp (h 35 9) h) ∧ (¬ ((24 : Int32) ≤ v3) → (p_X0_isLikeBefore h v3 (fun r2 => ((r2 = 0 → (p_X2_mostAlike h v3 (fun r5 h6 => (((h6 35 9) = (-1 : Int32) → b_X2_hourToWatch_53 h6 v3 r5 (fun h v2 v3 => b_X2_hourToWatch_17 n h v2 v3 Qp) Qp) ∧ (¬ ((h6 35 9) = (-1 : Int32)) → ((v2 ≤ r5 → b_X2_hourToWatch_61 h6 v2 v3 (fun h v2 v3 => b_X2_hourToWatch_17 n h v2 v3 Qp) Qp) ∧ (¬ (v2 ≤ r5) → b_X2_hourToWatch_53 h6 v3 r5 (fun h v2 v3 => b_X2_hourToWatch_17 n h v2 v3 Qp) Qp))))))) ∧ (¬ (r2 = 0) → b_X2_hourToWatch_61 h v2 v3 (fun h v2 v3 => b_X2_hourToWatch_17 n h v2 v3 Qp) Qp))))))
def p_X2_hourToWatch (h : Mem) (Qp : Int32 → Mem → Prop) : Prop := (((h 35 9) = (-1 : Int32) → (∃ n17, b_X2_hourToWatch_17 n17 h (0 : Int32) (0 : Int32) Qp)) ∧ (¬ ((h 35 9) = (-1 : Int32)) → Qp (h 35 9) h))
set_option maxHeartbeats 4000000 in
set_option maxRecDepth 100000 in
theorem t_X2_hourToWatch_61 (E : xE) {p : Program} {l : Launch} {e : Env} {R : Room} {s : State} {m : MethodId} {args : Array Value} {below : List Frame} {meth : Method} {c : Code} (C : mC (wdX E) p s m meth c args cX2_hourToWatch 5 RX2 (some .int)) (hR : 2 ≤ R.frames ∧ 92 ≤ R.locals) {hl : MemL} (Qp : Int32 → Mem → Prop) (K17 : Mem → Int32 → Int32 → Prop) (hK17 : ∀ (h : Mem) (v2 : Int32) (v3 : Int32) (H : Heap) (locs : List Loc) (ls : Array Slot), mD (wdX E) h hl s H locs → lv_has ls 5 [(0, .ref (wad (wdX E) 35)), (1, .ref (wad (wdX E) 7)), (2, .int v2), (3, .int v3)] → K17 h v2 v3 → W p l e R s m args below meth c H locs 0 0 (MQ below (mQi (wdX E) (fun r h1 hl1 => hl = hl1 ∧ Qp r h1)) args s 0 0 (wA (wdX E))) (F0 m 17 ls [])) : ∀ (h : Mem) (v2 : Int32) (v3 : Int32) (H : Heap) (locs : List Loc) (ls : Array Slot), mD (wdX E) h hl s H locs → lv_has ls 5 [(0, .ref (wad (wdX E) 35)), (1, .ref (wad (wdX E) 7)), (2, .int v2), (3, .int v3)] → b_X2_hourToWatch_61 h v2 v3 K17 Qp → W p l e R s m args below meth c H locs 0 0 (MQ below (mQi (wdX E) (fun r h1 hl1 => hl = hl1 ∧ Qp r h1)) args s 0 0 (wA (wdX E))) (F0 m 61 ls []) := by
  have hx := C.x
  have hb := C.b
  intro h v2 v3 H locs ls Dy lv hwp
  unfold b_X2_hourToWatch_61 at hwp
  refine lv_iinc (v := (v3 + (1 : Int32))) (lv' := [(3, .int (v3 + (1 : Int32))), (0, .ref (wad (wdX E) 35)), (1, .ref (wad (wdX E) 7)), (2, .int v2)]) hx hb dX2_hourToWatch_61 lv (k := 3) rfl rfl (by decide) rfl (fun ls lv => ?_)
  refine lv_goto (tgt := 17) hx hb dX2_hourToWatch_64 (by decide) ?_
  exact hK17 h v2 (v3 + (1 : Int32)) _ _ _ Dy (lv_sub lv [1, 2, 3, 0] rfl) hwp
set_option maxHeartbeats 4000000 in
set_option maxRecDepth 100000 in
theorem t_X2_hourToWatch_53 (E : xE) {p : Program} {l : Launch} {e : Env} {R : Room} {s : State} {m : MethodId} {args : Array Value} {below : List Frame} {meth : Method} {c : Code} (C : mC (wdX E) p s m meth c args cX2_hourToWatch 5 RX2 (some .int)) (hR : 2 ≤ R.frames ∧ 92 ≤ R.locals) {hl : MemL} (Qp : Int32 → Mem → Prop) (K17 : Mem → Int32 → Int32 → Prop) (hK17 : ∀ (h : Mem) (v2 : Int32) (v3 : Int32) (H : Heap) (locs : List Loc) (ls : Array Slot), mD (wdX E) h hl s H locs → lv_has ls 5 [(0, .ref (wad (wdX E) 35)), (1, .ref (wad (wdX E) 7)), (2, .int v2), (3, .int v3)] → K17 h v2 v3 → W p l e R s m args below meth c H locs 0 0 (MQ below (mQi (wdX E) (fun r h1 hl1 => hl = hl1 ∧ Qp r h1)) args s 0 0 (wA (wdX E))) (F0 m 17 ls [])) : ∀ (h : Mem) (v3 : Int32) (v4 : Int32) (H : Heap) (locs : List Loc) (ls : Array Slot), mD (wdX E) h hl s H locs → lv_has ls 5 [(0, .ref (wad (wdX E) 35)), (1, .ref (wad (wdX E) 7)), (3, .int v3), (4, .int v4)] → b_X2_hourToWatch_53 h v3 v4 K17 Qp → W p l e R s m args below meth c H locs 0 0 (MQ below (mQi (wdX E) (fun r h1 hl1 => hl = hl1 ∧ Qp r h1)) args s 0 0 (wA (wdX E))) (F0 m 53 ls []) := by
  have hx := C.x
  have hb := C.b
  intro h v3 v4 H locs ls Dy lv hwp
  unfold b_X2_hourToWatch_53 at hwp
  refine lv_aload_n hx hb dX2_hourToWatch_53 rfl (lv_at lv 0 rfl) ?_
  refine lv_iload_n hx hb dX2_hourToWatch_54 rfl (lv_at lv 2 rfl) ?_
  refine pf_X2_41_35 C Dy dX2_hourToWatch_55 (fun H locs Dy => ?_)
  refine lv_iload hx hb dX2_hourToWatch_58 (lv_at lv 3 rfl) ?_
  refine lv_istore_n (lv' := [(2, .int v4), (0, .ref (wad (wdX E) 35)), (1, .ref (wad (wdX E) 7)), (3, .int v3), (4, .int v4)]) hx hb dX2_hourToWatch_60 rfl lv (by decide) rfl (fun ls lv => ?_)
  exact t_X2_hourToWatch_61 E C hR Qp K17 hK17 (up2 h 35 9 v3) v4 v3 _ _ _ Dy (lv_sub lv [1, 2, 0, 3] rfl) hwp
set_option maxHeartbeats 4000000 in
set_option maxRecDepth 100000 in
theorem t_X2_hourToWatch_17 (E : xE) {p : Program} {l : Launch} {e : Env} {R : Room} {s : State} {m : MethodId} {args : Array Value} {below : List Frame} {meth : Method} {c : Code} (C : mC (wdX E) p s m meth c args cX2_hourToWatch 5 RX2 (some .int)) (hR : 2 ≤ R.frames ∧ 92 ≤ R.locals) {hl : MemL} (Qp : Int32 → Mem → Prop) : ∀ (n : Nat) (h : Mem) (v2 : Int32) (v3 : Int32) (H : Heap) (locs : List Loc) (ls : Array Slot), mD (wdX E) h hl s H locs → lv_has ls 5 [(0, .ref (wad (wdX E) 35)), (1, .ref (wad (wdX E) 7)), (2, .int v2), (3, .int v3)] → b_X2_hourToWatch_17 n h v2 v3 Qp → W p l e R s m args below meth c H locs 0 0 (MQ below (mQi (wdX E) (fun r h1 hl1 => hl = hl1 ∧ Qp r h1)) args s 0 0 (wA (wdX E))) (F0 m 17 ls []) := by
  have hx := C.x
  have hb := C.b
  intro n
  induction n with
  | zero => intro h v2 v3 H locs ls Dy lv hwp; exact hwp.elim
  | succ n ih =>
    intro h v2 v3 H locs ls Dy lv hwp
    simp only [b_X2_hourToWatch_17] at hwp
    refine lv_iload_n hx hb dX2_hourToWatch_17 rfl (lv_at lv 3 rfl) ?_
    refine lv_bipush (v := (24 : Int32)) hx hb dX2_hourToWatch_18 (by decide) ?_
    refine lv_icmp_ge (tgt := 67) hx hb dX2_hourToWatch_20 (by decide) (fun c1 => ?_) (fun c1 => ?_)
    · have hwp := hwp.1 c1
      refine lv_aload_n hx hb dX2_hourToWatch_67 rfl (lv_at lv 0 rfl) ?_
      refine gf_X2_41_35 C Dy dX2_hourToWatch_68 ?_
      exact x_iret C Dy ⟨rfl, hwp⟩ dX2_hourToWatch_71
    · have hwp := hwp.2 c1
      refine lv_aload_n hx hb dX2_hourToWatch_23 rfl (lv_at lv 1 rfl) ?_
      refine lv_iload_n hx hb dX2_hourToWatch_24 rfl (lv_at lv 3 rfl) ?_
      refine x_cont_z Dy (x_runV (As := [.int v3]) (rest := []) C Dy (m_X0_isLikeBefore E l _ _ v3 _ hwp) (cw_X2_62 C rfl rfl ⟨Nat.le_trans (Nat.le_of_ble_eq_true rfl) hR.1, Nat.le_trans (Nat.le_of_ble_eq_true rfl) hR.2⟩) wx_7 rfl rfl lv.1 rfl (Nat.le_of_ble_eq_true rfl) dX2_hourToWatch_25 ⟨Nat.zero_le _, Nat.zero_le _⟩) (fun r2 h3 hl3 H locs zr2 hwp Dy => ?_)
      obtain ⟨rfl, rfl, hwp⟩ := hwp
      refine lv_if_ne (tgt := 61) hx hb dX2_hourToWatch_28 (by decide) (fun c4 => ?_) (fun c4 => ?_)
      · have hwp := hwp.2 c4
        exact t_X2_hourToWatch_61 E C hR Qp (fun h v2 v3 => b_X2_hourToWatch_17 n h v2 v3 Qp) (fun h v2 v3 H locs ls Dy lv hwp => ih h v2 v3 H locs ls Dy lv hwp) h v2 v3 _ _ _ Dy (lv_sub lv [0, 1, 2, 3] rfl) hwp
      · have hwp := hwp.1 c4
        refine lv_aload_n hx hb dX2_hourToWatch_31 rfl (lv_at lv 0 rfl) ?_
        refine lv_aload_n hx hb dX2_hourToWatch_32 rfl (lv_at lv 1 rfl) ?_
        refine lv_iload_n hx hb dX2_hourToWatch_33 rfl (lv_at lv 3 rfl) ?_
        refine x_cont_i Dy (x_runV (As := [.ref (wad (wdX E) 7), .int v3]) (rest := []) C Dy (m_X2_mostAlike E l _ _ v3 _ hwp) (cw_X2_66 C rfl rfl ⟨Nat.le_trans (Nat.le_of_ble_eq_true rfl) hR.1, Nat.le_trans (Nat.le_of_ble_eq_true rfl) hR.2⟩) wx_35 rfl rfl lv.1 rfl (Nat.le_of_ble_eq_true rfl) dX2_hourToWatch_34 ⟨Nat.zero_le _, Nat.zero_le _⟩) (fun r5 h6 hl6 H locs hwp Dy => ?_)
        obtain ⟨rfl, hwp⟩ := hwp
        refine lv_istore (lv' := [(4, .int r5), (0, .ref (wad (wdX E) 35)), (1, .ref (wad (wdX E) 7)), (2, .int v2), (3, .int v3)]) hx hb dX2_hourToWatch_37 lv (by decide) rfl (fun ls lv => ?_)
        refine lv_aload_n hx hb dX2_hourToWatch_39 rfl (lv_at lv 1 rfl) ?_
        refine gf_X2_41_35 C Dy dX2_hourToWatch_40 ?_
        refine lv_iconst (v := (-1 : Int32)) hx hb dX2_hourToWatch_43 (by decide) ?_
        refine lv_icmp_eq (tgt := 53) hx hb dX2_hourToWatch_44 (by decide) (fun c7 => ?_) (fun c7 => ?_)
        · have hwp := hwp.1 c7
          exact t_X2_hourToWatch_53 E C hR Qp (fun h v2 v3 => b_X2_hourToWatch_17 n h v2 v3 Qp) (fun h v2 v3 H locs ls Dy lv hwp => ih h v2 v3 H locs ls Dy lv hwp) h6 v3 r5 _ _ _ Dy (lv_sub lv [1, 2, 4, 0] rfl) hwp
        · have hwp := hwp.2 c7
          refine lv_iload hx hb dX2_hourToWatch_47 (lv_at lv 0 rfl) ?_
          refine lv_iload_n hx hb dX2_hourToWatch_49 rfl (lv_at lv 3 rfl) ?_
          refine lv_icmp_ge (tgt := 61) hx hb dX2_hourToWatch_50 (by decide) (fun c8 => ?_) (fun c8 => ?_)
          · have hwp := hwp.1 c8
            exact t_X2_hourToWatch_61 E C hR Qp (fun h v2 v3 => b_X2_hourToWatch_17 n h v2 v3 Qp) (fun h v2 v3 H locs ls Dy lv hwp => ih h v2 v3 H locs ls Dy lv hwp) h6 v2 v3 _ _ _ Dy (lv_sub lv [1, 2, 3, 4] rfl) hwp
          · have hwp := hwp.2 c8
            exact t_X2_hourToWatch_53 E C hR Qp (fun h v2 v3 => b_X2_hourToWatch_17 n h v2 v3 Qp) (fun h v2 v3 H locs ls Dy lv hwp => ih h v2 v3 H locs ls Dy lv hwp) h6 v3 r5 _ _ _ Dy (lv_sub lv [1, 2, 4, 0] rfl) hwp
set_option maxHeartbeats 4000000 in
set_option maxRecDepth 100000 in
theorem m_X2_hourToWatch (E : xE) (l : Launch) (h : Mem) (hl : MemL) (Qp : Int32 → Mem → Prop) (hwp : p_X2_hourToWatch h Qp) : Met l yX2_hourToWatch (wsU yX2_hourToWatch cX2_hourToWatch 5 (some .int)) ({ frames := 2, cells := 0, slots := 0, locals := 92 } : Room) (mPc (wdX E) [.ref (wad (wdX E) 35), .ref (wad (wdX E) 7)] h hl) (mQi (wdX E) (fun r h1 hl1 => hl = hl1 ∧ Qp r h1)) 0 0 (wA (wdX E)) := by
  refine x_met RX2 [(0, .ref (wad (wdX E) 35)), (1, .ref (wad (wdX E) 7))] (by decide) rfl (Nat.le_of_ble_eq_true rfl) rfl ?_
  intro p e s m args below meth c ls C Dy lv
  have hx := C.x
  have hb := C.b
  have hR : 2 ≤ ({ frames := 2, cells := 0, slots := 0, locals := 92 } : Room).frames ∧ 92 ≤ ({ frames := 2, cells := 0, slots := 0, locals := 92 } : Room).locals := ⟨Nat.le_refl _, Nat.le_refl _⟩
  unfold p_X2_hourToWatch at hwp
  refine lv_aload_n hx hb dX2_hourToWatch_0 rfl (lv_at lv 0 rfl) ?_
  refine gf_X2_41_35 C Dy dX2_hourToWatch_1 ?_
  refine lv_iconst (v := (-1 : Int32)) hx hb dX2_hourToWatch_4 (by decide) ?_
  refine lv_icmp_eq (tgt := 13) hx hb dX2_hourToWatch_5 (by decide) (fun c9 => ?_) (fun c9 => ?_)
  · have hwp := hwp.1 c9
    refine lv_iconst (v := (0 : Int32)) hx hb dX2_hourToWatch_13 (by decide) ?_
    refine lv_istore_n (lv' := [(2, .int (0 : Int32)), (0, .ref (wad (wdX E) 35)), (1, .ref (wad (wdX E) 7))]) hx hb dX2_hourToWatch_14 rfl lv (by decide) rfl (fun ls lv => ?_)
    refine lv_iconst (v := (0 : Int32)) hx hb dX2_hourToWatch_15 (by decide) ?_
    refine lv_istore_n (lv' := [(3, .int (0 : Int32)), (2, .int (0 : Int32)), (0, .ref (wad (wdX E) 35)), (1, .ref (wad (wdX E) 7))]) hx hb dX2_hourToWatch_16 rfl lv (by decide) rfl (fun ls lv => ?_)
    obtain ⟨n0, hwp⟩ := hwp
    exact t_X2_hourToWatch_17 E C hR Qp n0 h (0 : Int32) (0 : Int32) _ _ _ Dy (lv_sub lv [2, 3, 1, 0] rfl) hwp
  · have hwp := hwp.2 c9
    refine lv_aload_n hx hb dX2_hourToWatch_8 rfl (lv_at lv 0 rfl) ?_
    refine gf_X2_41_35 C Dy dX2_hourToWatch_9 ?_
    exact x_iret C Dy ⟨rfl, hwp⟩ dX2_hourToWatch_12
def b_X3_weigh_59 (h : Mem) (v1 : Int32) (v2 : Int32) (v3 : Int32) (v4 : Int32) (Qp : Mem → Prop) : Prop := ((v4 = 0 → Qp h) ∧ (¬ (v4 = 0) → Qp (up2 (up2 (up2 h 31 0 v1) 31 1 v2) 31 2 v3)))
def b_X3_weigh_18 (h : Mem) (v1 : Int32) (v2 : Int32) (v3 : Int32) (w0 : Int32) (Qp : Mem → Prop) : Prop := b_X3_weigh_59 h v1 v2 v3 (if v3 = (h 31 2) then (if (h 31 1) < v2 then (1 : Int32) else (if v2 = (h 31 1) then (if (h 31 0) ≤ v1 then (0 : Int32) else (1 : Int32)) else (0 : Int32))) else w0) Qp
def b_X3_weigh_57 (h : Mem) (v1 : Int32) (v2 : Int32) (v3 : Int32) (w0 : Int32) (Qp : Mem → Prop) : Prop := b_X3_weigh_59 h v1 v2 v3 w0 Qp
def b_X3_weigh_52 (h : Mem) (v1 : Int32) (v2 : Int32) (v3 : Int32) (Qp : Mem → Prop) : Prop := b_X3_weigh_57 h v1 v2 v3 (1 : Int32) Qp
def b_X3_weigh_56 (h : Mem) (v1 : Int32) (v2 : Int32) (v3 : Int32) (Qp : Mem → Prop) : Prop := b_X3_weigh_57 h v1 v2 v3 (0 : Int32) Qp
def p_X3_weigh (h : Mem) (v1 : Int32) (v2 : Int32) (Qp : Mem → Prop) : Prop := (p_J6_bitCount v1 (fun r6 => b_X3_weigh_18 h v1 v2 r6 (if r6 ≤ (h 31 2) then (0 : Int32) else (1 : Int32)) Qp))
set_option maxHeartbeats 4000000 in
set_option maxRecDepth 100000 in
theorem t_X3_weigh_59 (E : xE) {p : Program} {l : Launch} {e : Env} {R : Room} {s : State} {m : MethodId} {args : Array Value} {below : List Frame} {meth : Method} {c : Code} (C : mC (wdX E) p s m meth c args cX3_weigh 5 RX3 none) (hR : 1 ≤ R.frames ∧ 20 ≤ R.locals) {hl : MemL} (Qp : Mem → Prop) : ∀ (h : Mem) (v1 : Int32) (v2 : Int32) (v3 : Int32) (v4 : Int32) (H : Heap) (locs : List Loc) (ls : Array Slot), mD (wdX E) h hl s H locs → lv_has ls 5 [(0, .ref (wad (wdX E) 31)), (1, .int v1), (2, .int v2), (3, .int v3), (4, .int v4)] → b_X3_weigh_59 h v1 v2 v3 v4 Qp → W p l e R s m args below meth c H locs 0 0 (MQ below (mQv (wdX E) (fun h1 hl1 => hl = hl1 ∧ Qp h1)) args s 0 0 (wA (wdX E))) (F0 m 59 ls []) := by
  have hx := C.x
  have hb := C.b
  intro h v1 v2 v3 v4 H locs ls Dy lv hwp
  unfold b_X3_weigh_59 at hwp
  refine lv_iload hx hb dX3_weigh_59 (lv_at lv 4 rfl) ?_
  refine lv_if_eq (tgt := 79) hx hb dX3_weigh_61 (by decide) (fun c5 => ?_) (fun c5 => ?_)
  · have hwp := hwp.1 c5
    exact x_vret C Dy ⟨rfl, hwp⟩ dX3_weigh_79
  · have hwp := hwp.2 c5
    refine lv_aload_n hx hb dX3_weigh_64 rfl (lv_at lv 0 rfl) ?_
    refine lv_iload_n hx hb dX3_weigh_65 rfl (lv_at lv 1 rfl) ?_
    refine pf_X3_9_31 C Dy dX3_weigh_66 (fun H locs Dy => ?_)
    refine lv_aload_n hx hb dX3_weigh_69 rfl (lv_at lv 0 rfl) ?_
    refine lv_iload_n hx hb dX3_weigh_70 rfl (lv_at lv 2 rfl) ?_
    refine pf_X3_15_31 C Dy dX3_weigh_71 (fun H locs Dy => ?_)
    refine lv_aload_n hx hb dX3_weigh_74 rfl (lv_at lv 0 rfl) ?_
    refine lv_iload_n hx hb dX3_weigh_75 rfl (lv_at lv 3 rfl) ?_
    refine pf_X3_18_31 C Dy dX3_weigh_76 (fun H locs Dy => ?_)
    exact x_vret C Dy ⟨rfl, hwp⟩ dX3_weigh_79
set_option maxHeartbeats 4000000 in
set_option maxRecDepth 100000 in
theorem t_X3_weigh_18 (E : xE) {p : Program} {l : Launch} {e : Env} {R : Room} {s : State} {m : MethodId} {args : Array Value} {below : List Frame} {meth : Method} {c : Code} (C : mC (wdX E) p s m meth c args cX3_weigh 5 RX3 none) (hR : 1 ≤ R.frames ∧ 20 ≤ R.locals) {hl : MemL} (Qp : Mem → Prop) : ∀ (h : Mem) (v1 : Int32) (v2 : Int32) (v3 : Int32) (w0 : Int32) (H : Heap) (locs : List Loc) (ls : Array Slot), mD (wdX E) h hl s H locs → lv_has ls 5 [(0, .ref (wad (wdX E) 31)), (1, .int v1), (2, .int v2), (3, .int v3)] → b_X3_weigh_18 h v1 v2 v3 w0 Qp → W p l e R s m args below meth c H locs 0 0 (MQ below (mQv (wdX E) (fun h1 hl1 => hl = hl1 ∧ Qp h1)) args s 0 0 (wA (wdX E))) (F0 m 18 ls [.int w0]) := by
  have hx := C.x
  have hb := C.b
  intro h v1 v2 v3 w0 H locs ls Dy lv hwp
  unfold b_X3_weigh_18 at hwp
  refine lv_istore (lv' := [(4, .int w0), (0, .ref (wad (wdX E) 31)), (1, .int v1), (2, .int v2), (3, .int v3)]) hx hb dX3_weigh_18 lv (by decide) rfl (fun ls lv => ?_)
  refine lv_iload_n hx hb dX3_weigh_20 rfl (lv_at lv 4 rfl) ?_
  refine lv_aload_n hx hb dX3_weigh_21 rfl (lv_at lv 1 rfl) ?_
  refine gf_X3_18_31 C Dy dX3_weigh_22 ?_
  refine lv_icmp_ne (tgt := 59) hx hb dX3_weigh_25 (by decide) (fun c1 => ?_) (fun c1 => ?_)
  · try simp only [if_neg c1] at hwp
    exact t_X3_weigh_59 E C hR Qp h v1 v2 v3 w0 _ _ _ Dy (lv_sub lv [1, 2, 3, 4, 0] rfl) hwp
  · try simp only [if_pos c1] at hwp
    refine lv_iload_n hx hb dX3_weigh_28 rfl (lv_at lv 3 rfl) ?_
    refine lv_aload_n hx hb dX3_weigh_29 rfl (lv_at lv 1 rfl) ?_
    refine gf_X3_15_31 C Dy dX3_weigh_30 ?_
    refine lv_icmp_gt (tgt := 52) hx hb dX3_weigh_33 (by decide) (fun c2 => ?_) (fun c2 => ?_)
    · try simp only [if_pos c2] at hwp
      refine lv_iconst (v := (1 : Int32)) hx hb dX3_weigh_52 (by decide) ?_
      refine lv_goto (tgt := 57) hx hb dX3_weigh_53 (by decide) ?_
      refine lv_istore (lv' := [(4, .int (1 : Int32)), (0, .ref (wad (wdX E) 31)), (1, .int v1), (2, .int v2), (3, .int v3)]) hx hb dX3_weigh_57 lv (by decide) rfl (fun ls lv => ?_)
      exact t_X3_weigh_59 E C hR Qp h v1 v2 v3 (1 : Int32) _ _ _ Dy (lv_sub lv [1, 2, 3, 4, 0] rfl) hwp
    · try simp only [if_neg c2] at hwp
      refine lv_iload_n hx hb dX3_weigh_36 rfl (lv_at lv 3 rfl) ?_
      refine lv_aload_n hx hb dX3_weigh_37 rfl (lv_at lv 1 rfl) ?_
      refine gf_X3_15_31 C Dy dX3_weigh_38 ?_
      refine lv_icmp_ne (tgt := 56) hx hb dX3_weigh_41 (by decide) (fun c3 => ?_) (fun c3 => ?_)
      · try simp only [if_neg c3] at hwp
        refine lv_iconst (v := (0 : Int32)) hx hb dX3_weigh_56 (by decide) ?_
        refine lv_istore (lv' := [(4, .int (0 : Int32)), (0, .ref (wad (wdX E) 31)), (1, .int v1), (2, .int v2), (3, .int v3)]) hx hb dX3_weigh_57 lv (by decide) rfl (fun ls lv => ?_)
        exact t_X3_weigh_59 E C hR Qp h v1 v2 v3 (0 : Int32) _ _ _ Dy (lv_sub lv [1, 2, 3, 4, 0] rfl) hwp
      · try simp only [if_pos c3] at hwp
        refine lv_iload_n hx hb dX3_weigh_44 rfl (lv_at lv 2 rfl) ?_
        refine lv_aload_n hx hb dX3_weigh_45 rfl (lv_at lv 1 rfl) ?_
        refine gf_X3_9_31 C Dy dX3_weigh_46 ?_
        refine lv_icmp_ge (tgt := 56) hx hb dX3_weigh_49 (by decide) (fun c4 => ?_) (fun c4 => ?_)
        · try simp only [if_pos c4] at hwp
          refine lv_iconst (v := (0 : Int32)) hx hb dX3_weigh_56 (by decide) ?_
          refine lv_istore (lv' := [(4, .int (0 : Int32)), (0, .ref (wad (wdX E) 31)), (1, .int v1), (2, .int v2), (3, .int v3)]) hx hb dX3_weigh_57 lv (by decide) rfl (fun ls lv => ?_)
          exact t_X3_weigh_59 E C hR Qp h v1 v2 v3 (0 : Int32) _ _ _ Dy (lv_sub lv [1, 2, 3, 4, 0] rfl) hwp
        · try simp only [if_neg c4] at hwp
          refine lv_iconst (v := (1 : Int32)) hx hb dX3_weigh_52 (by decide) ?_
          refine lv_goto (tgt := 57) hx hb dX3_weigh_53 (by decide) ?_
          refine lv_istore (lv' := [(4, .int (1 : Int32)), (0, .ref (wad (wdX E) 31)), (1, .int v1), (2, .int v2), (3, .int v3)]) hx hb dX3_weigh_57 lv (by decide) rfl (fun ls lv => ?_)
          exact t_X3_weigh_59 E C hR Qp h v1 v2 v3 (1 : Int32) _ _ _ Dy (lv_sub lv [1, 2, 3, 4, 0] rfl) hwp
set_option maxHeartbeats 4000000 in
set_option maxRecDepth 100000 in
theorem t_X3_weigh_57 (E : xE) {p : Program} {l : Launch} {e : Env} {R : Room} {s : State} {m : MethodId} {args : Array Value} {below : List Frame} {meth : Method} {c : Code} (C : mC (wdX E) p s m meth c args cX3_weigh 5 RX3 none) (hR : 1 ≤ R.frames ∧ 20 ≤ R.locals) {hl : MemL} (Qp : Mem → Prop) : ∀ (h : Mem) (v1 : Int32) (v2 : Int32) (v3 : Int32) (w0 : Int32) (H : Heap) (locs : List Loc) (ls : Array Slot), mD (wdX E) h hl s H locs → lv_has ls 5 [(0, .ref (wad (wdX E) 31)), (1, .int v1), (2, .int v2), (3, .int v3)] → b_X3_weigh_57 h v1 v2 v3 w0 Qp → W p l e R s m args below meth c H locs 0 0 (MQ below (mQv (wdX E) (fun h1 hl1 => hl = hl1 ∧ Qp h1)) args s 0 0 (wA (wdX E))) (F0 m 57 ls [.int w0]) := by
  have hx := C.x
  have hb := C.b
  intro h v1 v2 v3 w0 H locs ls Dy lv hwp
  unfold b_X3_weigh_57 at hwp
  refine lv_istore (lv' := [(4, .int w0), (0, .ref (wad (wdX E) 31)), (1, .int v1), (2, .int v2), (3, .int v3)]) hx hb dX3_weigh_57 lv (by decide) rfl (fun ls lv => ?_)
  exact t_X3_weigh_59 E C hR Qp h v1 v2 v3 w0 _ _ _ Dy (lv_sub lv [1, 2, 3, 4, 0] rfl) hwp
set_option maxHeartbeats 4000000 in
set_option maxRecDepth 100000 in
theorem t_X3_weigh_52 (E : xE) {p : Program} {l : Launch} {e : Env} {R : Room} {s : State} {m : MethodId} {args : Array Value} {below : List Frame} {meth : Method} {c : Code} (C : mC (wdX E) p s m meth c args cX3_weigh 5 RX3 none) (hR : 1 ≤ R.frames ∧ 20 ≤ R.locals) {hl : MemL} (Qp : Mem → Prop) : ∀ (h : Mem) (v1 : Int32) (v2 : Int32) (v3 : Int32) (H : Heap) (locs : List Loc) (ls : Array Slot), mD (wdX E) h hl s H locs → lv_has ls 5 [(0, .ref (wad (wdX E) 31)), (1, .int v1), (2, .int v2), (3, .int v3)] → b_X3_weigh_52 h v1 v2 v3 Qp → W p l e R s m args below meth c H locs 0 0 (MQ below (mQv (wdX E) (fun h1 hl1 => hl = hl1 ∧ Qp h1)) args s 0 0 (wA (wdX E))) (F0 m 52 ls []) := by
  have hx := C.x
  have hb := C.b
  intro h v1 v2 v3 H locs ls Dy lv hwp
  unfold b_X3_weigh_52 at hwp
  refine lv_iconst (v := (1 : Int32)) hx hb dX3_weigh_52 (by decide) ?_
  refine lv_goto (tgt := 57) hx hb dX3_weigh_53 (by decide) ?_
  exact t_X3_weigh_57 E C hR Qp h v1 v2 v3 (1 : Int32) _ _ _ Dy (lv_sub lv [0, 1, 2, 3] rfl) hwp
set_option maxHeartbeats 4000000 in
set_option maxRecDepth 100000 in
theorem t_X3_weigh_56 (E : xE) {p : Program} {l : Launch} {e : Env} {R : Room} {s : State} {m : MethodId} {args : Array Value} {below : List Frame} {meth : Method} {c : Code} (C : mC (wdX E) p s m meth c args cX3_weigh 5 RX3 none) (hR : 1 ≤ R.frames ∧ 20 ≤ R.locals) {hl : MemL} (Qp : Mem → Prop) : ∀ (h : Mem) (v1 : Int32) (v2 : Int32) (v3 : Int32) (H : Heap) (locs : List Loc) (ls : Array Slot), mD (wdX E) h hl s H locs → lv_has ls 5 [(0, .ref (wad (wdX E) 31)), (1, .int v1), (2, .int v2), (3, .int v3)] → b_X3_weigh_56 h v1 v2 v3 Qp → W p l e R s m args below meth c H locs 0 0 (MQ below (mQv (wdX E) (fun h1 hl1 => hl = hl1 ∧ Qp h1)) args s 0 0 (wA (wdX E))) (F0 m 56 ls []) := by
  have hx := C.x
  have hb := C.b
  intro h v1 v2 v3 H locs ls Dy lv hwp
  unfold b_X3_weigh_56 at hwp
  refine lv_iconst (v := (0 : Int32)) hx hb dX3_weigh_56 (by decide) ?_
  exact t_X3_weigh_57 E C hR Qp h v1 v2 v3 (0 : Int32) _ _ _ Dy (lv_sub lv [0, 1, 2, 3] rfl) hwp
set_option maxHeartbeats 4000000 in
set_option maxRecDepth 100000 in
theorem m_X3_weigh (E : xE) (l : Launch) (h : Mem) (hl : MemL) (v1 : Int32) (v2 : Int32) (Qp : Mem → Prop) (hwp : p_X3_weigh h v1 v2 Qp) : Met l yX3_weigh (wsU yX3_weigh cX3_weigh 5 none) ({ frames := 1, cells := 0, slots := 0, locals := 20 } : Room) (mPc (wdX E) [.ref (wad (wdX E) 31), .int v1, .int v2] h hl) (mQv (wdX E) (fun h1 hl1 => hl = hl1 ∧ Qp h1)) 0 0 (wA (wdX E)) := by
  refine x_met RX3 [(0, .ref (wad (wdX E) 31)), (1, .int v1), (2, .int v2)] (by decide) rfl (Nat.le_of_ble_eq_true rfl) rfl ?_
  intro p e s m args below meth c ls C Dy lv
  have hx := C.x
  have hb := C.b
  have hR : 1 ≤ ({ frames := 1, cells := 0, slots := 0, locals := 20 } : Room).frames ∧ 20 ≤ ({ frames := 1, cells := 0, slots := 0, locals := 20 } : Room).locals := ⟨Nat.le_refl _, Nat.le_refl _⟩
  unfold p_X3_weigh at hwp
  refine lv_iload_n hx hb dX3_weigh_0 rfl (lv_at lv 1 rfl) ?_
  refine x_cont_i Dy (x_runS (As := [.int v1]) (rest := []) C Dy (m_J6_bitCount (wdX E) l _ _ v1 _ hwp) (cw_X3_25 C rfl rfl ⟨Nat.le_trans (Nat.le_of_ble_eq_true rfl) hR.1, Nat.le_trans (Nat.le_of_ble_eq_true rfl) hR.2⟩) rfl lv.1 rfl (Nat.le_of_ble_eq_true rfl) dX3_weigh_1 ⟨Nat.zero_le _, Nat.zero_le _⟩) (fun r6 h7 hl7 H locs hwp Dy => ?_)
  obtain ⟨rfl, rfl, hwp⟩ := hwp
  refine lv_istore_n (lv' := [(3, .int r6), (0, .ref (wad (wdX E) 31)), (1, .int v1), (2, .int v2)]) hx hb dX3_weigh_4 rfl lv (by decide) rfl (fun ls lv => ?_)
  refine lv_iload_n hx hb dX3_weigh_5 rfl (lv_at lv 0 rfl) ?_
  refine lv_aload_n hx hb dX3_weigh_6 rfl (lv_at lv 1 rfl) ?_
  refine gf_X3_18_31 C Dy dX3_weigh_7 ?_
  refine lv_icmp_le (tgt := 17) hx hb dX3_weigh_10 (by decide) (fun c8 => ?_) (fun c8 => ?_)
  · try simp only [if_pos c8] at hwp
    refine lv_iconst (v := (0 : Int32)) hx hb dX3_weigh_17 (by decide) ?_
    exact t_X3_weigh_18 E C hR Qp h v1 v2 r6 (0 : Int32) _ _ _ Dy (lv_sub lv [1, 2, 3, 0] rfl) hwp
  · try simp only [if_neg c8] at hwp
    refine lv_iconst (v := (1 : Int32)) hx hb dX3_weigh_13 (by decide) ?_
    refine lv_goto (tgt := 18) hx hb dX3_weigh_14 (by decide) ?_
    exact t_X3_weigh_18 E C hR Qp h v1 v2 r6 (1 : Int32) _ _ _ Dy (lv_sub lv [1, 2, 3, 0] rfl) hwp
def b_X3_choose_28 (h : Mem) (v3 : Int32) (rc : Mem → Int32 → Int32 → Int32 → (Mem → Prop) → Prop) (Qp : Mem → Prop) : Prop := (p_X0_joyBy h v3 (fun r1 => (p_X3_weigh h v3 r1 (fun h4 => Qp h4))))
def b_X3_choose_94 (h : Mem) (v3 : Int32) (v4 : Int32) (v6 : Int32) (rc : Mem → Int32 → Int32 → Int32 → (Mem → Prop) → Prop) (Qp : Mem → Prop) : Prop := (rc h v6 v3 (v4 + (1 : Int32)) (fun h6 => Qp h6))
def p_X3_choose : Nat → Mem → Int32 → Int32 → Int32 → (Mem → Prop) → Prop
  | 0 => fun _ _ _ _ _ => False
  | n + 1 => fun h v2 v3 v4 Qp => (p_J6_bitCount v3 (fun r7 => (p_J6_bitCount v2 (fun r9 => (((h 31 2) ≤ (r7 + r9) → (((12 : Int32) ≤ v4 → b_X3_choose_28 h v3 (p_X3_choose n) Qp) ∧ (¬ ((12 : Int32) ≤ v4) → ((v2 = 0 → b_X3_choose_28 h v3 (p_X3_choose n) Qp) ∧ (¬ (v2 = 0) → (∀ x14 : Int32, x14 = ((1 : Int32) <<< (v4 &&& 31)) → (∀ x15 : Int32, x15 = (v2 &&& (x14 ^^^ (-1 : Int32))) → ((x15 = v2 → b_X3_choose_94 h v3 v4 x15 (p_X3_choose n) Qp) ∧ (¬ (x15 = v2) → (p_X0_rivalsWithin h v4 v2 (fun r17 => ((p_X3_choose n) h (x15 &&& (r17 ^^^ (-1 : Int32))) (v3 ||| x14) (v4 + (1 : Int32)) (fun h20 => ((r17 = 0 → Qp h20) ∧ (¬ (r17 = 0) → b_X3_choose_94 h20 v3 v4 x15 (p_X3_choose n) Qp))))))))))))))) ∧ (¬ ((h 31 2) ≤ (r7 + r9)) → Qp h))))))
set_option maxHeartbeats 4000000 in
set_option maxRecDepth 100000 in
theorem t_X3_choose_28 (E : xE) {p : Program} {l : Launch} {e : Env} {R : Room} {s : State} {m : MethodId} {args : Array Value} {below : List Frame} {meth : Method} {c : Code} (C : mC (wdX E) p s m meth c args cX3_choose 8 RX3 none) (hR : 2 ≤ R.frames ∧ 52 ≤ R.locals) {hl : MemL} (rc : Mem → Int32 → Int32 → Int32 → (Mem → Prop) → Prop) {rmN : Room} (hrc : ∀ (h : Mem) (hl : MemL) (v2 : Int32) (v3 : Int32) (v4 : Int32) (Qr : Mem → Prop), rc h v2 v3 v4 Qr → Met l yX3_choose (wsU yX3_choose cX3_choose 8 none) rmN (mPc (wdX E) [.ref (wad (wdX E) 31), .ref (wad (wdX E) 7), .int v2, .int v3, .int v4] h hl) (mQv (wdX E) (fun h1 hl1 => hl = hl1 ∧ Qr h1)) 0 0 (wA (wdX E))) (hR2 : rmN.frames + 1 ≤ R.frames ∧ 8 + (8 + 11) + rmN.locals ≤ R.locals) (hz1 : rmN.cells = 0) (hz2 : rmN.slots = 0) (Qp : Mem → Prop) : ∀ (h : Mem) (v3 : Int32) (H : Heap) (locs : List Loc) (ls : Array Slot), mD (wdX E) h hl s H locs → lv_has ls 8 [(0, .ref (wad (wdX E) 31)), (1, .ref (wad (wdX E) 7)), (3, .int v3)] → b_X3_choose_28 h v3 rc Qp → W p l e R s m args below meth c H locs 0 0 (MQ below (mQv (wdX E) (fun h1 hl1 => hl = hl1 ∧ Qp h1)) args s 0 0 (wA (wdX E))) (F0 m 28 ls []) := by
  have hx := C.x
  have hb := C.b
  intro h v3 H locs ls Dy lv hwp
  unfold b_X3_choose_28 at hwp
  refine lv_aload_n hx hb dX3_choose_28 rfl (lv_at lv 0 rfl) ?_
  refine lv_iload_n hx hb dX3_choose_29 rfl (lv_at lv 2 rfl) ?_
  refine lv_aload_n hx hb dX3_choose_30 rfl (lv_at lv 1 rfl) ?_
  refine lv_iload_n hx hb dX3_choose_31 rfl (lv_at lv 2 rfl) ?_
  refine x_cont_i Dy (x_runV (As := [.int v3]) (rest := [.int v3, .ref (wad (wdX E) 31)]) C Dy (m_X0_joyBy E l _ _ v3 _ hwp) (cw_X3_31 C rfl rfl ⟨Nat.le_trans (Nat.le_of_ble_eq_true rfl) hR.1, Nat.le_trans (Nat.le_of_ble_eq_true rfl) hR.2⟩) wx_7 rfl rfl lv.1 rfl (Nat.le_of_ble_eq_true rfl) dX3_choose_32 ⟨Nat.zero_le _, Nat.zero_le _⟩) (fun r1 h2 hl2 H locs hwp Dy => ?_)
  obtain ⟨rfl, rfl, hwp⟩ := hwp
  refine x_cont_v Dy (x_runV (As := [.int v3, .int r1]) (rest := []) C Dy (m_X3_weigh E l _ _ v3 r1 _ hwp) (cw_X3_36 C rfl rfl ⟨Nat.le_trans (Nat.le_of_ble_eq_true rfl) hR.1, Nat.le_trans (Nat.le_of_ble_eq_true rfl) hR.2⟩) wx_31 rfl rfl lv.1 rfl (Nat.le_of_ble_eq_true rfl) dX3_choose_35 ⟨Nat.zero_le _, Nat.zero_le _⟩) (fun h4 hl4 H locs hwp Dy => ?_)
  obtain ⟨rfl, hwp⟩ := hwp
  exact x_vret C Dy ⟨rfl, hwp⟩ dX3_choose_38
set_option maxHeartbeats 4000000 in
set_option maxRecDepth 100000 in
theorem t_X3_choose_94 (E : xE) {p : Program} {l : Launch} {e : Env} {R : Room} {s : State} {m : MethodId} {args : Array Value} {below : List Frame} {meth : Method} {c : Code} (C : mC (wdX E) p s m meth c args cX3_choose 8 RX3 none) (hR : 2 ≤ R.frames ∧ 52 ≤ R.locals) {hl : MemL} (rc : Mem → Int32 → Int32 → Int32 → (Mem → Prop) → Prop) {rmN : Room} (hrc : ∀ (h : Mem) (hl : MemL) (v2 : Int32) (v3 : Int32) (v4 : Int32) (Qr : Mem → Prop), rc h v2 v3 v4 Qr → Met l yX3_choose (wsU yX3_choose cX3_choose 8 none) rmN (mPc (wdX E) [.ref (wad (wdX E) 31), .ref (wad (wdX E) 7), .int v2, .int v3, .int v4] h hl) (mQv (wdX E) (fun h1 hl1 => hl = hl1 ∧ Qr h1)) 0 0 (wA (wdX E))) (hR2 : rmN.frames + 1 ≤ R.frames ∧ 8 + (8 + 11) + rmN.locals ≤ R.locals) (hz1 : rmN.cells = 0) (hz2 : rmN.slots = 0) (Qp : Mem → Prop) : ∀ (h : Mem) (v3 : Int32) (v4 : Int32) (v6 : Int32) (H : Heap) (locs : List Loc) (ls : Array Slot), mD (wdX E) h hl s H locs → lv_has ls 8 [(0, .ref (wad (wdX E) 31)), (1, .ref (wad (wdX E) 7)), (3, .int v3), (4, .int v4), (6, .int v6)] → b_X3_choose_94 h v3 v4 v6 rc Qp → W p l e R s m args below meth c H locs 0 0 (MQ below (mQv (wdX E) (fun h1 hl1 => hl = hl1 ∧ Qp h1)) args s 0 0 (wA (wdX E))) (F0 m 94 ls []) := by
  have hx := C.x
  have hb := C.b
  intro h v3 v4 v6 H locs ls Dy lv hwp
  unfold b_X3_choose_94 at hwp
  refine lv_aload_n hx hb dX3_choose_94 rfl (lv_at lv 0 rfl) ?_
  refine lv_aload_n hx hb dX3_choose_95 rfl (lv_at lv 1 rfl) ?_
  refine lv_iload hx hb dX3_choose_96 (lv_at lv 4 rfl) ?_
  refine lv_iload_n hx hb dX3_choose_98 rfl (lv_at lv 2 rfl) ?_
  refine lv_iload hx hb dX3_choose_99 (lv_at lv 3 rfl) ?_
  refine lv_iconst (v := (1 : Int32)) hx hb dX3_choose_101 (by decide) ?_
  refine lv_iadd hx hb dX3_choose_102 ?_
  refine x_cont_v Dy (x_runV (As := [.ref (wad (wdX E) 7), .int v6, .int v3, .int (v4 + (1 : Int32))]) (rest := []) C Dy (hrc _ _ v6 v3 (v4 + (1 : Int32)) _ hwp) (cw_X3_21 C hz1 hz2 hR2) wx_31 rfl rfl lv.1 rfl (Nat.le_of_ble_eq_true rfl) dX3_choose_103 ⟨Nat.zero_le _, Nat.zero_le _⟩) (fun h6 hl6 H locs hwp Dy => ?_)
  obtain ⟨rfl, hwp⟩ := hwp
  exact x_vret C Dy ⟨rfl, hwp⟩ dX3_choose_106
set_option maxHeartbeats 4000000 in
set_option maxRecDepth 100000 in
theorem m_X3_choose (E : xE) (l : Launch) (n : Nat) : ∀ (h : Mem) (hl : MemL) (v2 : Int32) (v3 : Int32) (v4 : Int32) (Qp : Mem → Prop), p_X3_choose n h v2 v3 v4 Qp → Met l yX3_choose (wsU yX3_choose cX3_choose 8 none) ({ frames := 2 + n, cells := 0, slots := 0, locals := 52 + n * 27 } : Room) (mPc (wdX E) [.ref (wad (wdX E) 31), .ref (wad (wdX E) 7), .int v2, .int v3, .int v4] h hl) (mQv (wdX E) (fun h1 hl1 => hl = hl1 ∧ Qp h1)) 0 0 (wA (wdX E)) := by
  induction n with
  | zero => intro h hl v2 v3 v4 Qp hwp; exact hwp.elim
  | succ n ihr =>
    intro h hl v2 v3 v4 Qp hwp
    refine x_met RX3 [(0, .ref (wad (wdX E) 31)), (1, .ref (wad (wdX E) 7)), (2, .int v2), (3, .int v3), (4, .int v4)] (by decide) rfl (Nat.le_of_ble_eq_true rfl) rfl ?_
    intro p e s m args below meth c ls C Dy lv
    have hx := C.x
    have hb := C.b
    have hR : 2 ≤ ({ frames := 2 + (n + 1), cells := 0, slots := 0, locals := 52 + (n + 1) * 27 } : Room).frames ∧ 52 ≤ ({ frames := 2 + (n + 1), cells := 0, slots := 0, locals := 52 + (n + 1) * 27 } : Room).locals := ⟨by show 2 ≤ 2 + (n + 1); omega, by show 52 ≤ 52 + (n + 1) * 27; omega⟩
    have hR2 : ({ frames := 2 + n, cells := 0, slots := 0, locals := 52 + n * 27 } : Room).frames + 1 ≤ ({ frames := 2 + (n + 1), cells := 0, slots := 0, locals := 52 + (n + 1) * 27 } : Room).frames ∧ 8 + (8 + 11) + ({ frames := 2 + n, cells := 0, slots := 0, locals := 52 + n * 27 } : Room).locals ≤ ({ frames := 2 + (n + 1), cells := 0, slots := 0, locals := 52 + (n + 1) * 27 } : Room).locals := ⟨by show 2 + n + 1 ≤ 2 + (n + 1); omega, by show 8 + (8 + 11) + (52 + n * 27) ≤ 52 + (n + 1) * 27; omega⟩
    generalize ({ frames := 2 + (n + 1), cells := 0, slots := 0, locals := 52 + (n + 1) * 27 } : Room) = R at hR hR2 ⊢
    have hrc := ihr
    have hz1 : ({ frames := 2 + n, cells := 0, slots := 0, locals := 52 + n * 27 } : Room).cells = 0 := rfl
    have hz2 : ({ frames := 2 + n, cells := 0, slots := 0, locals := 52 + n * 27 } : Room).slots = 0 := rfl
    simp only [p_X3_choose] at hwp
    refine lv_iload_n hx hb dX3_choose_0 rfl (lv_at lv 3 rfl) ?_
    refine x_cont_i Dy (x_runS (As := [.int v3]) (rest := []) C Dy (m_J6_bitCount (wdX E) l _ _ v3 _ hwp) (cw_X3_25 C rfl rfl ⟨Nat.le_trans (Nat.le_of_ble_eq_true rfl) hR.1, Nat.le_trans (Nat.le_of_ble_eq_true rfl) hR.2⟩) rfl lv.1 rfl (Nat.le_of_ble_eq_true rfl) dX3_choose_1 ⟨Nat.zero_le _, Nat.zero_le _⟩) (fun r7 h8 hl8 H locs hwp Dy => ?_)
    obtain ⟨rfl, rfl, hwp⟩ := hwp
    refine lv_iload_n hx hb dX3_choose_4 rfl (lv_at lv 2 rfl) ?_
    refine x_cont_i Dy (x_runS (As := [.int v2]) (rest := [.int r7]) C Dy (m_J6_bitCount (wdX E) l _ _ v2 _ hwp) (cw_X3_25 C rfl rfl ⟨Nat.le_trans (Nat.le_of_ble_eq_true rfl) hR.1, Nat.le_trans (Nat.le_of_ble_eq_true rfl) hR.2⟩) rfl lv.1 rfl (Nat.le_of_ble_eq_true rfl) dX3_choose_5 ⟨Nat.zero_le _, Nat.zero_le _⟩) (fun r9 h10 hl10 H locs hwp Dy => ?_)
    obtain ⟨rfl, rfl, hwp⟩ := hwp
    refine lv_iadd hx hb dX3_choose_8 ?_
    refine lv_aload_n hx hb dX3_choose_9 rfl (lv_at lv 0 rfl) ?_
    refine gf_X3_18_31 C Dy dX3_choose_10 ?_
    refine lv_icmp_ge (tgt := 17) hx hb dX3_choose_13 (by decide) (fun c11 => ?_) (fun c11 => ?_)
    · have hwp := hwp.1 c11
      refine lv_iload hx hb dX3_choose_17 (lv_at lv 4 rfl) ?_
      refine lv_bipush (v := (12 : Int32)) hx hb dX3_choose_19 (by decide) ?_
      refine lv_icmp_ge (tgt := 28) hx hb dX3_choose_21 (by decide) (fun c12 => ?_) (fun c12 => ?_)
      · have hwp := hwp.1 c12
        exact t_X3_choose_28 E C hR (p_X3_choose n) hrc hR2 hz1 hz2 Qp h v3 _ _ _ Dy (lv_sub lv [0, 1, 3] rfl) hwp
      · have hwp := hwp.2 c12
        refine lv_iload_n hx hb dX3_choose_24 rfl (lv_at lv 2 rfl) ?_
        refine lv_if_ne (tgt := 39) hx hb dX3_choose_25 (by decide) (fun c13 => ?_) (fun c13 => ?_)
        · have hwp := hwp.2 c13
          refine lv_iconst (v := (1 : Int32)) hx hb dX3_choose_39 (by decide) ?_
          refine lv_iload hx hb dX3_choose_40 (lv_at lv 4 rfl) ?_
          refine lv_ishl hx hb dX3_choose_42 ?_
          refine lv_topi (fun x14 ex14 => ?_)
          have hwp := hwp x14 ex14
          refine lv_istore (lv' := [(5, .int x14), (0, .ref (wad (wdX E) 31)), (1, .ref (wad (wdX E) 7)), (2, .int v2), (3, .int v3), (4, .int v4)]) hx hb dX3_choose_43 lv (by decide) rfl (fun ls lv => ?_)
          refine lv_iload_n hx hb dX3_choose_45 rfl (lv_at lv 3 rfl) ?_
          refine lv_iload hx hb dX3_choose_46 (lv_at lv 0 rfl) ?_
          refine lv_iconst (v := (-1 : Int32)) hx hb dX3_choose_48 (by decide) ?_
          refine lv_ixor hx hb dX3_choose_49 ?_
          refine lv_iand hx hb dX3_choose_50 ?_
          refine lv_topi (fun x15 ex15 => ?_)
          have hwp := hwp x15 ex15
          refine lv_istore (lv' := [(6, .int x15), (5, .int x14), (0, .ref (wad (wdX E) 31)), (1, .ref (wad (wdX E) 7)), (2, .int v2), (3, .int v3), (4, .int v4)]) hx hb dX3_choose_51 lv (by decide) rfl (fun ls lv => ?_)
          refine lv_iload hx hb dX3_choose_53 (lv_at lv 0 rfl) ?_
          refine lv_iload_n hx hb dX3_choose_55 rfl (lv_at lv 4 rfl) ?_
          refine lv_icmp_eq (tgt := 94) hx hb dX3_choose_56 (by decide) (fun c16 => ?_) (fun c16 => ?_)
          · have hwp := hwp.1 c16
            exact t_X3_choose_94 E C hR (p_X3_choose n) hrc hR2 hz1 hz2 Qp h v3 v4 x15 _ _ _ Dy (lv_sub lv [2, 3, 5, 6, 0] rfl) hwp
          · have hwp := hwp.2 c16
            refine lv_aload_n hx hb dX3_choose_59 rfl (lv_at lv 3 rfl) ?_
            refine lv_iload hx hb dX3_choose_60 (lv_at lv 6 rfl) ?_
            refine lv_iload_n hx hb dX3_choose_62 rfl (lv_at lv 4 rfl) ?_
            refine x_cont_i Dy (x_runV (As := [.int v4, .int v2]) (rest := []) C Dy (m_X0_rivalsWithin E l _ _ v4 v2 _ hwp) (cw_X3_40 C rfl rfl ⟨Nat.le_trans (Nat.le_of_ble_eq_true rfl) hR.1, Nat.le_trans (Nat.le_of_ble_eq_true rfl) hR.2⟩) wx_7 rfl rfl lv.1 rfl (Nat.le_of_ble_eq_true rfl) dX3_choose_63 ⟨Nat.zero_le _, Nat.zero_le _⟩) (fun r17 h18 hl18 H locs hwp Dy => ?_)
            obtain ⟨rfl, rfl, hwp⟩ := hwp
            refine lv_istore (lv' := [(7, .int r17), (6, .int x15), (5, .int x14), (0, .ref (wad (wdX E) 31)), (1, .ref (wad (wdX E) 7)), (2, .int v2), (3, .int v3), (4, .int v4)]) hx hb dX3_choose_66 lv (by decide) rfl (fun ls lv => ?_)
            refine lv_aload_n hx hb dX3_choose_68 rfl (lv_at lv 3 rfl) ?_
            refine lv_aload_n hx hb dX3_choose_69 rfl (lv_at lv 4 rfl) ?_
            refine lv_iload hx hb dX3_choose_70 (lv_at lv 1 rfl) ?_
            refine lv_iload hx hb dX3_choose_72 (lv_at lv 0 rfl) ?_
            refine lv_iconst (v := (-1 : Int32)) hx hb dX3_choose_74 (by decide) ?_
            refine lv_ixor hx hb dX3_choose_75 ?_
            refine lv_iand hx hb dX3_choose_76 ?_
            refine lv_iload_n hx hb dX3_choose_77 rfl (lv_at lv 6 rfl) ?_
            refine lv_iload hx hb dX3_choose_78 (lv_at lv 2 rfl) ?_
            refine lv_ior hx hb dX3_choose_80 ?_
            refine lv_iload hx hb dX3_choose_81 (lv_at lv 7 rfl) ?_
            refine lv_iconst (v := (1 : Int32)) hx hb dX3_choose_83 (by decide) ?_
            refine lv_iadd hx hb dX3_choose_84 ?_
            refine x_cont_v Dy (x_runV (As := [.ref (wad (wdX E) 7), .int (x15 &&& (r17 ^^^ (-1 : Int32))), .int (v3 ||| x14), .int (v4 + (1 : Int32))]) (rest := []) C Dy (hrc _ _ (x15 &&& (r17 ^^^ (-1 : Int32))) (v3 ||| x14) (v4 + (1 : Int32)) _ hwp) (cw_X3_21 C hz1 hz2 hR2) wx_31 rfl rfl lv.1 rfl (Nat.le_of_ble_eq_true rfl) dX3_choose_85 ⟨Nat.zero_le _, Nat.zero_le _⟩) (fun h20 hl20 H locs hwp Dy => ?_)
            obtain ⟨rfl, hwp⟩ := hwp
            refine lv_iload hx hb dX3_choose_88 (lv_at lv 0 rfl) ?_
            refine lv_if_ne (tgt := 94) hx hb dX3_choose_90 (by decide) (fun c21 => ?_) (fun c21 => ?_)
            · have hwp := hwp.2 c21
              exact t_X3_choose_94 E C hR (p_X3_choose n) hrc hR2 hz1 hz2 Qp h20 v3 v4 x15 _ _ _ Dy (lv_sub lv [3, 4, 6, 7, 1] rfl) hwp
            · have hwp := hwp.1 c21
              exact x_vret C Dy ⟨rfl, hwp⟩ dX3_choose_93
        · have hwp := hwp.1 c13
          exact t_X3_choose_28 E C hR (p_X3_choose n) hrc hR2 hz1 hz2 Qp h v3 _ _ _ Dy (lv_sub lv [0, 1, 3] rfl) hwp
    · have hwp := hwp.2 c11
      exact x_vret C Dy ⟨rfl, hwp⟩ dX3_choose_16
