def b_X10_write_59 : Nat → Mem → Int32 → Int32 → Int32 → Int32 → (Int32 → Mem → Prop) → Prop
  | 0 => fun _ _ _ _ _ _ => False
  | n + 1 => fun h v2 v3 v4 v5 Qp => ((v3 ≤ v5 → Qp v3 h) ∧ (¬ (v3 ≤ v5) → (vp_in v2 4 ∧ (p_X10_doesBy h v4 v5 (fun r3 => (p_X10_cut (h 1 v2.toNatClampNeg) r3 (fun r5 => (vp_in (((60 : Int32) * v2) + v5) 240 ∧ b_X10_write_59 n (up2 h 3 (((60 : Int32) * v2) + v5).toNatClampNeg r5) v2 v3 v4 (v5 + (1 : Int32)) Qp))))))))
def p_X10_write (h : Mem) (v1 : Int32) (v2 : Int32) (Qp : Int32 → Mem → Prop) : Prop := (p_X10_isYear v1 (fun r8 => ((r8 = 0 → Qp (-2 : Int32) h) ∧ (¬ (r8 = 0) → (p_X10_isSheet v2 (fun r11 => ((r11 = 0 → Qp (-2 : Int32) h) ∧ (¬ (r11 = 0) → (vp_in v2 4 ∧ ((0 ≤ (h 1 v2.toNatClampNeg) → (p_X10_find h (fun h17 => (vp_in v2 4 ∧ (p_X10_lesser (h17 2 v2.toNatClampNeg) (24 : Int32) (fun r19 => (p_X10_bindsOf h17 v1 (0 : Int32) (fun r21 => (∃ n59, b_X10_write_59 n59 h17 v2 r19 r21 (0 : Int32) Qp))))))))) ∧ (¬ (0 ≤ (h 1 v2.toNatClampNeg)) → (p_X10_finds h (1 : Int32) (fun r23 h24 => Qp r23 h24)))))))))))))
set_option maxHeartbeats 4000000 in
set_option maxRecDepth 100000 in
theorem t_X10_write_59 (E : xE) {p : Program} {l : Launch} {e : Env} {R : Room} {s : State} {m : MethodId} {args : Array Value} {below : List Frame} {meth : Method} {c : Code} (C : mC (wdM E) p s m meth c args cX10_write 6 RX10 (some .int)) (hR : 7 ≤ R.frames ∧ 158 ≤ R.locals) {hl : MemL} (Qp : Int32 → Mem → Prop) : ∀ (n : Nat) (h : Mem) (v2 : Int32) (v3 : Int32) (v4 : Int32) (v5 : Int32) (H : Heap) (locs : List Loc) (ls : Array Slot), mD (wdM E) h hl s H locs → lv_has ls 6 [(0, .ref (wad (wdM E) 0)), (2, .int v2), (3, .int v3), (4, .int v4), (5, .int v5)] → b_X10_write_59 n h v2 v3 v4 v5 Qp → W p l e R s m args below meth c H locs 0 0 (MQ below (mQi (wdM E) (fun r h1 hl1 => hl = hl1 ∧ Qp r h1)) args s 0 0 (wA (wdM E))) (F0 m 59 ls []) := by
  have hx := C.x
  have hb := C.b
  intro n
  induction n with
  | zero => intro h v2 v3 v4 v5 H locs ls Dy lv hwp; exact hwp.elim
  | succ n ih =>
    intro h v2 v3 v4 v5 H locs ls Dy lv hwp
    simp only [b_X10_write_59] at hwp
    refine lv_iload hx hb dX10_write_59 (lv_at lv 4 rfl) ?_
    refine lv_iload_n hx hb dX10_write_61 rfl (lv_at lv 2 rfl) ?_
    refine lv_icmp_ge (tgt := 100) hx hb dX10_write_62 (by decide) (fun c1 => ?_) (fun c1 => ?_)
    · have hwp := hwp.1 c1
      refine lv_iload_n hx hb dX10_write_100 rfl (lv_at lv 2 rfl) ?_
      exact x_iret C Dy ⟨rfl, hwp⟩ dX10_write_101
    · have hwp := hwp.2 c1
      refine lv_aload_n hx hb dX10_write_65 rfl (lv_at lv 0 rfl) ?_
      refine gf_X10_16_0 C Dy dX10_write_66 ?_
      refine lv_bipush (v := (60 : Int32)) hx hb dX10_write_69 (by decide) ?_
      refine lv_iload_n hx hb dX10_write_71 rfl (lv_at lv 1 rfl) ?_
      refine lv_imul hx hb dX10_write_72 ?_
      refine lv_iload hx hb dX10_write_73 (lv_at lv 4 rfl) ?_
      refine lv_iadd hx hb dX10_write_75 ?_
      refine lv_aload_n hx hb dX10_write_76 rfl (lv_at lv 0 rfl) ?_
      refine gf_X10_7_0 C Dy dX10_write_77 ?_
      refine lv_iload_n hx hb dX10_write_80 rfl (lv_at lv 1 rfl) ?_
      obtain ⟨g2, hwp⟩ := hwp
      refine x_iald C Dy wma_1 g2 dX10_write_81 ?_
      refine lv_aload_n hx hb dX10_write_82 rfl (lv_at lv 0 rfl) ?_
      refine lv_iload hx hb dX10_write_83 (lv_at lv 3 rfl) ?_
      refine lv_iload hx hb dX10_write_85 (lv_at lv 4 rfl) ?_
      refine x_cont_i Dy (x_runV (As := [.int v4, .int v5]) (rest := [.int (h 1 v2.toNatClampNeg), .int (((60 : Int32) * v2) + v5), .ref (wad (wdM E) 3)]) C Dy (m_X10_doesBy E l _ _ v4 v5 _ hwp) (cw_X10_174 C rfl rfl ⟨Nat.le_trans (Nat.le_of_ble_eq_true rfl) hR.1, Nat.le_trans (Nat.le_of_ble_eq_true rfl) hR.2⟩) wm_0 rfl rfl lv.1 rfl (Nat.le_of_ble_eq_true rfl) dX10_write_87 ⟨Nat.zero_le _, Nat.zero_le _⟩) (fun r3 h4 hl4 H locs hwp Dy => ?_)
      obtain ⟨rfl, rfl, hwp⟩ := hwp
      refine x_cont_i Dy (x_runS (As := [.int (h 1 v2.toNatClampNeg), .int r3]) (rest := [.int (((60 : Int32) * v2) + v5), .ref (wad (wdM E) 3)]) C Dy (m_X10_cut E l _ _ (h 1 v2.toNatClampNeg) r3 _ hwp) (cw_X10_90 C rfl rfl ⟨Nat.le_trans (Nat.le_of_ble_eq_true rfl) hR.1, Nat.le_trans (Nat.le_of_ble_eq_true rfl) hR.2⟩) rfl lv.1 rfl (Nat.le_of_ble_eq_true rfl) dX10_write_90 ⟨Nat.zero_le _, Nat.zero_le _⟩) (fun r5 h6 hl6 H locs hwp Dy => ?_)
      obtain ⟨rfl, rfl, hwp⟩ := hwp
      obtain ⟨g7, hwp⟩ := hwp
      refine x_iast C Dy wma_3 g7 dX10_write_93 (fun H locs Dy => ?_)
      refine lv_iinc (v := (v5 + (1 : Int32))) (lv' := [(5, .int (v5 + (1 : Int32))), (0, .ref (wad (wdM E) 0)), (2, .int v2), (3, .int v3), (4, .int v4)]) hx hb dX10_write_94 lv (k := 4) rfl rfl (by decide) rfl (fun ls lv => ?_)
      refine lv_goto (tgt := 59) hx hb dX10_write_97 (by decide) ?_
      exact ih (up2 h 3 (((60 : Int32) * v2) + v5).toNatClampNeg r5) v2 v3 v4 (v5 + (1 : Int32)) _ _ _ Dy (lv_sub lv [1, 2, 3, 4, 0] rfl) hwp
set_option maxHeartbeats 4000000 in
set_option maxRecDepth 100000 in
theorem m_X10_write (E : xE) (l : Launch) (h : Mem) (hl : MemL) (v1 : Int32) (v2 : Int32) (Qp : Int32 → Mem → Prop) (hwp : p_X10_write h v1 v2 Qp) : Met l yX10_write (wsU yX10_write cX10_write 6 (some .int)) ({ frames := 7, cells := 0, slots := 0, locals := 158 } : Room) (mPc (wdM E) [.ref (wad (wdM E) 0), .int v1, .int v2] h hl) (mQi (wdM E) (fun r h1 hl1 => hl = hl1 ∧ Qp r h1)) 0 0 (wA (wdM E)) := by
  refine x_met RX10 [(0, .ref (wad (wdM E) 0)), (1, .int v1), (2, .int v2)] (by decide) rfl (Nat.le_of_ble_eq_true rfl) rfl ?_
  intro p e s m args below meth c ls C Dy lv
  have hx := C.x
  have hb := C.b
  have hR : 7 ≤ ({ frames := 7, cells := 0, slots := 0, locals := 158 } : Room).frames ∧ 158 ≤ ({ frames := 7, cells := 0, slots := 0, locals := 158 } : Room).locals := ⟨Nat.le_refl _, Nat.le_refl _⟩
  unfold p_X10_write at hwp
  refine lv_iload_n hx hb dX10_write_0 rfl (lv_at lv 1 rfl) ?_
  refine x_cont_z Dy (x_runS (As := [.int v1]) (rest := []) C Dy (m_X10_isYear E l _ _ v1 _ hwp) (cw_X10_130 C rfl rfl ⟨Nat.le_trans (Nat.le_of_ble_eq_true rfl) hR.1, Nat.le_trans (Nat.le_of_ble_eq_true rfl) hR.2⟩) rfl lv.1 rfl (Nat.le_of_ble_eq_true rfl) dX10_write_1 ⟨Nat.zero_le _, Nat.zero_le _⟩) (fun r8 h9 hl9 H locs zr8 hwp Dy => ?_)
  obtain ⟨rfl, rfl, hwp⟩ := hwp
  refine lv_if_eq (tgt := 14) hx hb dX10_write_4 (by decide) (fun c10 => ?_) (fun c10 => ?_)
  · have hwp := hwp.1 c10
    refine lv_bipush (v := (-2 : Int32)) hx hb dX10_write_14 (by decide) ?_
    exact x_iret C Dy ⟨rfl, hwp⟩ dX10_write_16
  · have hwp := hwp.2 c10
    refine lv_iload_n hx hb dX10_write_7 rfl (lv_at lv 2 rfl) ?_
    refine x_cont_z Dy (x_runS (As := [.int v2]) (rest := []) C Dy (m_X10_isSheet E l _ _ v2 _ hwp) (cw_X10_76 C rfl rfl ⟨Nat.le_trans (Nat.le_of_ble_eq_true rfl) hR.1, Nat.le_trans (Nat.le_of_ble_eq_true rfl) hR.2⟩) rfl lv.1 rfl (Nat.le_of_ble_eq_true rfl) dX10_write_8 ⟨Nat.zero_le _, Nat.zero_le _⟩) (fun r11 h12 hl12 H locs zr11 hwp Dy => ?_)
    obtain ⟨rfl, rfl, hwp⟩ := hwp
    refine lv_if_ne (tgt := 17) hx hb dX10_write_11 (by decide) (fun c13 => ?_) (fun c13 => ?_)
    · have hwp := hwp.2 c13
      refine lv_aload_n hx hb dX10_write_17 rfl (lv_at lv 0 rfl) ?_
      refine gf_X10_7_0 C Dy dX10_write_18 ?_
      refine lv_iload_n hx hb dX10_write_21 rfl (lv_at lv 2 rfl) ?_
      obtain ⟨g14, hwp⟩ := hwp
      refine x_iald C Dy wma_1 g14 dX10_write_22 ?_
      refine lv_if_ge (tgt := 32) hx hb dX10_write_23 (by decide) (fun c15 => ?_) (fun c15 => ?_)
      · have hwp := hwp.1 c15
        refine lv_aload_n hx hb dX10_write_32 rfl (lv_at lv 0 rfl) ?_
        refine x_cont_v Dy (x_runV (As := []) (rest := []) C Dy (m_X10_find E l _ _ _ hwp) (cw_X10_152 C rfl rfl ⟨Nat.le_trans (Nat.le_of_ble_eq_true rfl) hR.1, Nat.le_trans (Nat.le_of_ble_eq_true rfl) hR.2⟩) wm_0 rfl rfl lv.1 rfl (Nat.le_of_ble_eq_true rfl) dX10_write_33 ⟨Nat.zero_le _, Nat.zero_le _⟩) (fun h17 hl17 H locs hwp Dy => ?_)
        obtain ⟨rfl, hwp⟩ := hwp
        refine lv_aload_n hx hb dX10_write_36 rfl (lv_at lv 0 rfl) ?_
        refine gf_X10_13_0 C Dy dX10_write_37 ?_
        refine lv_iload_n hx hb dX10_write_40 rfl (lv_at lv 2 rfl) ?_
        obtain ⟨g18, hwp⟩ := hwp
        refine x_iald C Dy wma_2 g18 dX10_write_41 ?_
        refine lv_bipush (v := (24 : Int32)) hx hb dX10_write_42 (by decide) ?_
        refine x_cont_i Dy (x_runS (As := [.int (h17 2 v2.toNatClampNeg), .int (24 : Int32)]) (rest := []) C Dy (m_X10_lesser E l _ _ (h17 2 v2.toNatClampNeg) (24 : Int32) _ hwp) (cw_X10_256 C rfl rfl ⟨Nat.le_trans (Nat.le_of_ble_eq_true rfl) hR.1, Nat.le_trans (Nat.le_of_ble_eq_true rfl) hR.2⟩) rfl lv.1 rfl (Nat.le_of_ble_eq_true rfl) dX10_write_44 ⟨Nat.zero_le _, Nat.zero_le _⟩) (fun r19 h20 hl20 H locs hwp Dy => ?_)
        obtain ⟨rfl, rfl, hwp⟩ := hwp
        refine lv_istore_n (lv' := [(3, .int r19), (0, .ref (wad (wdM E) 0)), (1, .int v1), (2, .int v2)]) hx hb dX10_write_47 rfl lv (by decide) rfl (fun ls lv => ?_)
        refine lv_aload_n hx hb dX10_write_48 rfl (lv_at lv 1 rfl) ?_
        refine lv_iload_n hx hb dX10_write_49 rfl (lv_at lv 2 rfl) ?_
        refine lv_iconst (v := (0 : Int32)) hx hb dX10_write_50 (by decide) ?_
        refine x_cont_i Dy (x_runV (As := [.int v1, .int (0 : Int32)]) (rest := []) C Dy (m_X10_bindsOf E l _ _ v1 (0 : Int32) _ hwp) (cw_X10_155 C rfl rfl ⟨Nat.le_trans (Nat.le_of_ble_eq_true rfl) hR.1, Nat.le_trans (Nat.le_of_ble_eq_true rfl) hR.2⟩) wm_0 rfl rfl lv.1 rfl (Nat.le_of_ble_eq_true rfl) dX10_write_51 ⟨Nat.zero_le _, Nat.zero_le _⟩) (fun r21 h22 hl22 H locs hwp Dy => ?_)
        obtain ⟨rfl, rfl, hwp⟩ := hwp
        refine lv_istore (lv' := [(4, .int r21), (3, .int r19), (0, .ref (wad (wdM E) 0)), (1, .int v1), (2, .int v2)]) hx hb dX10_write_54 lv (by decide) rfl (fun ls lv => ?_)
        refine lv_iconst (v := (0 : Int32)) hx hb dX10_write_56 (by decide) ?_
        refine lv_istore (lv' := [(5, .int (0 : Int32)), (4, .int r21), (3, .int r19), (0, .ref (wad (wdM E) 0)), (1, .int v1), (2, .int v2)]) hx hb dX10_write_57 lv (by decide) rfl (fun ls lv => ?_)
        obtain ⟨n0, hwp⟩ := hwp
        exact t_X10_write_59 E C hR Qp n0 h17 v2 r19 r21 (0 : Int32) _ _ _ Dy (lv_sub lv [3, 5, 2, 1, 0] rfl) hwp
      · have hwp := hwp.2 c15
        refine lv_aload_n hx hb dX10_write_26 rfl (lv_at lv 0 rfl) ?_
        refine lv_iconst (v := (1 : Int32)) hx hb dX10_write_27 (by decide) ?_
        refine x_cont_i Dy (x_runV (As := [.int (1 : Int32)]) (rest := []) C Dy (m_X10_finds E l _ _ (1 : Int32) _ hwp) (cw_X10_82 C rfl rfl ⟨Nat.le_trans (Nat.le_of_ble_eq_true rfl) hR.1, Nat.le_trans (Nat.le_of_ble_eq_true rfl) hR.2⟩) wm_0 rfl rfl lv.1 rfl (Nat.le_of_ble_eq_true rfl) dX10_write_28 ⟨Nat.zero_le _, Nat.zero_le _⟩) (fun r23 h24 hl24 H locs hwp Dy => ?_)
        obtain ⟨rfl, hwp⟩ := hwp
        exact x_iret C Dy ⟨rfl, hwp⟩ dX10_write_31
    · have hwp := hwp.1 c13
      refine lv_bipush (v := (-2 : Int32)) hx hb dX10_write_14 (by decide) ?_
      exact x_iret C Dy ⟨rfl, hwp⟩ dX10_write_16
def b_X10_count_56 (h : Mem) (v1 : Int32) (Qp : Int32 → Mem → Prop) : Prop := (vp_in v1 2 ∧ Qp (h 7 v1.toNatClampNeg) h)
def b_X10_count_63 (h : Mem) (v1 : Int32) (Qp : Int32 → Mem → Prop) : Prop := (vp_in (v1 - (2 : Int32)) 2 ∧ Qp (h 6 (v1 - (2 : Int32)).toNatClampNeg) h)
def p_X10_count (h : Mem) (v1 : Int32) (Qp : Int32 → Mem → Prop) : Prop := (p_X10_find h (fun h4 => ((v1 = (0 : Int32) → b_X10_count_56 h4 v1 Qp) ∧ (¬ (v1 = (0 : Int32)) → ((v1 = (1 : Int32) → b_X10_count_56 h4 v1 Qp) ∧ (¬ (v1 = (1 : Int32)) → ((v1 = (2 : Int32) → b_X10_count_63 h4 v1 Qp) ∧ (¬ (v1 = (2 : Int32)) → ((v1 = (3 : Int32) → b_X10_count_63 h4 v1 Qp) ∧ (¬ (v1 = (3 : Int32)) → ((v1 = (4 : Int32) → Qp (h4 0 11) h4) ∧ (¬ (v1 = (4 : Int32)) → ((v1 = (5 : Int32) → Qp (h4 0 13) h4) ∧ (¬ (v1 = (5 : Int32)) → ((v1 = (6 : Int32) → Qp (h4 0 21) h4) ∧ (¬ (v1 = (6 : Int32)) → ((v1 = (7 : Int32) → (p_X10_bindsOf h4 (29 : Int32) (1 : Int32) (fun r13 => (p_X10_ones r13 (fun r15 => Qp r15 h4))))) ∧ (¬ (v1 = (7 : Int32)) → ((v1 = (8 : Int32) → Qp (h4 0 4) h4) ∧ (¬ (v1 = (8 : Int32)) → Qp (-2 : Int32) h4))))))))))))))))))))
set_option maxHeartbeats 4000000 in
set_option maxRecDepth 100000 in
theorem t_X10_count_56 (E : xE) {p : Program} {l : Launch} {e : Env} {R : Room} {s : State} {m : MethodId} {args : Array Value} {below : List Frame} {meth : Method} {c : Code} (C : mC (wdM E) p s m meth c args cX10_count 2 RX10 (some .int)) (hR : 7 ≤ R.frames ∧ 158 ≤ R.locals) {hl : MemL} (Qp : Int32 → Mem → Prop) : ∀ (h : Mem) (v1 : Int32) (H : Heap) (locs : List Loc) (ls : Array Slot), mD (wdM E) h hl s H locs → lv_has ls 2 [(0, .ref (wad (wdM E) 0)), (1, .int v1)] → b_X10_count_56 h v1 Qp → W p l e R s m args below meth c H locs 0 0 (MQ below (mQi (wdM E) (fun r h1 hl1 => hl = hl1 ∧ Qp r h1)) args s 0 0 (wA (wdM E))) (F0 m 56 ls []) := by
  have hx := C.x
  have hb := C.b
  intro h v1 H locs ls Dy lv hwp
  unfold b_X10_count_56 at hwp
  refine lv_aload_n hx hb dX10_count_56 rfl (lv_at lv 0 rfl) ?_
  refine gf_X10_28_0 C Dy dX10_count_57 ?_
  refine lv_iload_n hx hb dX10_count_60 rfl (lv_at lv 1 rfl) ?_
  obtain ⟨g1, hwp⟩ := hwp
  refine x_iald C Dy wma_7 g1 dX10_count_61 ?_
  exact x_iret C Dy ⟨rfl, hwp⟩ dX10_count_62
set_option maxHeartbeats 4000000 in
set_option maxRecDepth 100000 in
theorem t_X10_count_63 (E : xE) {p : Program} {l : Launch} {e : Env} {R : Room} {s : State} {m : MethodId} {args : Array Value} {below : List Frame} {meth : Method} {c : Code} (C : mC (wdM E) p s m meth c args cX10_count 2 RX10 (some .int)) (hR : 7 ≤ R.frames ∧ 158 ≤ R.locals) {hl : MemL} (Qp : Int32 → Mem → Prop) : ∀ (h : Mem) (v1 : Int32) (H : Heap) (locs : List Loc) (ls : Array Slot), mD (wdM E) h hl s H locs → lv_has ls 2 [(0, .ref (wad (wdM E) 0)), (1, .int v1)] → b_X10_count_63 h v1 Qp → W p l e R s m args below meth c H locs 0 0 (MQ below (mQi (wdM E) (fun r h1 hl1 => hl = hl1 ∧ Qp r h1)) args s 0 0 (wA (wdM E))) (F0 m 63 ls []) := by
  have hx := C.x
  have hb := C.b
  intro h v1 H locs ls Dy lv hwp
  unfold b_X10_count_63 at hwp
  refine lv_aload_n hx hb dX10_count_63 rfl (lv_at lv 0 rfl) ?_
  refine gf_X10_25_0 C Dy dX10_count_64 ?_
  refine lv_iload_n hx hb dX10_count_67 rfl (lv_at lv 1 rfl) ?_
  refine lv_iconst (v := (2 : Int32)) hx hb dX10_count_68 (by decide) ?_
  refine lv_isub hx hb dX10_count_69 ?_
  obtain ⟨g2, hwp⟩ := hwp
  refine x_iald C Dy wma_6 g2 dX10_count_70 ?_
  exact x_iret C Dy ⟨rfl, hwp⟩ dX10_count_71
set_option maxHeartbeats 4000000 in
set_option maxRecDepth 100000 in
theorem m_X10_count (E : xE) (l : Launch) (h : Mem) (hl : MemL) (v1 : Int32) (Qp : Int32 → Mem → Prop) (hwp : p_X10_count h v1 Qp) : Met l yX10_count (wsU yX10_count cX10_count 2 (some .int)) ({ frames := 7, cells := 0, slots := 0, locals := 158 } : Room) (mPc (wdM E) [.ref (wad (wdM E) 0), .int v1] h hl) (mQi (wdM E) (fun r h1 hl1 => hl = hl1 ∧ Qp r h1)) 0 0 (wA (wdM E)) := by
  refine x_met RX10 [(0, .ref (wad (wdM E) 0)), (1, .int v1)] (by decide) rfl (Nat.le_of_ble_eq_true rfl) rfl ?_
  intro p e s m args below meth c ls C Dy lv
  have hx := C.x
  have hb := C.b
  have hR : 7 ≤ ({ frames := 7, cells := 0, slots := 0, locals := 158 } : Room).frames ∧ 158 ≤ ({ frames := 7, cells := 0, slots := 0, locals := 158 } : Room).locals := ⟨Nat.le_refl _, Nat.le_refl _⟩
  unfold p_X10_count at hwp
  refine lv_aload_n hx hb dX10_count_0 rfl (lv_at lv 0 rfl) ?_
  refine x_cont_v Dy (x_runV (As := []) (rest := []) C Dy (m_X10_find E l _ _ _ hwp) (cw_X10_152 C rfl rfl ⟨Nat.le_trans (Nat.le_of_ble_eq_true rfl) hR.1, Nat.le_trans (Nat.le_of_ble_eq_true rfl) hR.2⟩) wm_0 rfl rfl lv.1 rfl (Nat.le_of_ble_eq_true rfl) dX10_count_1 ⟨Nat.zero_le _, Nat.zero_le _⟩) (fun h4 hl4 H locs hwp Dy => ?_)
  obtain ⟨rfl, hwp⟩ := hwp
  refine lv_iload_n hx hb dX10_count_4 rfl (lv_at lv 1 rfl) ?_
  by_cases c5 : v1 = (0 : Int32)
  · have hwp := hwp.1 c5
    refine lv_tableIn (off := 51) (tgt := 56) hx hb dX10_count_5 (by rw [c5]; decide) (by rw [c5]; decide) (by rw [c5]; rfl) (by decide) ?_
    exact t_X10_count_56 E C hR Qp h4 v1 _ _ _ Dy (lv_sub lv [0, 1] rfl) hwp
  · have hwp := hwp.2 c5
    by_cases c6 : v1 = (1 : Int32)
    · have hwp := hwp.1 c6
      refine lv_tableIn (off := 51) (tgt := 56) hx hb dX10_count_5 (by rw [c6]; decide) (by rw [c6]; decide) (by rw [c6]; rfl) (by decide) ?_
      exact t_X10_count_56 E C hR Qp h4 v1 _ _ _ Dy (lv_sub lv [0, 1] rfl) hwp
    · have hwp := hwp.2 c6
      by_cases c7 : v1 = (2 : Int32)
      · have hwp := hwp.1 c7
        refine lv_tableIn (off := 58) (tgt := 63) hx hb dX10_count_5 (by rw [c7]; decide) (by rw [c7]; decide) (by rw [c7]; rfl) (by decide) ?_
        exact t_X10_count_63 E C hR Qp h4 v1 _ _ _ Dy (lv_sub lv [0, 1] rfl) hwp
      · have hwp := hwp.2 c7
        by_cases c8 : v1 = (3 : Int32)
        · have hwp := hwp.1 c8
          refine lv_tableIn (off := 58) (tgt := 63) hx hb dX10_count_5 (by rw [c8]; decide) (by rw [c8]; decide) (by rw [c8]; rfl) (by decide) ?_
          exact t_X10_count_63 E C hR Qp h4 v1 _ _ _ Dy (lv_sub lv [0, 1] rfl) hwp
        · have hwp := hwp.2 c8
          by_cases c9 : v1 = (4 : Int32)
          · have hwp := hwp.1 c9
            refine lv_tableIn (off := 67) (tgt := 72) hx hb dX10_count_5 (by rw [c9]; decide) (by rw [c9]; decide) (by rw [c9]; rfl) (by decide) ?_
            refine lv_aload_n hx hb dX10_count_72 rfl (lv_at lv 0 rfl) ?_
            refine gf_X10_135_0 C Dy dX10_count_73 ?_
            exact x_iret C Dy ⟨rfl, hwp⟩ dX10_count_76
          · have hwp := hwp.2 c9
            by_cases c10 : v1 = (5 : Int32)
            · have hwp := hwp.1 c10
              refine lv_tableIn (off := 72) (tgt := 77) hx hb dX10_count_5 (by rw [c10]; decide) (by rw [c10]; decide) (by rw [c10]; rfl) (by decide) ?_
              refine lv_aload_n hx hb dX10_count_77 rfl (lv_at lv 0 rfl) ?_
              refine gf_X10_138_0 C Dy dX10_count_78 ?_
              exact x_iret C Dy ⟨rfl, hwp⟩ dX10_count_81
            · have hwp := hwp.2 c10
              by_cases c11 : v1 = (6 : Int32)
              · have hwp := hwp.1 c11
                refine lv_tableIn (off := 77) (tgt := 82) hx hb dX10_count_5 (by rw [c11]; decide) (by rw [c11]; decide) (by rw [c11]; rfl) (by decide) ?_
                refine lv_aload_n hx hb dX10_count_82 rfl (lv_at lv 0 rfl) ?_
                refine gf_X10_212_0 C Dy dX10_count_83 ?_
                exact x_iret C Dy ⟨rfl, hwp⟩ dX10_count_86
              · have hwp := hwp.2 c11
                by_cases c12 : v1 = (7 : Int32)
                · have hwp := hwp.1 c12
                  refine lv_tableIn (off := 82) (tgt := 87) hx hb dX10_count_5 (by rw [c12]; decide) (by rw [c12]; decide) (by rw [c12]; rfl) (by decide) ?_
                  refine lv_aload_n hx hb dX10_count_87 rfl (lv_at lv 0 rfl) ?_
                  refine lv_bipush (v := (29 : Int32)) hx hb dX10_count_88 (by decide) ?_
                  refine lv_iconst (v := (1 : Int32)) hx hb dX10_count_90 (by decide) ?_
                  refine x_cont_i Dy (x_runV (As := [.int (29 : Int32), .int (1 : Int32)]) (rest := []) C Dy (m_X10_bindsOf E l _ _ (29 : Int32) (1 : Int32) _ hwp) (cw_X10_155 C rfl rfl ⟨Nat.le_trans (Nat.le_of_ble_eq_true rfl) hR.1, Nat.le_trans (Nat.le_of_ble_eq_true rfl) hR.2⟩) wm_0 rfl rfl lv.1 rfl (Nat.le_of_ble_eq_true rfl) dX10_count_91 ⟨Nat.zero_le _, Nat.zero_le _⟩) (fun r13 h14 hl14 H locs hwp Dy => ?_)
                  obtain ⟨rfl, rfl, hwp⟩ := hwp
                  refine x_cont_i Dy (x_runS (As := [.int r13]) (rest := []) C Dy (m_X10_ones E l _ _ r13 _ hwp) (cw_X10_165 C rfl rfl ⟨Nat.le_trans (Nat.le_of_ble_eq_true rfl) hR.1, Nat.le_trans (Nat.le_of_ble_eq_true rfl) hR.2⟩) rfl lv.1 rfl (Nat.le_of_ble_eq_true rfl) dX10_count_94 ⟨Nat.zero_le _, Nat.zero_le _⟩) (fun r15 h16 hl16 H locs hwp Dy => ?_)
                  obtain ⟨rfl, rfl, hwp⟩ := hwp
                  exact x_iret C Dy ⟨rfl, hwp⟩ dX10_count_97
                · have hwp := hwp.2 c12
                  by_cases c17 : v1 = (8 : Int32)
                  · have hwp := hwp.1 c17
                    refine lv_tableIn (off := 93) (tgt := 98) hx hb dX10_count_5 (by rw [c17]; decide) (by rw [c17]; decide) (by rw [c17]; rfl) (by decide) ?_
                    refine lv_aload_n hx hb dX10_count_98 rfl (lv_at lv 0 rfl) ?_
                    refine gf_X10_70_0 C Dy dX10_count_99 ?_
                    exact x_iret C Dy ⟨rfl, hwp⟩ dX10_count_102
                  · have hwp := hwp.2 c17
                    have nc5 := lv_neT c5 (a := 0) (by decide)
                    have nc6 := lv_neT c6 (a := 1) (by decide)
                    have nc7 := lv_neT c7 (a := 2) (by decide)
                    have nc8 := lv_neT c8 (a := 3) (by decide)
                    have nc9 := lv_neT c9 (a := 4) (by decide)
                    have nc10 := lv_neT c10 (a := 5) (by decide)
                    have nc11 := lv_neT c11 (a := 6) (by decide)
                    have nc12 := lv_neT c12 (a := 7) (by decide)
                    have nc17 := lv_neT c17 (a := 8) (by decide)
                    refine lv_tableOut (tgt := 103) hx hb dX10_count_5 (by omega) (by decide) ?_
                    refine lv_bipush (v := (-2 : Int32)) hx hb dX10_count_103 (by decide) ?_
                    exact x_iret C Dy ⟨rfl, hwp⟩ dX10_count_105
def p_X10_tellsHour (h : Mem) (v1 : Int64) (v3 : Int32) (v4 : Int32) (Qp : Int64 → Prop) : Prop := (p_X10_bindsOf h v3 (0 : Int32) (fun r1 => (p_X10_doesBy h r1 v4 (fun r3 => (∀ x5 : Int64, x5 = (((31 : Int64) * v1) + (r3.toInt64)) → (p_X10_exemptOf h v3 v4 (1 : Int32) (fun r6 => (p_X10_tells r6 (0 : Int32) (fun r8 => (∀ x10 : Int64, x10 = (((31 : Int64) * x5) + (r8.toInt64)) → (p_X10_tells r6 (1 : Int32) (fun r11 => (∀ x13 : Int64, x13 = (((31 : Int64) * x10) + (r11.toInt64)) → (p_X10_goutOf h (5 : Int32) v3 v4 (1 : Int32) (0 : Int32) (fun r14 => (∀ x16 : Int64, x16 = (((31 : Int64) * x13) + r14) → (p_X10_goutOf h (5 : Int32) v3 v4 (1 : Int32) (1 : Int32) (fun r17 => Qp (((31 : Int64) * x16) + r17)))))))))))))))))))
set_option maxHeartbeats 4000000 in
set_option maxRecDepth 100000 in
theorem m_X10_tellsHour (E : xE) (l : Launch) (h : Mem) (hl : MemL) (v1 : Int64) (v3 : Int32) (v4 : Int32) (Qp : Int64 → Prop) (hwp : p_X10_tellsHour h v1 v3 v4 Qp) : Met l yX10_tellsHour (wsU yX10_tellsHour cX10_tellsHour 8 (some .long)) ({ frames := 5, cells := 0, slots := 0, locals := 130 } : Room) (mPc (wdM E) [.ref (wad (wdM E) 0), .long v1, .int v3, .int v4] h hl) (mQl (wdM E) (fun r h1 hl1 => h = h1 ∧ hl = hl1 ∧ Qp r)) 0 0 (wA (wdM E)) := by
  refine x_met RX10 [(0, .ref (wad (wdM E) 0)), (1, .long v1), (3, .int v3), (4, .int v4)] (by decide) rfl (Nat.le_of_ble_eq_true rfl) rfl ?_
  intro p e s m args below meth c ls C Dy lv
  have hx := C.x
  have hb := C.b
  have hR : 5 ≤ ({ frames := 5, cells := 0, slots := 0, locals := 130 } : Room).frames ∧ 130 ≤ ({ frames := 5, cells := 0, slots := 0, locals := 130 } : Room).locals := ⟨Nat.le_refl _, Nat.le_refl _⟩
  unfold p_X10_tellsHour at hwp
  refine lv_ldc2 hx hb C.ow (C.ts _ k_1188) dX10_tellsHour_0 ?_
  refine lv_lload_n hx hb dX10_tellsHour_3 rfl (lv_at lv 1 rfl) ?_
  refine lv_lmul hx hb dX10_tellsHour_4 ?_
  refine lv_aload_n hx hb dX10_tellsHour_5 rfl (lv_at lv 0 rfl) ?_
  refine lv_aload_n hx hb dX10_tellsHour_6 rfl (lv_at lv 0 rfl) ?_
  refine lv_iload_n hx hb dX10_tellsHour_7 rfl (lv_at lv 2 rfl) ?_
  refine lv_iconst (v := (0 : Int32)) hx hb dX10_tellsHour_8 (by decide) ?_
  refine x_cont_i Dy (x_runV (As := [.int v3, .int (0 : Int32)]) (rest := [.ref (wad (wdM E) 0), .long ((31 : Int64) * v1)]) C Dy (m_X10_bindsOf E l _ _ v3 (0 : Int32) _ hwp) (cw_X10_155 C rfl rfl ⟨Nat.le_trans (Nat.le_of_ble_eq_true rfl) hR.1, Nat.le_trans (Nat.le_of_ble_eq_true rfl) hR.2⟩) wm_0 rfl rfl lv.1 rfl (Nat.le_of_ble_eq_true rfl) dX10_tellsHour_9 ⟨Nat.zero_le _, Nat.zero_le _⟩) (fun r1 h2 hl2 H locs hwp Dy => ?_)
  obtain ⟨rfl, rfl, hwp⟩ := hwp
  refine lv_iload hx hb dX10_tellsHour_12 (lv_at lv 3 rfl) ?_
  refine x_cont_i Dy (x_runV (As := [.int r1, .int v4]) (rest := [.long ((31 : Int64) * v1)]) C Dy (m_X10_doesBy E l _ _ r1 v4 _ hwp) (cw_X10_174 C rfl rfl ⟨Nat.le_trans (Nat.le_of_ble_eq_true rfl) hR.1, Nat.le_trans (Nat.le_of_ble_eq_true rfl) hR.2⟩) wm_0 rfl rfl lv.1 rfl (Nat.le_of_ble_eq_true rfl) dX10_tellsHour_14 ⟨Nat.zero_le _, Nat.zero_le _⟩) (fun r3 h4 hl4 H locs hwp Dy => ?_)
  obtain ⟨rfl, rfl, hwp⟩ := hwp
  refine lv_i2l hx hb dX10_tellsHour_17 rfl ?_
  refine lv_ladd hx hb dX10_tellsHour_18 ?_
  refine lv_topl (fun x5 ex5 => ?_)
  have hwp := hwp x5 ex5
  refine lv_lstore (lv' := [(5, .long x5), (0, .ref (wad (wdM E) 0)), (1, .long v1), (3, .int v3), (4, .int v4)]) hx hb dX10_tellsHour_19 lv (by decide) rfl (fun ls lv => ?_)
  refine lv_aload_n hx hb dX10_tellsHour_21 rfl (lv_at lv 1 rfl) ?_
  refine lv_iload_n hx hb dX10_tellsHour_22 rfl (lv_at lv 3 rfl) ?_
  refine lv_iload hx hb dX10_tellsHour_23 (lv_at lv 4 rfl) ?_
  refine lv_iconst (v := (1 : Int32)) hx hb dX10_tellsHour_25 (by decide) ?_
  refine x_cont_i Dy (x_runV (As := [.int v3, .int v4, .int (1 : Int32)]) (rest := []) C Dy (m_X10_exemptOf E l _ _ v3 v4 (1 : Int32) _ hwp) (cw_X10_193 C rfl rfl ⟨Nat.le_trans (Nat.le_of_ble_eq_true rfl) hR.1, Nat.le_trans (Nat.le_of_ble_eq_true rfl) hR.2⟩) wm_0 rfl rfl lv.1 rfl (Nat.le_of_ble_eq_true rfl) dX10_tellsHour_26 ⟨Nat.zero_le _, Nat.zero_le _⟩) (fun r6 h7 hl7 H locs hwp Dy => ?_)
  obtain ⟨rfl, rfl, hwp⟩ := hwp
  refine lv_istore (lv' := [(7, .int r6), (5, .long x5), (0, .ref (wad (wdM E) 0)), (1, .long v1), (3, .int v3), (4, .int v4)]) hx hb dX10_tellsHour_29 lv (by decide) rfl (fun ls lv => ?_)
  refine lv_ldc2 hx hb C.ow (C.ts _ k_1188) dX10_tellsHour_31 ?_
  refine lv_lload hx hb dX10_tellsHour_34 (lv_at lv 1 rfl) ?_
  refine lv_lmul hx hb dX10_tellsHour_36 ?_
  refine lv_iload hx hb dX10_tellsHour_37 (lv_at lv 0 rfl) ?_
  refine lv_iconst (v := (0 : Int32)) hx hb dX10_tellsHour_39 (by decide) ?_
  refine x_cont_i Dy (x_runS (As := [.int r6, .int (0 : Int32)]) (rest := [.long ((31 : Int64) * x5)]) C Dy (m_X10_tells E l _ _ r6 (0 : Int32) _ hwp) (cw_X10_196 C rfl rfl ⟨Nat.le_trans (Nat.le_of_ble_eq_true rfl) hR.1, Nat.le_trans (Nat.le_of_ble_eq_true rfl) hR.2⟩) rfl lv.1 rfl (Nat.le_of_ble_eq_true rfl) dX10_tellsHour_40 ⟨Nat.zero_le _, Nat.zero_le _⟩) (fun r8 h9 hl9 H locs hwp Dy => ?_)
  obtain ⟨rfl, rfl, hwp⟩ := hwp
  refine lv_i2l hx hb dX10_tellsHour_43 rfl ?_
  refine lv_ladd hx hb dX10_tellsHour_44 ?_
  refine lv_topl (fun x10 ex10 => ?_)
  have hwp := hwp x10 ex10
  refine lv_lstore (lv' := [(5, .long x10), (7, .int r6), (0, .ref (wad (wdM E) 0)), (1, .long v1), (3, .int v3), (4, .int v4)]) hx hb dX10_tellsHour_45 lv (by decide) rfl (fun ls lv => ?_)
  refine lv_ldc2 hx hb C.ow (C.ts _ k_1188) dX10_tellsHour_47 ?_
  refine lv_lload hx hb dX10_tellsHour_50 (lv_at lv 0 rfl) ?_
  refine lv_lmul hx hb dX10_tellsHour_52 ?_
  refine lv_iload hx hb dX10_tellsHour_53 (lv_at lv 1 rfl) ?_
  refine lv_iconst (v := (1 : Int32)) hx hb dX10_tellsHour_55 (by decide) ?_
  refine x_cont_i Dy (x_runS (As := [.int r6, .int (1 : Int32)]) (rest := [.long ((31 : Int64) * x10)]) C Dy (m_X10_tells E l _ _ r6 (1 : Int32) _ hwp) (cw_X10_196 C rfl rfl ⟨Nat.le_trans (Nat.le_of_ble_eq_true rfl) hR.1, Nat.le_trans (Nat.le_of_ble_eq_true rfl) hR.2⟩) rfl lv.1 rfl (Nat.le_of_ble_eq_true rfl) dX10_tellsHour_56 ⟨Nat.zero_le _, Nat.zero_le _⟩) (fun r11 h12 hl12 H locs hwp Dy => ?_)
  obtain ⟨rfl, rfl, hwp⟩ := hwp
  refine lv_i2l hx hb dX10_tellsHour_59 rfl ?_
  refine lv_ladd hx hb dX10_tellsHour_60 ?_
  refine lv_topl (fun x13 ex13 => ?_)
  have hwp := hwp x13 ex13
  refine lv_lstore (lv' := [(5, .long x13), (7, .int r6), (0, .ref (wad (wdM E) 0)), (1, .long v1), (3, .int v3), (4, .int v4)]) hx hb dX10_tellsHour_61 lv (by decide) rfl (fun ls lv => ?_)
  refine lv_ldc2 hx hb C.ow (C.ts _ k_1188) dX10_tellsHour_63 ?_
  refine lv_lload hx hb dX10_tellsHour_66 (lv_at lv 0 rfl) ?_
  refine lv_lmul hx hb dX10_tellsHour_68 ?_
  refine lv_aload_n hx hb dX10_tellsHour_69 rfl (lv_at lv 2 rfl) ?_
  refine lv_iconst (v := (5 : Int32)) hx hb dX10_tellsHour_70 (by decide) ?_
  refine lv_iload_n hx hb dX10_tellsHour_71 rfl (lv_at lv 4 rfl) ?_
  refine lv_iload hx hb dX10_tellsHour_72 (lv_at lv 5 rfl) ?_
  refine lv_iconst (v := (1 : Int32)) hx hb dX10_tellsHour_74 (by decide) ?_
  refine lv_iconst (v := (0 : Int32)) hx hb dX10_tellsHour_75 (by decide) ?_
  refine x_cont_l Dy (x_runV (As := [.int (5 : Int32), .int v3, .int v4, .int (1 : Int32), .int (0 : Int32)]) (rest := [.long ((31 : Int64) * x13)]) C Dy (m_X10_goutOf E l _ _ (5 : Int32) v3 v4 (1 : Int32) (0 : Int32) _ hwp) (cw_X10_236 C rfl rfl ⟨Nat.le_trans (Nat.le_of_ble_eq_true rfl) hR.1, Nat.le_trans (Nat.le_of_ble_eq_true rfl) hR.2⟩) wm_0 rfl rfl lv.1 rfl (Nat.le_of_ble_eq_true rfl) dX10_tellsHour_76 ⟨Nat.zero_le _, Nat.zero_le _⟩) (fun r14 h15 hl15 H locs hwp Dy => ?_)
  obtain ⟨rfl, rfl, hwp⟩ := hwp
  refine lv_ladd hx hb dX10_tellsHour_79 ?_
  refine lv_topl (fun x16 ex16 => ?_)
  have hwp := hwp x16 ex16
  refine lv_lstore (lv' := [(5, .long x16), (7, .int r6), (0, .ref (wad (wdM E) 0)), (1, .long v1), (3, .int v3), (4, .int v4)]) hx hb dX10_tellsHour_80 lv (by decide) rfl (fun ls lv => ?_)
  refine lv_ldc2 hx hb C.ow (C.ts _ k_1188) dX10_tellsHour_82 ?_
  refine lv_lload hx hb dX10_tellsHour_85 (lv_at lv 0 rfl) ?_
  refine lv_lmul hx hb dX10_tellsHour_87 ?_
  refine lv_aload_n hx hb dX10_tellsHour_88 rfl (lv_at lv 2 rfl) ?_
  refine lv_iconst (v := (5 : Int32)) hx hb dX10_tellsHour_89 (by decide) ?_
  refine lv_iload_n hx hb dX10_tellsHour_90 rfl (lv_at lv 4 rfl) ?_
  refine lv_iload hx hb dX10_tellsHour_91 (lv_at lv 5 rfl) ?_
  refine lv_iconst (v := (1 : Int32)) hx hb dX10_tellsHour_93 (by decide) ?_
  refine lv_iconst (v := (1 : Int32)) hx hb dX10_tellsHour_94 (by decide) ?_
  refine x_cont_l Dy (x_runV (As := [.int (5 : Int32), .int v3, .int v4, .int (1 : Int32), .int (1 : Int32)]) (rest := [.long ((31 : Int64) * x16)]) C Dy (m_X10_goutOf E l _ _ (5 : Int32) v3 v4 (1 : Int32) (1 : Int32) _ hwp) (cw_X10_236 C rfl rfl ⟨Nat.le_trans (Nat.le_of_ble_eq_true rfl) hR.1, Nat.le_trans (Nat.le_of_ble_eq_true rfl) hR.2⟩) wm_0 rfl rfl lv.1 rfl (Nat.le_of_ble_eq_true rfl) dX10_tellsHour_95 ⟨Nat.zero_le _, Nat.zero_le _⟩) (fun r17 h18 hl18 H locs hwp Dy => ?_)
  obtain ⟨rfl, rfl, hwp⟩ := hwp
  refine lv_ladd hx hb dX10_tellsHour_98 ?_
  exact x_lret C Dy ⟨rfl, rfl, hwp⟩ dX10_tellsHour_99
def b_X10_tellsYear_6 : Nat → Mem → Int32 → Int64 → Int32 → (Int64 → Mem → Prop) → Prop
  | 0 => fun _ _ _ _ _ => False
  | n + 1 => fun h v3 v4 v6 Qp => (((3 : Int32) ≤ v6 → (p_X10_joyOf h v3 (0 : Int32) (fun r2 => (∀ x4 : Int64, x4 = (((31 : Int64) * v4) + (r2.toInt64)) → (p_X10_joyOf h v3 (1 : Int32) (fun r5 => (∀ x7 : Int64, x7 = (((31 : Int64) * x4) + (r5.toInt64)) → (p_X10_quarrelsOf h v3 (0 : Int32) (fun r8 => (∀ x10 : Int64, x10 = (((31 : Int64) * x7) + (r8.toInt64)) → (p_X10_quarrelsOf h v3 (1 : Int32) (fun r11 => (∀ x13 : Int64, x13 = (((31 : Int64) * x10) + (r11.toInt64)) → (p_X10_keepOf h v3 (fun r14 h15 => (∀ x16 : Int64, x16 = (((31 : Int64) * x13) + (r14.toInt64)) → (∀ x17 : Int64, x17 = (((31 : Int64) * x16) + ((h15 0 17).toInt64)) → (p_X10_tellsHour h15 x17 v3 (0 : Int32) (fun r18 => (p_X10_tellsHour h15 r18 v3 (8 : Int32) (fun r20 => (p_X10_tellsHour h15 r20 v3 (20 : Int32) (fun r22 => Qp r22 h15))))))))))))))))))))))) ∧ (¬ ((3 : Int32) ≤ v6) → (p_X10_bindsOf h v3 v6 (fun r24 => (∀ x26 : Int64, x26 = (((31 : Int64) * v4) + (r24.toInt64)) → b_X10_tellsYear_6 n h v3 x26 (v6 + (1 : Int32)) Qp)))))
def p_X10_tellsYear (h : Mem) (v1 : Int64) (v3 : Int32) (Qp : Int64 → Mem → Prop) : Prop := (∃ n6, b_X10_tellsYear_6 n6 h v3 v1 (0 : Int32) Qp)
set_option maxHeartbeats 4000000 in
set_option maxRecDepth 100000 in
theorem t_X10_tellsYear_6 (E : xE) {p : Program} {l : Launch} {e : Env} {R : Room} {s : State} {m : MethodId} {args : Array Value} {below : List Frame} {meth : Method} {c : Code} (C : mC (wdM E) p s m meth c args cX10_tellsYear 7 RX10 (some .long)) (hR : 6 ≤ R.frames ∧ 157 ≤ R.locals) {hl : MemL} (Qp : Int64 → Mem → Prop) : ∀ (n : Nat) (h : Mem) (v3 : Int32) (v4 : Int64) (v6 : Int32) (H : Heap) (locs : List Loc) (ls : Array Slot), mD (wdM E) h hl s H locs → lv_has ls 7 [(0, .ref (wad (wdM E) 0)), (3, .int v3), (4, .long v4), (6, .int v6)] → b_X10_tellsYear_6 n h v3 v4 v6 Qp → W p l e R s m args below meth c H locs 0 0 (MQ below (mQl (wdM E) (fun r h1 hl1 => hl = hl1 ∧ Qp r h1)) args s 0 0 (wA (wdM E))) (F0 m 6 ls []) := by
  have hx := C.x
  have hb := C.b
  intro n
  induction n with
  | zero => intro h v3 v4 v6 H locs ls Dy lv hwp; exact hwp.elim
  | succ n ih =>
    intro h v3 v4 v6 H locs ls Dy lv hwp
    simp only [b_X10_tellsYear_6] at hwp
    refine lv_iload hx hb dX10_tellsYear_6 (lv_at lv 3 rfl) ?_
    refine lv_iconst (v := (3 : Int32)) hx hb dX10_tellsYear_8 (by decide) ?_
    refine lv_icmp_ge (tgt := 35) hx hb dX10_tellsYear_9 (by decide) (fun c1 => ?_) (fun c1 => ?_)
    · have hwp := hwp.1 c1
      refine lv_ldc2 hx hb C.ow (C.ts _ k_1188) dX10_tellsYear_35 ?_
      refine lv_lload hx hb dX10_tellsYear_38 (lv_at lv 2 rfl) ?_
      refine lv_lmul hx hb dX10_tellsYear_40 ?_
      refine lv_aload_n hx hb dX10_tellsYear_41 rfl (lv_at lv 0 rfl) ?_
      refine lv_iload_n hx hb dX10_tellsYear_42 rfl (lv_at lv 1 rfl) ?_
      refine lv_iconst (v := (0 : Int32)) hx hb dX10_tellsYear_43 (by decide) ?_
      refine x_cont_i Dy (x_runV (As := [.int v3, .int (0 : Int32)]) (rest := [.long ((31 : Int64) * v4)]) C Dy (m_X10_joyOf E l _ _ v3 (0 : Int32) _ hwp) (cw_X10_185 C rfl rfl ⟨Nat.le_trans (Nat.le_of_ble_eq_true rfl) hR.1, Nat.le_trans (Nat.le_of_ble_eq_true rfl) hR.2⟩) wm_0 rfl rfl lv.1 rfl (Nat.le_of_ble_eq_true rfl) dX10_tellsYear_44 ⟨Nat.zero_le _, Nat.zero_le _⟩) (fun r2 h3 hl3 H locs hwp Dy => ?_)
      obtain ⟨rfl, rfl, hwp⟩ := hwp
      refine lv_i2l hx hb dX10_tellsYear_47 rfl ?_
      refine lv_ladd hx hb dX10_tellsYear_48 ?_
      refine lv_topl (fun x4 ex4 => ?_)
      have hwp := hwp x4 ex4
      refine lv_lstore (lv' := [(4, .long x4), (0, .ref (wad (wdM E) 0)), (3, .int v3), (6, .int v6)]) hx hb dX10_tellsYear_49 lv (by decide) rfl (fun ls lv => ?_)
      refine lv_ldc2 hx hb C.ow (C.ts _ k_1188) dX10_tellsYear_51 ?_
      refine lv_lload hx hb dX10_tellsYear_54 (lv_at lv 0 rfl) ?_
      refine lv_lmul hx hb dX10_tellsYear_56 ?_
      refine lv_aload_n hx hb dX10_tellsYear_57 rfl (lv_at lv 1 rfl) ?_
      refine lv_iload_n hx hb dX10_tellsYear_58 rfl (lv_at lv 2 rfl) ?_
      refine lv_iconst (v := (1 : Int32)) hx hb dX10_tellsYear_59 (by decide) ?_
      refine x_cont_i Dy (x_runV (As := [.int v3, .int (1 : Int32)]) (rest := [.long ((31 : Int64) * x4)]) C Dy (m_X10_joyOf E l _ _ v3 (1 : Int32) _ hwp) (cw_X10_185 C rfl rfl ⟨Nat.le_trans (Nat.le_of_ble_eq_true rfl) hR.1, Nat.le_trans (Nat.le_of_ble_eq_true rfl) hR.2⟩) wm_0 rfl rfl lv.1 rfl (Nat.le_of_ble_eq_true rfl) dX10_tellsYear_60 ⟨Nat.zero_le _, Nat.zero_le _⟩) (fun r5 h6 hl6 H locs hwp Dy => ?_)
      obtain ⟨rfl, rfl, hwp⟩ := hwp
      refine lv_i2l hx hb dX10_tellsYear_63 rfl ?_
      refine lv_ladd hx hb dX10_tellsYear_64 ?_
      refine lv_topl (fun x7 ex7 => ?_)
      have hwp := hwp x7 ex7
      refine lv_lstore (lv' := [(4, .long x7), (0, .ref (wad (wdM E) 0)), (3, .int v3), (6, .int v6)]) hx hb dX10_tellsYear_65 lv (by decide) rfl (fun ls lv => ?_)
      refine lv_ldc2 hx hb C.ow (C.ts _ k_1188) dX10_tellsYear_67 ?_
      refine lv_lload hx hb dX10_tellsYear_70 (lv_at lv 0 rfl) ?_
      refine lv_lmul hx hb dX10_tellsYear_72 ?_
      refine lv_aload_n hx hb dX10_tellsYear_73 rfl (lv_at lv 1 rfl) ?_
      refine lv_iload_n hx hb dX10_tellsYear_74 rfl (lv_at lv 2 rfl) ?_
      refine lv_iconst (v := (0 : Int32)) hx hb dX10_tellsYear_75 (by decide) ?_
      refine x_cont_i Dy (x_runV (As := [.int v3, .int (0 : Int32)]) (rest := [.long ((31 : Int64) * x7)]) C Dy (m_X10_quarrelsOf E l _ _ v3 (0 : Int32) _ hwp) (cw_X10_188 C rfl rfl ⟨Nat.le_trans (Nat.le_of_ble_eq_true rfl) hR.1, Nat.le_trans (Nat.le_of_ble_eq_true rfl) hR.2⟩) wm_0 rfl rfl lv.1 rfl (Nat.le_of_ble_eq_true rfl) dX10_tellsYear_76 ⟨Nat.zero_le _, Nat.zero_le _⟩) (fun r8 h9 hl9 H locs hwp Dy => ?_)
      obtain ⟨rfl, rfl, hwp⟩ := hwp
      refine lv_i2l hx hb dX10_tellsYear_79 rfl ?_
      refine lv_ladd hx hb dX10_tellsYear_80 ?_
      refine lv_topl (fun x10 ex10 => ?_)
      have hwp := hwp x10 ex10
      refine lv_lstore (lv' := [(4, .long x10), (0, .ref (wad (wdM E) 0)), (3, .int v3), (6, .int v6)]) hx hb dX10_tellsYear_81 lv (by decide) rfl (fun ls lv => ?_)
      refine lv_ldc2 hx hb C.ow (C.ts _ k_1188) dX10_tellsYear_83 ?_
      refine lv_lload hx hb dX10_tellsYear_86 (lv_at lv 0 rfl) ?_
      refine lv_lmul hx hb dX10_tellsYear_88 ?_
      refine lv_aload_n hx hb dX10_tellsYear_89 rfl (lv_at lv 1 rfl) ?_
      refine lv_iload_n hx hb dX10_tellsYear_90 rfl (lv_at lv 2 rfl) ?_
      refine lv_iconst (v := (1 : Int32)) hx hb dX10_tellsYear_91 (by decide) ?_
      refine x_cont_i Dy (x_runV (As := [.int v3, .int (1 : Int32)]) (rest := [.long ((31 : Int64) * x10)]) C Dy (m_X10_quarrelsOf E l _ _ v3 (1 : Int32) _ hwp) (cw_X10_188 C rfl rfl ⟨Nat.le_trans (Nat.le_of_ble_eq_true rfl) hR.1, Nat.le_trans (Nat.le_of_ble_eq_true rfl) hR.2⟩) wm_0 rfl rfl lv.1 rfl (Nat.le_of_ble_eq_true rfl) dX10_tellsYear_92 ⟨Nat.zero_le _, Nat.zero_le _⟩) (fun r11 h12 hl12 H locs hwp Dy => ?_)
      obtain ⟨rfl, rfl, hwp⟩ := hwp
      refine lv_i2l hx hb dX10_tellsYear_95 rfl ?_
      refine lv_ladd hx hb dX10_tellsYear_96 ?_
      refine lv_topl (fun x13 ex13 => ?_)
      have hwp := hwp x13 ex13
      refine lv_lstore (lv' := [(4, .long x13), (0, .ref (wad (wdM E) 0)), (3, .int v3), (6, .int v6)]) hx hb dX10_tellsYear_97 lv (by decide) rfl (fun ls lv => ?_)
      refine lv_ldc2 hx hb C.ow (C.ts _ k_1188) dX10_tellsYear_99 ?_
      refine lv_lload hx hb dX10_tellsYear_102 (lv_at lv 0 rfl) ?_
      refine lv_lmul hx hb dX10_tellsYear_104 ?_
      refine lv_aload_n hx hb dX10_tellsYear_105 rfl (lv_at lv 1 rfl) ?_
      refine lv_iload_n hx hb dX10_tellsYear_106 rfl (lv_at lv 2 rfl) ?_
      refine x_cont_i Dy (x_runV (As := [.int v3]) (rest := [.long ((31 : Int64) * x13)]) C Dy (m_X10_keepOf E l _ _ v3 _ hwp) (cw_X10_202 C rfl rfl ⟨Nat.le_trans (Nat.le_of_ble_eq_true rfl) hR.1, Nat.le_trans (Nat.le_of_ble_eq_true rfl) hR.2⟩) wm_0 rfl rfl lv.1 rfl (Nat.le_of_ble_eq_true rfl) dX10_tellsYear_107 ⟨Nat.zero_le _, Nat.zero_le _⟩) (fun r14 h15 hl15 H locs hwp Dy => ?_)
      obtain ⟨rfl, hwp⟩ := hwp
      refine lv_i2l hx hb dX10_tellsYear_110 rfl ?_
      refine lv_ladd hx hb dX10_tellsYear_111 ?_
      refine lv_topl (fun x16 ex16 => ?_)
      have hwp := hwp x16 ex16
      refine lv_lstore (lv' := [(4, .long x16), (0, .ref (wad (wdM E) 0)), (3, .int v3), (6, .int v6)]) hx hb dX10_tellsYear_112 lv (by decide) rfl (fun ls lv => ?_)
      refine lv_ldc2 hx hb C.ow (C.ts _ k_1188) dX10_tellsYear_114 ?_
      refine lv_lload hx hb dX10_tellsYear_117 (lv_at lv 0 rfl) ?_
      refine lv_lmul hx hb dX10_tellsYear_119 ?_
      refine lv_aload_n hx hb dX10_tellsYear_120 rfl (lv_at lv 1 rfl) ?_
      refine gf_X10_199_0 C Dy dX10_tellsYear_121 ?_
      refine lv_i2l hx hb dX10_tellsYear_124 rfl ?_
      refine lv_ladd hx hb dX10_tellsYear_125 ?_
      refine lv_topl (fun x17 ex17 => ?_)
      have hwp := hwp x17 ex17
      refine lv_lstore (lv' := [(4, .long x17), (0, .ref (wad (wdM E) 0)), (3, .int v3), (6, .int v6)]) hx hb dX10_tellsYear_126 lv (by decide) rfl (fun ls lv => ?_)
      refine lv_aload_n hx hb dX10_tellsYear_128 rfl (lv_at lv 1 rfl) ?_
      refine lv_aload_n hx hb dX10_tellsYear_129 rfl (lv_at lv 1 rfl) ?_
      refine lv_aload_n hx hb dX10_tellsYear_130 rfl (lv_at lv 1 rfl) ?_
      refine lv_lload hx hb dX10_tellsYear_131 (lv_at lv 0 rfl) ?_
      refine lv_iload_n hx hb dX10_tellsYear_133 rfl (lv_at lv 2 rfl) ?_
      refine lv_iconst (v := (0 : Int32)) hx hb dX10_tellsYear_134 (by decide) ?_
      refine x_cont_l Dy (x_runV (As := [.long x17, .int v3, .int (0 : Int32)]) (rest := [.ref (wad (wdM E) 0), .ref (wad (wdM E) 0)]) C Dy (m_X10_tellsHour E l _ _ x17 v3 (0 : Int32) _ hwp) (cw_X10_261 C rfl rfl ⟨Nat.le_trans (Nat.le_of_ble_eq_true rfl) hR.1, Nat.le_trans (Nat.le_of_ble_eq_true rfl) hR.2⟩) wm_0 rfl rfl lv.1 rfl (Nat.le_of_ble_eq_true rfl) dX10_tellsYear_135 ⟨Nat.zero_le _, Nat.zero_le _⟩) (fun r18 h19 hl19 H locs hwp Dy => ?_)
      obtain ⟨rfl, rfl, hwp⟩ := hwp
      refine lv_iload_n hx hb dX10_tellsYear_138 rfl (lv_at lv 2 rfl) ?_
      refine lv_bipush (v := (8 : Int32)) hx hb dX10_tellsYear_139 (by decide) ?_
      refine x_cont_l Dy (x_runV (As := [.long r18, .int v3, .int (8 : Int32)]) (rest := [.ref (wad (wdM E) 0)]) C Dy (m_X10_tellsHour E l _ _ r18 v3 (8 : Int32) _ hwp) (cw_X10_261 C rfl rfl ⟨Nat.le_trans (Nat.le_of_ble_eq_true rfl) hR.1, Nat.le_trans (Nat.le_of_ble_eq_true rfl) hR.2⟩) wm_0 rfl rfl lv.1 rfl (Nat.le_of_ble_eq_true rfl) dX10_tellsYear_141 ⟨Nat.zero_le _, Nat.zero_le _⟩) (fun r20 h21 hl21 H locs hwp Dy => ?_)
      obtain ⟨rfl, rfl, hwp⟩ := hwp
      refine lv_iload_n hx hb dX10_tellsYear_144 rfl (lv_at lv 2 rfl) ?_
      refine lv_bipush (v := (20 : Int32)) hx hb dX10_tellsYear_145 (by decide) ?_
      refine x_cont_l Dy (x_runV (As := [.long r20, .int v3, .int (20 : Int32)]) (rest := []) C Dy (m_X10_tellsHour E l _ _ r20 v3 (20 : Int32) _ hwp) (cw_X10_261 C rfl rfl ⟨Nat.le_trans (Nat.le_of_ble_eq_true rfl) hR.1, Nat.le_trans (Nat.le_of_ble_eq_true rfl) hR.2⟩) wm_0 rfl rfl lv.1 rfl (Nat.le_of_ble_eq_true rfl) dX10_tellsYear_147 ⟨Nat.zero_le _, Nat.zero_le _⟩) (fun r22 h23 hl23 H locs hwp Dy => ?_)
      obtain ⟨rfl, rfl, hwp⟩ := hwp
      exact x_lret C Dy ⟨rfl, hwp⟩ dX10_tellsYear_150
    · have hwp := hwp.2 c1
      refine lv_ldc2 hx hb C.ow (C.ts _ k_1188) dX10_tellsYear_12 ?_
      refine lv_lload hx hb dX10_tellsYear_15 (lv_at lv 2 rfl) ?_
      refine lv_lmul hx hb dX10_tellsYear_17 ?_
      refine lv_aload_n hx hb dX10_tellsYear_18 rfl (lv_at lv 0 rfl) ?_
      refine lv_iload_n hx hb dX10_tellsYear_19 rfl (lv_at lv 1 rfl) ?_
      refine lv_iload hx hb dX10_tellsYear_20 (lv_at lv 3 rfl) ?_
      refine x_cont_i Dy (x_runV (As := [.int v3, .int v6]) (rest := [.long ((31 : Int64) * v4)]) C Dy (m_X10_bindsOf E l _ _ v3 v6 _ hwp) (cw_X10_155 C rfl rfl ⟨Nat.le_trans (Nat.le_of_ble_eq_true rfl) hR.1, Nat.le_trans (Nat.le_of_ble_eq_true rfl) hR.2⟩) wm_0 rfl rfl lv.1 rfl (Nat.le_of_ble_eq_true rfl) dX10_tellsYear_22 ⟨Nat.zero_le _, Nat.zero_le _⟩) (fun r24 h25 hl25 H locs hwp Dy => ?_)
      obtain ⟨rfl, rfl, hwp⟩ := hwp
      refine lv_i2l hx hb dX10_tellsYear_25 rfl ?_
      refine lv_ladd hx hb dX10_tellsYear_26 ?_
      refine lv_topl (fun x26 ex26 => ?_)
      have hwp := hwp x26 ex26
      refine lv_lstore (lv' := [(4, .long x26), (0, .ref (wad (wdM E) 0)), (3, .int v3), (6, .int v6)]) hx hb dX10_tellsYear_27 lv (by decide) rfl (fun ls lv => ?_)
      refine lv_iinc (v := (v6 + (1 : Int32))) (lv' := [(6, .int (v6 + (1 : Int32))), (4, .long x26), (0, .ref (wad (wdM E) 0)), (3, .int v3)]) hx hb dX10_tellsYear_29 lv (k := 3) rfl rfl (by decide) rfl (fun ls lv => ?_)
      refine lv_goto (tgt := 6) hx hb dX10_tellsYear_32 (by decide) ?_
      exact ih h v3 x26 (v6 + (1 : Int32)) _ _ _ Dy (lv_sub lv [2, 3, 1, 0] rfl) hwp
set_option maxHeartbeats 4000000 in
set_option maxRecDepth 100000 in
theorem m_X10_tellsYear (E : xE) (l : Launch) (h : Mem) (hl : MemL) (v1 : Int64) (v3 : Int32) (Qp : Int64 → Mem → Prop) (hwp : p_X10_tellsYear h v1 v3 Qp) : Met l yX10_tellsYear (wsU yX10_tellsYear cX10_tellsYear 7 (some .long)) ({ frames := 6, cells := 0, slots := 0, locals := 157 } : Room) (mPc (wdM E) [.ref (wad (wdM E) 0), .long v1, .int v3] h hl) (mQl (wdM E) (fun r h1 hl1 => hl = hl1 ∧ Qp r h1)) 0 0 (wA (wdM E)) := by
  refine x_met RX10 [(0, .ref (wad (wdM E) 0)), (1, .long v1), (3, .int v3)] (by decide) rfl (Nat.le_of_ble_eq_true rfl) rfl ?_
  intro p e s m args below meth c ls C Dy lv
  have hx := C.x
  have hb := C.b
  have hR : 6 ≤ ({ frames := 6, cells := 0, slots := 0, locals := 157 } : Room).frames ∧ 157 ≤ ({ frames := 6, cells := 0, slots := 0, locals := 157 } : Room).locals := ⟨Nat.le_refl _, Nat.le_refl _⟩
  unfold p_X10_tellsYear at hwp
  refine lv_lload_n hx hb dX10_tellsYear_0 rfl (lv_at lv 1 rfl) ?_
  refine lv_lstore (lv' := [(4, .long v1), (0, .ref (wad (wdM E) 0)), (1, .long v1), (3, .int v3)]) hx hb dX10_tellsYear_1 lv (by decide) rfl (fun ls lv => ?_)
  refine lv_iconst (v := (0 : Int32)) hx hb dX10_tellsYear_3 (by decide) ?_
  refine lv_istore (lv' := [(6, .int (0 : Int32)), (4, .long v1), (0, .ref (wad (wdM E) 0)), (1, .long v1), (3, .int v3)]) hx hb dX10_tellsYear_4 lv (by decide) rfl (fun ls lv => ?_)
  obtain ⟨n0, hwp⟩ := hwp
  exact t_X10_tellsYear_6 E C hR Qp n0 h v3 v1 (0 : Int32) _ _ _ Dy (lv_sub lv [2, 4, 1, 0] rfl) hwp
def b_X10_digest_76 : Nat → Mem → Int64 → Int32 → Int32 → (Mem → Int64 → Int32 → Prop) → (Int64 → Mem → Prop) → Prop
  | 0 => fun _ _ _ _ _ _ => False
  | n + 1 => fun h v1 v3 v4 K63 Qp => (((5 : Int32) ≤ v4 → K63 h v1 (v3 + (1 : Int32))) ∧ (¬ ((5 : Int32) ≤ v4) → (vp_in (((5 : Int32) * v3) + v4) 60 ∧ (∀ x17 : Int64, x17 = (((31 : Int64) * v1) + ((h 8 (((5 : Int32) * v3) + v4).toNatClampNeg).toInt64)) → b_X10_digest_76 n h x17 v3 (v4 + (1 : Int32)) K63 Qp))))
def b_X10_digest_128 : Nat → Mem → Int64 → Int32 → Int32 → (Mem → Int64 → Int32 → Prop) → (Int64 → Mem → Prop) → Prop
  | 0 => fun _ _ _ _ _ _ => False
  | n + 1 => fun h v1 v3 v4 K115 Qp => (((3 : Int32) ≤ v4 → K115 h v1 (v3 + (1 : Int32))) ∧ (¬ ((3 : Int32) ≤ v4) → (vp_in (((3 : Int32) * v3) + v4) 36 ∧ (∀ x34 : Int64, x34 = (((31 : Int64) * v1) + ((h 9 (((3 : Int32) * v3) + v4).toNatClampNeg).toInt64)) → b_X10_digest_128 n h x34 v3 (v4 + (1 : Int32)) K115 Qp))))
def b_X10_digest_215 : Nat → Mem → Int64 → Int32 → (Int64 → Mem → Prop) → Prop
  | 0 => fun _ _ _ _ => False
  | n + 1 => fun h v1 v3 Qp => (((3 : Int32) ≤ v3 → (p_X10_watchNow h (fun r36 h37 => (∀ x38 : Int64, x38 = (((31 : Int64) * v1) + (r36.toInt64)) → (p_X10_years h37 (7 : Int32) (20 : Int32) (0 : Int32) (fun r39 h40 => (∀ x41 : Int64, x41 = (((31 : Int64) * x38) + (r39.toInt64)) → (p_X10_years h40 (7 : Int32) (20 : Int32) (1 : Int32) (fun r42 h43 => Qp (((31 : Int64) * x41) + (r42.toInt64)) h43))))))))) ∧ (¬ ((3 : Int32) ≤ v3) → (p_X10_setsOf h v3 (fun r44 => (∀ x46 : Int64, x46 = (((31 : Int64) * v1) + (r44.toInt64)) → b_X10_digest_215 n h x46 (v3 + (1 : Int32)) Qp)))))
def b_X10_digest_115 : Nat → Mem → Int64 → Int32 → (Int64 → Mem → Prop) → Prop
  | 0 => fun _ _ _ _ => False
  | n + 1 => fun h v1 v3 Qp => (vp_in (1 : Int32) 2 ∧ (((h 7 (1 : Int32).toNatClampNeg) ≤ v3 → (p_X10_tellsYear h v1 (0 : Int32) (fun r20 h21 => (p_X10_tellsYear h21 r20 (3 : Int32) (fun r22 h23 => (p_X10_tellsYear h23 r22 (29 : Int32) (fun r24 h25 => (p_X10_order h25 (3 : Int32) (2 : Int32) (-1 : Int32) (fun r26 h27 => (∀ x28 : Int64, x28 = (((31 : Int64) * r24) + (r26.toInt64)) → (p_X10_order h27 (3 : Int32) (2 : Int32) (0 : Int32) (fun r29 h30 => (∀ x31 : Int64, x31 = (((31 : Int64) * x28) + (r29.toInt64)) → (∃ n215, b_X10_digest_215 n215 h30 x31 (0 : Int32) Qp)))))))))))))) ∧ (¬ ((h 7 (1 : Int32).toNatClampNeg) ≤ v3) → (∃ n128, b_X10_digest_128 n128 h v1 v3 (0 : Int32) (fun h v1 v3 => b_X10_digest_115 n h v1 v3 Qp) Qp))))
def b_X10_digest_63 : Nat → Mem → Int64 → Int32 → (Int64 → Mem → Prop) → Prop
  | 0 => fun _ _ _ _ => False
  | n + 1 => fun h v1 v3 Qp => (vp_in (0 : Int32) 2 ∧ (((h 7 (0 : Int32).toNatClampNeg) ≤ v3 → (∃ n115, b_X10_digest_115 n115 h v1 (0 : Int32) Qp)) ∧ (¬ ((h 7 (0 : Int32).toNatClampNeg) ≤ v3) → (∃ n76, b_X10_digest_76 n76 h v1 v3 (0 : Int32) (fun h v1 v3 => b_X10_digest_63 n h v1 v3 Qp) Qp))))
def b_X10_digest_6 : Nat → Mem → Int64 → Int32 → (Int64 → Mem → Prop) → Prop
  | 0 => fun _ _ _ _ => False
  | n + 1 => fun h v1 v3 Qp => (((8 : Int32) ≤ v3 → (p_X10_readsText h (0 : Int32) (fun r2 h3 => (∀ x4 : Int64, x4 = (((31 : Int64) * v1) + (r2.toInt64)) → (p_X10_readsText h3 (1 : Int32) (fun r5 h6 => (∀ x7 : Int64, x7 = (((31 : Int64) * x4) + (r5.toInt64)) → (p_X10_find h6 (fun h9 => (∃ n63, b_X10_digest_63 n63 h9 x7 (0 : Int32) Qp)))))))))) ∧ (¬ ((8 : Int32) ≤ v3) → (p_X10_count h v3 (fun r10 h11 => (∀ x12 : Int64, x12 = (((31 : Int64) * v1) + (r10.toInt64)) → b_X10_digest_6 n h11 x12 (v3 + (1 : Int32)) Qp)))))
def p_X10_digest (h : Mem) (Qp : Int64 → Mem → Prop) : Prop := (∃ n6, b_X10_digest_6 n6 h (17 : Int64) (0 : Int32) Qp)
set_option maxHeartbeats 4000000 in
set_option maxRecDepth 100000 in
theorem t_X10_digest_76 (E : xE) {p : Program} {l : Launch} {e : Env} {R : Room} {s : State} {m : MethodId} {args : Array Value} {below : List Frame} {meth : Method} {c : Code} (C : mC (wdM E) p s m meth c args cX10_digest 5 RX10 (some .long)) (hR : 9 ≤ R.frames ∧ 211 ≤ R.locals) {hl : MemL} (Qp : Int64 → Mem → Prop) (K63 : Mem → Int64 → Int32 → Prop) (hK63 : ∀ (h : Mem) (v1 : Int64) (v3 : Int32) (H : Heap) (locs : List Loc) (ls : Array Slot), mD (wdM E) h hl s H locs → lv_has ls 5 [(0, .ref (wad (wdM E) 0)), (1, .long v1), (3, .int v3)] → K63 h v1 v3 → W p l e R s m args below meth c H locs 0 0 (MQ below (mQl (wdM E) (fun r h1 hl1 => hl = hl1 ∧ Qp r h1)) args s 0 0 (wA (wdM E))) (F0 m 63 ls [])) : ∀ (n : Nat) (h : Mem) (v1 : Int64) (v3 : Int32) (v4 : Int32) (H : Heap) (locs : List Loc) (ls : Array Slot), mD (wdM E) h hl s H locs → lv_has ls 5 [(0, .ref (wad (wdM E) 0)), (1, .long v1), (3, .int v3), (4, .int v4)] → b_X10_digest_76 n h v1 v3 v4 K63 Qp → W p l e R s m args below meth c H locs 0 0 (MQ below (mQl (wdM E) (fun r h1 hl1 => hl = hl1 ∧ Qp r h1)) args s 0 0 (wA (wdM E))) (F0 m 76 ls []) := by
  have hx := C.x
  have hb := C.b
  intro n
  induction n with
  | zero => intro h v1 v3 v4 H locs ls Dy lv hwp; exact hwp.elim
  | succ n ih =>
    intro h v1 v3 v4 H locs ls Dy lv hwp
    simp only [b_X10_digest_76] at hwp
    refine lv_iload hx hb dX10_digest_76 (lv_at lv 3 rfl) ?_
    refine lv_iconst (v := (5 : Int32)) hx hb dX10_digest_78 (by decide) ?_
    refine lv_icmp_ge (tgt := 107) hx hb dX10_digest_79 (by decide) (fun c15 => ?_) (fun c15 => ?_)
    · have hwp := hwp.1 c15
      refine lv_iinc (v := (v3 + (1 : Int32))) (lv' := [(3, .int (v3 + (1 : Int32))), (0, .ref (wad (wdM E) 0)), (1, .long v1), (4, .int v4)]) hx hb dX10_digest_107 lv (k := 2) rfl rfl (by decide) rfl (fun ls lv => ?_)
      refine lv_goto (tgt := 63) hx hb dX10_digest_110 (by decide) ?_
      exact hK63 h v1 (v3 + (1 : Int32)) _ _ _ Dy (lv_sub lv [1, 2, 0] rfl) hwp
    · have hwp := hwp.2 c15
      refine lv_ldc2 hx hb C.ow (C.ts _ k_1188) dX10_digest_82 ?_
      refine lv_lload_n hx hb dX10_digest_85 rfl (lv_at lv 1 rfl) ?_
      refine lv_lmul hx hb dX10_digest_86 ?_
      refine lv_aload_n hx hb dX10_digest_87 rfl (lv_at lv 0 rfl) ?_
      refine gf_X10_31_0 C Dy dX10_digest_88 ?_
      refine lv_iconst (v := (5 : Int32)) hx hb dX10_digest_91 (by decide) ?_
      refine lv_iload_n hx hb dX10_digest_92 rfl (lv_at lv 2 rfl) ?_
      refine lv_imul hx hb dX10_digest_93 ?_
      refine lv_iload hx hb dX10_digest_94 (lv_at lv 3 rfl) ?_
      refine lv_iadd hx hb dX10_digest_96 ?_
      obtain ⟨g16, hwp⟩ := hwp
      refine x_iald C Dy wma_8 g16 dX10_digest_97 ?_
      refine lv_i2l hx hb dX10_digest_98 rfl ?_
      refine lv_ladd hx hb dX10_digest_99 ?_
      refine lv_topl (fun x17 ex17 => ?_)
      have hwp := hwp x17 ex17
      refine lv_lstore_n (lv' := [(1, .long x17), (0, .ref (wad (wdM E) 0)), (3, .int v3), (4, .int v4)]) hx hb dX10_digest_100 rfl lv (by decide) rfl (fun ls lv => ?_)
      refine lv_iinc (v := (v4 + (1 : Int32))) (lv' := [(4, .int (v4 + (1 : Int32))), (1, .long x17), (0, .ref (wad (wdM E) 0)), (3, .int v3)]) hx hb dX10_digest_101 lv (k := 3) rfl rfl (by decide) rfl (fun ls lv => ?_)
      refine lv_goto (tgt := 76) hx hb dX10_digest_104 (by decide) ?_
      exact ih h x17 v3 (v4 + (1 : Int32)) _ _ _ Dy (lv_sub lv [2, 1, 3, 0] rfl) hwp
set_option maxHeartbeats 4000000 in
set_option maxRecDepth 100000 in
theorem t_X10_digest_128 (E : xE) {p : Program} {l : Launch} {e : Env} {R : Room} {s : State} {m : MethodId} {args : Array Value} {below : List Frame} {meth : Method} {c : Code} (C : mC (wdM E) p s m meth c args cX10_digest 5 RX10 (some .long)) (hR : 9 ≤ R.frames ∧ 211 ≤ R.locals) {hl : MemL} (Qp : Int64 → Mem → Prop) (K115 : Mem → Int64 → Int32 → Prop) (hK115 : ∀ (h : Mem) (v1 : Int64) (v3 : Int32) (H : Heap) (locs : List Loc) (ls : Array Slot), mD (wdM E) h hl s H locs → lv_has ls 5 [(0, .ref (wad (wdM E) 0)), (1, .long v1), (3, .int v3)] → K115 h v1 v3 → W p l e R s m args below meth c H locs 0 0 (MQ below (mQl (wdM E) (fun r h1 hl1 => hl = hl1 ∧ Qp r h1)) args s 0 0 (wA (wdM E))) (F0 m 115 ls [])) : ∀ (n : Nat) (h : Mem) (v1 : Int64) (v3 : Int32) (v4 : Int32) (H : Heap) (locs : List Loc) (ls : Array Slot), mD (wdM E) h hl s H locs → lv_has ls 5 [(0, .ref (wad (wdM E) 0)), (1, .long v1), (3, .int v3), (4, .int v4)] → b_X10_digest_128 n h v1 v3 v4 K115 Qp → W p l e R s m args below meth c H locs 0 0 (MQ below (mQl (wdM E) (fun r h1 hl1 => hl = hl1 ∧ Qp r h1)) args s 0 0 (wA (wdM E))) (F0 m 128 ls []) := by
  have hx := C.x
  have hb := C.b
  intro n
  induction n with
  | zero => intro h v1 v3 v4 H locs ls Dy lv hwp; exact hwp.elim
  | succ n ih =>
    intro h v1 v3 v4 H locs ls Dy lv hwp
    simp only [b_X10_digest_128] at hwp
    refine lv_iload hx hb dX10_digest_128 (lv_at lv 3 rfl) ?_
    refine lv_iconst (v := (3 : Int32)) hx hb dX10_digest_130 (by decide) ?_
    refine lv_icmp_ge (tgt := 159) hx hb dX10_digest_131 (by decide) (fun c32 => ?_) (fun c32 => ?_)
    · have hwp := hwp.1 c32
      refine lv_iinc (v := (v3 + (1 : Int32))) (lv' := [(3, .int (v3 + (1 : Int32))), (0, .ref (wad (wdM E) 0)), (1, .long v1), (4, .int v4)]) hx hb dX10_digest_159 lv (k := 2) rfl rfl (by decide) rfl (fun ls lv => ?_)
      refine lv_goto (tgt := 115) hx hb dX10_digest_162 (by decide) ?_
      exact hK115 h v1 (v3 + (1 : Int32)) _ _ _ Dy (lv_sub lv [1, 2, 0] rfl) hwp
    · have hwp := hwp.2 c32
      refine lv_ldc2 hx hb C.ow (C.ts _ k_1188) dX10_digest_134 ?_
      refine lv_lload_n hx hb dX10_digest_137 rfl (lv_at lv 1 rfl) ?_
      refine lv_lmul hx hb dX10_digest_138 ?_
      refine lv_aload_n hx hb dX10_digest_139 rfl (lv_at lv 0 rfl) ?_
      refine gf_X10_34_0 C Dy dX10_digest_140 ?_
      refine lv_iconst (v := (3 : Int32)) hx hb dX10_digest_143 (by decide) ?_
      refine lv_iload_n hx hb dX10_digest_144 rfl (lv_at lv 2 rfl) ?_
      refine lv_imul hx hb dX10_digest_145 ?_
      refine lv_iload hx hb dX10_digest_146 (lv_at lv 3 rfl) ?_
      refine lv_iadd hx hb dX10_digest_148 ?_
      obtain ⟨g33, hwp⟩ := hwp
      refine x_iald C Dy wma_9 g33 dX10_digest_149 ?_
      refine lv_i2l hx hb dX10_digest_150 rfl ?_
      refine lv_ladd hx hb dX10_digest_151 ?_
      refine lv_topl (fun x34 ex34 => ?_)
      have hwp := hwp x34 ex34
      refine lv_lstore_n (lv' := [(1, .long x34), (0, .ref (wad (wdM E) 0)), (3, .int v3), (4, .int v4)]) hx hb dX10_digest_152 rfl lv (by decide) rfl (fun ls lv => ?_)
      refine lv_iinc (v := (v4 + (1 : Int32))) (lv' := [(4, .int (v4 + (1 : Int32))), (1, .long x34), (0, .ref (wad (wdM E) 0)), (3, .int v3)]) hx hb dX10_digest_153 lv (k := 3) rfl rfl (by decide) rfl (fun ls lv => ?_)
      refine lv_goto (tgt := 128) hx hb dX10_digest_156 (by decide) ?_
      exact ih h x34 v3 (v4 + (1 : Int32)) _ _ _ Dy (lv_sub lv [2, 1, 3, 0] rfl) hwp
set_option maxHeartbeats 4000000 in
set_option maxRecDepth 100000 in
theorem t_X10_digest_215 (E : xE) {p : Program} {l : Launch} {e : Env} {R : Room} {s : State} {m : MethodId} {args : Array Value} {below : List Frame} {meth : Method} {c : Code} (C : mC (wdM E) p s m meth c args cX10_digest 5 RX10 (some .long)) (hR : 9 ≤ R.frames ∧ 211 ≤ R.locals) {hl : MemL} (Qp : Int64 → Mem → Prop) : ∀ (n : Nat) (h : Mem) (v1 : Int64) (v3 : Int32) (H : Heap) (locs : List Loc) (ls : Array Slot), mD (wdM E) h hl s H locs → lv_has ls 5 [(0, .ref (wad (wdM E) 0)), (1, .long v1), (3, .int v3)] → b_X10_digest_215 n h v1 v3 Qp → W p l e R s m args below meth c H locs 0 0 (MQ below (mQl (wdM E) (fun r h1 hl1 => hl = hl1 ∧ Qp r h1)) args s 0 0 (wA (wdM E))) (F0 m 215 ls []) := by
  have hx := C.x
  have hb := C.b
  intro n
  induction n with
  | zero => intro h v1 v3 H locs ls Dy lv hwp; exact hwp.elim
  | succ n ih =>
    intro h v1 v3 H locs ls Dy lv hwp
    simp only [b_X10_digest_215] at hwp
    refine lv_iload_n hx hb dX10_digest_215 rfl (lv_at lv 2 rfl) ?_
    refine lv_iconst (v := (3 : Int32)) hx hb dX10_digest_216 (by decide) ?_
    refine lv_icmp_ge (tgt := 239) hx hb dX10_digest_217 (by decide) (fun c35 => ?_) (fun c35 => ?_)
    · have hwp := hwp.1 c35
      refine lv_ldc2 hx hb C.ow (C.ts _ k_1188) dX10_digest_239 ?_
      refine lv_lload_n hx hb dX10_digest_242 rfl (lv_at lv 1 rfl) ?_
      refine lv_lmul hx hb dX10_digest_243 ?_
      refine lv_aload_n hx hb dX10_digest_244 rfl (lv_at lv 0 rfl) ?_
      refine x_cont_i Dy (x_runV (As := []) (rest := [.long ((31 : Int64) * v1)]) C Dy (m_X10_watchNow E l _ _ _ hwp) (cw_X10_224 C rfl rfl ⟨Nat.le_trans (Nat.le_of_ble_eq_true rfl) hR.1, Nat.le_trans (Nat.le_of_ble_eq_true rfl) hR.2⟩) wm_0 rfl rfl lv.1 rfl (Nat.le_of_ble_eq_true rfl) dX10_digest_245 ⟨Nat.zero_le _, Nat.zero_le _⟩) (fun r36 h37 hl37 H locs hwp Dy => ?_)
      obtain ⟨rfl, hwp⟩ := hwp
      refine lv_i2l hx hb dX10_digest_248 rfl ?_
      refine lv_ladd hx hb dX10_digest_249 ?_
      refine lv_topl (fun x38 ex38 => ?_)
      have hwp := hwp x38 ex38
      refine lv_lstore_n (lv' := [(1, .long x38), (0, .ref (wad (wdM E) 0)), (3, .int v3)]) hx hb dX10_digest_250 rfl lv (by decide) rfl (fun ls lv => ?_)
      refine lv_ldc2 hx hb C.ow (C.ts _ k_1188) dX10_digest_251 ?_
      refine lv_lload_n hx hb dX10_digest_254 rfl (lv_at lv 0 rfl) ?_
      refine lv_lmul hx hb dX10_digest_255 ?_
      refine lv_aload_n hx hb dX10_digest_256 rfl (lv_at lv 1 rfl) ?_
      refine lv_bipush (v := (7 : Int32)) hx hb dX10_digest_257 (by decide) ?_
      refine lv_bipush (v := (20 : Int32)) hx hb dX10_digest_259 (by decide) ?_
      refine lv_iconst (v := (0 : Int32)) hx hb dX10_digest_261 (by decide) ?_
      refine x_cont_i Dy (x_runV (As := [.int (7 : Int32), .int (20 : Int32), .int (0 : Int32)]) (rest := [.long ((31 : Int64) * x38)]) C Dy (m_X10_years E l _ _ (7 : Int32) (20 : Int32) (0 : Int32) _ hwp) (cw_X10_277 C rfl rfl ⟨Nat.le_trans (Nat.le_of_ble_eq_true rfl) hR.1, Nat.le_trans (Nat.le_of_ble_eq_true rfl) hR.2⟩) wm_0 rfl rfl lv.1 rfl (Nat.le_of_ble_eq_true rfl) dX10_digest_262 ⟨Nat.zero_le _, Nat.zero_le _⟩) (fun r39 h40 hl40 H locs hwp Dy => ?_)
      obtain ⟨rfl, hwp⟩ := hwp
      refine lv_i2l hx hb dX10_digest_265 rfl ?_
      refine lv_ladd hx hb dX10_digest_266 ?_
      refine lv_topl (fun x41 ex41 => ?_)
      have hwp := hwp x41 ex41
      refine lv_lstore_n (lv' := [(1, .long x41), (0, .ref (wad (wdM E) 0)), (3, .int v3)]) hx hb dX10_digest_267 rfl lv (by decide) rfl (fun ls lv => ?_)
      refine lv_ldc2 hx hb C.ow (C.ts _ k_1188) dX10_digest_268 ?_
      refine lv_lload_n hx hb dX10_digest_271 rfl (lv_at lv 0 rfl) ?_
      refine lv_lmul hx hb dX10_digest_272 ?_
      refine lv_aload_n hx hb dX10_digest_273 rfl (lv_at lv 1 rfl) ?_
      refine lv_bipush (v := (7 : Int32)) hx hb dX10_digest_274 (by decide) ?_
      refine lv_bipush (v := (20 : Int32)) hx hb dX10_digest_276 (by decide) ?_
      refine lv_iconst (v := (1 : Int32)) hx hb dX10_digest_278 (by decide) ?_
      refine x_cont_i Dy (x_runV (As := [.int (7 : Int32), .int (20 : Int32), .int (1 : Int32)]) (rest := [.long ((31 : Int64) * x41)]) C Dy (m_X10_years E l _ _ (7 : Int32) (20 : Int32) (1 : Int32) _ hwp) (cw_X10_277 C rfl rfl ⟨Nat.le_trans (Nat.le_of_ble_eq_true rfl) hR.1, Nat.le_trans (Nat.le_of_ble_eq_true rfl) hR.2⟩) wm_0 rfl rfl lv.1 rfl (Nat.le_of_ble_eq_true rfl) dX10_digest_279 ⟨Nat.zero_le _, Nat.zero_le _⟩) (fun r42 h43 hl43 H locs hwp Dy => ?_)
      obtain ⟨rfl, hwp⟩ := hwp
      refine lv_i2l hx hb dX10_digest_282 rfl ?_
      refine lv_ladd hx hb dX10_digest_283 ?_
      exact x_lret C Dy ⟨rfl, hwp⟩ dX10_digest_284
    · have hwp := hwp.2 c35
      refine lv_ldc2 hx hb C.ow (C.ts _ k_1188) dX10_digest_220 ?_
      refine lv_lload_n hx hb dX10_digest_223 rfl (lv_at lv 1 rfl) ?_
      refine lv_lmul hx hb dX10_digest_224 ?_
      refine lv_aload_n hx hb dX10_digest_225 rfl (lv_at lv 0 rfl) ?_
      refine lv_iload_n hx hb dX10_digest_226 rfl (lv_at lv 2 rfl) ?_
      refine x_cont_i Dy (x_runV (As := [.int v3]) (rest := [.long ((31 : Int64) * v1)]) C Dy (m_X10_setsOf E l _ _ v3 _ hwp) (cw_X10_221 C rfl rfl ⟨Nat.le_trans (Nat.le_of_ble_eq_true rfl) hR.1, Nat.le_trans (Nat.le_of_ble_eq_true rfl) hR.2⟩) wm_0 rfl rfl lv.1 rfl (Nat.le_of_ble_eq_true rfl) dX10_digest_227 ⟨Nat.zero_le _, Nat.zero_le _⟩) (fun r44 h45 hl45 H locs hwp Dy => ?_)
      obtain ⟨rfl, rfl, hwp⟩ := hwp
      refine lv_i2l hx hb dX10_digest_230 rfl ?_
      refine lv_ladd hx hb dX10_digest_231 ?_
      refine lv_topl (fun x46 ex46 => ?_)
      have hwp := hwp x46 ex46
      refine lv_lstore_n (lv' := [(1, .long x46), (0, .ref (wad (wdM E) 0)), (3, .int v3)]) hx hb dX10_digest_232 rfl lv (by decide) rfl (fun ls lv => ?_)
      refine lv_iinc (v := (v3 + (1 : Int32))) (lv' := [(3, .int (v3 + (1 : Int32))), (1, .long x46), (0, .ref (wad (wdM E) 0))]) hx hb dX10_digest_233 lv (k := 2) rfl rfl (by decide) rfl (fun ls lv => ?_)
      refine lv_goto (tgt := 215) hx hb dX10_digest_236 (by decide) ?_
      exact ih h x46 (v3 + (1 : Int32)) _ _ _ Dy (lv_sub lv [2, 1, 0] rfl) hwp
set_option maxHeartbeats 4000000 in
set_option maxRecDepth 100000 in
theorem t_X10_digest_115 (E : xE) {p : Program} {l : Launch} {e : Env} {R : Room} {s : State} {m : MethodId} {args : Array Value} {below : List Frame} {meth : Method} {c : Code} (C : mC (wdM E) p s m meth c args cX10_digest 5 RX10 (some .long)) (hR : 9 ≤ R.frames ∧ 211 ≤ R.locals) {hl : MemL} (Qp : Int64 → Mem → Prop) : ∀ (n : Nat) (h : Mem) (v1 : Int64) (v3 : Int32) (H : Heap) (locs : List Loc) (ls : Array Slot), mD (wdM E) h hl s H locs → lv_has ls 5 [(0, .ref (wad (wdM E) 0)), (1, .long v1), (3, .int v3)] → b_X10_digest_115 n h v1 v3 Qp → W p l e R s m args below meth c H locs 0 0 (MQ below (mQl (wdM E) (fun r h1 hl1 => hl = hl1 ∧ Qp r h1)) args s 0 0 (wA (wdM E))) (F0 m 115 ls []) := by
  have hx := C.x
  have hb := C.b
  intro n
  induction n with
  | zero => intro h v1 v3 H locs ls Dy lv hwp; exact hwp.elim
  | succ n ih =>
    intro h v1 v3 H locs ls Dy lv hwp
    simp only [b_X10_digest_115] at hwp
    refine lv_iload_n hx hb dX10_digest_115 rfl (lv_at lv 2 rfl) ?_
    refine lv_aload_n hx hb dX10_digest_116 rfl (lv_at lv 0 rfl) ?_
    refine gf_X10_28_0 C Dy dX10_digest_117 ?_
    refine lv_iconst (v := (1 : Int32)) hx hb dX10_digest_120 (by decide) ?_
    obtain ⟨g18, hwp⟩ := hwp
    refine x_iald C Dy wma_7 g18 dX10_digest_121 ?_
    refine lv_icmp_ge (tgt := 165) hx hb dX10_digest_122 (by decide) (fun c19 => ?_) (fun c19 => ?_)
    · have hwp := hwp.1 c19
      refine lv_aload_n hx hb dX10_digest_165 rfl (lv_at lv 0 rfl) ?_
      refine lv_aload_n hx hb dX10_digest_166 rfl (lv_at lv 0 rfl) ?_
      refine lv_aload_n hx hb dX10_digest_167 rfl (lv_at lv 0 rfl) ?_
      refine lv_lload_n hx hb dX10_digest_168 rfl (lv_at lv 1 rfl) ?_
      refine lv_iconst (v := (0 : Int32)) hx hb dX10_digest_169 (by decide) ?_
      refine x_cont_l Dy (x_runV (As := [.long v1, .int (0 : Int32)]) (rest := [.ref (wad (wdM E) 0), .ref (wad (wdM E) 0)]) C Dy (m_X10_tellsYear E l _ _ v1 (0 : Int32) _ hwp) (cw_X10_270 C rfl rfl ⟨Nat.le_trans (Nat.le_of_ble_eq_true rfl) hR.1, Nat.le_trans (Nat.le_of_ble_eq_true rfl) hR.2⟩) wm_0 rfl rfl lv.1 rfl (Nat.le_of_ble_eq_true rfl) dX10_digest_170 ⟨Nat.zero_le _, Nat.zero_le _⟩) (fun r20 h21 hl21 H locs hwp Dy => ?_)
      obtain ⟨rfl, hwp⟩ := hwp
      refine lv_iconst (v := (3 : Int32)) hx hb dX10_digest_173 (by decide) ?_
      refine x_cont_l Dy (x_runV (As := [.long r20, .int (3 : Int32)]) (rest := [.ref (wad (wdM E) 0)]) C Dy (m_X10_tellsYear E l _ _ r20 (3 : Int32) _ hwp) (cw_X10_270 C rfl rfl ⟨Nat.le_trans (Nat.le_of_ble_eq_true rfl) hR.1, Nat.le_trans (Nat.le_of_ble_eq_true rfl) hR.2⟩) wm_0 rfl rfl lv.1 rfl (Nat.le_of_ble_eq_true rfl) dX10_digest_174 ⟨Nat.zero_le _, Nat.zero_le _⟩) (fun r22 h23 hl23 H locs hwp Dy => ?_)
      obtain ⟨rfl, hwp⟩ := hwp
      refine lv_bipush (v := (29 : Int32)) hx hb dX10_digest_177 (by decide) ?_
      refine x_cont_l Dy (x_runV (As := [.long r22, .int (29 : Int32)]) (rest := []) C Dy (m_X10_tellsYear E l _ _ r22 (29 : Int32) _ hwp) (cw_X10_270 C rfl rfl ⟨Nat.le_trans (Nat.le_of_ble_eq_true rfl) hR.1, Nat.le_trans (Nat.le_of_ble_eq_true rfl) hR.2⟩) wm_0 rfl rfl lv.1 rfl (Nat.le_of_ble_eq_true rfl) dX10_digest_179 ⟨Nat.zero_le _, Nat.zero_le _⟩) (fun r24 h25 hl25 H locs hwp Dy => ?_)
      obtain ⟨rfl, hwp⟩ := hwp
      refine lv_lstore_n (lv' := [(1, .long r24), (0, .ref (wad (wdM E) 0)), (3, .int v3)]) hx hb dX10_digest_182 rfl lv (by decide) rfl (fun ls lv => ?_)
      refine lv_ldc2 hx hb C.ow (C.ts _ k_1188) dX10_digest_183 ?_
      refine lv_lload_n hx hb dX10_digest_186 rfl (lv_at lv 0 rfl) ?_
      refine lv_lmul hx hb dX10_digest_187 ?_
      refine lv_aload_n hx hb dX10_digest_188 rfl (lv_at lv 1 rfl) ?_
      refine lv_iconst (v := (3 : Int32)) hx hb dX10_digest_189 (by decide) ?_
      refine lv_iconst (v := (2 : Int32)) hx hb dX10_digest_190 (by decide) ?_
      refine lv_iconst (v := (-1 : Int32)) hx hb dX10_digest_191 (by decide) ?_
      refine x_cont_i Dy (x_runV (As := [.int (3 : Int32), .int (2 : Int32), .int (-1 : Int32)]) (rest := [.long ((31 : Int64) * r24)]) C Dy (m_X10_order E l _ _ (3 : Int32) (2 : Int32) (-1 : Int32) _ hwp) (cw_X10_274 C rfl rfl ⟨Nat.le_trans (Nat.le_of_ble_eq_true rfl) hR.1, Nat.le_trans (Nat.le_of_ble_eq_true rfl) hR.2⟩) wm_0 rfl rfl lv.1 rfl (Nat.le_of_ble_eq_true rfl) dX10_digest_192 ⟨Nat.zero_le _, Nat.zero_le _⟩) (fun r26 h27 hl27 H locs hwp Dy => ?_)
      obtain ⟨rfl, hwp⟩ := hwp
      refine lv_i2l hx hb dX10_digest_195 rfl ?_
      refine lv_ladd hx hb dX10_digest_196 ?_
      refine lv_topl (fun x28 ex28 => ?_)
      have hwp := hwp x28 ex28
      refine lv_lstore_n (lv' := [(1, .long x28), (0, .ref (wad (wdM E) 0)), (3, .int v3)]) hx hb dX10_digest_197 rfl lv (by decide) rfl (fun ls lv => ?_)
      refine lv_ldc2 hx hb C.ow (C.ts _ k_1188) dX10_digest_198 ?_
      refine lv_lload_n hx hb dX10_digest_201 rfl (lv_at lv 0 rfl) ?_
      refine lv_lmul hx hb dX10_digest_202 ?_
      refine lv_aload_n hx hb dX10_digest_203 rfl (lv_at lv 1 rfl) ?_
      refine lv_iconst (v := (3 : Int32)) hx hb dX10_digest_204 (by decide) ?_
      refine lv_iconst (v := (2 : Int32)) hx hb dX10_digest_205 (by decide) ?_
      refine lv_iconst (v := (0 : Int32)) hx hb dX10_digest_206 (by decide) ?_
      refine x_cont_i Dy (x_runV (As := [.int (3 : Int32), .int (2 : Int32), .int (0 : Int32)]) (rest := [.long ((31 : Int64) * x28)]) C Dy (m_X10_order E l _ _ (3 : Int32) (2 : Int32) (0 : Int32) _ hwp) (cw_X10_274 C rfl rfl ⟨Nat.le_trans (Nat.le_of_ble_eq_true rfl) hR.1, Nat.le_trans (Nat.le_of_ble_eq_true rfl) hR.2⟩) wm_0 rfl rfl lv.1 rfl (Nat.le_of_ble_eq_true rfl) dX10_digest_207 ⟨Nat.zero_le _, Nat.zero_le _⟩) (fun r29 h30 hl30 H locs hwp Dy => ?_)
      obtain ⟨rfl, hwp⟩ := hwp
      refine lv_i2l hx hb dX10_digest_210 rfl ?_
      refine lv_ladd hx hb dX10_digest_211 ?_
      refine lv_topl (fun x31 ex31 => ?_)
      have hwp := hwp x31 ex31
      refine lv_lstore_n (lv' := [(1, .long x31), (0, .ref (wad (wdM E) 0)), (3, .int v3)]) hx hb dX10_digest_212 rfl lv (by decide) rfl (fun ls lv => ?_)
      refine lv_iconst (v := (0 : Int32)) hx hb dX10_digest_213 (by decide) ?_
      refine lv_istore_n (lv' := [(3, .int (0 : Int32)), (1, .long x31), (0, .ref (wad (wdM E) 0))]) hx hb dX10_digest_214 rfl lv (by decide) rfl (fun ls lv => ?_)
      obtain ⟨n0, hwp⟩ := hwp
      exact t_X10_digest_215 E C hR Qp n0 h30 x31 (0 : Int32) _ _ _ Dy (lv_sub lv [2, 1, 0] rfl) hwp
    · have hwp := hwp.2 c19
      refine lv_iconst (v := (0 : Int32)) hx hb dX10_digest_125 (by decide) ?_
      refine lv_istore (lv' := [(4, .int (0 : Int32)), (0, .ref (wad (wdM E) 0)), (1, .long v1), (3, .int v3)]) hx hb dX10_digest_126 lv (by decide) rfl (fun ls lv => ?_)
      obtain ⟨n0, hwp⟩ := hwp
      exact t_X10_digest_128 E C hR Qp (fun h v1 v3 => b_X10_digest_115 n h v1 v3 Qp) (fun h v1 v3 H locs ls Dy lv hwp => ih h v1 v3 H locs ls Dy lv hwp) n0 h v1 v3 (0 : Int32) _ _ _ Dy (lv_sub lv [1, 2, 3, 0] rfl) hwp
set_option maxHeartbeats 4000000 in
set_option maxRecDepth 100000 in
theorem t_X10_digest_63 (E : xE) {p : Program} {l : Launch} {e : Env} {R : Room} {s : State} {m : MethodId} {args : Array Value} {below : List Frame} {meth : Method} {c : Code} (C : mC (wdM E) p s m meth c args cX10_digest 5 RX10 (some .long)) (hR : 9 ≤ R.frames ∧ 211 ≤ R.locals) {hl : MemL} (Qp : Int64 → Mem → Prop) : ∀ (n : Nat) (h : Mem) (v1 : Int64) (v3 : Int32) (H : Heap) (locs : List Loc) (ls : Array Slot), mD (wdM E) h hl s H locs → lv_has ls 5 [(0, .ref (wad (wdM E) 0)), (1, .long v1), (3, .int v3)] → b_X10_digest_63 n h v1 v3 Qp → W p l e R s m args below meth c H locs 0 0 (MQ below (mQl (wdM E) (fun r h1 hl1 => hl = hl1 ∧ Qp r h1)) args s 0 0 (wA (wdM E))) (F0 m 63 ls []) := by
  have hx := C.x
  have hb := C.b
  intro n
  induction n with
  | zero => intro h v1 v3 H locs ls Dy lv hwp; exact hwp.elim
  | succ n ih =>
    intro h v1 v3 H locs ls Dy lv hwp
    simp only [b_X10_digest_63] at hwp
    refine lv_iload_n hx hb dX10_digest_63 rfl (lv_at lv 2 rfl) ?_
    refine lv_aload_n hx hb dX10_digest_64 rfl (lv_at lv 0 rfl) ?_
    refine gf_X10_28_0 C Dy dX10_digest_65 ?_
    refine lv_iconst (v := (0 : Int32)) hx hb dX10_digest_68 (by decide) ?_
    obtain ⟨g13, hwp⟩ := hwp
    refine x_iald C Dy wma_7 g13 dX10_digest_69 ?_
    refine lv_icmp_ge (tgt := 113) hx hb dX10_digest_70 (by decide) (fun c14 => ?_) (fun c14 => ?_)
    · have hwp := hwp.1 c14
      refine lv_iconst (v := (0 : Int32)) hx hb dX10_digest_113 (by decide) ?_
      refine lv_istore_n (lv' := [(3, .int (0 : Int32)), (0, .ref (wad (wdM E) 0)), (1, .long v1)]) hx hb dX10_digest_114 rfl lv (by decide) rfl (fun ls lv => ?_)
      obtain ⟨n0, hwp⟩ := hwp
      exact t_X10_digest_115 E C hR Qp n0 h v1 (0 : Int32) _ _ _ Dy (lv_sub lv [1, 2, 0] rfl) hwp
    · have hwp := hwp.2 c14
      refine lv_iconst (v := (0 : Int32)) hx hb dX10_digest_73 (by decide) ?_
      refine lv_istore (lv' := [(4, .int (0 : Int32)), (0, .ref (wad (wdM E) 0)), (1, .long v1), (3, .int v3)]) hx hb dX10_digest_74 lv (by decide) rfl (fun ls lv => ?_)
      obtain ⟨n0, hwp⟩ := hwp
      exact t_X10_digest_76 E C hR Qp (fun h v1 v3 => b_X10_digest_63 n h v1 v3 Qp) (fun h v1 v3 H locs ls Dy lv hwp => ih h v1 v3 H locs ls Dy lv hwp) n0 h v1 v3 (0 : Int32) _ _ _ Dy (lv_sub lv [1, 2, 3, 0] rfl) hwp
set_option maxHeartbeats 4000000 in
set_option maxRecDepth 100000 in
theorem t_X10_digest_6 (E : xE) {p : Program} {l : Launch} {e : Env} {R : Room} {s : State} {m : MethodId} {args : Array Value} {below : List Frame} {meth : Method} {c : Code} (C : mC (wdM E) p s m meth c args cX10_digest 5 RX10 (some .long)) (hR : 9 ≤ R.frames ∧ 211 ≤ R.locals) {hl : MemL} (Qp : Int64 → Mem → Prop) : ∀ (n : Nat) (h : Mem) (v1 : Int64) (v3 : Int32) (H : Heap) (locs : List Loc) (ls : Array Slot), mD (wdM E) h hl s H locs → lv_has ls 5 [(0, .ref (wad (wdM E) 0)), (1, .long v1), (3, .int v3)] → b_X10_digest_6 n h v1 v3 Qp → W p l e R s m args below meth c H locs 0 0 (MQ below (mQl (wdM E) (fun r h1 hl1 => hl = hl1 ∧ Qp r h1)) args s 0 0 (wA (wdM E))) (F0 m 6 ls []) := by
  have hx := C.x
  have hb := C.b
  intro n
  induction n with
  | zero => intro h v1 v3 H locs ls Dy lv hwp; exact hwp.elim
  | succ n ih =>
    intro h v1 v3 H locs ls Dy lv hwp
    simp only [b_X10_digest_6] at hwp
    refine lv_iload_n hx hb dX10_digest_6 rfl (lv_at lv 2 rfl) ?_
    refine lv_bipush (v := (8 : Int32)) hx hb dX10_digest_7 (by decide) ?_
    refine lv_icmp_ge (tgt := 31) hx hb dX10_digest_9 (by decide) (fun c1 => ?_) (fun c1 => ?_)
    · have hwp := hwp.1 c1
      refine lv_ldc2 hx hb C.ow (C.ts _ k_1188) dX10_digest_31 ?_
      refine lv_lload_n hx hb dX10_digest_34 rfl (lv_at lv 1 rfl) ?_
      refine lv_lmul hx hb dX10_digest_35 ?_
      refine lv_aload_n hx hb dX10_digest_36 rfl (lv_at lv 0 rfl) ?_
      refine lv_iconst (v := (0 : Int32)) hx hb dX10_digest_37 (by decide) ?_
      refine x_cont_i Dy (x_runV (As := [.int (0 : Int32)]) (rest := [.long ((31 : Int64) * v1)]) C Dy (m_X10_readsText E l _ _ (0 : Int32) _ hwp) (cw_X10_115 C rfl rfl ⟨Nat.le_trans (Nat.le_of_ble_eq_true rfl) hR.1, Nat.le_trans (Nat.le_of_ble_eq_true rfl) hR.2⟩) wm_0 rfl rfl lv.1 rfl (Nat.le_of_ble_eq_true rfl) dX10_digest_38 ⟨Nat.zero_le _, Nat.zero_le _⟩) (fun r2 h3 hl3 H locs hwp Dy => ?_)
      obtain ⟨rfl, hwp⟩ := hwp
      refine lv_i2l hx hb dX10_digest_41 rfl ?_
      refine lv_ladd hx hb dX10_digest_42 ?_
      refine lv_topl (fun x4 ex4 => ?_)
      have hwp := hwp x4 ex4
      refine lv_lstore_n (lv' := [(1, .long x4), (0, .ref (wad (wdM E) 0)), (3, .int v3)]) hx hb dX10_digest_43 rfl lv (by decide) rfl (fun ls lv => ?_)
      refine lv_ldc2 hx hb C.ow (C.ts _ k_1188) dX10_digest_44 ?_
      refine lv_lload_n hx hb dX10_digest_47 rfl (lv_at lv 0 rfl) ?_
      refine lv_lmul hx hb dX10_digest_48 ?_
      refine lv_aload_n hx hb dX10_digest_49 rfl (lv_at lv 1 rfl) ?_
      refine lv_iconst (v := (1 : Int32)) hx hb dX10_digest_50 (by decide) ?_
      refine x_cont_i Dy (x_runV (As := [.int (1 : Int32)]) (rest := [.long ((31 : Int64) * x4)]) C Dy (m_X10_readsText E l _ _ (1 : Int32) _ hwp) (cw_X10_115 C rfl rfl ⟨Nat.le_trans (Nat.le_of_ble_eq_true rfl) hR.1, Nat.le_trans (Nat.le_of_ble_eq_true rfl) hR.2⟩) wm_0 rfl rfl lv.1 rfl (Nat.le_of_ble_eq_true rfl) dX10_digest_51 ⟨Nat.zero_le _, Nat.zero_le _⟩) (fun r5 h6 hl6 H locs hwp Dy => ?_)
      obtain ⟨rfl, hwp⟩ := hwp
      refine lv_i2l hx hb dX10_digest_54 rfl ?_
      refine lv_ladd hx hb dX10_digest_55 ?_
      refine lv_topl (fun x7 ex7 => ?_)
      have hwp := hwp x7 ex7
      refine lv_lstore_n (lv' := [(1, .long x7), (0, .ref (wad (wdM E) 0)), (3, .int v3)]) hx hb dX10_digest_56 rfl lv (by decide) rfl (fun ls lv => ?_)
      refine lv_aload_n hx hb dX10_digest_57 rfl (lv_at lv 1 rfl) ?_
      refine x_cont_v Dy (x_runV (As := []) (rest := []) C Dy (m_X10_find E l _ _ _ hwp) (cw_X10_152 C rfl rfl ⟨Nat.le_trans (Nat.le_of_ble_eq_true rfl) hR.1, Nat.le_trans (Nat.le_of_ble_eq_true rfl) hR.2⟩) wm_0 rfl rfl lv.1 rfl (Nat.le_of_ble_eq_true rfl) dX10_digest_58 ⟨Nat.zero_le _, Nat.zero_le _⟩) (fun h9 hl9 H locs hwp Dy => ?_)
      obtain ⟨rfl, hwp⟩ := hwp
      refine lv_iconst (v := (0 : Int32)) hx hb dX10_digest_61 (by decide) ?_
      refine lv_istore_n (lv' := [(3, .int (0 : Int32)), (1, .long x7), (0, .ref (wad (wdM E) 0))]) hx hb dX10_digest_62 rfl lv (by decide) rfl (fun ls lv => ?_)
      obtain ⟨n0, hwp⟩ := hwp
      exact t_X10_digest_63 E C hR Qp n0 h9 x7 (0 : Int32) _ _ _ Dy (lv_sub lv [2, 1, 0] rfl) hwp
    · have hwp := hwp.2 c1
      refine lv_ldc2 hx hb C.ow (C.ts _ k_1188) dX10_digest_12 ?_
      refine lv_lload_n hx hb dX10_digest_15 rfl (lv_at lv 1 rfl) ?_
      refine lv_lmul hx hb dX10_digest_16 ?_
      refine lv_aload_n hx hb dX10_digest_17 rfl (lv_at lv 0 rfl) ?_
      refine lv_iload_n hx hb dX10_digest_18 rfl (lv_at lv 2 rfl) ?_
      refine x_cont_i Dy (x_runV (As := [.int v3]) (rest := [.long ((31 : Int64) * v1)]) C Dy (m_X10_count E l _ _ v3 _ hwp) (cw_X10_267 C rfl rfl ⟨Nat.le_trans (Nat.le_of_ble_eq_true rfl) hR.1, Nat.le_trans (Nat.le_of_ble_eq_true rfl) hR.2⟩) wm_0 rfl rfl lv.1 rfl (Nat.le_of_ble_eq_true rfl) dX10_digest_19 ⟨Nat.zero_le _, Nat.zero_le _⟩) (fun r10 h11 hl11 H locs hwp Dy => ?_)
      obtain ⟨rfl, hwp⟩ := hwp
      refine lv_i2l hx hb dX10_digest_22 rfl ?_
      refine lv_ladd hx hb dX10_digest_23 ?_
      refine lv_topl (fun x12 ex12 => ?_)
      have hwp := hwp x12 ex12
      refine lv_lstore_n (lv' := [(1, .long x12), (0, .ref (wad (wdM E) 0)), (3, .int v3)]) hx hb dX10_digest_24 rfl lv (by decide) rfl (fun ls lv => ?_)
      refine lv_iinc (v := (v3 + (1 : Int32))) (lv' := [(3, .int (v3 + (1 : Int32))), (1, .long x12), (0, .ref (wad (wdM E) 0))]) hx hb dX10_digest_25 lv (k := 2) rfl rfl (by decide) rfl (fun ls lv => ?_)
      refine lv_goto (tgt := 6) hx hb dX10_digest_28 (by decide) ?_
      exact ih h11 x12 (v3 + (1 : Int32)) _ _ _ Dy (lv_sub lv [2, 1, 0] rfl) hwp
set_option maxHeartbeats 4000000 in
set_option maxRecDepth 100000 in
theorem m_X10_digest (E : xE) (l : Launch) (h : Mem) (hl : MemL) (Qp : Int64 → Mem → Prop) (hwp : p_X10_digest h Qp) : Met l yX10_digest (wsU yX10_digest cX10_digest 5 (some .long)) ({ frames := 9, cells := 0, slots := 0, locals := 211 } : Room) (mPc (wdM E) [.ref (wad (wdM E) 0)] h hl) (mQl (wdM E) (fun r h1 hl1 => hl = hl1 ∧ Qp r h1)) 0 0 (wA (wdM E)) := by
  refine x_met RX10 [(0, .ref (wad (wdM E) 0))] (by decide) rfl (Nat.le_of_ble_eq_true rfl) rfl ?_
  intro p e s m args below meth c ls C Dy lv
  have hx := C.x
  have hb := C.b
  have hR : 9 ≤ ({ frames := 9, cells := 0, slots := 0, locals := 211 } : Room).frames ∧ 211 ≤ ({ frames := 9, cells := 0, slots := 0, locals := 211 } : Room).locals := ⟨Nat.le_refl _, Nat.le_refl _⟩
  unfold p_X10_digest at hwp
  refine lv_ldc2 hx hb C.ow (C.ts _ k_1187) dX10_digest_0 ?_
  refine lv_lstore_n (lv' := [(1, .long (17 : Int64)), (0, .ref (wad (wdM E) 0))]) hx hb dX10_digest_3 rfl lv (by decide) rfl (fun ls lv => ?_)
  refine lv_iconst (v := (0 : Int32)) hx hb dX10_digest_4 (by decide) ?_
  refine lv_istore_n (lv' := [(3, .int (0 : Int32)), (1, .long (17 : Int64)), (0, .ref (wad (wdM E) 0))]) hx hb dX10_digest_5 rfl lv (by decide) rfl (fun ls lv => ?_)
  obtain ⟨n0, hwp⟩ := hwp
  exact t_X10_digest_6 E C hR Qp n0 h (17 : Int64) (0 : Int32) _ _ _ Dy (lv_sub lv [2, 1, 0] rfl) hwp
