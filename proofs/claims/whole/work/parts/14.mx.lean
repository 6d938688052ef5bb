def p_X9_keep (h : Mem) (v1 : Int32) (v2 : Int32) (Qp : Int32 → Mem → Prop) : Prop := (p_X9_within v1 (30 : Int32) (fun r1 => ((r1 = 0 → Qp (-2 : Int32) h) ∧ (¬ (r1 = 0) → (p_X9_within v2 (2 : Int32) (fun r4 => ((r4 = 0 → Qp (-2 : Int32) h) ∧ (¬ (r4 = 0) → (p_X9_kingsLaws h v1 (fun r7 h8 => (p_X3_search h8 r7 (fun h10 => Qp (if v2 = 0 then (h10 31 0) else (h10 31 1)) h10))))))))))))
set_option maxHeartbeats 4000000 in
set_option maxRecDepth 100000 in
theorem m_X9_keep (E : xE) (l : Launch) (h : Mem) (hl : MemL) (v1 : Int32) (v2 : Int32) (Qp : Int32 → Mem → Prop) (hwp : p_X9_keep h v1 v2 Qp) : Met l yX9_keep (wsU yX9_keep cX9_keep 3 (some .int)) ({ frames := 18, cells := 0, slots := 0, locals := 479 } : Room) (mPc (wdX E) [.ref (wad (wdX E) 0), .int v1, .int v2] h hl) (mQi (wdX E) (fun r h1 hl1 => hl = hl1 ∧ Qp r h1)) 0 0 (wA (wdX E)) := by
  refine x_met RX9 [(0, .ref (wad (wdX E) 0)), (1, .int v1), (2, .int v2)] (by decide) rfl (Nat.le_of_ble_eq_true rfl) rfl ?_
  intro p e s m args below meth c ls C Dy lv
  have hx := C.x
  have hb := C.b
  have hR : 18 ≤ ({ frames := 18, cells := 0, slots := 0, locals := 479 } : Room).frames ∧ 479 ≤ ({ frames := 18, cells := 0, slots := 0, locals := 479 } : Room).locals := ⟨Nat.le_refl _, Nat.le_refl _⟩
  unfold p_X9_keep at hwp
  refine lv_iload_n hx hb dX9_keep_0 rfl (lv_at lv 1 rfl) ?_
  refine lv_bipush (v := (30 : Int32)) hx hb dX9_keep_1 (by decide) ?_
  refine x_cont_z Dy (x_runS (As := [.int v1, .int (30 : Int32)]) (rest := []) C Dy (m_X9_within E l _ _ v1 (30 : Int32) _ hwp) (cw_X9_104 C rfl rfl ⟨Nat.le_trans (Nat.le_of_ble_eq_true rfl) hR.1, Nat.le_trans (Nat.le_of_ble_eq_true rfl) hR.2⟩) rfl lv.1 rfl (Nat.le_of_ble_eq_true rfl) dX9_keep_3 ⟨Nat.zero_le _, Nat.zero_le _⟩) (fun r1 h2 hl2 H locs zr1 hwp Dy => ?_)
  obtain ⟨rfl, rfl, hwp⟩ := hwp
  refine lv_if_eq (tgt := 17) hx hb dX9_keep_6 (by decide) (fun c3 => ?_) (fun c3 => ?_)
  · have hwp := hwp.1 c3
    refine lv_bipush (v := (-2 : Int32)) hx hb dX9_keep_17 (by decide) ?_
    exact x_iret C Dy ⟨rfl, hwp⟩ dX9_keep_19
  · have hwp := hwp.2 c3
    refine lv_iload_n hx hb dX9_keep_9 rfl (lv_at lv 2 rfl) ?_
    refine lv_iconst (v := (2 : Int32)) hx hb dX9_keep_10 (by decide) ?_
    refine x_cont_z Dy (x_runS (As := [.int v2, .int (2 : Int32)]) (rest := []) C Dy (m_X9_within E l _ _ v2 (2 : Int32) _ hwp) (cw_X9_104 C rfl rfl ⟨Nat.le_trans (Nat.le_of_ble_eq_true rfl) hR.1, Nat.le_trans (Nat.le_of_ble_eq_true rfl) hR.2⟩) rfl lv.1 rfl (Nat.le_of_ble_eq_true rfl) dX9_keep_11 ⟨Nat.zero_le _, Nat.zero_le _⟩) (fun r4 h5 hl5 H locs zr4 hwp Dy => ?_)
    obtain ⟨rfl, rfl, hwp⟩ := hwp
    refine lv_if_ne (tgt := 20) hx hb dX9_keep_14 (by decide) (fun c6 => ?_) (fun c6 => ?_)
    · have hwp := hwp.2 c6
      refine lv_aload_n hx hb dX9_keep_20 rfl (lv_at lv 0 rfl) ?_
      refine gf_X9_64_0 C Dy dX9_keep_21 ?_
      refine lv_aload_n hx hb dX9_keep_24 rfl (lv_at lv 0 rfl) ?_
      refine gf_X9_37_0 C Dy dX9_keep_25 ?_
      refine lv_aload_n hx hb dX9_keep_28 rfl (lv_at lv 0 rfl) ?_
      refine lv_iload_n hx hb dX9_keep_29 rfl (lv_at lv 1 rfl) ?_
      refine x_cont_i Dy (x_runV (As := [.int v1]) (rest := [.ref (wad (wdX E) 7), .ref (wad (wdX E) 31)]) C Dy (m_X9_kingsLaws E l _ _ v1 _ hwp) (cw_X9_164 C rfl rfl ⟨Nat.le_trans (Nat.le_of_ble_eq_true rfl) hR.1, Nat.le_trans (Nat.le_of_ble_eq_true rfl) hR.2⟩) wx_0 rfl rfl lv.1 rfl (Nat.le_of_ble_eq_true rfl) dX9_keep_30 ⟨Nat.zero_le _, Nat.zero_le _⟩) (fun r7 h8 hl8 H locs hwp Dy => ?_)
      obtain ⟨rfl, hwp⟩ := hwp
      refine x_cont_v Dy (x_runV (As := [.ref (wad (wdX E) 7), .int r7]) (rest := []) C Dy (m_X3_search E l _ _ r7 _ hwp) (cw_X9_196 C rfl rfl ⟨Nat.le_trans (Nat.le_of_ble_eq_true rfl) hR.1, Nat.le_trans (Nat.le_of_ble_eq_true rfl) hR.2⟩) wx_31 rfl rfl lv.1 rfl (Nat.le_of_ble_eq_true rfl) dX9_keep_33 ⟨Nat.zero_le _, Nat.zero_le _⟩) (fun h10 hl10 H locs hwp Dy => ?_)
      obtain ⟨rfl, hwp⟩ := hwp
      refine lv_iload_n hx hb dX9_keep_36 rfl (lv_at lv 2 rfl) ?_
      refine lv_if_ne (tgt := 50) hx hb dX9_keep_37 (by decide) (fun c11 => ?_) (fun c11 => ?_)
      · try simp only [if_neg c11] at hwp
        refine lv_aload_n hx hb dX9_keep_50 rfl (lv_at lv 0 rfl) ?_
        refine gf_X9_64_0 C Dy dX9_keep_51 ?_
        refine gf_X9_203_31 C Dy dX9_keep_54 ?_
        exact x_iret C Dy ⟨rfl, hwp⟩ dX9_keep_57
      · try simp only [if_pos c11] at hwp
        refine lv_aload_n hx hb dX9_keep_40 rfl (lv_at lv 0 rfl) ?_
        refine gf_X9_64_0 C Dy dX9_keep_41 ?_
        refine gf_X9_200_31 C Dy dX9_keep_44 ?_
        refine lv_goto (tgt := 57) hx hb dX9_keep_47 (by decide) ?_
        exact x_iret C Dy ⟨rfl, hwp⟩ dX9_keep_57
    · have hwp := hwp.1 c6
      refine lv_bipush (v := (-2 : Int32)) hx hb dX9_keep_17 (by decide) ?_
      exact x_iret C Dy ⟨rfl, hwp⟩ dX9_keep_19
def p_X9_order (h : Mem) (v1 : Int32) (v2 : Int32) (v3 : Int32) (Qp : Int32 → Mem → Prop) : Prop := (p_X9_refresh h (fun h2 => (p_J6_bitCount v1 (fun r3 => (p_X0_all h2 (fun r5 => (((v1 &&& (r5 ^^^ (-1 : Int32))) = 0 → ((r3 < (1 : Int32) → Qp (-2 : Int32) h2) ∧ (¬ (r3 < (1 : Int32)) → ((r3 ≤ (4 : Int32) → (p_X9_within v2 (30 : Int32) (fun r10 => ((r10 = 0 → Qp (-2 : Int32) h2) ∧ (¬ (r10 = 0) → (((30 : Int32) < (v2 + r3) → Qp (-2 : Int32) h2) ∧ (¬ ((30 : Int32) < (v2 + r3)) → ((v3 < (-1 : Int32) → Qp (-2 : Int32) h2) ∧ (¬ (v3 < (-1 : Int32)) → ((v3 < (4 : Int32) → ((v3 < r3 → (p_X6_retell h2 29 (fun h18 => (p_X5_search h18 v1 v2 (fun h20 => ((v3 = (-1 : Int32) → Qp (h20 32 0) h20) ∧ (¬ (v3 = (-1 : Int32)) → (vp_in v3 4 ∧ Qp (h20 33 v3.toNatClampNeg) h20)))))))) ∧ (¬ (v3 < r3) → Qp (-1 : Int32) h2))) ∧ (¬ (v3 < (4 : Int32)) → Qp (-2 : Int32) h2))))))))))) ∧ (¬ (r3 ≤ (4 : Int32)) → Qp (-2 : Int32) h2))))) ∧ (¬ ((v1 &&& (r5 ^^^ (-1 : Int32))) = 0) → Qp (-2 : Int32) h2))))))))
set_option maxHeartbeats 4000000 in
set_option maxRecDepth 100000 in
theorem m_X9_order (E : xE) (l : Launch) (h : Mem) (hl : MemL) (v1 : Int32) (v2 : Int32) (v3 : Int32) (Qp : Int32 → Mem → Prop) (hwp : p_X9_order h v1 v2 v3 Qp) : Met l yX9_order (wsU yX9_order cX9_order 5 (some .int)) ({ frames := 11, cells := 0, slots := 0, locals := 296 } : Room) (mPc (wdX E) [.ref (wad (wdX E) 0), .int v1, .int v2, .int v3] h hl) (mQi (wdX E) (fun r h1 hl1 => hl = hl1 ∧ Qp r h1)) 0 0 (wA (wdX E)) := by
  refine x_met RX9 [(0, .ref (wad (wdX E) 0)), (1, .int v1), (2, .int v2), (3, .int v3)] (by decide) rfl (Nat.le_of_ble_eq_true rfl) rfl ?_
  intro p e s m args below meth c ls C Dy lv
  have hx := C.x
  have hb := C.b
  have hR : 11 ≤ ({ frames := 11, cells := 0, slots := 0, locals := 296 } : Room).frames ∧ 296 ≤ ({ frames := 11, cells := 0, slots := 0, locals := 296 } : Room).locals := ⟨Nat.le_refl _, Nat.le_refl _⟩
  unfold p_X9_order at hwp
  refine lv_aload_n hx hb dX9_order_0 rfl (lv_at lv 0 rfl) ?_
  refine x_cont_v Dy (x_runV (As := []) (rest := []) C Dy (m_X9_refresh E l _ _ _ hwp) (cw_X9_126 C rfl rfl ⟨Nat.le_trans (Nat.le_of_ble_eq_true rfl) hR.1, Nat.le_trans (Nat.le_of_ble_eq_true rfl) hR.2⟩) wx_0 rfl rfl lv.1 rfl (Nat.le_of_ble_eq_true rfl) dX9_order_1 ⟨Nat.zero_le _, Nat.zero_le _⟩) (fun h2 hl2 H locs hwp Dy => ?_)
  obtain ⟨rfl, hwp⟩ := hwp
  refine lv_iload_n hx hb dX9_order_4 rfl (lv_at lv 1 rfl) ?_
  refine x_cont_i Dy (x_runS (As := [.int v1]) (rest := []) C Dy (m_J6_bitCount (wdX E) l _ _ v1 _ hwp) (cw_X9_191 C rfl rfl ⟨Nat.le_trans (Nat.le_of_ble_eq_true rfl) hR.1, Nat.le_trans (Nat.le_of_ble_eq_true rfl) hR.2⟩) rfl lv.1 rfl (Nat.le_of_ble_eq_true rfl) dX9_order_5 ⟨Nat.zero_le _, Nat.zero_le _⟩) (fun r3 h4 hl4 H locs hwp Dy => ?_)
  obtain ⟨rfl, rfl, hwp⟩ := hwp
  refine lv_istore (lv' := [(4, .int r3), (0, .ref (wad (wdX E) 0)), (1, .int v1), (2, .int v2), (3, .int v3)]) hx hb dX9_order_8 lv (by decide) rfl (fun ls lv => ?_)
  refine lv_iload_n hx hb dX9_order_10 rfl (lv_at lv 2 rfl) ?_
  refine lv_aload_n hx hb dX9_order_11 rfl (lv_at lv 1 rfl) ?_
  refine gf_X9_37_0 C Dy dX9_order_12 ?_
  refine x_cont_i Dy (x_runV (As := []) (rest := [.int v1]) C Dy (m_X0_all E l _ _ _ hwp) (cw_X9_206 C rfl rfl ⟨Nat.le_trans (Nat.le_of_ble_eq_true rfl) hR.1, Nat.le_trans (Nat.le_of_ble_eq_true rfl) hR.2⟩) wx_7 rfl rfl lv.1 rfl (Nat.le_of_ble_eq_true rfl) dX9_order_15 ⟨Nat.zero_le _, Nat.zero_le _⟩) (fun r5 h6 hl6 H locs hwp Dy => ?_)
  obtain ⟨rfl, rfl, hwp⟩ := hwp
  refine lv_iconst (v := (-1 : Int32)) hx hb dX9_order_18 (by decide) ?_
  refine lv_ixor hx hb dX9_order_19 ?_
  refine lv_iand hx hb dX9_order_20 ?_
  refine lv_if_ne (tgt := 36) hx hb dX9_order_21 (by decide) (fun c7 => ?_) (fun c7 => ?_)
  · have hwp := hwp.2 c7
    refine lv_bipush (v := (-2 : Int32)) hx hb dX9_order_36 (by decide) ?_
    exact x_iret C Dy ⟨rfl, hwp⟩ dX9_order_38
  · have hwp := hwp.1 c7
    refine lv_iload hx hb dX9_order_24 (lv_at lv 0 rfl) ?_
    refine lv_iconst (v := (1 : Int32)) hx hb dX9_order_26 (by decide) ?_
    refine lv_icmp_lt (tgt := 36) hx hb dX9_order_27 (by decide) (fun c8 => ?_) (fun c8 => ?_)
    · have hwp := hwp.1 c8
      refine lv_bipush (v := (-2 : Int32)) hx hb dX9_order_36 (by decide) ?_
      exact x_iret C Dy ⟨rfl, hwp⟩ dX9_order_38
    · have hwp := hwp.2 c8
      refine lv_iload hx hb dX9_order_30 (lv_at lv 0 rfl) ?_
      refine lv_iconst (v := (4 : Int32)) hx hb dX9_order_32 (by decide) ?_
      refine lv_icmp_le (tgt := 39) hx hb dX9_order_33 (by decide) (fun c9 => ?_) (fun c9 => ?_)
      · have hwp := hwp.1 c9
        refine lv_iload_n hx hb dX9_order_39 rfl (lv_at lv 3 rfl) ?_
        refine lv_bipush (v := (30 : Int32)) hx hb dX9_order_40 (by decide) ?_
        refine x_cont_z Dy (x_runS (As := [.int v2, .int (30 : Int32)]) (rest := []) C Dy (m_X9_within E l _ _ v2 (30 : Int32) _ hwp) (cw_X9_104 C rfl rfl ⟨Nat.le_trans (Nat.le_of_ble_eq_true rfl) hR.1, Nat.le_trans (Nat.le_of_ble_eq_true rfl) hR.2⟩) rfl lv.1 rfl (Nat.le_of_ble_eq_true rfl) dX9_order_42 ⟨Nat.zero_le _, Nat.zero_le _⟩) (fun r10 h11 hl11 H locs zr10 hwp Dy => ?_)
        obtain ⟨rfl, rfl, hwp⟩ := hwp
        refine lv_if_eq (tgt := 67) hx hb dX9_order_45 (by decide) (fun c12 => ?_) (fun c12 => ?_)
        · have hwp := hwp.1 c12
          refine lv_bipush (v := (-2 : Int32)) hx hb dX9_order_67 (by decide) ?_
          exact x_iret C Dy ⟨rfl, hwp⟩ dX9_order_69
        · have hwp := hwp.2 c12
          refine lv_iload_n hx hb dX9_order_48 rfl (lv_at lv 3 rfl) ?_
          refine lv_iload hx hb dX9_order_49 (lv_at lv 0 rfl) ?_
          refine lv_iadd hx hb dX9_order_51 ?_
          refine lv_bipush (v := (30 : Int32)) hx hb dX9_order_52 (by decide) ?_
          refine lv_icmp_gt (tgt := 67) hx hb dX9_order_54 (by decide) (fun c13 => ?_) (fun c13 => ?_)
          · have hwp := hwp.1 c13
            refine lv_bipush (v := (-2 : Int32)) hx hb dX9_order_67 (by decide) ?_
            exact x_iret C Dy ⟨rfl, hwp⟩ dX9_order_69
          · have hwp := hwp.2 c13
            refine lv_iload_n hx hb dX9_order_57 rfl (lv_at lv 4 rfl) ?_
            refine lv_iconst (v := (-1 : Int32)) hx hb dX9_order_58 (by decide) ?_
            refine lv_icmp_lt (tgt := 67) hx hb dX9_order_59 (by decide) (fun c14 => ?_) (fun c14 => ?_)
            · have hwp := hwp.1 c14
              refine lv_bipush (v := (-2 : Int32)) hx hb dX9_order_67 (by decide) ?_
              exact x_iret C Dy ⟨rfl, hwp⟩ dX9_order_69
            · have hwp := hwp.2 c14
              refine lv_iload_n hx hb dX9_order_62 rfl (lv_at lv 4 rfl) ?_
              refine lv_iconst (v := (4 : Int32)) hx hb dX9_order_63 (by decide) ?_
              refine lv_icmp_lt (tgt := 70) hx hb dX9_order_64 (by decide) (fun c15 => ?_) (fun c15 => ?_)
              · have hwp := hwp.1 c15
                refine lv_iload_n hx hb dX9_order_70 rfl (lv_at lv 4 rfl) ?_
                refine lv_iload hx hb dX9_order_71 (lv_at lv 0 rfl) ?_
                refine lv_icmp_lt (tgt := 78) hx hb dX9_order_73 (by decide) (fun c16 => ?_) (fun c16 => ?_)
                · have hwp := hwp.1 c16
                  refine lv_aload_n hx hb dX9_order_78 rfl (lv_at lv 1 rfl) ?_
                  refine gf_X9_58_0 C Dy dX9_order_79 ?_
                  refine lv_aload_n hx hb dX9_order_82 rfl (lv_at lv 1 rfl) ?_
                  refine gf_X9_44_0 C Dy dX9_order_83 ?_
                  refine lv_aload_n hx hb dX9_order_86 rfl (lv_at lv 1 rfl) ?_
                  refine gf_X9_48_0 C Dy dX9_order_87 ?_
                  refine x_cont_v Dy (x_runV (As := [.ref (wad (wdX E) 21), .ref (wad (wdX E) 24)]) (rest := []) C Dy (m_X6_retell E l _ _ 29 (Or.inr rfl) _ hwp) (cw_X9_150 C rfl rfl ⟨Nat.le_trans (Nat.le_of_ble_eq_true rfl) hR.1, Nat.le_trans (Nat.le_of_ble_eq_true rfl) hR.2⟩) wx_29 rfl rfl lv.1 rfl (Nat.le_of_ble_eq_true rfl) dX9_order_90 ⟨Nat.zero_le _, Nat.zero_le _⟩) (fun h18 hl18 H locs hwp Dy => ?_)
                  obtain ⟨rfl, hwp⟩ := hwp
                  refine lv_aload_n hx hb dX9_order_93 rfl (lv_at lv 1 rfl) ?_
                  refine gf_X9_71_0 C Dy dX9_order_94 ?_
                  refine lv_aload_n hx hb dX9_order_97 rfl (lv_at lv 1 rfl) ?_
                  refine gf_X9_37_0 C Dy dX9_order_98 ?_
                  refine lv_aload_n hx hb dX9_order_101 rfl (lv_at lv 1 rfl) ?_
                  refine gf_X9_58_0 C Dy dX9_order_102 ?_
                  refine lv_aload_n hx hb dX9_order_105 rfl (lv_at lv 1 rfl) ?_
                  refine gf_X9_48_0 C Dy dX9_order_106 ?_
                  refine lv_iload_n hx hb dX9_order_109 rfl (lv_at lv 2 rfl) ?_
                  refine lv_iload_n hx hb dX9_order_110 rfl (lv_at lv 3 rfl) ?_
                  refine x_cont_v Dy (x_runV (As := [.ref (wad (wdX E) 7), .ref (wad (wdX E) 29), .ref (wad (wdX E) 24), .int v1, .int v2]) (rest := []) C Dy (m_X5_search E l _ _ v1 v2 _ hwp) (cw_X9_210 C rfl rfl ⟨Nat.le_trans (Nat.le_of_ble_eq_true rfl) hR.1, Nat.le_trans (Nat.le_of_ble_eq_true rfl) hR.2⟩) wx_32 rfl rfl lv.1 rfl (Nat.le_of_ble_eq_true rfl) dX9_order_111 ⟨Nat.zero_le _, Nat.zero_le _⟩) (fun h20 hl20 H locs hwp Dy => ?_)
                  obtain ⟨rfl, hwp⟩ := hwp
                  refine lv_iload_n hx hb dX9_order_114 rfl (lv_at lv 4 rfl) ?_
                  refine lv_iconst (v := (-1 : Int32)) hx hb dX9_order_115 (by decide) ?_
                  refine lv_icmp_ne (tgt := 129) hx hb dX9_order_116 (by decide) (fun c21 => ?_) (fun c21 => ?_)
                  · have hwp := hwp.2 c21
                    refine lv_aload_n hx hb dX9_order_129 rfl (lv_at lv 1 rfl) ?_
                    refine gf_X9_71_0 C Dy dX9_order_130 ?_
                    refine gf_X9_214_32 C Dy dX9_order_133 ?_
                    refine lv_iload_n hx hb dX9_order_136 rfl (lv_at lv 4 rfl) ?_
                    obtain ⟨g22, hwp⟩ := hwp
                    refine x_iald C Dy wxa_33 g22 dX9_order_137 ?_
                    exact x_iret C Dy ⟨rfl, hwp⟩ dX9_order_138
                  · have hwp := hwp.1 c21
                    refine lv_aload_n hx hb dX9_order_119 rfl (lv_at lv 1 rfl) ?_
                    refine gf_X9_71_0 C Dy dX9_order_120 ?_
                    refine gf_X9_213_32 C Dy dX9_order_123 ?_
                    refine lv_goto (tgt := 138) hx hb dX9_order_126 (by decide) ?_
                    exact x_iret C Dy ⟨rfl, hwp⟩ dX9_order_138
                · have hwp := hwp.2 c16
                  refine lv_iconst (v := (-1 : Int32)) hx hb dX9_order_76 (by decide) ?_
                  exact x_iret C Dy ⟨rfl, hwp⟩ dX9_order_77
              · have hwp := hwp.2 c15
                refine lv_bipush (v := (-2 : Int32)) hx hb dX9_order_67 (by decide) ?_
                exact x_iret C Dy ⟨rfl, hwp⟩ dX9_order_69
      · have hwp := hwp.2 c9
        refine lv_bipush (v := (-2 : Int32)) hx hb dX9_order_36 (by decide) ?_
        exact x_iret C Dy ⟨rfl, hwp⟩ dX9_order_38
def p_X9_seen (h : Mem) (v1 : Int32) (v2 : Int32) (Qp : Int32 → Mem → Prop) : Prop := (p_X9_within v1 (24 : Int32) (fun r1 => ((r1 = 0 → Qp (-2 : Int32) h) ∧ (¬ (r1 = 0) → (p_X9_isDeedOrNone v2 (fun r4 => ((r4 = 0 → Qp (-2 : Int32) h) ∧ (¬ (r4 = 0) → (p_X2_isFull h (fun r7 => ((r7 = 0 → (p_X2_append h v1 v2 (fun h11 => Qp (h11 35 2) h11))) ∧ (¬ (r7 = 0) → Qp (-4 : Int32) h))))))))))))
set_option maxHeartbeats 4000000 in
set_option maxRecDepth 100000 in
theorem m_X9_seen (E : xE) (l : Launch) (h : Mem) (hl : MemL) (v1 : Int32) (v2 : Int32) (Qp : Int32 → Mem → Prop) (hwp : p_X9_seen h v1 v2 Qp) : Met l yX9_seen (wsU yX9_seen cX9_seen 3 (some .int)) ({ frames := 2, cells := 0, slots := 0, locals := 41 } : Room) (mPc (wdX E) [.ref (wad (wdX E) 0), .int v1, .int v2] h hl) (mQi (wdX E) (fun r h1 hl1 => hl = hl1 ∧ Qp r h1)) 0 0 (wA (wdX E)) := by
  refine x_met RX9 [(0, .ref (wad (wdX E) 0)), (1, .int v1), (2, .int v2)] (by decide) rfl (Nat.le_of_ble_eq_true rfl) rfl ?_
  intro p e s m args below meth c ls C Dy lv
  have hx := C.x
  have hb := C.b
  have hR : 2 ≤ ({ frames := 2, cells := 0, slots := 0, locals := 41 } : Room).frames ∧ 41 ≤ ({ frames := 2, cells := 0, slots := 0, locals := 41 } : Room).locals := ⟨Nat.le_refl _, Nat.le_refl _⟩
  unfold p_X9_seen at hwp
  refine lv_iload_n hx hb dX9_seen_0 rfl (lv_at lv 1 rfl) ?_
  refine lv_bipush (v := (24 : Int32)) hx hb dX9_seen_1 (by decide) ?_
  refine x_cont_z Dy (x_runS (As := [.int v1, .int (24 : Int32)]) (rest := []) C Dy (m_X9_within E l _ _ v1 (24 : Int32) _ hwp) (cw_X9_104 C rfl rfl ⟨Nat.le_trans (Nat.le_of_ble_eq_true rfl) hR.1, Nat.le_trans (Nat.le_of_ble_eq_true rfl) hR.2⟩) rfl lv.1 rfl (Nat.le_of_ble_eq_true rfl) dX9_seen_3 ⟨Nat.zero_le _, Nat.zero_le _⟩) (fun r1 h2 hl2 H locs zr1 hwp Dy => ?_)
  obtain ⟨rfl, rfl, hwp⟩ := hwp
  refine lv_if_eq (tgt := 16) hx hb dX9_seen_6 (by decide) (fun c3 => ?_) (fun c3 => ?_)
  · have hwp := hwp.1 c3
    refine lv_bipush (v := (-2 : Int32)) hx hb dX9_seen_16 (by decide) ?_
    exact x_iret C Dy ⟨rfl, hwp⟩ dX9_seen_18
  · have hwp := hwp.2 c3
    refine lv_iload_n hx hb dX9_seen_9 rfl (lv_at lv 2 rfl) ?_
    refine x_cont_z Dy (x_runS (As := [.int v2]) (rest := []) C Dy (m_X9_isDeedOrNone E l _ _ v2 _ hwp) (cw_X9_183 C rfl rfl ⟨Nat.le_trans (Nat.le_of_ble_eq_true rfl) hR.1, Nat.le_trans (Nat.le_of_ble_eq_true rfl) hR.2⟩) rfl lv.1 rfl (Nat.le_of_ble_eq_true rfl) dX9_seen_10 ⟨Nat.zero_le _, Nat.zero_le _⟩) (fun r4 h5 hl5 H locs zr4 hwp Dy => ?_)
    obtain ⟨rfl, rfl, hwp⟩ := hwp
    refine lv_if_ne (tgt := 19) hx hb dX9_seen_13 (by decide) (fun c6 => ?_) (fun c6 => ?_)
    · have hwp := hwp.2 c6
      refine lv_aload_n hx hb dX9_seen_19 rfl (lv_at lv 0 rfl) ?_
      refine gf_X9_78_0 C Dy dX9_seen_20 ?_
      refine x_cont_z Dy (x_runV (As := []) (rest := []) C Dy (m_X2_isFull E l _ _ _ hwp) (cw_X9_217 C rfl rfl ⟨Nat.le_trans (Nat.le_of_ble_eq_true rfl) hR.1, Nat.le_trans (Nat.le_of_ble_eq_true rfl) hR.2⟩) wx_35 rfl rfl lv.1 rfl (Nat.le_of_ble_eq_true rfl) dX9_seen_23 ⟨Nat.zero_le _, Nat.zero_le _⟩) (fun r7 h8 hl8 H locs zr7 hwp Dy => ?_)
      obtain ⟨rfl, rfl, hwp⟩ := hwp
      refine lv_if_eq (tgt := 32) hx hb dX9_seen_26 (by decide) (fun c9 => ?_) (fun c9 => ?_)
      · have hwp := hwp.1 c9
        refine lv_aload_n hx hb dX9_seen_32 rfl (lv_at lv 0 rfl) ?_
        refine gf_X9_78_0 C Dy dX9_seen_33 ?_
        refine lv_iload_n hx hb dX9_seen_36 rfl (lv_at lv 1 rfl) ?_
        refine lv_iload_n hx hb dX9_seen_37 rfl (lv_at lv 2 rfl) ?_
        refine x_cont_v Dy (x_runV (As := [.int v1, .int v2]) (rest := []) C Dy (m_X2_append E l _ _ v1 v2 _ hwp) (cw_X9_218 C rfl rfl ⟨Nat.le_trans (Nat.le_of_ble_eq_true rfl) hR.1, Nat.le_trans (Nat.le_of_ble_eq_true rfl) hR.2⟩) wx_35 rfl rfl lv.1 rfl (Nat.le_of_ble_eq_true rfl) dX9_seen_38 ⟨Nat.zero_le _, Nat.zero_le _⟩) (fun h11 hl11 H locs hwp Dy => ?_)
        obtain ⟨rfl, hwp⟩ := hwp
        refine lv_aload_n hx hb dX9_seen_41 rfl (lv_at lv 0 rfl) ?_
        refine gf_X9_78_0 C Dy dX9_seen_42 ?_
        refine gf_X9_221_35 C Dy dX9_seen_45 ?_
        exact x_iret C Dy ⟨rfl, hwp⟩ dX9_seen_48
      · have hwp := hwp.2 c9
        refine lv_bipush (v := (-4 : Int32)) hx hb dX9_seen_29 (by decide) ?_
        exact x_iret C Dy ⟨rfl, hwp⟩ dX9_seen_31
    · have hwp := hwp.1 c6
      refine lv_bipush (v := (-2 : Int32)) hx hb dX9_seen_16 (by decide) ?_
      exact x_iret C Dy ⟨rfl, hwp⟩ dX9_seen_18
def p_X9_forget (h : Mem) (Qp : Int32 → Mem → Prop) : Prop := (p_X2_clear h (fun h2 => Qp (h 35 2) h2))
set_option maxHeartbeats 4000000 in
set_option maxRecDepth 100000 in
theorem m_X9_forget (E : xE) (l : Launch) (h : Mem) (hl : MemL) (Qp : Int32 → Mem → Prop) (hwp : p_X9_forget h Qp) : Met l yX9_forget (wsU yX9_forget cX9_forget 2 (some .int)) ({ frames := 1, cells := 0, slots := 0, locals := 20 } : Room) (mPc (wdX E) [.ref (wad (wdX E) 0)] h hl) (mQi (wdX E) (fun r h1 hl1 => hl = hl1 ∧ Qp r h1)) 0 0 (wA (wdX E)) := by
  refine x_met RX9 [(0, .ref (wad (wdX E) 0))] (by decide) rfl (Nat.le_of_ble_eq_true rfl) rfl ?_
  intro p e s m args below meth c ls C Dy lv
  have hx := C.x
  have hb := C.b
  have hR : 1 ≤ ({ frames := 1, cells := 0, slots := 0, locals := 20 } : Room).frames ∧ 20 ≤ ({ frames := 1, cells := 0, slots := 0, locals := 20 } : Room).locals := ⟨Nat.le_refl _, Nat.le_refl _⟩
  unfold p_X9_forget at hwp
  refine lv_aload_n hx hb dX9_forget_0 rfl (lv_at lv 0 rfl) ?_
  refine gf_X9_78_0 C Dy dX9_forget_1 ?_
  refine gf_X9_221_35 C Dy dX9_forget_4 ?_
  refine lv_istore_n (lv' := [(1, .int (h 35 2)), (0, .ref (wad (wdX E) 0))]) hx hb dX9_forget_7 rfl lv (by decide) rfl (fun ls lv => ?_)
  refine lv_aload_n hx hb dX9_forget_8 rfl (lv_at lv 1 rfl) ?_
  refine gf_X9_78_0 C Dy dX9_forget_9 ?_
  refine x_cont_v Dy (x_runV (As := []) (rest := []) C Dy (m_X2_clear E l _ _ _ hwp) (cw_X9_222 C rfl rfl ⟨Nat.le_trans (Nat.le_of_ble_eq_true rfl) hR.1, Nat.le_trans (Nat.le_of_ble_eq_true rfl) hR.2⟩) wx_35 rfl rfl lv.1 rfl (Nat.le_of_ble_eq_true rfl) dX9_forget_12 ⟨Nat.zero_le _, Nat.zero_le _⟩) (fun h2 hl2 H locs hwp Dy => ?_)
  obtain ⟨rfl, hwp⟩ := hwp
  refine lv_iload_n hx hb dX9_forget_15 rfl (lv_at lv 0 rfl) ?_
  exact x_iret C Dy ⟨rfl, hwp⟩ dX9_forget_16
def p_X9_find (h : Mem) (v1 : Int32) (Qp : Int32 → Mem → Prop) : Prop := Qp ((-10 : Int32) - v1) (up2 h 0 13 v1)
set_option maxHeartbeats 4000000 in
set_option maxRecDepth 100000 in
theorem m_X9_find (E : xE) (l : Launch) (h : Mem) (hl : MemL) (v1 : Int32) (Qp : Int32 → Mem → Prop) (hwp : p_X9_find h v1 Qp) : Met l yX9_find (wsU yX9_find cX9_find 2 (some .int)) ({ frames := 0, cells := 0, slots := 0, locals := 0 } : Room) (mPc (wdX E) [.ref (wad (wdX E) 0), .int v1] h hl) (mQi (wdX E) (fun r h1 hl1 => hl = hl1 ∧ Qp r h1)) 0 0 (wA (wdX E)) := by
  refine x_met RX9 [(0, .ref (wad (wdX E) 0)), (1, .int v1)] (by decide) rfl (Nat.le_of_ble_eq_true rfl) rfl ?_
  intro p e s m args below meth c ls C Dy lv
  have hx := C.x
  have hb := C.b
  have hR : 0 ≤ ({ frames := 0, cells := 0, slots := 0, locals := 0 } : Room).frames ∧ 0 ≤ ({ frames := 0, cells := 0, slots := 0, locals := 0 } : Room).locals := ⟨Nat.le_refl _, Nat.le_refl _⟩
  unfold p_X9_find at hwp
  refine lv_aload_n hx hb dX9_find_0 rfl (lv_at lv 0 rfl) ?_
  refine lv_iload_n hx hb dX9_find_1 rfl (lv_at lv 1 rfl) ?_
  refine pf_X9_99_0 C Dy dX9_find_2 (fun H locs Dy => ?_)
  refine lv_bipush (v := (-10 : Int32)) hx hb dX9_find_5 (by decide) ?_
  refine lv_iload_n hx hb dX9_find_7 rfl (lv_at lv 1 rfl) ?_
  refine lv_isub hx hb dX9_find_8 ?_
  exact x_iret C Dy ⟨rfl, hwp⟩ dX9_find_9
def b_X9_read_36 : Nat → Mem → Nat → Int32 → Int32 → (Int32 → Mem → Prop) → Prop
  | 0 => fun _ _ _ _ _ => False
  | n + 1 => fun h k2 v3 v4 Qp => (((h k2 2) ≤ (v4 + (1 : Int32)) → Qp v3 h) ∧ (¬ ((h k2 2) ≤ (v4 + (1 : Int32))) → (vp_in v4 60 ∧ (vp_in (v4 + (1 : Int32)) 60 ∧ (p_X9_seen h (h (k2 + 1) v4.toNatClampNeg) (h (k2 + 1) (v4 + (1 : Int32)).toNatClampNeg) (fun r4 h5 => ((0 ≤ r4 → b_X9_read_36 n h5 k2 (v3 + (1 : Int32)) (v4 + (2 : Int32)) Qp) ∧ (¬ (0 ≤ r4) → Qp v3 h5))))))))
def p_X9_read (h : Mem) (v1 : Int32) (Qp : Int32 → Mem → Prop) : Prop := (p_X9_within v1 (4 : Int32) (fun r7 => ((r7 = 0 → Qp (-2 : Int32) h) ∧ (¬ (r7 = 0) → (vp_in v1 4 ∧ ∀ q11 : Nat, q11 = 47 + 2 * v1.toNatClampNeg → (p_X8_isLost h q11 (fun r12 => ((r12 = 0 → (∃ n36, b_X9_read_36 n36 h q11 (0 : Int32) (0 : Int32) Qp)) ∧ (¬ (r12 = 0) → (p_X9_find h (1 : Int32) (fun r15 h16 => Qp r15 h16)))))))))))
set_option maxHeartbeats 4000000 in
set_option maxRecDepth 100000 in
theorem t_X9_read_36 (E : xE) {p : Program} {l : Launch} {e : Env} {R : Room} {s : State} {m : MethodId} {args : Array Value} {below : List Frame} {meth : Method} {c : Code} (C : mC (wdX E) p s m meth c args cX9_read 5 RX9 (some .int)) (hR : 3 ≤ R.frames ∧ 63 ≤ R.locals) {hl : MemL} (Qp : Int32 → Mem → Prop) : ∀ (n : Nat) (h : Mem) (k2 : Nat) (v3 : Int32) (v4 : Int32) (H : Heap) (locs : List Loc) (ls : Array Slot) (hk2 : isSH k2), mD (wdX E) h hl s H locs → lv_has ls 5 [(0, .ref (wad (wdX E) 0)), (2, .ref (wad (wdX E) k2)), (3, .int v3), (4, .int v4)] → b_X9_read_36 n h k2 v3 v4 Qp → W p l e R s m args below meth c H locs 0 0 (MQ below (mQi (wdX E) (fun r h1 hl1 => hl = hl1 ∧ Qp r h1)) args s 0 0 (wA (wdX E))) (F0 m 36 ls []) := by
  have hx := C.x
  have hb := C.b
  intro n
  induction n with
  | zero => intro h k2 v3 v4 H locs ls hk2 Dy lv hwp; exact hwp.elim
  | succ n ih =>
    intro h k2 v3 v4 H locs ls hk2 Dy lv hwp
    simp only [b_X9_read_36] at hwp
    refine lv_iload hx hb dX9_read_36 (lv_at lv 3 rfl) ?_
    refine lv_iconst (v := (1 : Int32)) hx hb dX9_read_38 (by decide) ?_
    refine lv_iadd hx hb dX9_read_39 ?_
    refine lv_aload_n hx hb dX9_read_40 rfl (lv_at lv 1 rfl) ?_
    refine gf_X9_231_SH hk2 C Dy dX9_read_41 ?_
    refine lv_icmp_ge (tgt := 82) hx hb dX9_read_44 (by decide) (fun c1 => ?_) (fun c1 => ?_)
    · have hwp := hwp.1 c1
      refine lv_iload_n hx hb dX9_read_82 rfl (lv_at lv 2 rfl) ?_
      exact x_iret C Dy ⟨rfl, hwp⟩ dX9_read_83
    · have hwp := hwp.2 c1
      refine lv_aload_n hx hb dX9_read_47 rfl (lv_at lv 0 rfl) ?_
      refine lv_aload_n hx hb dX9_read_48 rfl (lv_at lv 1 rfl) ?_
      refine gf_X9_232_SH hk2 C Dy dX9_read_49 ?_
      refine lv_iload hx hb dX9_read_52 (lv_at lv 3 rfl) ?_
      obtain ⟨g2, hwp⟩ := hwp
      refine x_iald C Dy (ia_SHi hk2) g2 dX9_read_54 ?_
      refine lv_aload_n hx hb dX9_read_55 rfl (lv_at lv 1 rfl) ?_
      refine gf_X9_232_SH hk2 C Dy dX9_read_56 ?_
      refine lv_iload hx hb dX9_read_59 (lv_at lv 3 rfl) ?_
      refine lv_iconst (v := (1 : Int32)) hx hb dX9_read_61 (by decide) ?_
      refine lv_iadd hx hb dX9_read_62 ?_
      obtain ⟨g3, hwp⟩ := hwp
      refine x_iald C Dy (ia_SHi hk2) g3 dX9_read_63 ?_
      refine x_cont_i Dy (x_runV (As := [.int (h (k2 + 1) v4.toNatClampNeg), .int (h (k2 + 1) (v4 + (1 : Int32)).toNatClampNeg)]) (rest := []) C Dy (m_X9_seen E l _ _ (h (k2 + 1) v4.toNatClampNeg) (h (k2 + 1) (v4 + (1 : Int32)).toNatClampNeg) _ hwp) (cw_X9_235 C rfl rfl ⟨Nat.le_trans (Nat.le_of_ble_eq_true rfl) hR.1, Nat.le_trans (Nat.le_of_ble_eq_true rfl) hR.2⟩) wx_0 rfl rfl lv.1 rfl (Nat.le_of_ble_eq_true rfl) dX9_read_64 ⟨Nat.zero_le _, Nat.zero_le _⟩) (fun r4 h5 hl5 H locs hwp Dy => ?_)
      obtain ⟨rfl, hwp⟩ := hwp
      refine lv_if_ge (tgt := 73) hx hb dX9_read_67 (by decide) (fun c6 => ?_) (fun c6 => ?_)
      · have hwp := hwp.1 c6
        refine lv_iinc (v := (v3 + (1 : Int32))) (lv' := [(3, .int (v3 + (1 : Int32))), (0, .ref (wad (wdX E) 0)), (2, .ref (wad (wdX E) k2)), (4, .int v4)]) hx hb dX9_read_73 lv (k := 2) rfl rfl (by decide) rfl (fun ls lv => ?_)
        refine lv_iinc (v := (v4 + (2 : Int32))) (lv' := [(4, .int (v4 + (2 : Int32))), (3, .int (v3 + (1 : Int32))), (0, .ref (wad (wdX E) 0)), (2, .ref (wad (wdX E) k2))]) hx hb dX9_read_76 lv (k := 3) rfl rfl (by decide) rfl (fun ls lv => ?_)
        refine lv_goto (tgt := 36) hx hb dX9_read_79 (by decide) ?_
        exact ih h5 k2 (v3 + (1 : Int32)) (v4 + (2 : Int32)) _ _ _ hk2 Dy (lv_sub lv [2, 3, 1, 0] rfl) hwp
      · have hwp := hwp.2 c6
        refine lv_goto (tgt := 82) hx hb dX9_read_70 (by decide) ?_
        refine lv_iload_n hx hb dX9_read_82 rfl (lv_at lv 2 rfl) ?_
        exact x_iret C Dy ⟨rfl, hwp⟩ dX9_read_83
set_option maxHeartbeats 4000000 in
set_option maxRecDepth 100000 in
theorem m_X9_read (E : xE) (l : Launch) (h : Mem) (hl : MemL) (v1 : Int32) (Qp : Int32 → Mem → Prop) (hwp : p_X9_read h v1 Qp) : Met l yX9_read (wsU yX9_read cX9_read 5 (some .int)) ({ frames := 3, cells := 0, slots := 0, locals := 63 } : Room) (mPc (wdX E) [.ref (wad (wdX E) 0), .int v1] h hl) (mQi (wdX E) (fun r h1 hl1 => hl = hl1 ∧ Qp r h1)) 0 0 (wA (wdX E)) := by
  refine x_met RX9 [(0, .ref (wad (wdX E) 0)), (1, .int v1)] (by decide) rfl (Nat.le_of_ble_eq_true rfl) rfl ?_
  intro p e s m args below meth c ls C Dy lv
  have hx := C.x
  have hb := C.b
  have hR : 3 ≤ ({ frames := 3, cells := 0, slots := 0, locals := 63 } : Room).frames ∧ 63 ≤ ({ frames := 3, cells := 0, slots := 0, locals := 63 } : Room).locals := ⟨Nat.le_refl _, Nat.le_refl _⟩
  unfold p_X9_read at hwp
  refine lv_iload_n hx hb dX9_read_0 rfl (lv_at lv 1 rfl) ?_
  refine lv_iconst (v := (4 : Int32)) hx hb dX9_read_1 (by decide) ?_
  refine x_cont_z Dy (x_runS (As := [.int v1, .int (4 : Int32)]) (rest := []) C Dy (m_X9_within E l _ _ v1 (4 : Int32) _ hwp) (cw_X9_104 C rfl rfl ⟨Nat.le_trans (Nat.le_of_ble_eq_true rfl) hR.1, Nat.le_trans (Nat.le_of_ble_eq_true rfl) hR.2⟩) rfl lv.1 rfl (Nat.le_of_ble_eq_true rfl) dX9_read_2 ⟨Nat.zero_le _, Nat.zero_le _⟩) (fun r7 h8 hl8 H locs zr7 hwp Dy => ?_)
  obtain ⟨rfl, rfl, hwp⟩ := hwp
  refine lv_if_ne (tgt := 11) hx hb dX9_read_5 (by decide) (fun c9 => ?_) (fun c9 => ?_)
  · have hwp := hwp.2 c9
    refine lv_aload_n hx hb dX9_read_11 rfl (lv_at lv 0 rfl) ?_
    refine gf_X9_91_0 C Dy dX9_read_12 ?_
    refine lv_iload_n hx hb dX9_read_15 rfl (lv_at lv 1 rfl) ?_
    obtain ⟨g10, hwp⟩ := hwp
    refine x_aald C Dy g10 dX9_read_16 (fun q11 eq11 => ?_)
    have hwp := hwp q11 eq11
    refine lv_astore_n (lv' := [(2, .ref (wad (wdX E) q11)), (0, .ref (wad (wdX E) 0)), (1, .int v1)]) hx hb dX9_read_17 rfl lv (by decide) rfl (fun ls lv => ?_)
    refine lv_aload_n hx hb dX9_read_18 rfl (lv_at lv 0 rfl) ?_
    refine x_cont_z Dy (x_runV (As := []) (rest := []) C Dy (m_X8_isLost E l _ _ q11 (sh_of g10 eq11) _ hwp) (cw_X9_225 C rfl rfl ⟨Nat.le_trans (Nat.le_of_ble_eq_true rfl) hR.1, Nat.le_trans (Nat.le_of_ble_eq_true rfl) hR.2⟩) (wx_SH (sh_of g10 eq11)) rfl rfl lv.1 rfl (Nat.le_of_ble_eq_true rfl) dX9_read_19 ⟨Nat.zero_le _, Nat.zero_le _⟩) (fun r12 h13 hl13 H locs zr12 hwp Dy => ?_)
    obtain ⟨rfl, rfl, hwp⟩ := hwp
    refine lv_if_eq (tgt := 31) hx hb dX9_read_22 (by decide) (fun c14 => ?_) (fun c14 => ?_)
    · have hwp := hwp.1 c14
      refine lv_iconst (v := (0 : Int32)) hx hb dX9_read_31 (by decide) ?_
      refine lv_istore_n (lv' := [(3, .int (0 : Int32)), (2, .ref (wad (wdX E) q11)), (0, .ref (wad (wdX E) 0)), (1, .int v1)]) hx hb dX9_read_32 rfl lv (by decide) rfl (fun ls lv => ?_)
      refine lv_iconst (v := (0 : Int32)) hx hb dX9_read_33 (by decide) ?_
      refine lv_istore (lv' := [(4, .int (0 : Int32)), (3, .int (0 : Int32)), (2, .ref (wad (wdX E) q11)), (0, .ref (wad (wdX E) 0)), (1, .int v1)]) hx hb dX9_read_34 lv (by decide) rfl (fun ls lv => ?_)
      obtain ⟨n0, hwp⟩ := hwp
      exact t_X9_read_36 E C hR Qp n0 h q11 (0 : Int32) (0 : Int32) _ _ _ (sh_of g10 eq11) Dy (lv_sub lv [3, 2, 1, 0] rfl) hwp
    · have hwp := hwp.2 c14
      refine lv_aload_n hx hb dX9_read_25 rfl (lv_at lv 1 rfl) ?_
      refine lv_iconst (v := (1 : Int32)) hx hb dX9_read_26 (by decide) ?_
      refine x_cont_i Dy (x_runV (As := [.int (1 : Int32)]) (rest := []) C Dy (m_X9_find E l _ _ (1 : Int32) _ hwp) (cw_X9_228 C rfl rfl ⟨Nat.le_trans (Nat.le_of_ble_eq_true rfl) hR.1, Nat.le_trans (Nat.le_of_ble_eq_true rfl) hR.2⟩) wx_0 rfl rfl lv.1 rfl (Nat.le_of_ble_eq_true rfl) dX9_read_27 ⟨Nat.zero_le _, Nat.zero_le _⟩) (fun r15 h16 hl16 H locs hwp Dy => ?_)
      obtain ⟨rfl, hwp⟩ := hwp
      exact x_iret C Dy ⟨rfl, hwp⟩ dX9_read_30
  · have hwp := hwp.1 c9
    refine lv_bipush (v := (-2 : Int32)) hx hb dX9_read_8 (by decide) ?_
    exact x_iret C Dy ⟨rfl, hwp⟩ dX9_read_10
def p_X9_sets (h : Mem) (v1 : Int32) (Qp : Int32 → Mem → Prop) : Prop := (p_X9_within v1 (3 : Int32) (fun r1 => ((r1 = 0 → Qp (-2 : Int32) h) ∧ (¬ (r1 = 0) → (p_X9_refresh h (fun h5 => (p_X2_sift h5 (fun h7 => ((v1 = (0 : Int32) → Qp (h7 35 5) h7) ∧ (¬ (v1 = (0 : Int32)) → ((v1 = (1 : Int32) → (p_X2_leastFitting h7 (fun r10 => Qp r10 h7))) ∧ (¬ (v1 = (1 : Int32)) → Qp (h7 35 6) h7))))))))))))
set_option maxHeartbeats 4000000 in
set_option maxRecDepth 100000 in
theorem m_X9_sets (E : xE) (l : Launch) (h : Mem) (hl : MemL) (v1 : Int32) (Qp : Int32 → Mem → Prop) (hwp : p_X9_sets h v1 Qp) : Met l yX9_sets (wsU yX9_sets cX9_sets 2 (some .int)) ({ frames := 3, cells := 0, slots := 0, locals := 75 } : Room) (mPc (wdX E) [.ref (wad (wdX E) 0), .int v1] h hl) (mQi (wdX E) (fun r h1 hl1 => hl = hl1 ∧ Qp r h1)) 0 0 (wA (wdX E)) := by
  refine x_met RX9 [(0, .ref (wad (wdX E) 0)), (1, .int v1)] (by decide) rfl (Nat.le_of_ble_eq_true rfl) rfl ?_
  intro p e s m args below meth c ls C Dy lv
  have hx := C.x
  have hb := C.b
  have hR : 3 ≤ ({ frames := 3, cells := 0, slots := 0, locals := 75 } : Room).frames ∧ 75 ≤ ({ frames := 3, cells := 0, slots := 0, locals := 75 } : Room).locals := ⟨Nat.le_refl _, Nat.le_refl _⟩
  unfold p_X9_sets at hwp
  refine lv_iload_n hx hb dX9_sets_0 rfl (lv_at lv 1 rfl) ?_
  refine lv_iconst (v := (3 : Int32)) hx hb dX9_sets_1 (by decide) ?_
  refine x_cont_z Dy (x_runS (As := [.int v1, .int (3 : Int32)]) (rest := []) C Dy (m_X9_within E l _ _ v1 (3 : Int32) _ hwp) (cw_X9_104 C rfl rfl ⟨Nat.le_trans (Nat.le_of_ble_eq_true rfl) hR.1, Nat.le_trans (Nat.le_of_ble_eq_true rfl) hR.2⟩) rfl lv.1 rfl (Nat.le_of_ble_eq_true rfl) dX9_sets_2 ⟨Nat.zero_le _, Nat.zero_le _⟩) (fun r1 h2 hl2 H locs zr1 hwp Dy => ?_)
  obtain ⟨rfl, rfl, hwp⟩ := hwp
  refine lv_if_ne (tgt := 11) hx hb dX9_sets_5 (by decide) (fun c3 => ?_) (fun c3 => ?_)
  · have hwp := hwp.2 c3
    refine lv_aload_n hx hb dX9_sets_11 rfl (lv_at lv 0 rfl) ?_
    refine x_cont_v Dy (x_runV (As := []) (rest := []) C Dy (m_X9_refresh E l _ _ _ hwp) (cw_X9_126 C rfl rfl ⟨Nat.le_trans (Nat.le_of_ble_eq_true rfl) hR.1, Nat.le_trans (Nat.le_of_ble_eq_true rfl) hR.2⟩) wx_0 rfl rfl lv.1 rfl (Nat.le_of_ble_eq_true rfl) dX9_sets_12 ⟨Nat.zero_le _, Nat.zero_le _⟩) (fun h5 hl5 H locs hwp Dy => ?_)
    obtain ⟨rfl, hwp⟩ := hwp
    refine lv_aload_n hx hb dX9_sets_15 rfl (lv_at lv 0 rfl) ?_
    refine gf_X9_78_0 C Dy dX9_sets_16 ?_
    refine lv_aload_n hx hb dX9_sets_19 rfl (lv_at lv 0 rfl) ?_
    refine gf_X9_37_0 C Dy dX9_sets_20 ?_
    refine x_cont_v Dy (x_runV (As := [.ref (wad (wdX E) 7)]) (rest := []) C Dy (m_X2_sift E l _ _ _ hwp) (cw_X9_238 C rfl rfl ⟨Nat.le_trans (Nat.le_of_ble_eq_true rfl) hR.1, Nat.le_trans (Nat.le_of_ble_eq_true rfl) hR.2⟩) wx_35 rfl rfl lv.1 rfl (Nat.le_of_ble_eq_true rfl) dX9_sets_23 ⟨Nat.zero_le _, Nat.zero_le _⟩) (fun h7 hl7 H locs hwp Dy => ?_)
    obtain ⟨rfl, hwp⟩ := hwp
    refine lv_iload_n hx hb dX9_sets_26 rfl (lv_at lv 1 rfl) ?_
    by_cases c8 : v1 = (0 : Int32)
    · have hwp := hwp.1 c8
      refine lv_lookup (off := 25) (tgt := 52) hx hb dX9_sets_27 (by decide) (by rw [c8]; rfl) (by decide) ?_
      refine lv_aload_n hx hb dX9_sets_52 rfl (lv_at lv 0 rfl) ?_
      refine gf_X9_78_0 C Dy dX9_sets_53 ?_
      refine gf_X9_242_35 C Dy dX9_sets_56 ?_
      exact x_iret C Dy ⟨rfl, hwp⟩ dX9_sets_59
    · have hwp := hwp.2 c8
      by_cases c9 : v1 = (1 : Int32)
      · have hwp := hwp.1 c9
        refine lv_lookup (off := 33) (tgt := 60) hx hb dX9_sets_27 (by decide) (by rw [c9]; rfl) (by decide) ?_
        refine lv_aload_n hx hb dX9_sets_60 rfl (lv_at lv 0 rfl) ?_
        refine gf_X9_78_0 C Dy dX9_sets_61 ?_
        refine x_cont_i Dy (x_runV (As := []) (rest := []) C Dy (m_X2_leastFitting E l _ _ _ hwp) (cw_X9_245 C rfl rfl ⟨Nat.le_trans (Nat.le_of_ble_eq_true rfl) hR.1, Nat.le_trans (Nat.le_of_ble_eq_true rfl) hR.2⟩) wx_35 rfl rfl lv.1 rfl (Nat.le_of_ble_eq_true rfl) dX9_sets_64 ⟨Nat.zero_le _, Nat.zero_le _⟩) (fun r10 h11 hl11 H locs hwp Dy => ?_)
        obtain ⟨rfl, rfl, hwp⟩ := hwp
        exact x_iret C Dy ⟨rfl, hwp⟩ dX9_sets_67
      · have hwp := hwp.2 c9
        refine lv_lookup (tgt := 68) (off := 41) hx hb dX9_sets_27 (by decide) ((lv_osw c8 (a := 0) (by decide)).trans ((lv_osw c9 (a := 1) (by decide)).trans rfl)) (by decide) ?_
        refine lv_aload_n hx hb dX9_sets_68 rfl (lv_at lv 0 rfl) ?_
        refine gf_X9_78_0 C Dy dX9_sets_69 ?_
        refine gf_X9_248_35 C Dy dX9_sets_72 ?_
        exact x_iret C Dy ⟨rfl, hwp⟩ dX9_sets_75
  · have hwp := hwp.1 c3
    refine lv_bipush (v := (-2 : Int32)) hx hb dX9_sets_8 (by decide) ?_
    exact x_iret C Dy ⟨rfl, hwp⟩ dX9_sets_10
def p_X9_watch (h : Mem) (Qp : Int32 → Mem → Prop) : Prop := (p_X9_refresh h (fun h2 => (p_X2_sift h2 (fun h4 => (p_X2_hourToWatch h4 (fun r5 h6 => Qp r5 h6))))))
set_option maxHeartbeats 4000000 in
set_option maxRecDepth 100000 in
theorem m_X9_watch (E : xE) (l : Launch) (h : Mem) (hl : MemL) (Qp : Int32 → Mem → Prop) (hwp : p_X9_watch h Qp) : Met l yX9_watch (wsU yX9_watch cX9_watch 1 (some .int)) ({ frames := 3, cells := 0, slots := 0, locals := 116 } : Room) (mPc (wdX E) [.ref (wad (wdX E) 0)] h hl) (mQi (wdX E) (fun r h1 hl1 => hl = hl1 ∧ Qp r h1)) 0 0 (wA (wdX E)) := by
  refine x_met RX9 [(0, .ref (wad (wdX E) 0))] (by decide) rfl (Nat.le_of_ble_eq_true rfl) rfl ?_
  intro p e s m args below meth c ls C Dy lv
  have hx := C.x
  have hb := C.b
  have hR : 3 ≤ ({ frames := 3, cells := 0, slots := 0, locals := 116 } : Room).frames ∧ 116 ≤ ({ frames := 3, cells := 0, slots := 0, locals := 116 } : Room).locals := ⟨Nat.le_refl _, Nat.le_refl _⟩
  unfold p_X9_watch at hwp
  refine lv_aload_n hx hb dX9_watch_0 rfl (lv_at lv 0 rfl) ?_
  refine x_cont_v Dy (x_runV (As := []) (rest := []) C Dy (m_X9_refresh E l _ _ _ hwp) (cw_X9_126 C rfl rfl ⟨Nat.le_trans (Nat.le_of_ble_eq_true rfl) hR.1, Nat.le_trans (Nat.le_of_ble_eq_true rfl) hR.2⟩) wx_0 rfl rfl lv.1 rfl (Nat.le_of_ble_eq_true rfl) dX9_watch_1 ⟨Nat.zero_le _, Nat.zero_le _⟩) (fun h2 hl2 H locs hwp Dy => ?_)
  obtain ⟨rfl, hwp⟩ := hwp
  refine lv_aload_n hx hb dX9_watch_4 rfl (lv_at lv 0 rfl) ?_
  refine gf_X9_78_0 C Dy dX9_watch_5 ?_
  refine lv_aload_n hx hb dX9_watch_8 rfl (lv_at lv 0 rfl) ?_
  refine gf_X9_37_0 C Dy dX9_watch_9 ?_
  refine x_cont_v Dy (x_runV (As := [.ref (wad (wdX E) 7)]) (rest := []) C Dy (m_X2_sift E l _ _ _ hwp) (cw_X9_238 C rfl rfl ⟨Nat.le_trans (Nat.le_of_ble_eq_true rfl) hR.1, Nat.le_trans (Nat.le_of_ble_eq_true rfl) hR.2⟩) wx_35 rfl rfl lv.1 rfl (Nat.le_of_ble_eq_true rfl) dX9_watch_12 ⟨Nat.zero_le _, Nat.zero_le _⟩) (fun h4 hl4 H locs hwp Dy => ?_)
  obtain ⟨rfl, hwp⟩ := hwp
  refine lv_aload_n hx hb dX9_watch_15 rfl (lv_at lv 0 rfl) ?_
  refine gf_X9_78_0 C Dy dX9_watch_16 ?_
  refine lv_aload_n hx hb dX9_watch_19 rfl (lv_at lv 0 rfl) ?_
  refine gf_X9_37_0 C Dy dX9_watch_20 ?_
  refine x_cont_i Dy (x_runV (As := [.ref (wad (wdX E) 7)]) (rest := []) C Dy (m_X2_hourToWatch E l _ _ _ hwp) (cw_X9_251 C rfl rfl ⟨Nat.le_trans (Nat.le_of_ble_eq_true rfl) hR.1, Nat.le_trans (Nat.le_of_ble_eq_true rfl) hR.2⟩) wx_35 rfl rfl lv.1 rfl (Nat.le_of_ble_eq_true rfl) dX9_watch_23 ⟨Nat.zero_le _, Nat.zero_le _⟩) (fun r5 h6 hl6 H locs hwp Dy => ?_)
  obtain ⟨rfl, hwp⟩ := hwp
  exact x_iret C Dy ⟨rfl, hwp⟩ dX9_watch_26
def b_X9_gout_46 (h : Mem) (hl : MemL) (v1 : Int32) (v2 : Int32) (v3 : Int32) (v4 : Int32) (v5 : Int32) (Qp : Int64 → Mem → MemL → Prop) : Prop := (p_X9_within v5 (2 : Int32) (fun r1 => ((r1 = 0 → Qp (-9223372036854775806 : Int64) h hl) ∧ (¬ (r1 = 0) → (p_X9_kingsLaws h v2 (fun r4 h5 => (p_X1_reckon h5 hl r4 v3 v1 v4 (fun h7 hl7 => Qp (if v5 = 0 then (hl7 41 0) else (hl7 41 1)) h7 hl7))))))))
def p_X9_gout (h : Mem) (hl : MemL) (v1 : Int32) (v2 : Int32) (v3 : Int32) (v4 : Int32) (v5 : Int32) (Qp : Int64 → Mem → MemL → Prop) : Prop := (p_X9_within v1 (17 : Int32) (fun r9 => ((r9 = 0 → Qp (-9223372036854775806 : Int64) h hl) ∧ (¬ (r9 = 0) → (p_X9_within v2 (30 : Int32) (fun r12 => ((r12 = 0 → Qp (-9223372036854775806 : Int64) h hl) ∧ (¬ (r12 = 0) → (p_X9_within v3 (24 : Int32) (fun r15 => ((r15 = 0 → Qp (-9223372036854775806 : Int64) h hl) ∧ (¬ (r15 = 0) → (p_X9_isDeedOrNone v4 (fun r18 => ((r18 = 0 → ((v4 = (6 : Int32) → b_X9_gout_46 h hl v1 v2 v3 v4 v5 Qp) ∧ (¬ (v4 = (6 : Int32)) → Qp (-9223372036854775806 : Int64) h hl))) ∧ (¬ (r18 = 0) → b_X9_gout_46 h hl v1 v2 v3 v4 v5 Qp))))))))))))))))
set_option maxHeartbeats 4000000 in
set_option maxRecDepth 100000 in
theorem t_X9_gout_46 (E : xE) {p : Program} {l : Launch} {e : Env} {R : Room} {s : State} {m : MethodId} {args : Array Value} {below : List Frame} {meth : Method} {c : Code} (C : mC (wdX E) p s m meth c args cX9_gout 6 RX9 (some .long)) (hR : 4 ≤ R.frames ∧ 103 ≤ R.locals)  (Qp : Int64 → Mem → MemL → Prop) : ∀ (h : Mem) (hl : MemL) (v1 : Int32) (v2 : Int32) (v3 : Int32) (v4 : Int32) (v5 : Int32) (H : Heap) (locs : List Loc) (ls : Array Slot), mD (wdX E) h hl s H locs → lv_has ls 6 [(0, .ref (wad (wdX E) 0)), (1, .int v1), (2, .int v2), (3, .int v3), (4, .int v4), (5, .int v5)] → b_X9_gout_46 h hl v1 v2 v3 v4 v5 Qp → W p l e R s m args below meth c H locs 0 0 (MQ below (mQl (wdX E) (fun r h1 hl1 => Qp r h1 hl1)) args s 0 0 (wA (wdX E))) (F0 m 46 ls []) := by
  have hx := C.x
  have hb := C.b
  intro h hl v1 v2 v3 v4 v5 H locs ls Dy lv hwp
  unfold b_X9_gout_46 at hwp
  refine lv_iload hx hb dX9_gout_46 (lv_at lv 5 rfl) ?_
  refine lv_iconst (v := (2 : Int32)) hx hb dX9_gout_48 (by decide) ?_
  refine x_cont_z Dy (x_runS (As := [.int v5, .int (2 : Int32)]) (rest := []) C Dy (m_X9_within E l _ _ v5 (2 : Int32) _ hwp) (cw_X9_104 C rfl rfl ⟨Nat.le_trans (Nat.le_of_ble_eq_true rfl) hR.1, Nat.le_trans (Nat.le_of_ble_eq_true rfl) hR.2⟩) rfl lv.1 rfl (Nat.le_of_ble_eq_true rfl) dX9_gout_49 ⟨Nat.zero_le _, Nat.zero_le _⟩) (fun r1 h2 hl2 H locs zr1 hwp Dy => ?_)
  obtain ⟨rfl, rfl, hwp⟩ := hwp
  refine lv_if_ne (tgt := 59) hx hb dX9_gout_52 (by decide) (fun c3 => ?_) (fun c3 => ?_)
  · have hwp := hwp.2 c3
    refine lv_aload_n hx hb dX9_gout_59 rfl (lv_at lv 0 rfl) ?_
    refine gf_X9_85_0 C Dy dX9_gout_60 ?_
    refine lv_aload_n hx hb dX9_gout_63 rfl (lv_at lv 0 rfl) ?_
    refine gf_X9_37_0 C Dy dX9_gout_64 ?_
    refine lv_aload_n hx hb dX9_gout_67 rfl (lv_at lv 0 rfl) ?_
    refine lv_iload_n hx hb dX9_gout_68 rfl (lv_at lv 2 rfl) ?_
    refine x_cont_i Dy (x_runV (As := [.int v2]) (rest := [.ref (wad (wdX E) 7), .ref (wad (wdX E) 41)]) C Dy (m_X9_kingsLaws E l _ _ v2 _ hwp) (cw_X9_164 C rfl rfl ⟨Nat.le_trans (Nat.le_of_ble_eq_true rfl) hR.1, Nat.le_trans (Nat.le_of_ble_eq_true rfl) hR.2⟩) wx_0 rfl rfl lv.1 rfl (Nat.le_of_ble_eq_true rfl) dX9_gout_69 ⟨Nat.zero_le _, Nat.zero_le _⟩) (fun r4 h5 hl5 H locs hwp Dy => ?_)
    obtain ⟨rfl, hwp⟩ := hwp
    refine lv_iload_n hx hb dX9_gout_72 rfl (lv_at lv 3 rfl) ?_
    refine lv_iload_n hx hb dX9_gout_73 rfl (lv_at lv 1 rfl) ?_
    refine lv_iload hx hb dX9_gout_74 (lv_at lv 4 rfl) ?_
    refine x_cont_v Dy (x_runV (As := [.ref (wad (wdX E) 7), .int r4, .int v3, .int v1, .int v4]) (rest := []) C Dy (m_X1_reckon E l _ _ r4 v3 v1 v4 _ hwp) (cw_X9_257 C rfl rfl ⟨Nat.le_trans (Nat.le_of_ble_eq_true rfl) hR.1, Nat.le_trans (Nat.le_of_ble_eq_true rfl) hR.2⟩) wx_41 rfl rfl lv.1 rfl (Nat.le_of_ble_eq_true rfl) dX9_gout_76 ⟨Nat.zero_le _, Nat.zero_le _⟩) (fun h7 hl7 H locs hwp Dy => ?_)
    refine lv_iload hx hb dX9_gout_79 (lv_at lv 5 rfl) ?_
    refine lv_if_ne (tgt := 94) hx hb dX9_gout_81 (by decide) (fun c8 => ?_) (fun c8 => ?_)
    · try simp only [if_neg c8] at hwp
      refine lv_aload_n hx hb dX9_gout_94 rfl (lv_at lv 0 rfl) ?_
      refine gf_X9_85_0 C Dy dX9_gout_95 ?_
      refine gf_X9_265_41 C Dy dX9_gout_98 ?_
      exact x_lret C Dy hwp dX9_gout_101
    · try simp only [if_pos c8] at hwp
      refine lv_aload_n hx hb dX9_gout_84 rfl (lv_at lv 0 rfl) ?_
      refine gf_X9_85_0 C Dy dX9_gout_85 ?_
      refine gf_X9_261_41 C Dy dX9_gout_88 ?_
      refine lv_goto (tgt := 101) hx hb dX9_gout_91 (by decide) ?_
      exact x_lret C Dy hwp dX9_gout_101
  · have hwp := hwp.1 c3
    refine lv_ldc2 hx hb C.ow (C.ts _ k_666) dX9_gout_55 ?_
    exact x_lret C Dy hwp dX9_gout_58
set_option maxHeartbeats 4000000 in
set_option maxRecDepth 100000 in
theorem m_X9_gout (E : xE) (l : Launch) (h : Mem) (hl : MemL) (v1 : Int32) (v2 : Int32) (v3 : Int32) (v4 : Int32) (v5 : Int32) (Qp : Int64 → Mem → MemL → Prop) (hwp : p_X9_gout h hl v1 v2 v3 v4 v5 Qp) : Met l yX9_gout (wsU yX9_gout cX9_gout 6 (some .long)) ({ frames := 4, cells := 0, slots := 0, locals := 103 } : Room) (mPc (wdX E) [.ref (wad (wdX E) 0), .int v1, .int v2, .int v3, .int v4, .int v5] h hl) (mQl (wdX E) (fun r h1 hl1 => Qp r h1 hl1)) 0 0 (wA (wdX E)) := by
  refine x_met RX9 [(0, .ref (wad (wdX E) 0)), (1, .int v1), (2, .int v2), (3, .int v3), (4, .int v4), (5, .int v5)] (by decide) rfl (Nat.le_of_ble_eq_true rfl) rfl ?_
  intro p e s m args below meth c ls C Dy lv
  have hx := C.x
  have hb := C.b
  have hR : 4 ≤ ({ frames := 4, cells := 0, slots := 0, locals := 103 } : Room).frames ∧ 103 ≤ ({ frames := 4, cells := 0, slots := 0, locals := 103 } : Room).locals := ⟨Nat.le_refl _, Nat.le_refl _⟩
  unfold p_X9_gout at hwp
  refine lv_iload_n hx hb dX9_gout_0 rfl (lv_at lv 1 rfl) ?_
  refine lv_bipush (v := (17 : Int32)) hx hb dX9_gout_1 (by decide) ?_
  refine x_cont_z Dy (x_runS (As := [.int v1, .int (17 : Int32)]) (rest := []) C Dy (m_X9_within E l _ _ v1 (17 : Int32) _ hwp) (cw_X9_104 C rfl rfl ⟨Nat.le_trans (Nat.le_of_ble_eq_true rfl) hR.1, Nat.le_trans (Nat.le_of_ble_eq_true rfl) hR.2⟩) rfl lv.1 rfl (Nat.le_of_ble_eq_true rfl) dX9_gout_3 ⟨Nat.zero_le _, Nat.zero_le _⟩) (fun r9 h10 hl10 H locs zr9 hwp Dy => ?_)
  obtain ⟨rfl, rfl, hwp⟩ := hwp
  refine lv_if_eq (tgt := 27) hx hb dX9_gout_6 (by decide) (fun c11 => ?_) (fun c11 => ?_)
  · have hwp := hwp.1 c11
    refine lv_ldc2 hx hb C.ow (C.ts _ k_666) dX9_gout_27 ?_
    exact x_lret C Dy hwp dX9_gout_30
  · have hwp := hwp.2 c11
    refine lv_iload_n hx hb dX9_gout_9 rfl (lv_at lv 2 rfl) ?_
    refine lv_bipush (v := (30 : Int32)) hx hb dX9_gout_10 (by decide) ?_
    refine x_cont_z Dy (x_runS (As := [.int v2, .int (30 : Int32)]) (rest := []) C Dy (m_X9_within E l _ _ v2 (30 : Int32) _ hwp) (cw_X9_104 C rfl rfl ⟨Nat.le_trans (Nat.le_of_ble_eq_true rfl) hR.1, Nat.le_trans (Nat.le_of_ble_eq_true rfl) hR.2⟩) rfl lv.1 rfl (Nat.le_of_ble_eq_true rfl) dX9_gout_12 ⟨Nat.zero_le _, Nat.zero_le _⟩) (fun r12 h13 hl13 H locs zr12 hwp Dy => ?_)
    obtain ⟨rfl, rfl, hwp⟩ := hwp
    refine lv_if_eq (tgt := 27) hx hb dX9_gout_15 (by decide) (fun c14 => ?_) (fun c14 => ?_)
    · have hwp := hwp.1 c14
      refine lv_ldc2 hx hb C.ow (C.ts _ k_666) dX9_gout_27 ?_
      exact x_lret C Dy hwp dX9_gout_30
    · have hwp := hwp.2 c14
      refine lv_iload_n hx hb dX9_gout_18 rfl (lv_at lv 3 rfl) ?_
      refine lv_bipush (v := (24 : Int32)) hx hb dX9_gout_19 (by decide) ?_
      refine x_cont_z Dy (x_runS (As := [.int v3, .int (24 : Int32)]) (rest := []) C Dy (m_X9_within E l _ _ v3 (24 : Int32) _ hwp) (cw_X9_104 C rfl rfl ⟨Nat.le_trans (Nat.le_of_ble_eq_true rfl) hR.1, Nat.le_trans (Nat.le_of_ble_eq_true rfl) hR.2⟩) rfl lv.1 rfl (Nat.le_of_ble_eq_true rfl) dX9_gout_21 ⟨Nat.zero_le _, Nat.zero_le _⟩) (fun r15 h16 hl16 H locs zr15 hwp Dy => ?_)
      obtain ⟨rfl, rfl, hwp⟩ := hwp
      refine lv_if_ne (tgt := 31) hx hb dX9_gout_24 (by decide) (fun c17 => ?_) (fun c17 => ?_)
      · have hwp := hwp.2 c17
        refine lv_iload hx hb dX9_gout_31 (lv_at lv 4 rfl) ?_
        refine x_cont_z Dy (x_runS (As := [.int v4]) (rest := []) C Dy (m_X9_isDeedOrNone E l _ _ v4 _ hwp) (cw_X9_183 C rfl rfl ⟨Nat.le_trans (Nat.le_of_ble_eq_true rfl) hR.1, Nat.le_trans (Nat.le_of_ble_eq_true rfl) hR.2⟩) rfl lv.1 rfl (Nat.le_of_ble_eq_true rfl) dX9_gout_33 ⟨Nat.zero_le _, Nat.zero_le _⟩) (fun r18 h19 hl19 H locs zr18 hwp Dy => ?_)
        obtain ⟨rfl, rfl, hwp⟩ := hwp
        refine lv_if_ne (tgt := 46) hx hb dX9_gout_36 (by decide) (fun c20 => ?_) (fun c20 => ?_)
        · have hwp := hwp.2 c20
          exact t_X9_gout_46 E C hR Qp h hl v1 v2 v3 v4 v5 _ _ _ Dy (lv_sub lv [0, 1, 2, 3, 4, 5] rfl) hwp
        · have hwp := hwp.1 c20
          refine lv_iload hx hb dX9_gout_39 (lv_at lv 4 rfl) ?_
          refine lv_bipush (v := (6 : Int32)) hx hb dX9_gout_41 (by decide) ?_
          refine lv_icmp_ne (tgt := 55) hx hb dX9_gout_43 (by decide) (fun c21 => ?_) (fun c21 => ?_)
          · have hwp := hwp.2 c21
            refine lv_ldc2 hx hb C.ow (C.ts _ k_666) dX9_gout_55 ?_
            exact x_lret C Dy hwp dX9_gout_58
          · have hwp := hwp.1 c21
            exact t_X9_gout_46 E C hR Qp h hl v1 v2 v3 v4 v5 _ _ _ Dy (lv_sub lv [0, 1, 2, 3, 4, 5] rfl) hwp
      · have hwp := hwp.1 c17
        refine lv_ldc2 hx hb C.ow (C.ts _ k_666) dX9_gout_27 ?_
        exact x_lret C Dy hwp dX9_gout_30
def p_X9_years (h : Mem) (v1 : Int32) (v2 : Int32) (v3 : Int32) (Qp : Int32 → Mem → Prop) : Prop := (p_X9_refresh h (fun h2 => (((h2 7 0) = 0 → Qp (-2 : Int32) h2) ∧ (¬ ((h2 7 0) = 0) → ((v2 < (1 : Int32) → Qp (-2 : Int32) h2) ∧ (¬ (v2 < (1 : Int32)) → (((30 : Int32) < v2 → Qp (-2 : Int32) h2) ∧ (¬ ((30 : Int32) < v2) → (p_X9_within v3 (2 : Int32) (fun r6 => ((r6 = 0 → Qp (-2 : Int32) h2) ∧ (¬ (r6 = 0) → (p_X6_draw h2 29 v1 v2 (h2 7 0) (fun h10 => ((v3 = 0 → (p_X6_bindingOthers h10 29 (29 : Int32) (fun r16 => (p_J6_bitCount r16 (fun r18 => Qp r18 h10))))) ∧ (¬ (v3 = 0) → (p_X6_bindingKing h10 29 (29 : Int32) (fun r12 => (p_X0_joyBy h10 r12 (fun r14 => Qp r14 h10))))))))))))))))))))
set_option maxHeartbeats 4000000 in
set_option maxRecDepth 100000 in
theorem m_X9_years (E : xE) (l : Launch) (h : Mem) (hl : MemL) (v1 : Int32) (v2 : Int32) (v3 : Int32) (Qp : Int32 → Mem → Prop) (hwp : p_X9_years h v1 v2 v3 Qp) : Met l yX9_years (wsU yX9_years cX9_years 4 (some .int)) ({ frames := 3, cells := 0, slots := 0, locals := 70 } : Room) (mPc (wdX E) [.ref (wad (wdX E) 0), .int v1, .int v2, .int v3] h hl) (mQi (wdX E) (fun r h1 hl1 => hl = hl1 ∧ Qp r h1)) 0 0 (wA (wdX E)) := by
  refine x_met RX9 [(0, .ref (wad (wdX E) 0)), (1, .int v1), (2, .int v2), (3, .int v3)] (by decide) rfl (Nat.le_of_ble_eq_true rfl) rfl ?_
  intro p e s m args below meth c ls C Dy lv
  have hx := C.x
  have hb := C.b
  have hR : 3 ≤ ({ frames := 3, cells := 0, slots := 0, locals := 70 } : Room).frames ∧ 70 ≤ ({ frames := 3, cells := 0, slots := 0, locals := 70 } : Room).locals := ⟨Nat.le_refl _, Nat.le_refl _⟩
  unfold p_X9_years at hwp
  refine lv_aload_n hx hb dX9_years_0 rfl (lv_at lv 0 rfl) ?_
  refine x_cont_v Dy (x_runV (As := []) (rest := []) C Dy (m_X9_refresh E l _ _ _ hwp) (cw_X9_126 C rfl rfl ⟨Nat.le_trans (Nat.le_of_ble_eq_true rfl) hR.1, Nat.le_trans (Nat.le_of_ble_eq_true rfl) hR.2⟩) wx_0 rfl rfl lv.1 rfl (Nat.le_of_ble_eq_true rfl) dX9_years_1 ⟨Nat.zero_le _, Nat.zero_le _⟩) (fun h2 hl2 H locs hwp Dy => ?_)
  obtain ⟨rfl, hwp⟩ := hwp
  refine lv_aload_n hx hb dX9_years_4 rfl (lv_at lv 0 rfl) ?_
  refine gf_X9_37_0 C Dy dX9_years_5 ?_
  refine gf_X9_132_7 C Dy dX9_years_8 ?_
  refine lv_if_eq (tgt := 33) hx hb dX9_years_11 (by decide) (fun c3 => ?_) (fun c3 => ?_)
  · have hwp := hwp.1 c3
    refine lv_bipush (v := (-2 : Int32)) hx hb dX9_years_33 (by decide) ?_
    exact x_iret C Dy ⟨rfl, hwp⟩ dX9_years_35
  · have hwp := hwp.2 c3
    refine lv_iload_n hx hb dX9_years_14 rfl (lv_at lv 2 rfl) ?_
    refine lv_iconst (v := (1 : Int32)) hx hb dX9_years_15 (by decide) ?_
    refine lv_icmp_lt (tgt := 33) hx hb dX9_years_16 (by decide) (fun c4 => ?_) (fun c4 => ?_)
    · have hwp := hwp.1 c4
      refine lv_bipush (v := (-2 : Int32)) hx hb dX9_years_33 (by decide) ?_
      exact x_iret C Dy ⟨rfl, hwp⟩ dX9_years_35
    · have hwp := hwp.2 c4
      refine lv_iload_n hx hb dX9_years_19 rfl (lv_at lv 2 rfl) ?_
      refine lv_bipush (v := (30 : Int32)) hx hb dX9_years_20 (by decide) ?_
      refine lv_icmp_gt (tgt := 33) hx hb dX9_years_22 (by decide) (fun c5 => ?_) (fun c5 => ?_)
      · have hwp := hwp.1 c5
        refine lv_bipush (v := (-2 : Int32)) hx hb dX9_years_33 (by decide) ?_
        exact x_iret C Dy ⟨rfl, hwp⟩ dX9_years_35
      · have hwp := hwp.2 c5
        refine lv_iload_n hx hb dX9_years_25 rfl (lv_at lv 3 rfl) ?_
        refine lv_iconst (v := (2 : Int32)) hx hb dX9_years_26 (by decide) ?_
        refine x_cont_z Dy (x_runS (As := [.int v3, .int (2 : Int32)]) (rest := []) C Dy (m_X9_within E l _ _ v3 (2 : Int32) _ hwp) (cw_X9_104 C rfl rfl ⟨Nat.le_trans (Nat.le_of_ble_eq_true rfl) hR.1, Nat.le_trans (Nat.le_of_ble_eq_true rfl) hR.2⟩) rfl lv.1 rfl (Nat.le_of_ble_eq_true rfl) dX9_years_27 ⟨Nat.zero_le _, Nat.zero_le _⟩) (fun r6 h7 hl7 H locs zr6 hwp Dy => ?_)
        obtain ⟨rfl, rfl, hwp⟩ := hwp
        refine lv_if_ne (tgt := 36) hx hb dX9_years_30 (by decide) (fun c8 => ?_) (fun c8 => ?_)
        · have hwp := hwp.2 c8
          refine lv_aload_n hx hb dX9_years_36 rfl (lv_at lv 0 rfl) ?_
          refine gf_X9_58_0 C Dy dX9_years_37 ?_
          refine lv_iload_n hx hb dX9_years_40 rfl (lv_at lv 1 rfl) ?_
          refine lv_iload_n hx hb dX9_years_41 rfl (lv_at lv 2 rfl) ?_
          refine lv_aload_n hx hb dX9_years_42 rfl (lv_at lv 0 rfl) ?_
          refine gf_X9_37_0 C Dy dX9_years_43 ?_
          refine gf_X9_132_7 C Dy dX9_years_46 ?_
          refine x_cont_v Dy (x_runV (As := [.int v1, .int v2, .int (h2 7 0)]) (rest := []) C Dy (m_X6_draw E l _ _ 29 (Or.inr rfl) v1 v2 (h2 7 0) _ hwp) (cw_X9_268 C rfl rfl ⟨Nat.le_trans (Nat.le_of_ble_eq_true rfl) hR.1, Nat.le_trans (Nat.le_of_ble_eq_true rfl) hR.2⟩) wx_29 rfl rfl lv.1 rfl (Nat.le_of_ble_eq_true rfl) dX9_years_49 ⟨Nat.zero_le _, Nat.zero_le _⟩) (fun h10 hl10 H locs hwp Dy => ?_)
          obtain ⟨rfl, hwp⟩ := hwp
          refine lv_iload_n hx hb dX9_years_52 rfl (lv_at lv 3 rfl) ?_
          refine lv_if_ne (tgt := 73) hx hb dX9_years_53 (by decide) (fun c11 => ?_) (fun c11 => ?_)
          · have hwp := hwp.2 c11
            refine lv_aload_n hx hb dX9_years_73 rfl (lv_at lv 0 rfl) ?_
            refine gf_X9_37_0 C Dy dX9_years_74 ?_
            refine lv_aload_n hx hb dX9_years_77 rfl (lv_at lv 0 rfl) ?_
            refine gf_X9_58_0 C Dy dX9_years_78 ?_
            refine lv_aload_n hx hb dX9_years_81 rfl (lv_at lv 0 rfl) ?_
            refine gf_X9_37_0 C Dy dX9_years_82 ?_
            refine lv_bipush (v := (29 : Int32)) hx hb dX9_years_85 (by decide) ?_
            refine x_cont_i Dy (x_runV (As := [.ref (wad (wdX E) 7), .int (29 : Int32)]) (rest := [.ref (wad (wdX E) 7)]) C Dy (m_X6_bindingKing E l _ _ 29 (Or.inr rfl) (29 : Int32) _ hwp) (cw_X9_154 C rfl rfl ⟨Nat.le_trans (Nat.le_of_ble_eq_true rfl) hR.1, Nat.le_trans (Nat.le_of_ble_eq_true rfl) hR.2⟩) wx_29 rfl rfl lv.1 rfl (Nat.le_of_ble_eq_true rfl) dX9_years_87 ⟨Nat.zero_le _, Nat.zero_le _⟩) (fun r12 h13 hl13 H locs hwp Dy => ?_)
            obtain ⟨rfl, rfl, hwp⟩ := hwp
            refine x_cont_i Dy (x_runV (As := [.int r12]) (rest := []) C Dy (m_X0_joyBy E l _ _ r12 _ hwp) (cw_X9_171 C rfl rfl ⟨Nat.le_trans (Nat.le_of_ble_eq_true rfl) hR.1, Nat.le_trans (Nat.le_of_ble_eq_true rfl) hR.2⟩) wx_7 rfl rfl lv.1 rfl (Nat.le_of_ble_eq_true rfl) dX9_years_90 ⟨Nat.zero_le _, Nat.zero_le _⟩) (fun r14 h15 hl15 H locs hwp Dy => ?_)
            obtain ⟨rfl, rfl, hwp⟩ := hwp
            exact x_iret C Dy ⟨rfl, hwp⟩ dX9_years_93
          · have hwp := hwp.1 c11
            refine lv_aload_n hx hb dX9_years_56 rfl (lv_at lv 0 rfl) ?_
            refine gf_X9_58_0 C Dy dX9_years_57 ?_
            refine lv_aload_n hx hb dX9_years_60 rfl (lv_at lv 0 rfl) ?_
            refine gf_X9_37_0 C Dy dX9_years_61 ?_
            refine lv_bipush (v := (29 : Int32)) hx hb dX9_years_64 (by decide) ?_
            refine x_cont_i Dy (x_runV (As := [.ref (wad (wdX E) 7), .int (29 : Int32)]) (rest := []) C Dy (m_X6_bindingOthers E l _ _ 29 (Or.inr rfl) (29 : Int32) _ hwp) (cw_X9_158 C rfl rfl ⟨Nat.le_trans (Nat.le_of_ble_eq_true rfl) hR.1, Nat.le_trans (Nat.le_of_ble_eq_true rfl) hR.2⟩) wx_29 rfl rfl lv.1 rfl (Nat.le_of_ble_eq_true rfl) dX9_years_66 ⟨Nat.zero_le _, Nat.zero_le _⟩) (fun r16 h17 hl17 H locs hwp Dy => ?_)
            obtain ⟨rfl, rfl, hwp⟩ := hwp
            refine x_cont_i Dy (x_runS (As := [.int r16]) (rest := []) C Dy (m_J6_bitCount (wdX E) l _ _ r16 _ hwp) (cw_X9_191 C rfl rfl ⟨Nat.le_trans (Nat.le_of_ble_eq_true rfl) hR.1, Nat.le_trans (Nat.le_of_ble_eq_true rfl) hR.2⟩) rfl lv.1 rfl (Nat.le_of_ble_eq_true rfl) dX9_years_69 ⟨Nat.zero_le _, Nat.zero_le _⟩) (fun r18 h19 hl19 H locs hwp Dy => ?_)
            obtain ⟨rfl, rfl, hwp⟩ := hwp
            exact x_iret C Dy ⟨rfl, hwp⟩ dX9_years_72
        · have hwp := hwp.1 c8
          refine lv_bipush (v := (-2 : Int32)) hx hb dX9_years_33 (by decide) ?_
          exact x_iret C Dy ⟨rfl, hwp⟩ dX9_years_35
def p_X9_sheet (h : Mem) (v1 : Int32) (v2 : Int32) (v3 : Int32) (Qp : Int32 → Mem → Prop) : Prop := (p_X9_within v1 (4 : Int32) (fun r1 => ((r1 = 0 → Qp (-2 : Int32) h) ∧ (¬ (r1 = 0) → (p_X9_within v2 (3 : Int32) (fun r4 => ((r4 = 0 → Qp (-2 : Int32) h) ∧ (¬ (r4 = 0) → ((v3 ≤ (60 : Int32) → ((0 ≤ v3 → (vp_in v1 4 ∧ ∀ q10 : Nat, q10 = 47 + 2 * v1.toNatClampNeg → (p_X8_renew h q10 v2 v3 (fun h12 => Qp v3 h12)))) ∧ (¬ (0 ≤ v3) → (p_X9_find h (5 : Int32) (fun r13 h14 => Qp r13 h14))))) ∧ (¬ (v3 ≤ (60 : Int32)) → Qp (-2 : Int32) h))))))))))
set_option maxHeartbeats 4000000 in
set_option maxRecDepth 100000 in
theorem m_X9_sheet (E : xE) (l : Launch) (h : Mem) (hl : MemL) (v1 : Int32) (v2 : Int32) (v3 : Int32) (Qp : Int32 → Mem → Prop) (hwp : p_X9_sheet h v1 v2 v3 Qp) : Met l yX9_sheet (wsU yX9_sheet cX9_sheet 4 (some .int)) ({ frames := 2, cells := 0, slots := 0, locals := 45 } : Room) (mPc (wdX E) [.ref (wad (wdX E) 0), .int v1, .int v2, .int v3] h hl) (mQi (wdX E) (fun r h1 hl1 => hl = hl1 ∧ Qp r h1)) 0 0 (wA (wdX E)) := by
  refine x_met RX9 [(0, .ref (wad (wdX E) 0)), (1, .int v1), (2, .int v2), (3, .int v3)] (by decide) rfl (Nat.le_of_ble_eq_true rfl) rfl ?_
  intro p e s m args below meth c ls C Dy lv
  have hx := C.x
  have hb := C.b
  have hR : 2 ≤ ({ frames := 2, cells := 0, slots := 0, locals := 45 } : Room).frames ∧ 45 ≤ ({ frames := 2, cells := 0, slots := 0, locals := 45 } : Room).locals := ⟨Nat.le_refl _, Nat.le_refl _⟩
  unfold p_X9_sheet at hwp
  refine lv_iload_n hx hb dX9_sheet_0 rfl (lv_at lv 1 rfl) ?_
  refine lv_iconst (v := (4 : Int32)) hx hb dX9_sheet_1 (by decide) ?_
  refine x_cont_z Dy (x_runS (As := [.int v1, .int (4 : Int32)]) (rest := []) C Dy (m_X9_within E l _ _ v1 (4 : Int32) _ hwp) (cw_X9_104 C rfl rfl ⟨Nat.le_trans (Nat.le_of_ble_eq_true rfl) hR.1, Nat.le_trans (Nat.le_of_ble_eq_true rfl) hR.2⟩) rfl lv.1 rfl (Nat.le_of_ble_eq_true rfl) dX9_sheet_2 ⟨Nat.zero_le _, Nat.zero_le _⟩) (fun r1 h2 hl2 H locs zr1 hwp Dy => ?_)
  obtain ⟨rfl, rfl, hwp⟩ := hwp
  refine lv_if_eq (tgt := 22) hx hb dX9_sheet_5 (by decide) (fun c3 => ?_) (fun c3 => ?_)
  · have hwp := hwp.1 c3
    refine lv_bipush (v := (-2 : Int32)) hx hb dX9_sheet_22 (by decide) ?_
    exact x_iret C Dy ⟨rfl, hwp⟩ dX9_sheet_24
  · have hwp := hwp.2 c3
    refine lv_iload_n hx hb dX9_sheet_8 rfl (lv_at lv 2 rfl) ?_
    refine lv_iconst (v := (3 : Int32)) hx hb dX9_sheet_9 (by decide) ?_
    refine x_cont_z Dy (x_runS (As := [.int v2, .int (3 : Int32)]) (rest := []) C Dy (m_X9_within E l _ _ v2 (3 : Int32) _ hwp) (cw_X9_104 C rfl rfl ⟨Nat.le_trans (Nat.le_of_ble_eq_true rfl) hR.1, Nat.le_trans (Nat.le_of_ble_eq_true rfl) hR.2⟩) rfl lv.1 rfl (Nat.le_of_ble_eq_true rfl) dX9_sheet_10 ⟨Nat.zero_le _, Nat.zero_le _⟩) (fun r4 h5 hl5 H locs zr4 hwp Dy => ?_)
    obtain ⟨rfl, rfl, hwp⟩ := hwp
    refine lv_if_eq (tgt := 22) hx hb dX9_sheet_13 (by decide) (fun c6 => ?_) (fun c6 => ?_)
    · have hwp := hwp.1 c6
      refine lv_bipush (v := (-2 : Int32)) hx hb dX9_sheet_22 (by decide) ?_
      exact x_iret C Dy ⟨rfl, hwp⟩ dX9_sheet_24
    · have hwp := hwp.2 c6
      refine lv_iload_n hx hb dX9_sheet_16 rfl (lv_at lv 3 rfl) ?_
      refine lv_bipush (v := (60 : Int32)) hx hb dX9_sheet_17 (by decide) ?_
      refine lv_icmp_le (tgt := 25) hx hb dX9_sheet_19 (by decide) (fun c7 => ?_) (fun c7 => ?_)
      · have hwp := hwp.1 c7
        refine lv_iload_n hx hb dX9_sheet_25 rfl (lv_at lv 3 rfl) ?_
        refine lv_if_ge (tgt := 35) hx hb dX9_sheet_26 (by decide) (fun c8 => ?_) (fun c8 => ?_)
        · have hwp := hwp.1 c8
          refine lv_aload_n hx hb dX9_sheet_35 rfl (lv_at lv 0 rfl) ?_
          refine gf_X9_91_0 C Dy dX9_sheet_36 ?_
          refine lv_iload_n hx hb dX9_sheet_39 rfl (lv_at lv 1 rfl) ?_
          obtain ⟨g9, hwp⟩ := hwp
          refine x_aald C Dy g9 dX9_sheet_40 (fun q10 eq10 => ?_)
          have hwp := hwp q10 eq10
          refine lv_iload_n hx hb dX9_sheet_41 rfl (lv_at lv 2 rfl) ?_
          refine lv_iload_n hx hb dX9_sheet_42 rfl (lv_at lv 3 rfl) ?_
          refine x_cont_v Dy (x_runV (As := [.int v2, .int v3]) (rest := []) C Dy (m_X8_renew E l _ _ q10 (sh_of g9 eq10) v2 v3 _ hwp) (cw_X9_272 C rfl rfl ⟨Nat.le_trans (Nat.le_of_ble_eq_true rfl) hR.1, Nat.le_trans (Nat.le_of_ble_eq_true rfl) hR.2⟩) (wx_SH (sh_of g9 eq10)) rfl rfl lv.1 rfl (Nat.le_of_ble_eq_true rfl) dX9_sheet_43 ⟨Nat.zero_le _, Nat.zero_le _⟩) (fun h12 hl12 H locs hwp Dy => ?_)
          obtain ⟨rfl, hwp⟩ := hwp
          refine lv_iload_n hx hb dX9_sheet_46 rfl (lv_at lv 3 rfl) ?_
          exact x_iret C Dy ⟨rfl, hwp⟩ dX9_sheet_47
        · have hwp := hwp.2 c8
          refine lv_aload_n hx hb dX9_sheet_29 rfl (lv_at lv 0 rfl) ?_
          refine lv_iconst (v := (5 : Int32)) hx hb dX9_sheet_30 (by decide) ?_
          refine x_cont_i Dy (x_runV (As := [.int (5 : Int32)]) (rest := []) C Dy (m_X9_find E l _ _ (5 : Int32) _ hwp) (cw_X9_228 C rfl rfl ⟨Nat.le_trans (Nat.le_of_ble_eq_true rfl) hR.1, Nat.le_trans (Nat.le_of_ble_eq_true rfl) hR.2⟩) wx_0 rfl rfl lv.1 rfl (Nat.le_of_ble_eq_true rfl) dX9_sheet_31 ⟨Nat.zero_le _, Nat.zero_le _⟩) (fun r13 h14 hl14 H locs hwp Dy => ?_)
          obtain ⟨rfl, hwp⟩ := hwp
          exact x_iret C Dy ⟨rfl, hwp⟩ dX9_sheet_34
      · have hwp := hwp.2 c7
        refine lv_bipush (v := (-2 : Int32)) hx hb dX9_sheet_22 (by decide) ?_
        exact x_iret C Dy ⟨rfl, hwp⟩ dX9_sheet_24
def p_X9_lose (h : Mem) (v1 : Int32) (Qp : Int32 → Mem → Prop) : Prop := (p_X9_within v1 (4 : Int32) (fun r1 => ((r1 = 0 → Qp (-2 : Int32) h) ∧ (¬ (r1 = 0) → (vp_in v1 4 ∧ ∀ q5 : Nat, q5 = 47 + 2 * v1.toNatClampNeg → (p_X8_isLost h q5 (fun r6 => ((r6 = 0 → Qp (h q5 2) (up2 h q5 2 (-1 : Int32))) ∧ (¬ (r6 = 0) → (p_X9_find h (1 : Int32) (fun r9 h10 => Qp r9 h10)))))))))))
set_option maxHeartbeats 4000000 in
set_option maxRecDepth 100000 in
theorem m_X9_lose (E : xE) (l : Launch) (h : Mem) (hl : MemL) (v1 : Int32) (Qp : Int32 → Mem → Prop) (hwp : p_X9_lose h v1 Qp) : Met l yX9_lose (wsU yX9_lose cX9_lose 4 (some .int)) ({ frames := 1, cells := 0, slots := 0, locals := 21 } : Room) (mPc (wdX E) [.ref (wad (wdX E) 0), .int v1] h hl) (mQi (wdX E) (fun r h1 hl1 => hl = hl1 ∧ Qp r h1)) 0 0 (wA (wdX E)) := by
  refine x_met RX9 [(0, .ref (wad (wdX E) 0)), (1, .int v1)] (by decide) rfl (Nat.le_of_ble_eq_true rfl) rfl ?_
  intro p e s m args below meth c ls C Dy lv
  have hx := C.x
  have hb := C.b
  have hR : 1 ≤ ({ frames := 1, cells := 0, slots := 0, locals := 21 } : Room).frames ∧ 21 ≤ ({ frames := 1, cells := 0, slots := 0, locals := 21 } : Room).locals := ⟨Nat.le_refl _, Nat.le_refl _⟩
  unfold p_X9_lose at hwp
  refine lv_iload_n hx hb dX9_lose_0 rfl (lv_at lv 1 rfl) ?_
  refine lv_iconst (v := (4 : Int32)) hx hb dX9_lose_1 (by decide) ?_
  refine x_cont_z Dy (x_runS (As := [.int v1, .int (4 : Int32)]) (rest := []) C Dy (m_X9_within E l _ _ v1 (4 : Int32) _ hwp) (cw_X9_104 C rfl rfl ⟨Nat.le_trans (Nat.le_of_ble_eq_true rfl) hR.1, Nat.le_trans (Nat.le_of_ble_eq_true rfl) hR.2⟩) rfl lv.1 rfl (Nat.le_of_ble_eq_true rfl) dX9_lose_2 ⟨Nat.zero_le _, Nat.zero_le _⟩) (fun r1 h2 hl2 H locs zr1 hwp Dy => ?_)
  obtain ⟨rfl, rfl, hwp⟩ := hwp
  refine lv_if_ne (tgt := 11) hx hb dX9_lose_5 (by decide) (fun c3 => ?_) (fun c3 => ?_)
  · have hwp := hwp.2 c3
    refine lv_aload_n hx hb dX9_lose_11 rfl (lv_at lv 0 rfl) ?_
    refine gf_X9_91_0 C Dy dX9_lose_12 ?_
    refine lv_iload_n hx hb dX9_lose_15 rfl (lv_at lv 1 rfl) ?_
    obtain ⟨g4, hwp⟩ := hwp
    refine x_aald C Dy g4 dX9_lose_16 (fun q5 eq5 => ?_)
    have hwp := hwp q5 eq5
    refine lv_astore_n (lv' := [(2, .ref (wad (wdX E) q5)), (0, .ref (wad (wdX E) 0)), (1, .int v1)]) hx hb dX9_lose_17 rfl lv (by decide) rfl (fun ls lv => ?_)
    refine lv_aload_n hx hb dX9_lose_18 rfl (lv_at lv 0 rfl) ?_
    refine x_cont_z Dy (x_runV (As := []) (rest := []) C Dy (m_X8_isLost E l _ _ q5 (sh_of g4 eq5) _ hwp) (cw_X9_225 C rfl rfl ⟨Nat.le_trans (Nat.le_of_ble_eq_true rfl) hR.1, Nat.le_trans (Nat.le_of_ble_eq_true rfl) hR.2⟩) (wx_SH (sh_of g4 eq5)) rfl rfl lv.1 rfl (Nat.le_of_ble_eq_true rfl) dX9_lose_19 ⟨Nat.zero_le _, Nat.zero_le _⟩) (fun r6 h7 hl7 H locs zr6 hwp Dy => ?_)
    obtain ⟨rfl, rfl, hwp⟩ := hwp
    refine lv_if_eq (tgt := 31) hx hb dX9_lose_22 (by decide) (fun c8 => ?_) (fun c8 => ?_)
    · have hwp := hwp.1 c8
      refine lv_aload_n hx hb dX9_lose_31 rfl (lv_at lv 0 rfl) ?_
      refine gf_X9_231_SH (sh_of g4 eq5) C Dy dX9_lose_32 ?_
      refine lv_istore_n (lv' := [(3, .int (h q5 2)), (2, .ref (wad (wdX E) q5)), (0, .ref (wad (wdX E) 0)), (1, .int v1)]) hx hb dX9_lose_35 rfl lv (by decide) rfl (fun ls lv => ?_)
      refine lv_aload_n hx hb dX9_lose_36 rfl (lv_at lv 1 rfl) ?_
      refine lv_iconst (v := (-1 : Int32)) hx hb dX9_lose_37 (by decide) ?_
      refine pf_X9_231_SH (sh_of g4 eq5) C Dy dX9_lose_38 (fun H locs Dy => ?_)
      refine lv_iload_n hx hb dX9_lose_41 rfl (lv_at lv 0 rfl) ?_
      exact x_iret C Dy ⟨rfl, hwp⟩ dX9_lose_42
    · have hwp := hwp.2 c8
      refine lv_aload_n hx hb dX9_lose_25 rfl (lv_at lv 1 rfl) ?_
      refine lv_iconst (v := (1 : Int32)) hx hb dX9_lose_26 (by decide) ?_
      refine x_cont_i Dy (x_runV (As := [.int (1 : Int32)]) (rest := []) C Dy (m_X9_find E l _ _ (1 : Int32) _ hwp) (cw_X9_228 C rfl rfl ⟨Nat.le_trans (Nat.le_of_ble_eq_true rfl) hR.1, Nat.le_trans (Nat.le_of_ble_eq_true rfl) hR.2⟩) wx_0 rfl rfl lv.1 rfl (Nat.le_of_ble_eq_true rfl) dX9_lose_27 ⟨Nat.zero_le _, Nat.zero_le _⟩) (fun r9 h10 hl10 H locs hwp Dy => ?_)
      obtain ⟨rfl, hwp⟩ := hwp
      exact x_iret C Dy ⟨rfl, hwp⟩ dX9_lose_30
  · have hwp := hwp.1 c3
    refine lv_bipush (v := (-2 : Int32)) hx hb dX9_lose_8 (by decide) ?_
    exact x_iret C Dy ⟨rfl, hwp⟩ dX9_lose_10
def p_X9_refusalOfItem (h : Mem) (v1 : Int32) (v2 : Int32) (v3 : Int32) (Qp : Int32 → Mem → Prop) : Prop := (p_X9_within v1 (4 : Int32) (fun r1 => ((r1 = 0 → Qp (-2 : Int32) h) ∧ (¬ (r1 = 0) → (p_X9_within v2 (3 : Int32) (fun r4 => ((r4 = 0 → Qp (-2 : Int32) h) ∧ (¬ (r4 = 0) → (vp_in v1 4 ∧ ∀ q8 : Nat, q8 = 47 + 2 * v1.toNatClampNeg → (p_X8_isLost h q8 (fun r9 => ((r9 = 0 → (((h q8 1) = v2 → (p_X9_within v3 (h q8 2) (fun r13 => ((r13 = 0 → (p_X9_find h (2 : Int32) (fun r16 h17 => Qp r16 h17))) ∧ (¬ (r13 = 0) → Qp (0 : Int32) h))))) ∧ (¬ ((h q8 1) = v2) → (p_X9_find h (3 : Int32) (fun r18 h19 => Qp r18 h19))))) ∧ (¬ (r9 = 0) → (p_X9_find h (1 : Int32) (fun r20 h21 => Qp r20 h21)))))))))))))))
set_option maxHeartbeats 4000000 in
set_option maxRecDepth 100000 in
theorem m_X9_refusalOfItem (E : xE) (l : Launch) (h : Mem) (hl : MemL) (v1 : Int32) (v2 : Int32) (v3 : Int32) (Qp : Int32 → Mem → Prop) (hwp : p_X9_refusalOfItem h v1 v2 v3 Qp) : Met l yX9_refusalOfItem (wsU yX9_refusalOfItem cX9_refusalOfItem 5 (some .int)) ({ frames := 1, cells := 0, slots := 0, locals := 21 } : Room) (mPc (wdX E) [.ref (wad (wdX E) 0), .int v1, .int v2, .int v3] h hl) (mQi (wdX E) (fun r h1 hl1 => hl = hl1 ∧ Qp r h1)) 0 0 (wA (wdX E)) := by
  refine x_met RX9 [(0, .ref (wad (wdX E) 0)), (1, .int v1), (2, .int v2), (3, .int v3)] (by decide) rfl (Nat.le_of_ble_eq_true rfl) rfl ?_
  intro p e s m args below meth c ls C Dy lv
  have hx := C.x
  have hb := C.b
  have hR : 1 ≤ ({ frames := 1, cells := 0, slots := 0, locals := 21 } : Room).frames ∧ 21 ≤ ({ frames := 1, cells := 0, slots := 0, locals := 21 } : Room).locals := ⟨Nat.le_refl _, Nat.le_refl _⟩
  unfold p_X9_refusalOfItem at hwp
  refine lv_iload_n hx hb dX9_refusalOfItem_0 rfl (lv_at lv 1 rfl) ?_
  refine lv_iconst (v := (4 : Int32)) hx hb dX9_refusalOfItem_1 (by decide) ?_
  refine x_cont_z Dy (x_runS (As := [.int v1, .int (4 : Int32)]) (rest := []) C Dy (m_X9_within E l _ _ v1 (4 : Int32) _ hwp) (cw_X9_104 C rfl rfl ⟨Nat.le_trans (Nat.le_of_ble_eq_true rfl) hR.1, Nat.le_trans (Nat.le_of_ble_eq_true rfl) hR.2⟩) rfl lv.1 rfl (Nat.le_of_ble_eq_true rfl) dX9_refusalOfItem_2 ⟨Nat.zero_le _, Nat.zero_le _⟩) (fun r1 h2 hl2 H locs zr1 hwp Dy => ?_)
  obtain ⟨rfl, rfl, hwp⟩ := hwp
  refine lv_if_eq (tgt := 16) hx hb dX9_refusalOfItem_5 (by decide) (fun c3 => ?_) (fun c3 => ?_)
  · have hwp := hwp.1 c3
    refine lv_bipush (v := (-2 : Int32)) hx hb dX9_refusalOfItem_16 (by decide) ?_
    exact x_iret C Dy ⟨rfl, hwp⟩ dX9_refusalOfItem_18
  · have hwp := hwp.2 c3
    refine lv_iload_n hx hb dX9_refusalOfItem_8 rfl (lv_at lv 2 rfl) ?_
    refine lv_iconst (v := (3 : Int32)) hx hb dX9_refusalOfItem_9 (by decide) ?_
    refine x_cont_z Dy (x_runS (As := [.int v2, .int (3 : Int32)]) (rest := []) C Dy (m_X9_within E l _ _ v2 (3 : Int32) _ hwp) (cw_X9_104 C rfl rfl ⟨Nat.le_trans (Nat.le_of_ble_eq_true rfl) hR.1, Nat.le_trans (Nat.le_of_ble_eq_true rfl) hR.2⟩) rfl lv.1 rfl (Nat.le_of_ble_eq_true rfl) dX9_refusalOfItem_10 ⟨Nat.zero_le _, Nat.zero_le _⟩) (fun r4 h5 hl5 H locs zr4 hwp Dy => ?_)
    obtain ⟨rfl, rfl, hwp⟩ := hwp
    refine lv_if_ne (tgt := 19) hx hb dX9_refusalOfItem_13 (by decide) (fun c6 => ?_) (fun c6 => ?_)
    · have hwp := hwp.2 c6
      refine lv_aload_n hx hb dX9_refusalOfItem_19 rfl (lv_at lv 0 rfl) ?_
      refine gf_X9_91_0 C Dy dX9_refusalOfItem_20 ?_
      refine lv_iload_n hx hb dX9_refusalOfItem_23 rfl (lv_at lv 1 rfl) ?_
      obtain ⟨g7, hwp⟩ := hwp
      refine x_aald C Dy g7 dX9_refusalOfItem_24 (fun q8 eq8 => ?_)
      have hwp := hwp q8 eq8
      refine lv_astore (lv' := [(4, .ref (wad (wdX E) q8)), (0, .ref (wad (wdX E) 0)), (1, .int v1), (2, .int v2), (3, .int v3)]) hx hb dX9_refusalOfItem_25 lv (by decide) rfl (fun ls lv => ?_)
      refine lv_aload hx hb dX9_refusalOfItem_27 (lv_at lv 0 rfl) ?_
      refine x_cont_z Dy (x_runV (As := []) (rest := []) C Dy (m_X8_isLost E l _ _ q8 (sh_of g7 eq8) _ hwp) (cw_X9_225 C rfl rfl ⟨Nat.le_trans (Nat.le_of_ble_eq_true rfl) hR.1, Nat.le_trans (Nat.le_of_ble_eq_true rfl) hR.2⟩) (wx_SH (sh_of g7 eq8)) rfl rfl lv.1 rfl (Nat.le_of_ble_eq_true rfl) dX9_refusalOfItem_29 ⟨Nat.zero_le _, Nat.zero_le _⟩) (fun r9 h10 hl10 H locs zr9 hwp Dy => ?_)
      obtain ⟨rfl, rfl, hwp⟩ := hwp
      refine lv_if_eq (tgt := 41) hx hb dX9_refusalOfItem_32 (by decide) (fun c11 => ?_) (fun c11 => ?_)
      · have hwp := hwp.1 c11
        refine lv_aload hx hb dX9_refusalOfItem_41 (lv_at lv 0 rfl) ?_
        refine gf_X9_282_SH (sh_of g7 eq8) C Dy dX9_refusalOfItem_43 ?_
        refine lv_iload_n hx hb dX9_refusalOfItem_46 rfl (lv_at lv 3 rfl) ?_
        refine lv_icmp_eq (tgt := 56) hx hb dX9_refusalOfItem_47 (by decide) (fun c12 => ?_) (fun c12 => ?_)
        · have hwp := hwp.1 c12
          refine lv_iload_n hx hb dX9_refusalOfItem_56 rfl (lv_at lv 4 rfl) ?_
          refine lv_aload hx hb dX9_refusalOfItem_57 (lv_at lv 0 rfl) ?_
          refine gf_X9_231_SH (sh_of g7 eq8) C Dy dX9_refusalOfItem_59 ?_
          refine x_cont_z Dy (x_runS (As := [.int v3, .int (h q8 2)]) (rest := []) C Dy (m_X9_within E l _ _ v3 (h q8 2) _ hwp) (cw_X9_104 C rfl rfl ⟨Nat.le_trans (Nat.le_of_ble_eq_true rfl) hR.1, Nat.le_trans (Nat.le_of_ble_eq_true rfl) hR.2⟩) rfl lv.1 rfl (Nat.le_of_ble_eq_true rfl) dX9_refusalOfItem_62 ⟨Nat.zero_le _, Nat.zero_le _⟩) (fun r13 h14 hl14 H locs zr13 hwp Dy => ?_)
          obtain ⟨rfl, rfl, hwp⟩ := hwp
          refine lv_if_eq (tgt := 72) hx hb dX9_refusalOfItem_65 (by decide) (fun c15 => ?_) (fun c15 => ?_)
          · have hwp := hwp.1 c15
            refine lv_aload_n hx hb dX9_refusalOfItem_72 rfl (lv_at lv 1 rfl) ?_
            refine lv_iconst (v := (2 : Int32)) hx hb dX9_refusalOfItem_73 (by decide) ?_
            refine x_cont_i Dy (x_runV (As := [.int (2 : Int32)]) (rest := []) C Dy (m_X9_find E l _ _ (2 : Int32) _ hwp) (cw_X9_228 C rfl rfl ⟨Nat.le_trans (Nat.le_of_ble_eq_true rfl) hR.1, Nat.le_trans (Nat.le_of_ble_eq_true rfl) hR.2⟩) wx_0 rfl rfl lv.1 rfl (Nat.le_of_ble_eq_true rfl) dX9_refusalOfItem_74 ⟨Nat.zero_le _, Nat.zero_le _⟩) (fun r16 h17 hl17 H locs hwp Dy => ?_)
            obtain ⟨rfl, hwp⟩ := hwp
            exact x_iret C Dy ⟨rfl, hwp⟩ dX9_refusalOfItem_77
          · have hwp := hwp.2 c15
            refine lv_iconst (v := (0 : Int32)) hx hb dX9_refusalOfItem_68 (by decide) ?_
            refine lv_goto (tgt := 77) hx hb dX9_refusalOfItem_69 (by decide) ?_
            exact x_iret C Dy ⟨rfl, hwp⟩ dX9_refusalOfItem_77
        · have hwp := hwp.2 c12
          refine lv_aload_n hx hb dX9_refusalOfItem_50 rfl (lv_at lv 1 rfl) ?_
          refine lv_iconst (v := (3 : Int32)) hx hb dX9_refusalOfItem_51 (by decide) ?_
          refine x_cont_i Dy (x_runV (As := [.int (3 : Int32)]) (rest := []) C Dy (m_X9_find E l _ _ (3 : Int32) _ hwp) (cw_X9_228 C rfl rfl ⟨Nat.le_trans (Nat.le_of_ble_eq_true rfl) hR.1, Nat.le_trans (Nat.le_of_ble_eq_true rfl) hR.2⟩) wx_0 rfl rfl lv.1 rfl (Nat.le_of_ble_eq_true rfl) dX9_refusalOfItem_52 ⟨Nat.zero_le _, Nat.zero_le _⟩) (fun r18 h19 hl19 H locs hwp Dy => ?_)
          obtain ⟨rfl, hwp⟩ := hwp
          exact x_iret C Dy ⟨rfl, hwp⟩ dX9_refusalOfItem_55
      · have hwp := hwp.2 c11
        refine lv_aload_n hx hb dX9_refusalOfItem_35 rfl (lv_at lv 1 rfl) ?_
        refine lv_iconst (v := (1 : Int32)) hx hb dX9_refusalOfItem_36 (by decide) ?_
        refine x_cont_i Dy (x_runV (As := [.int (1 : Int32)]) (rest := []) C Dy (m_X9_find E l _ _ (1 : Int32) _ hwp) (cw_X9_228 C rfl rfl ⟨Nat.le_trans (Nat.le_of_ble_eq_true rfl) hR.1, Nat.le_trans (Nat.le_of_ble_eq_true rfl) hR.2⟩) wx_0 rfl rfl lv.1 rfl (Nat.le_of_ble_eq_true rfl) dX9_refusalOfItem_37 ⟨Nat.zero_le _, Nat.zero_le _⟩) (fun r20 h21 hl21 H locs hwp Dy => ?_)
        obtain ⟨rfl, hwp⟩ := hwp
        exact x_iret C Dy ⟨rfl, hwp⟩ dX9_refusalOfItem_40
    · have hwp := hwp.1 c6
      refine lv_bipush (v := (-2 : Int32)) hx hb dX9_refusalOfItem_16 (by decide) ?_
      exact x_iret C Dy ⟨rfl, hwp⟩ dX9_refusalOfItem_18
def p_X9_lay (h : Mem) (v1 : Int32) (v2 : Int32) (v3 : Int32) (v4 : Int32) (Qp : Int32 → Mem → Prop) : Prop := (p_X9_refusalOfItem h v1 v2 v3 (fun r1 h2 => ((r1 = 0 → (vp_in v1 4 ∧ ∀ q5 : Nat, q5 = 47 + 2 * v1.toNatClampNeg → (p_X8_put h2 q5 v3 v4 (fun h7 => Qp (1 : Int32) h7)))) ∧ (¬ (r1 = 0) → Qp r1 h2))))
set_option maxHeartbeats 4000000 in
set_option maxRecDepth 100000 in
theorem m_X9_lay (E : xE) (l : Launch) (h : Mem) (hl : MemL) (v1 : Int32) (v2 : Int32) (v3 : Int32) (v4 : Int32) (Qp : Int32 → Mem → Prop) (hwp : p_X9_lay h v1 v2 v3 v4 Qp) : Met l yX9_lay (wsU yX9_lay cX9_lay 6 (some .int)) ({ frames := 2, cells := 0, slots := 0, locals := 45 } : Room) (mPc (wdX E) [.ref (wad (wdX E) 0), .int v1, .int v2, .int v3, .int v4] h hl) (mQi (wdX E) (fun r h1 hl1 => hl = hl1 ∧ Qp r h1)) 0 0 (wA (wdX E)) := by
  refine x_met RX9 [(0, .ref (wad (wdX E) 0)), (1, .int v1), (2, .int v2), (3, .int v3), (4, .int v4)] (by decide) rfl (Nat.le_of_ble_eq_true rfl) rfl ?_
  intro p e s m args below meth c ls C Dy lv
  have hx := C.x
  have hb := C.b
  have hR : 2 ≤ ({ frames := 2, cells := 0, slots := 0, locals := 45 } : Room).frames ∧ 45 ≤ ({ frames := 2, cells := 0, slots := 0, locals := 45 } : Room).locals := ⟨Nat.le_refl _, Nat.le_refl _⟩
  unfold p_X9_lay at hwp
  refine lv_aload_n hx hb dX9_lay_0 rfl (lv_at lv 0 rfl) ?_
  refine lv_iload_n hx hb dX9_lay_1 rfl (lv_at lv 1 rfl) ?_
  refine lv_iload_n hx hb dX9_lay_2 rfl (lv_at lv 2 rfl) ?_
  refine lv_iload_n hx hb dX9_lay_3 rfl (lv_at lv 3 rfl) ?_
  refine x_cont_i Dy (x_runV (As := [.int v1, .int v2, .int v3]) (rest := []) C Dy (m_X9_refusalOfItem E l _ _ v1 v2 v3 _ hwp) (cw_X9_275 C rfl rfl ⟨Nat.le_trans (Nat.le_of_ble_eq_true rfl) hR.1, Nat.le_trans (Nat.le_of_ble_eq_true rfl) hR.2⟩) wx_0 rfl rfl lv.1 rfl (Nat.le_of_ble_eq_true rfl) dX9_lay_4 ⟨Nat.zero_le _, Nat.zero_le _⟩) (fun r1 h2 hl2 H locs hwp Dy => ?_)
  obtain ⟨rfl, hwp⟩ := hwp
  refine lv_istore (lv' := [(5, .int r1), (0, .ref (wad (wdX E) 0)), (1, .int v1), (2, .int v2), (3, .int v3), (4, .int v4)]) hx hb dX9_lay_7 lv (by decide) rfl (fun ls lv => ?_)
  refine lv_iload hx hb dX9_lay_9 (lv_at lv 0 rfl) ?_
  refine lv_if_eq (tgt := 17) hx hb dX9_lay_11 (by decide) (fun c3 => ?_) (fun c3 => ?_)
  · have hwp := hwp.1 c3
    refine lv_aload_n hx hb dX9_lay_17 rfl (lv_at lv 1 rfl) ?_
    refine gf_X9_91_0 C Dy dX9_lay_18 ?_
    refine lv_iload_n hx hb dX9_lay_21 rfl (lv_at lv 2 rfl) ?_
    obtain ⟨g4, hwp⟩ := hwp
    refine x_aald C Dy g4 dX9_lay_22 (fun q5 eq5 => ?_)
    have hwp := hwp q5 eq5
    refine lv_iload_n hx hb dX9_lay_23 rfl (lv_at lv 4 rfl) ?_
    refine lv_iload hx hb dX9_lay_24 (lv_at lv 5 rfl) ?_
    refine x_cont_v Dy (x_runV (As := [.int v3, .int v4]) (rest := []) C Dy (m_X8_put E l _ _ q5 (sh_of g4 eq5) v3 v4 _ hwp) (cw_X9_278 C rfl rfl ⟨Nat.le_trans (Nat.le_of_ble_eq_true rfl) hR.1, Nat.le_trans (Nat.le_of_ble_eq_true rfl) hR.2⟩) (wx_SH (sh_of g4 eq5)) rfl rfl lv.1 rfl (Nat.le_of_ble_eq_true rfl) dX9_lay_26 ⟨Nat.zero_le _, Nat.zero_le _⟩) (fun h7 hl7 H locs hwp Dy => ?_)
    obtain ⟨rfl, hwp⟩ := hwp
    refine lv_iconst (v := (1 : Int32)) hx hb dX9_lay_29 (by decide) ?_
    exact x_iret C Dy ⟨rfl, hwp⟩ dX9_lay_30
  · have hwp := hwp.2 c3
    refine lv_iload hx hb dX9_lay_14 (lv_at lv 0 rfl) ?_
    exact x_iret C Dy ⟨rfl, hwp⟩ dX9_lay_16
def p_X9_get (h : Mem) (v1 : Int32) (v2 : Int32) (v3 : Int32) (Qp : Int32 → Mem → Prop) : Prop := (p_X9_refusalOfItem h v1 v2 v3 (fun r1 h2 => ((r1 = 0 → (vp_in v1 4 ∧ ∀ q5 : Nat, q5 = 47 + 2 * v1.toNatClampNeg → (vp_in v3 60 ∧ Qp (h2 (q5 + 1) v3.toNatClampNeg) h2))) ∧ (¬ (r1 = 0) → Qp (-2147483648 : Int32) h2))))
set_option maxHeartbeats 4000000 in
set_option maxRecDepth 100000 in
theorem m_X9_get (E : xE) (l : Launch) (h : Mem) (hl : MemL) (v1 : Int32) (v2 : Int32) (v3 : Int32) (Qp : Int32 → Mem → Prop) (hwp : p_X9_get h v1 v2 v3 Qp) : Met l yX9_get (wsU yX9_get cX9_get 4 (some .int)) ({ frames := 2, cells := 0, slots := 0, locals := 45 } : Room) (mPc (wdX E) [.ref (wad (wdX E) 0), .int v1, .int v2, .int v3] h hl) (mQi (wdX E) (fun r h1 hl1 => hl = hl1 ∧ Qp r h1)) 0 0 (wA (wdX E)) := by
  refine x_met RX9 [(0, .ref (wad (wdX E) 0)), (1, .int v1), (2, .int v2), (3, .int v3)] (by decide) rfl (Nat.le_of_ble_eq_true rfl) rfl ?_
  intro p e s m args below meth c ls C Dy lv
  have hx := C.x
  have hb := C.b
  have hR : 2 ≤ ({ frames := 2, cells := 0, slots := 0, locals := 45 } : Room).frames ∧ 45 ≤ ({ frames := 2, cells := 0, slots := 0, locals := 45 } : Room).locals := ⟨Nat.le_refl _, Nat.le_refl _⟩
  unfold p_X9_get at hwp
  refine lv_aload_n hx hb dX9_get_0 rfl (lv_at lv 0 rfl) ?_
  refine lv_iload_n hx hb dX9_get_1 rfl (lv_at lv 1 rfl) ?_
  refine lv_iload_n hx hb dX9_get_2 rfl (lv_at lv 2 rfl) ?_
  refine lv_iload_n hx hb dX9_get_3 rfl (lv_at lv 3 rfl) ?_
  refine x_cont_i Dy (x_runV (As := [.int v1, .int v2, .int v3]) (rest := []) C Dy (m_X9_refusalOfItem E l _ _ v1 v2 v3 _ hwp) (cw_X9_275 C rfl rfl ⟨Nat.le_trans (Nat.le_of_ble_eq_true rfl) hR.1, Nat.le_trans (Nat.le_of_ble_eq_true rfl) hR.2⟩) wx_0 rfl rfl lv.1 rfl (Nat.le_of_ble_eq_true rfl) dX9_get_4 ⟨Nat.zero_le _, Nat.zero_le _⟩) (fun r1 h2 hl2 H locs hwp Dy => ?_)
  obtain ⟨rfl, hwp⟩ := hwp
  refine lv_if_eq (tgt := 16) hx hb dX9_get_7 (by decide) (fun c3 => ?_) (fun c3 => ?_)
  · have hwp := hwp.1 c3
    refine lv_aload_n hx hb dX9_get_16 rfl (lv_at lv 0 rfl) ?_
    refine gf_X9_91_0 C Dy dX9_get_17 ?_
    refine lv_iload_n hx hb dX9_get_20 rfl (lv_at lv 1 rfl) ?_
    obtain ⟨g4, hwp⟩ := hwp
    refine x_aald C Dy g4 dX9_get_21 (fun q5 eq5 => ?_)
    have hwp := hwp q5 eq5
    refine gf_X9_232_SH (sh_of g4 eq5) C Dy dX9_get_22 ?_
    refine lv_iload_n hx hb dX9_get_25 rfl (lv_at lv 3 rfl) ?_
    obtain ⟨g6, hwp⟩ := hwp
    refine x_iald C Dy (ia_SHi (sh_of g4 eq5)) g6 dX9_get_26 ?_
    exact x_iret C Dy ⟨rfl, hwp⟩ dX9_get_27
  · have hwp := hwp.2 c3
    refine lv_ldcw hx hb C.ow (C.ts _ k_755) dX9_get_10 ?_
    refine lv_goto (tgt := 27) hx hb dX9_get_13 (by decide) ?_
    exact x_iret C Dy ⟨rfl, hwp⟩ dX9_get_27
def b_X9_copy_51 (h : Mem) (Qp : Int32 → Mem → Prop) : Prop := (p_X9_find h (1 : Int32) (fun r1 h2 => Qp r1 h2))
def b_X9_copy_99 (h : Mem) (Qp : Int32 → Mem → Prop) : Prop := (p_X9_find h (2 : Int32) (fun r3 h4 => Qp r3 h4))
def p_X9_copy (h : Mem) (v1 : Int32) (v2 : Int32) (v3 : Int32) (v4 : Int32) (v5 : Int32) (Qp : Int32 → Mem → Prop) : Prop := (p_X9_within v1 (4 : Int32) (fun r5 => ((r5 = 0 → Qp (-2 : Int32) h) ∧ (¬ (r5 = 0) → (p_X9_within v3 (4 : Int32) (fun r8 => ((r8 = 0 → Qp (-2 : Int32) h) ∧ (¬ (r8 = 0) → (vp_in v1 4 ∧ ∀ q12 : Nat, q12 = 47 + 2 * v1.toNatClampNeg → (vp_in v3 4 ∧ ∀ q14 : Nat, q14 = 47 + 2 * v3.toNatClampNeg → (p_X8_isLost h q12 (fun r15 => ((r15 = 0 → (p_X8_isLost h q14 (fun r18 => ((r18 = 0 → (((h q12 1) = (h q14 1) → (p_X8_hasRun h q12 v2 v5 (fun r22 => ((r22 = 0 → b_X9_copy_99 h Qp) ∧ (¬ (r22 = 0) → (p_X8_hasRun h q14 v4 v5 (fun r25 => ((r25 = 0 → b_X9_copy_99 h Qp) ∧ (¬ (r25 = 0) → ((¬ v2 < 0) ∧ (¬ v4 < 0) ∧ (¬ v5 < 0) ∧ v2.toNatClampNeg + v5.toNatClampNeg ≤ 60 ∧ v4.toNatClampNeg + v5.toNatClampNeg ≤ 60 ∧ Qp (1 : Int32) (upR h (q14 + 1) (va_cpy (h (q12 + 1)) (h (q14 + 1)) v2.toNatClampNeg v4.toNatClampNeg v5.toNatClampNeg)))))))))))) ∧ (¬ ((h q12 1) = (h q14 1)) → (p_X9_find h (4 : Int32) (fun r33 h34 => Qp r33 h34))))) ∧ (¬ (r18 = 0) → b_X9_copy_51 h Qp))))) ∧ (¬ (r15 = 0) → b_X9_copy_51 h Qp))))))))))))))
set_option maxHeartbeats 4000000 in
set_option maxRecDepth 100000 in
theorem t_X9_copy_51 (E : xE) {p : Program} {l : Launch} {e : Env} {R : Room} {s : State} {m : MethodId} {args : Array Value} {below : List Frame} {meth : Method} {c : Code} (C : mC (wdX E) p s m meth c args cX9_copy 8 RX9 (some .int)) (hR : 1 ≤ R.frames ∧ 64 ≤ R.locals) {hl : MemL} (Qp : Int32 → Mem → Prop) : ∀ (h : Mem) (H : Heap) (locs : List Loc) (ls : Array Slot), mD (wdX E) h hl s H locs → lv_has ls 8 [(0, .ref (wad (wdX E) 0))] → b_X9_copy_51 h Qp → W p l e R s m args below meth c H locs 0 0 (MQ below (mQi (wdX E) (fun r h1 hl1 => hl = hl1 ∧ Qp r h1)) args s 0 0 (wA (wdX E))) (F0 m 51 ls []) := by
  have hx := C.x
  have hb := C.b
  intro h H locs ls Dy lv hwp
  unfold b_X9_copy_51 at hwp
  refine lv_aload_n hx hb dX9_copy_51 rfl (lv_at lv 0 rfl) ?_
  refine lv_iconst (v := (1 : Int32)) hx hb dX9_copy_52 (by decide) ?_
  refine x_cont_i Dy (x_runV (As := [.int (1 : Int32)]) (rest := []) C Dy (m_X9_find E l _ _ (1 : Int32) _ hwp) (cw_X9_228 C rfl rfl ⟨Nat.le_trans (Nat.le_of_ble_eq_true rfl) hR.1, Nat.le_trans (Nat.le_of_ble_eq_true rfl) hR.2⟩) wx_0 rfl rfl lv.1 rfl (Nat.le_of_ble_eq_true rfl) dX9_copy_53 ⟨Nat.zero_le _, Nat.zero_le _⟩) (fun r1 h2 hl2 H locs hwp Dy => ?_)
  obtain ⟨rfl, hwp⟩ := hwp
  exact x_iret C Dy ⟨rfl, hwp⟩ dX9_copy_56
set_option maxHeartbeats 4000000 in
set_option maxRecDepth 100000 in
theorem t_X9_copy_99 (E : xE) {p : Program} {l : Launch} {e : Env} {R : Room} {s : State} {m : MethodId} {args : Array Value} {below : List Frame} {meth : Method} {c : Code} (C : mC (wdX E) p s m meth c args cX9_copy 8 RX9 (some .int)) (hR : 1 ≤ R.frames ∧ 64 ≤ R.locals) {hl : MemL} (Qp : Int32 → Mem → Prop) : ∀ (h : Mem) (H : Heap) (locs : List Loc) (ls : Array Slot), mD (wdX E) h hl s H locs → lv_has ls 8 [(0, .ref (wad (wdX E) 0))] → b_X9_copy_99 h Qp → W p l e R s m args below meth c H locs 0 0 (MQ below (mQi (wdX E) (fun r h1 hl1 => hl = hl1 ∧ Qp r h1)) args s 0 0 (wA (wdX E))) (F0 m 99 ls []) := by
  have hx := C.x
  have hb := C.b
  intro h H locs ls Dy lv hwp
  unfold b_X9_copy_99 at hwp
  refine lv_aload_n hx hb dX9_copy_99 rfl (lv_at lv 0 rfl) ?_
  refine lv_iconst (v := (2 : Int32)) hx hb dX9_copy_100 (by decide) ?_
  refine x_cont_i Dy (x_runV (As := [.int (2 : Int32)]) (rest := []) C Dy (m_X9_find E l _ _ (2 : Int32) _ hwp) (cw_X9_228 C rfl rfl ⟨Nat.le_trans (Nat.le_of_ble_eq_true rfl) hR.1, Nat.le_trans (Nat.le_of_ble_eq_true rfl) hR.2⟩) wx_0 rfl rfl lv.1 rfl (Nat.le_of_ble_eq_true rfl) dX9_copy_101 ⟨Nat.zero_le _, Nat.zero_le _⟩) (fun r3 h4 hl4 H locs hwp Dy => ?_)
  obtain ⟨rfl, hwp⟩ := hwp
  exact x_iret C Dy ⟨rfl, hwp⟩ dX9_copy_104
set_option maxHeartbeats 4000000 in
set_option maxRecDepth 100000 in
theorem m_X9_copy (E : xE) (l : Launch) (h : Mem) (hl : MemL) (v1 : Int32) (v2 : Int32) (v3 : Int32) (v4 : Int32) (v5 : Int32) (Qp : Int32 → Mem → Prop) (hwp : p_X9_copy h v1 v2 v3 v4 v5 Qp) : Met l yX9_copy (wsU yX9_copy cX9_copy 8 (some .int)) ({ frames := 1, cells := 0, slots := 0, locals := 64 } : Room) (mPc (wdX E) [.ref (wad (wdX E) 0), .int v1, .int v2, .int v3, .int v4, .int v5] h hl) (mQi (wdX E) (fun r h1 hl1 => hl = hl1 ∧ Qp r h1)) 0 0 (wA (wdX E)) := by
  refine x_met RX9 [(0, .ref (wad (wdX E) 0)), (1, .int v1), (2, .int v2), (3, .int v3), (4, .int v4), (5, .int v5)] (by decide) rfl (Nat.le_of_ble_eq_true rfl) rfl ?_
  intro p e s m args below meth c ls C Dy lv
  have hx := C.x
  have hb := C.b
  have hR : 1 ≤ ({ frames := 1, cells := 0, slots := 0, locals := 64 } : Room).frames ∧ 64 ≤ ({ frames := 1, cells := 0, slots := 0, locals := 64 } : Room).locals := ⟨Nat.le_refl _, Nat.le_refl _⟩
  unfold p_X9_copy at hwp
  refine lv_iload_n hx hb dX9_copy_0 rfl (lv_at lv 1 rfl) ?_
  refine lv_iconst (v := (4 : Int32)) hx hb dX9_copy_1 (by decide) ?_
  refine x_cont_z Dy (x_runS (As := [.int v1, .int (4 : Int32)]) (rest := []) C Dy (m_X9_within E l _ _ v1 (4 : Int32) _ hwp) (cw_X9_104 C rfl rfl ⟨Nat.le_trans (Nat.le_of_ble_eq_true rfl) hR.1, Nat.le_trans (Nat.le_of_ble_eq_true rfl) hR.2⟩) rfl lv.1 rfl (Nat.le_of_ble_eq_true rfl) dX9_copy_2 ⟨Nat.zero_le _, Nat.zero_le _⟩) (fun r5 h6 hl6 H locs zr5 hwp Dy => ?_)
  obtain ⟨rfl, rfl, hwp⟩ := hwp
  refine lv_if_eq (tgt := 16) hx hb dX9_copy_5 (by decide) (fun c7 => ?_) (fun c7 => ?_)
  · have hwp := hwp.1 c7
    refine lv_bipush (v := (-2 : Int32)) hx hb dX9_copy_16 (by decide) ?_
    exact x_iret C Dy ⟨rfl, hwp⟩ dX9_copy_18
  · have hwp := hwp.2 c7
    refine lv_iload_n hx hb dX9_copy_8 rfl (lv_at lv 3 rfl) ?_
    refine lv_iconst (v := (4 : Int32)) hx hb dX9_copy_9 (by decide) ?_
    refine x_cont_z Dy (x_runS (As := [.int v3, .int (4 : Int32)]) (rest := []) C Dy (m_X9_within E l _ _ v3 (4 : Int32) _ hwp) (cw_X9_104 C rfl rfl ⟨Nat.le_trans (Nat.le_of_ble_eq_true rfl) hR.1, Nat.le_trans (Nat.le_of_ble_eq_true rfl) hR.2⟩) rfl lv.1 rfl (Nat.le_of_ble_eq_true rfl) dX9_copy_10 ⟨Nat.zero_le _, Nat.zero_le _⟩) (fun r8 h9 hl9 H locs zr8 hwp Dy => ?_)
    obtain ⟨rfl, rfl, hwp⟩ := hwp
    refine lv_if_ne (tgt := 19) hx hb dX9_copy_13 (by decide) (fun c10 => ?_) (fun c10 => ?_)
    · have hwp := hwp.2 c10
      refine lv_aload_n hx hb dX9_copy_19 rfl (lv_at lv 0 rfl) ?_
      refine gf_X9_91_0 C Dy dX9_copy_20 ?_
      refine lv_iload_n hx hb dX9_copy_23 rfl (lv_at lv 1 rfl) ?_
      obtain ⟨g11, hwp⟩ := hwp
      refine x_aald C Dy g11 dX9_copy_24 (fun q12 eq12 => ?_)
      have hwp := hwp q12 eq12
      refine lv_astore (lv' := [(6, .ref (wad (wdX E) q12)), (0, .ref (wad (wdX E) 0)), (1, .int v1), (2, .int v2), (3, .int v3), (4, .int v4), (5, .int v5)]) hx hb dX9_copy_25 lv (by decide) rfl (fun ls lv => ?_)
      refine lv_aload_n hx hb dX9_copy_27 rfl (lv_at lv 1 rfl) ?_
      refine gf_X9_91_0 C Dy dX9_copy_28 ?_
      refine lv_iload_n hx hb dX9_copy_31 rfl (lv_at lv 4 rfl) ?_
      obtain ⟨g13, hwp⟩ := hwp
      refine x_aald C Dy g13 dX9_copy_32 (fun q14 eq14 => ?_)
      have hwp := hwp q14 eq14
      refine lv_astore (lv' := [(7, .ref (wad (wdX E) q14)), (6, .ref (wad (wdX E) q12)), (0, .ref (wad (wdX E) 0)), (1, .int v1), (2, .int v2), (3, .int v3), (4, .int v4), (5, .int v5)]) hx hb dX9_copy_33 lv (by decide) rfl (fun ls lv => ?_)
      refine lv_aload hx hb dX9_copy_35 (lv_at lv 1 rfl) ?_
      refine x_cont_z Dy (x_runV (As := []) (rest := []) C Dy (m_X8_isLost E l _ _ q12 (sh_of g11 eq12) _ hwp) (cw_X9_225 C rfl rfl ⟨Nat.le_trans (Nat.le_of_ble_eq_true rfl) hR.1, Nat.le_trans (Nat.le_of_ble_eq_true rfl) hR.2⟩) (wx_SH (sh_of g11 eq12)) rfl rfl lv.1 rfl (Nat.le_of_ble_eq_true rfl) dX9_copy_37 ⟨Nat.zero_le _, Nat.zero_le _⟩) (fun r15 h16 hl16 H locs zr15 hwp Dy => ?_)
      obtain ⟨rfl, rfl, hwp⟩ := hwp
      refine lv_if_ne (tgt := 51) hx hb dX9_copy_40 (by decide) (fun c17 => ?_) (fun c17 => ?_)
      · have hwp := hwp.2 c17
        exact t_X9_copy_51 E C hR Qp h _ _ _ Dy (lv_sub lv [2] rfl) hwp
      · have hwp := hwp.1 c17
        refine lv_aload hx hb dX9_copy_43 (lv_at lv 0 rfl) ?_
        refine x_cont_z Dy (x_runV (As := []) (rest := []) C Dy (m_X8_isLost E l _ _ q14 (sh_of g13 eq14) _ hwp) (cw_X9_225 C rfl rfl ⟨Nat.le_trans (Nat.le_of_ble_eq_true rfl) hR.1, Nat.le_trans (Nat.le_of_ble_eq_true rfl) hR.2⟩) (wx_SH (sh_of g13 eq14)) rfl rfl lv.1 rfl (Nat.le_of_ble_eq_true rfl) dX9_copy_45 ⟨Nat.zero_le _, Nat.zero_le _⟩) (fun r18 h19 hl19 H locs zr18 hwp Dy => ?_)
        obtain ⟨rfl, rfl, hwp⟩ := hwp
        refine lv_if_eq (tgt := 57) hx hb dX9_copy_48 (by decide) (fun c20 => ?_) (fun c20 => ?_)
        · have hwp := hwp.1 c20
          refine lv_aload hx hb dX9_copy_57 (lv_at lv 1 rfl) ?_
          refine gf_X9_282_SH (sh_of g11 eq12) C Dy dX9_copy_59 ?_
          refine lv_aload hx hb dX9_copy_62 (lv_at lv 0 rfl) ?_
          refine gf_X9_282_SH (sh_of g13 eq14) C Dy dX9_copy_64 ?_
          refine lv_icmp_eq (tgt := 76) hx hb dX9_copy_67 (by decide) (fun c21 => ?_) (fun c21 => ?_)
          · have hwp := hwp.1 c21
            refine lv_aload hx hb dX9_copy_76 (lv_at lv 1 rfl) ?_
            refine lv_iload_n hx hb dX9_copy_78 rfl (lv_at lv 4 rfl) ?_
            refine lv_iload hx hb dX9_copy_79 (lv_at lv 7 rfl) ?_
            refine x_cont_z Dy (x_runV (As := [.int v2, .int v5]) (rest := []) C Dy (m_X8_hasRun E l _ _ q12 (sh_of g11 eq12) v2 v5 _ hwp) (cw_X9_285 C rfl rfl ⟨Nat.le_trans (Nat.le_of_ble_eq_true rfl) hR.1, Nat.le_trans (Nat.le_of_ble_eq_true rfl) hR.2⟩) (wx_SH (sh_of g11 eq12)) rfl rfl lv.1 rfl (Nat.le_of_ble_eq_true rfl) dX9_copy_81 ⟨Nat.zero_le _, Nat.zero_le _⟩) (fun r22 h23 hl23 H locs zr22 hwp Dy => ?_)
            obtain ⟨rfl, rfl, hwp⟩ := hwp
            refine lv_if_eq (tgt := 99) hx hb dX9_copy_84 (by decide) (fun c24 => ?_) (fun c24 => ?_)
            · have hwp := hwp.1 c24
              exact t_X9_copy_99 E C hR Qp h _ _ _ Dy (lv_sub lv [2] rfl) hwp
            · have hwp := hwp.2 c24
              refine lv_aload hx hb dX9_copy_87 (lv_at lv 0 rfl) ?_
              refine lv_iload hx hb dX9_copy_89 (lv_at lv 6 rfl) ?_
              refine lv_iload hx hb dX9_copy_91 (lv_at lv 7 rfl) ?_
              refine x_cont_z Dy (x_runV (As := [.int v4, .int v5]) (rest := []) C Dy (m_X8_hasRun E l _ _ q14 (sh_of g13 eq14) v4 v5 _ hwp) (cw_X9_285 C rfl rfl ⟨Nat.le_trans (Nat.le_of_ble_eq_true rfl) hR.1, Nat.le_trans (Nat.le_of_ble_eq_true rfl) hR.2⟩) (wx_SH (sh_of g13 eq14)) rfl rfl lv.1 rfl (Nat.le_of_ble_eq_true rfl) dX9_copy_93 ⟨Nat.zero_le _, Nat.zero_le _⟩) (fun r25 h26 hl26 H locs zr25 hwp Dy => ?_)
              obtain ⟨rfl, rfl, hwp⟩ := hwp
              refine lv_if_ne (tgt := 105) hx hb dX9_copy_96 (by decide) (fun c27 => ?_) (fun c27 => ?_)
              · have hwp := hwp.2 c27
                refine lv_aload hx hb dX9_copy_105 (lv_at lv 1 rfl) ?_
                refine gf_X9_232_SH (sh_of g11 eq12) C Dy dX9_copy_107 ?_
                refine lv_iload_n hx hb dX9_copy_110 rfl (lv_at lv 4 rfl) ?_
                refine lv_aload hx hb dX9_copy_111 (lv_at lv 0 rfl) ?_
                refine gf_X9_232_SH (sh_of g13 eq14) C Dy dX9_copy_113 ?_
                refine lv_iload hx hb dX9_copy_116 (lv_at lv 6 rfl) ?_
                refine lv_iload hx hb dX9_copy_118 (lv_at lv 7 rfl) ?_
                obtain ⟨g28, g29, g30, g31, g32, hwp⟩ := hwp
                refine x_copy C Dy (ia_SHi (sh_of g11 eq12)) (ia_SHi (sh_of g13 eq14)) g28 g29 g30 g31 g32 k_764 k_580 k_579 k_14 (lv.1) (Nat.le_trans (Nat.le_of_ble_eq_true rfl) hR.1) (Nat.le_trans (Nat.le_of_ble_eq_true rfl) hR.2) dX9_copy_120 (fun H locs Dy => ?_)
                refine lv_iconst (v := (1 : Int32)) hx hb dX9_copy_123 (by decide) ?_
                exact x_iret C Dy ⟨rfl, hwp⟩ dX9_copy_124
              · have hwp := hwp.1 c27
                exact t_X9_copy_99 E C hR Qp h _ _ _ Dy (lv_sub lv [2] rfl) hwp
          · have hwp := hwp.2 c21
            refine lv_aload_n hx hb dX9_copy_70 rfl (lv_at lv 2 rfl) ?_
            refine lv_iconst (v := (4 : Int32)) hx hb dX9_copy_71 (by decide) ?_
            refine x_cont_i Dy (x_runV (As := [.int (4 : Int32)]) (rest := []) C Dy (m_X9_find E l _ _ (4 : Int32) _ hwp) (cw_X9_228 C rfl rfl ⟨Nat.le_trans (Nat.le_of_ble_eq_true rfl) hR.1, Nat.le_trans (Nat.le_of_ble_eq_true rfl) hR.2⟩) wx_0 rfl rfl lv.1 rfl (Nat.le_of_ble_eq_true rfl) dX9_copy_72 ⟨Nat.zero_le _, Nat.zero_le _⟩) (fun r33 h34 hl34 H locs hwp Dy => ?_)
            obtain ⟨rfl, hwp⟩ := hwp
            exact x_iret C Dy ⟨rfl, hwp⟩ dX9_copy_75
        · have hwp := hwp.2 c20
          exact t_X9_copy_51 E C hR Qp h _ _ _ Dy (lv_sub lv [2] rfl) hwp
    · have hwp := hwp.1 c10
      refine lv_bipush (v := (-2 : Int32)) hx hb dX9_copy_16 (by decide) ?_
      exact x_iret C Dy ⟨rfl, hwp⟩ dX9_copy_18
def b_X9_write_61 : Nat → Mem → Nat → Int32 → Int32 → Int32 → (Int32 → Mem → Prop) → Prop
  | 0 => fun _ _ _ _ _ _ => False
  | n + 1 => fun h k3 v4 v5 v6 Qp => ((v5 ≤ v6 → Qp v5 h) ∧ (¬ (v5 ≤ v6) → (p_X0_deedBy h v4 v6 (fun r2 => (p_X8_put h k3 v6 r2 (fun h5 => b_X9_write_61 n h5 k3 v4 v5 (v6 + (1 : Int32)) Qp))))))
def p_X9_write (h : Mem) (v1 : Int32) (v2 : Int32) (Qp : Int32 → Mem → Prop) : Prop := (p_X9_within v1 (30 : Int32) (fun r6 => ((r6 = 0 → Qp (-2 : Int32) h) ∧ (¬ (r6 = 0) → (p_X9_within v2 (4 : Int32) (fun r9 => ((r9 = 0 → Qp (-2 : Int32) h) ∧ (¬ (r9 = 0) → (vp_in v2 4 ∧ ∀ q13 : Nat, q13 = 47 + 2 * v2.toNatClampNeg → (p_X8_isLost h q13 (fun r14 => ((r14 = 0 → (p_X9_kingsLaws h v1 (fun r17 h18 => (∀ x19 : Int32, x19 = (if (24 : Int32) < (h18 q13 2) then (24 : Int32) else (h18 q13 2)) → (∃ n61, b_X9_write_61 n61 h18 q13 r17 x19 (0 : Int32) Qp))))) ∧ (¬ (r14 = 0) → (p_X9_find h (1 : Int32) (fun r20 h21 => Qp r20 h21)))))))))))))))
set_option maxHeartbeats 4000000 in
set_option maxRecDepth 100000 in
theorem t_X9_write_61 (E : xE) {p : Program} {l : Launch} {e : Env} {R : Room} {s : State} {m : MethodId} {args : Array Value} {below : List Frame} {meth : Method} {c : Code} (C : mC (wdX E) p s m meth c args cX9_write 7 RX9 (some .int)) (hR : 4 ≤ R.frames ∧ 91 ≤ R.locals) {hl : MemL} (Qp : Int32 → Mem → Prop) : ∀ (n : Nat) (h : Mem) (k3 : Nat) (v4 : Int32) (v5 : Int32) (v6 : Int32) (H : Heap) (locs : List Loc) (ls : Array Slot) (hk3 : isSH k3), mD (wdX E) h hl s H locs → lv_has ls 7 [(0, .ref (wad (wdX E) 0)), (3, .ref (wad (wdX E) k3)), (4, .int v4), (5, .int v5), (6, .int v6)] → b_X9_write_61 n h k3 v4 v5 v6 Qp → W p l e R s m args below meth c H locs 0 0 (MQ below (mQi (wdX E) (fun r h1 hl1 => hl = hl1 ∧ Qp r h1)) args s 0 0 (wA (wdX E))) (F0 m 61 ls []) := by
  have hx := C.x
  have hb := C.b
  intro n
  induction n with
  | zero => intro h k3 v4 v5 v6 H locs ls hk3 Dy lv hwp; exact hwp.elim
  | succ n ih =>
    intro h k3 v4 v5 v6 H locs ls hk3 Dy lv hwp
    simp only [b_X9_write_61] at hwp
    refine lv_iload hx hb dX9_write_61 (lv_at lv 4 rfl) ?_
    refine lv_iload hx hb dX9_write_63 (lv_at lv 3 rfl) ?_
    refine lv_icmp_ge (tgt := 91) hx hb dX9_write_65 (by decide) (fun c1 => ?_) (fun c1 => ?_)
    · have hwp := hwp.1 c1
      refine lv_iload hx hb dX9_write_91 (lv_at lv 3 rfl) ?_
      exact x_iret C Dy ⟨rfl, hwp⟩ dX9_write_93
    · have hwp := hwp.2 c1
      refine lv_aload_n hx hb dX9_write_68 rfl (lv_at lv 1 rfl) ?_
      refine lv_iload hx hb dX9_write_69 (lv_at lv 4 rfl) ?_
      refine lv_aload_n hx hb dX9_write_71 rfl (lv_at lv 0 rfl) ?_
      refine gf_X9_37_0 C Dy dX9_write_72 ?_
      refine lv_iload hx hb dX9_write_75 (lv_at lv 2 rfl) ?_
      refine lv_iload hx hb dX9_write_77 (lv_at lv 4 rfl) ?_
      refine x_cont_i Dy (x_runV (As := [.int v4, .int v6]) (rest := [.int v6, .ref (wad (wdX E) k3)]) C Dy (m_X0_deedBy E l _ _ v4 v6 _ hwp) (cw_X9_168 C rfl rfl ⟨Nat.le_trans (Nat.le_of_ble_eq_true rfl) hR.1, Nat.le_trans (Nat.le_of_ble_eq_true rfl) hR.2⟩) wx_7 rfl rfl lv.1 rfl (Nat.le_of_ble_eq_true rfl) dX9_write_79 ⟨Nat.zero_le _, Nat.zero_le _⟩) (fun r2 h3 hl3 H locs hwp Dy => ?_)
      obtain ⟨rfl, rfl, hwp⟩ := hwp
      refine x_cont_v Dy (x_runV (As := [.int v6, .int r2]) (rest := []) C Dy (m_X8_put E l _ _ k3 hk3 v6 r2 _ hwp) (cw_X9_278 C rfl rfl ⟨Nat.le_trans (Nat.le_of_ble_eq_true rfl) hR.1, Nat.le_trans (Nat.le_of_ble_eq_true rfl) hR.2⟩) (wx_SH hk3) rfl rfl lv.1 rfl (Nat.le_of_ble_eq_true rfl) dX9_write_82 ⟨Nat.zero_le _, Nat.zero_le _⟩) (fun h5 hl5 H locs hwp Dy => ?_)
      obtain ⟨rfl, hwp⟩ := hwp
      refine lv_iinc (v := (v6 + (1 : Int32))) (lv' := [(6, .int (v6 + (1 : Int32))), (0, .ref (wad (wdX E) 0)), (3, .ref (wad (wdX E) k3)), (4, .int v4), (5, .int v5)]) hx hb dX9_write_85 lv (k := 4) rfl rfl (by decide) rfl (fun ls lv => ?_)
      refine lv_goto (tgt := 61) hx hb dX9_write_88 (by decide) ?_
      exact ih h5 k3 v4 v5 (v6 + (1 : Int32)) _ _ _ hk3 Dy (lv_sub lv [1, 2, 3, 4, 0] rfl) hwp
set_option maxHeartbeats 4000000 in
set_option maxRecDepth 100000 in
theorem m_X9_write (E : xE) (l : Launch) (h : Mem) (hl : MemL) (v1 : Int32) (v2 : Int32) (Qp : Int32 → Mem → Prop) (hwp : p_X9_write h v1 v2 Qp) : Met l yX9_write (wsU yX9_write cX9_write 7 (some .int)) ({ frames := 4, cells := 0, slots := 0, locals := 91 } : Room) (mPc (wdX E) [.ref (wad (wdX E) 0), .int v1, .int v2] h hl) (mQi (wdX E) (fun r h1 hl1 => hl = hl1 ∧ Qp r h1)) 0 0 (wA (wdX E)) := by
  refine x_met RX9 [(0, .ref (wad (wdX E) 0)), (1, .int v1), (2, .int v2)] (by decide) rfl (Nat.le_of_ble_eq_true rfl) rfl ?_
  intro p e s m args below meth c ls C Dy lv
  have hx := C.x
  have hb := C.b
  have hR : 4 ≤ ({ frames := 4, cells := 0, slots := 0, locals := 91 } : Room).frames ∧ 91 ≤ ({ frames := 4, cells := 0, slots := 0, locals := 91 } : Room).locals := ⟨Nat.le_refl _, Nat.le_refl _⟩
  unfold p_X9_write at hwp
  refine lv_iload_n hx hb dX9_write_0 rfl (lv_at lv 1 rfl) ?_
  refine lv_bipush (v := (30 : Int32)) hx hb dX9_write_1 (by decide) ?_
  refine x_cont_z Dy (x_runS (As := [.int v1, .int (30 : Int32)]) (rest := []) C Dy (m_X9_within E l _ _ v1 (30 : Int32) _ hwp) (cw_X9_104 C rfl rfl ⟨Nat.le_trans (Nat.le_of_ble_eq_true rfl) hR.1, Nat.le_trans (Nat.le_of_ble_eq_true rfl) hR.2⟩) rfl lv.1 rfl (Nat.le_of_ble_eq_true rfl) dX9_write_3 ⟨Nat.zero_le _, Nat.zero_le _⟩) (fun r6 h7 hl7 H locs zr6 hwp Dy => ?_)
  obtain ⟨rfl, rfl, hwp⟩ := hwp
  refine lv_if_eq (tgt := 17) hx hb dX9_write_6 (by decide) (fun c8 => ?_) (fun c8 => ?_)
  · have hwp := hwp.1 c8
    refine lv_bipush (v := (-2 : Int32)) hx hb dX9_write_17 (by decide) ?_
    exact x_iret C Dy ⟨rfl, hwp⟩ dX9_write_19
  · have hwp := hwp.2 c8
    refine lv_iload_n hx hb dX9_write_9 rfl (lv_at lv 2 rfl) ?_
    refine lv_iconst (v := (4 : Int32)) hx hb dX9_write_10 (by decide) ?_
    refine x_cont_z Dy (x_runS (As := [.int v2, .int (4 : Int32)]) (rest := []) C Dy (m_X9_within E l _ _ v2 (4 : Int32) _ hwp) (cw_X9_104 C rfl rfl ⟨Nat.le_trans (Nat.le_of_ble_eq_true rfl) hR.1, Nat.le_trans (Nat.le_of_ble_eq_true rfl) hR.2⟩) rfl lv.1 rfl (Nat.le_of_ble_eq_true rfl) dX9_write_11 ⟨Nat.zero_le _, Nat.zero_le _⟩) (fun r9 h10 hl10 H locs zr9 hwp Dy => ?_)
    obtain ⟨rfl, rfl, hwp⟩ := hwp
    refine lv_if_ne (tgt := 20) hx hb dX9_write_14 (by decide) (fun c11 => ?_) (fun c11 => ?_)
    · have hwp := hwp.2 c11
      refine lv_aload_n hx hb dX9_write_20 rfl (lv_at lv 0 rfl) ?_
      refine gf_X9_91_0 C Dy dX9_write_21 ?_
      refine lv_iload_n hx hb dX9_write_24 rfl (lv_at lv 2 rfl) ?_
      obtain ⟨g12, hwp⟩ := hwp
      refine x_aald C Dy g12 dX9_write_25 (fun q13 eq13 => ?_)
      have hwp := hwp q13 eq13
      refine lv_astore_n (lv' := [(3, .ref (wad (wdX E) q13)), (0, .ref (wad (wdX E) 0)), (1, .int v1), (2, .int v2)]) hx hb dX9_write_26 rfl lv (by decide) rfl (fun ls lv => ?_)
      refine lv_aload_n hx hb dX9_write_27 rfl (lv_at lv 0 rfl) ?_
      refine x_cont_z Dy (x_runV (As := []) (rest := []) C Dy (m_X8_isLost E l _ _ q13 (sh_of g12 eq13) _ hwp) (cw_X9_225 C rfl rfl ⟨Nat.le_trans (Nat.le_of_ble_eq_true rfl) hR.1, Nat.le_trans (Nat.le_of_ble_eq_true rfl) hR.2⟩) (wx_SH (sh_of g12 eq13)) rfl rfl lv.1 rfl (Nat.le_of_ble_eq_true rfl) dX9_write_28 ⟨Nat.zero_le _, Nat.zero_le _⟩) (fun r14 h15 hl15 H locs zr14 hwp Dy => ?_)
      obtain ⟨rfl, rfl, hwp⟩ := hwp
      refine lv_if_eq (tgt := 40) hx hb dX9_write_31 (by decide) (fun c16 => ?_) (fun c16 => ?_)
      · have hwp := hwp.1 c16
        refine lv_aload_n hx hb dX9_write_40 rfl (lv_at lv 1 rfl) ?_
        refine lv_iload_n hx hb dX9_write_41 rfl (lv_at lv 2 rfl) ?_
        refine x_cont_i Dy (x_runV (As := [.int v1]) (rest := []) C Dy (m_X9_kingsLaws E l _ _ v1 _ hwp) (cw_X9_164 C rfl rfl ⟨Nat.le_trans (Nat.le_of_ble_eq_true rfl) hR.1, Nat.le_trans (Nat.le_of_ble_eq_true rfl) hR.2⟩) wx_0 rfl rfl lv.1 rfl (Nat.le_of_ble_eq_true rfl) dX9_write_42 ⟨Nat.zero_le _, Nat.zero_le _⟩) (fun r17 h18 hl18 H locs hwp Dy => ?_)
        obtain ⟨rfl, hwp⟩ := hwp
        refine lv_istore (lv' := [(4, .int r17), (3, .ref (wad (wdX E) q13)), (0, .ref (wad (wdX E) 0)), (1, .int v1), (2, .int v2)]) hx hb dX9_write_45 lv (by decide) rfl (fun ls lv => ?_)
        refine lv_aload_n hx hb dX9_write_47 rfl (lv_at lv 1 rfl) ?_
        refine gf_X9_231_SH (sh_of g12 eq13) C Dy dX9_write_48 ?_
        refine lv_bipush (v := (24 : Int32)) hx hb dX9_write_51 (by decide) ?_
        refine va_mmin hx hb (C.ml.trans lv.1.symm) C.ow (C.ts _ k_769) (C.ts _ k_686) (C.ts _ k_15) (C.ts _ k_687) (Nat.le_trans (Nat.le_of_ble_eq_true rfl) hR.1) (Nat.le_trans (Nat.le_of_ble_eq_true rfl) hR.2) (Nat.zero_le _) (Nat.zero_le _) dX9_write_53 ?_
        refine lv_topi (fun x19 ex19 => ?_)
        have hwp := hwp x19 ex19
        refine lv_istore (lv' := [(5, .int x19), (4, .int r17), (3, .ref (wad (wdX E) q13)), (0, .ref (wad (wdX E) 0)), (1, .int v1), (2, .int v2)]) hx hb dX9_write_56 lv (by decide) rfl (fun ls lv => ?_)
        refine lv_iconst (v := (0 : Int32)) hx hb dX9_write_58 (by decide) ?_
        refine lv_istore (lv' := [(6, .int (0 : Int32)), (5, .int x19), (4, .int r17), (3, .ref (wad (wdX E) q13)), (0, .ref (wad (wdX E) 0)), (1, .int v1), (2, .int v2)]) hx hb dX9_write_59 lv (by decide) rfl (fun ls lv => ?_)
        obtain ⟨n0, hwp⟩ := hwp
        exact t_X9_write_61 E C hR Qp n0 h18 q13 r17 x19 (0 : Int32) _ _ _ (sh_of g12 eq13) Dy (lv_sub lv [4, 3, 2, 1, 0] rfl) hwp
      · have hwp := hwp.2 c16
        refine lv_aload_n hx hb dX9_write_34 rfl (lv_at lv 1 rfl) ?_
        refine lv_iconst (v := (1 : Int32)) hx hb dX9_write_35 (by decide) ?_
        refine x_cont_i Dy (x_runV (As := [.int (1 : Int32)]) (rest := []) C Dy (m_X9_find E l _ _ (1 : Int32) _ hwp) (cw_X9_228 C rfl rfl ⟨Nat.le_trans (Nat.le_of_ble_eq_true rfl) hR.1, Nat.le_trans (Nat.le_of_ble_eq_true rfl) hR.2⟩) wx_0 rfl rfl lv.1 rfl (Nat.le_of_ble_eq_true rfl) dX9_write_36 ⟨Nat.zero_le _, Nat.zero_le _⟩) (fun r20 h21 hl21 H locs hwp Dy => ?_)
        obtain ⟨rfl, hwp⟩ := hwp
        exact x_iret C Dy ⟨rfl, hwp⟩ dX9_write_39
    · have hwp := hwp.1 c11
      refine lv_bipush (v := (-2 : Int32)) hx hb dX9_write_17 (by decide) ?_
      exact x_iret C Dy ⟨rfl, hwp⟩ dX9_write_19
