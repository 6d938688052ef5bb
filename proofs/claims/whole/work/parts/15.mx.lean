def p_X9_count (h : Mem) (v1 : Int32) (Qp : Int32 → Mem → Prop) : Prop := (p_X9_refresh h (fun h2 => ((v1 = (0 : Int32) → Qp (h2 7 0) h2) ∧ (¬ (v1 = (0 : Int32)) → ((v1 = (1 : Int32) → Qp (h2 4 7) h2) ∧ (¬ (v1 = (1 : Int32)) → ((v1 = (2 : Int32) → Qp (h2 1 6) h2) ∧ (¬ (v1 = (2 : Int32)) → ((v1 = (3 : Int32) → Qp (h2 4 6) h2) ∧ (¬ (v1 = (3 : Int32)) → ((v1 = (4 : Int32) → Qp (h2 21 2) h2) ∧ (¬ (v1 = (4 : Int32)) → ((v1 = (5 : Int32) → Qp (h2 24 2) h2) ∧ (¬ (v1 = (5 : Int32)) → ((v1 = (6 : Int32) → Qp (h2 35 2) h2) ∧ (¬ (v1 = (6 : Int32)) → ((v1 = (7 : Int32) → (p_X6_bindingOthers h2 27 (29 : Int32) (fun r11 => (p_J6_bitCount r11 (fun r13 => Qp r13 h2))))) ∧ (¬ (v1 = (7 : Int32)) → ((v1 = (8 : Int32) → Qp (h2 0 13) h2) ∧ (¬ (v1 = (8 : Int32)) → Qp (-2 : Int32) h2))))))))))))))))))))
set_option maxHeartbeats 4000000 in
set_option maxRecDepth 100000 in
theorem m_X9_count (E : xE) (l : Launch) (h : Mem) (hl : MemL) (v1 : Int32) (Qp : Int32 → Mem → Prop) (hwp : p_X9_count h v1 Qp) : Met l yX9_count (wsU yX9_count cX9_count 2 (some .int)) ({ frames := 3, cells := 0, slots := 0, locals := 70 } : Room) (mPc (wdX E) [.ref (wad (wdX E) 0), .int v1] h hl) (mQi (wdX E) (fun r h1 hl1 => hl = hl1 ∧ Qp r h1)) 0 0 (wA (wdX E)) := by
  refine x_met RX9 [(0, .ref (wad (wdX E) 0)), (1, .int v1)] (by decide) rfl (Nat.le_of_ble_eq_true rfl) rfl ?_
  intro p e s m args below meth c ls C Dy lv
  have hx := C.x
  have hb := C.b
  have hR : 3 ≤ ({ frames := 3, cells := 0, slots := 0, locals := 70 } : Room).frames ∧ 70 ≤ ({ frames := 3, cells := 0, slots := 0, locals := 70 } : Room).locals := ⟨Nat.le_refl _, Nat.le_refl _⟩
  unfold p_X9_count at hwp
  refine lv_aload_n hx hb dX9_count_0 rfl (lv_at lv 0 rfl) ?_
  refine x_cont_v Dy (x_runV (As := []) (rest := []) C Dy (m_X9_refresh E l _ _ _ hwp) (cw_X9_126 C rfl rfl ⟨Nat.le_trans (Nat.le_of_ble_eq_true rfl) hR.1, Nat.le_trans (Nat.le_of_ble_eq_true rfl) hR.2⟩) wx_0 rfl rfl lv.1 rfl (Nat.le_of_ble_eq_true rfl) dX9_count_1 ⟨Nat.zero_le _, Nat.zero_le _⟩) (fun h2 hl2 H locs hwp Dy => ?_)
  obtain ⟨rfl, hwp⟩ := hwp
  refine lv_iload_n hx hb dX9_count_4 rfl (lv_at lv 1 rfl) ?_
  by_cases c3 : v1 = (0 : Int32)
  · have hwp := hwp.1 c3
    refine lv_tableIn (off := 51) (tgt := 56) hx hb dX9_count_5 (by rw [c3]; decide) (by rw [c3]; decide) (by rw [c3]; rfl) (by decide) ?_
    refine lv_aload_n hx hb dX9_count_56 rfl (lv_at lv 0 rfl) ?_
    refine gf_X9_37_0 C Dy dX9_count_57 ?_
    refine gf_X9_132_7 C Dy dX9_count_60 ?_
    exact x_iret C Dy ⟨rfl, hwp⟩ dX9_count_63
  · have hwp := hwp.2 c3
    by_cases c4 : v1 = (1 : Int32)
    · have hwp := hwp.1 c4
      refine lv_tableIn (off := 59) (tgt := 64) hx hb dX9_count_5 (by rw [c4]; decide) (by rw [c4]; decide) (by rw [c4]; rfl) (by decide) ?_
      refine lv_aload_n hx hb dX9_count_64 rfl (lv_at lv 0 rfl) ?_
      refine gf_X9_31_0 C Dy dX9_count_65 ?_
      refine gf_X9_139_4 C Dy dX9_count_68 ?_
      exact x_iret C Dy ⟨rfl, hwp⟩ dX9_count_71
    · have hwp := hwp.2 c4
      by_cases c5 : v1 = (2 : Int32)
      · have hwp := hwp.1 c5
        refine lv_tableIn (off := 67) (tgt := 72) hx hb dX9_count_5 (by rw [c5]; decide) (by rw [c5]; decide) (by rw [c5]; rfl) (by decide) ?_
        refine lv_aload_n hx hb dX9_count_72 rfl (lv_at lv 0 rfl) ?_
        refine gf_X9_21_0 C Dy dX9_count_73 ?_
        refine gf_X9_120_1 C Dy dX9_count_76 ?_
        exact x_iret C Dy ⟨rfl, hwp⟩ dX9_count_79
      · have hwp := hwp.2 c5
        by_cases c6 : v1 = (3 : Int32)
        · have hwp := hwp.1 c6
          refine lv_tableIn (off := 75) (tgt := 80) hx hb dX9_count_5 (by rw [c6]; decide) (by rw [c6]; decide) (by rw [c6]; rfl) (by decide) ?_
          refine lv_aload_n hx hb dX9_count_80 rfl (lv_at lv 0 rfl) ?_
          refine gf_X9_31_0 C Dy dX9_count_81 ?_
          refine gf_X9_120_4 C Dy dX9_count_84 ?_
          exact x_iret C Dy ⟨rfl, hwp⟩ dX9_count_87
        · have hwp := hwp.2 c6
          by_cases c7 : v1 = (4 : Int32)
          · have hwp := hwp.1 c7
            refine lv_tableIn (off := 83) (tgt := 88) hx hb dX9_count_5 (by rw [c7]; decide) (by rw [c7]; decide) (by rw [c7]; rfl) (by decide) ?_
            refine lv_aload_n hx hb dX9_count_88 rfl (lv_at lv 0 rfl) ?_
            refine gf_X9_44_0 C Dy dX9_count_89 ?_
            refine gf_X9_149_21 C Dy dX9_count_92 ?_
            exact x_iret C Dy ⟨rfl, hwp⟩ dX9_count_95
          · have hwp := hwp.2 c7
            by_cases c8 : v1 = (5 : Int32)
            · have hwp := hwp.1 c8
              refine lv_tableIn (off := 91) (tgt := 96) hx hb dX9_count_5 (by rw [c8]; decide) (by rw [c8]; decide) (by rw [c8]; rfl) (by decide) ?_
              refine lv_aload_n hx hb dX9_count_96 rfl (lv_at lv 0 rfl) ?_
              refine gf_X9_48_0 C Dy dX9_count_97 ?_
              refine gf_X9_149_24 C Dy dX9_count_100 ?_
              exact x_iret C Dy ⟨rfl, hwp⟩ dX9_count_103
            · have hwp := hwp.2 c8
              by_cases c9 : v1 = (6 : Int32)
              · have hwp := hwp.1 c9
                refine lv_tableIn (off := 99) (tgt := 104) hx hb dX9_count_5 (by rw [c9]; decide) (by rw [c9]; decide) (by rw [c9]; rfl) (by decide) ?_
                refine lv_aload_n hx hb dX9_count_104 rfl (lv_at lv 0 rfl) ?_
                refine gf_X9_78_0 C Dy dX9_count_105 ?_
                refine gf_X9_221_35 C Dy dX9_count_108 ?_
                exact x_iret C Dy ⟨rfl, hwp⟩ dX9_count_111
              · have hwp := hwp.2 c9
                by_cases c10 : v1 = (7 : Int32)
                · have hwp := hwp.1 c10
                  refine lv_tableIn (off := 107) (tgt := 112) hx hb dX9_count_5 (by rw [c10]; decide) (by rw [c10]; decide) (by rw [c10]; rfl) (by decide) ?_
                  refine lv_aload_n hx hb dX9_count_112 rfl (lv_at lv 0 rfl) ?_
                  refine gf_X9_54_0 C Dy dX9_count_113 ?_
                  refine lv_aload_n hx hb dX9_count_116 rfl (lv_at lv 0 rfl) ?_
                  refine gf_X9_37_0 C Dy dX9_count_117 ?_
                  refine lv_bipush (v := (29 : Int32)) hx hb dX9_count_120 (by decide) ?_
                  refine x_cont_i Dy (x_runV (As := [.ref (wad (wdX E) 7), .int (29 : Int32)]) (rest := []) C Dy (m_X6_bindingOthers E l _ _ 27 (Or.inl rfl) (29 : Int32) _ hwp) (cw_X9_158 C rfl rfl ⟨Nat.le_trans (Nat.le_of_ble_eq_true rfl) hR.1, Nat.le_trans (Nat.le_of_ble_eq_true rfl) hR.2⟩) wx_27 rfl rfl lv.1 rfl (Nat.le_of_ble_eq_true rfl) dX9_count_122 ⟨Nat.zero_le _, Nat.zero_le _⟩) (fun r11 h12 hl12 H locs hwp Dy => ?_)
                  obtain ⟨rfl, rfl, hwp⟩ := hwp
                  refine x_cont_i Dy (x_runS (As := [.int r11]) (rest := []) C Dy (m_J6_bitCount (wdX E) l _ _ r11 _ hwp) (cw_X9_191 C rfl rfl ⟨Nat.le_trans (Nat.le_of_ble_eq_true rfl) hR.1, Nat.le_trans (Nat.le_of_ble_eq_true rfl) hR.2⟩) rfl lv.1 rfl (Nat.le_of_ble_eq_true rfl) dX9_count_125 ⟨Nat.zero_le _, Nat.zero_le _⟩) (fun r13 h14 hl14 H locs hwp Dy => ?_)
                  obtain ⟨rfl, rfl, hwp⟩ := hwp
                  exact x_iret C Dy ⟨rfl, hwp⟩ dX9_count_128
                · have hwp := hwp.2 c10
                  by_cases c15 : v1 = (8 : Int32)
                  · have hwp := hwp.1 c15
                    refine lv_tableIn (off := 124) (tgt := 129) hx hb dX9_count_5 (by rw [c15]; decide) (by rw [c15]; decide) (by rw [c15]; rfl) (by decide) ?_
                    refine lv_aload_n hx hb dX9_count_129 rfl (lv_at lv 0 rfl) ?_
                    refine gf_X9_99_0 C Dy dX9_count_130 ?_
                    exact x_iret C Dy ⟨rfl, hwp⟩ dX9_count_133
                  · have hwp := hwp.2 c15
                    have nc3 := lv_neT c3 (a := 0) (by decide)
                    have nc4 := lv_neT c4 (a := 1) (by decide)
                    have nc5 := lv_neT c5 (a := 2) (by decide)
                    have nc6 := lv_neT c6 (a := 3) (by decide)
                    have nc7 := lv_neT c7 (a := 4) (by decide)
                    have nc8 := lv_neT c8 (a := 5) (by decide)
                    have nc9 := lv_neT c9 (a := 6) (by decide)
                    have nc10 := lv_neT c10 (a := 7) (by decide)
                    have nc15 := lv_neT c15 (a := 8) (by decide)
                    refine lv_tableOut (tgt := 134) hx hb dX9_count_5 (by omega) (by decide) ?_
                    refine lv_bipush (v := (-2 : Int32)) hx hb dX9_count_134 (by decide) ?_
                    exact x_iret C Dy ⟨rfl, hwp⟩ dX9_count_136
def b_X9_withTexts_44 : Nat → Mem → Int64 → Int32 → Int32 → (Mem → Int64 → Int32 → Prop) → (Int64 → Mem → Prop) → Prop
  | 0 => fun _ _ _ _ _ _ => False
  | n + 1 => fun h v3 v5 v6 K29 Qp => (((5 : Int32) ≤ v6 → K29 h v3 (v5 + (1 : Int32))) ∧ (¬ ((5 : Int32) ≤ v6) → (p_X9_law h v5 v6 (fun r3 h4 => (∀ x5 : Int64, x5 = (((31 : Int64) * v3) + (r3.toInt64)) → b_X9_withTexts_44 n h4 x5 v5 (v6 + (1 : Int32)) K29 Qp)))))
def b_X9_withTexts_96 : Nat → Mem → Int64 → Int32 → Int32 → (Mem → Int64 → Int32 → Prop) → (Int64 → Mem → Prop) → Prop
  | 0 => fun _ _ _ _ _ _ => False
  | n + 1 => fun h v3 v5 v6 K81 Qp => (((3 : Int32) ≤ v6 → K81 h v3 (v5 + (1 : Int32))) ∧ (¬ ((3 : Int32) ≤ v6) → (p_X9_want h v5 v6 (fun r8 h9 => (∀ x10 : Int64, x10 = (((31 : Int64) * v3) + (r8.toInt64)) → b_X9_withTexts_96 n h9 x10 v5 (v6 + (1 : Int32)) K81 Qp)))))
def b_X9_withTexts_81 : Nat → Mem → Int64 → Int32 → (Int64 → Mem → Prop) → Prop
  | 0 => fun _ _ _ _ => False
  | n + 1 => fun h v3 v5 Qp => (((h 4 7) ≤ v5 → Qp v3 h) ∧ (¬ ((h 4 7) ≤ v5) → (∃ n96, b_X9_withTexts_96 n96 h v3 v5 (0 : Int32) (fun h v3 v5 => b_X9_withTexts_81 n h v3 v5 Qp) Qp)))
def b_X9_withTexts_29 : Nat → Mem → Int64 → Int32 → (Int64 → Mem → Prop) → Prop
  | 0 => fun _ _ _ _ => False
  | n + 1 => fun h v3 v5 Qp => (((h 7 0) ≤ v5 → (∃ n81, b_X9_withTexts_81 n81 h v3 (0 : Int32) Qp)) ∧ (¬ ((h 7 0) ≤ v5) → (∃ n44, b_X9_withTexts_44 n44 h v3 v5 (0 : Int32) (fun h v3 v5 => b_X9_withTexts_29 n h v3 v5 Qp) Qp)))
def p_X9_withTexts (h : Mem) (v1 : Int64) (Qp : Int64 → Mem → Prop) : Prop := (p_X9_fault h (0 : Int32) (fun r11 h12 => (∀ x13 : Int64, x13 = (((31 : Int64) * v1) + (r11.toInt64)) → (p_X9_fault h12 (1 : Int32) (fun r14 h15 => (∀ x16 : Int64, x16 = (((31 : Int64) * x13) + (r14.toInt64)) → (∃ n29, b_X9_withTexts_29 n29 h15 x16 (0 : Int32) Qp)))))))
set_option maxHeartbeats 4000000 in
set_option maxRecDepth 100000 in
theorem t_X9_withTexts_44 (E : xE) {p : Program} {l : Launch} {e : Env} {R : Room} {s : State} {m : MethodId} {args : Array Value} {below : List Frame} {meth : Method} {c : Code} (C : mC (wdX E) p s m meth c args cX9_withTexts 7 RX9 (some .long)) (hR : 4 ≤ R.frames ∧ 93 ≤ R.locals) {hl : MemL} (Qp : Int64 → Mem → Prop) (K29 : Mem → Int64 → Int32 → Prop) (hK29 : ∀ (h : Mem) (v3 : Int64) (v5 : Int32) (H : Heap) (locs : List Loc) (ls : Array Slot), mD (wdX E) h hl s H locs → lv_has ls 7 [(0, .ref (wad (wdX E) 0)), (3, .long v3), (5, .int v5)] → K29 h v3 v5 → W p l e R s m args below meth c H locs 0 0 (MQ below (mQl (wdX E) (fun r h1 hl1 => hl = hl1 ∧ Qp r h1)) args s 0 0 (wA (wdX E))) (F0 m 29 ls [])) : ∀ (n : Nat) (h : Mem) (v3 : Int64) (v5 : Int32) (v6 : Int32) (H : Heap) (locs : List Loc) (ls : Array Slot), mD (wdX E) h hl s H locs → lv_has ls 7 [(0, .ref (wad (wdX E) 0)), (3, .long v3), (5, .int v5), (6, .int v6)] → b_X9_withTexts_44 n h v3 v5 v6 K29 Qp → W p l e R s m args below meth c H locs 0 0 (MQ below (mQl (wdX E) (fun r h1 hl1 => hl = hl1 ∧ Qp r h1)) args s 0 0 (wA (wdX E))) (F0 m 44 ls []) := by
  have hx := C.x
  have hb := C.b
  intro n
  induction n with
  | zero => intro h v3 v5 v6 H locs ls Dy lv hwp; exact hwp.elim
  | succ n ih =>
    intro h v3 v5 v6 H locs ls Dy lv hwp
    simp only [b_X9_withTexts_44] at hwp
    refine lv_iload hx hb dX9_withTexts_44 (lv_at lv 3 rfl) ?_
    refine lv_iconst (v := (5 : Int32)) hx hb dX9_withTexts_46 (by decide) ?_
    refine lv_icmp_ge (tgt := 72) hx hb dX9_withTexts_47 (by decide) (fun c2 => ?_) (fun c2 => ?_)
    · have hwp := hwp.1 c2
      refine lv_iinc (v := (v5 + (1 : Int32))) (lv' := [(5, .int (v5 + (1 : Int32))), (0, .ref (wad (wdX E) 0)), (3, .long v3), (6, .int v6)]) hx hb dX9_withTexts_72 lv (k := 2) rfl rfl (by decide) rfl (fun ls lv => ?_)
      refine lv_goto (tgt := 29) hx hb dX9_withTexts_75 (by decide) ?_
      exact hK29 h v3 (v5 + (1 : Int32)) _ _ _ Dy (lv_sub lv [1, 2, 0] rfl) hwp
    · have hwp := hwp.2 c2
      refine lv_ldc2 hx hb C.ow (C.ts _ k_779) dX9_withTexts_50 ?_
      refine lv_lload_n hx hb dX9_withTexts_53 rfl (lv_at lv 1 rfl) ?_
      refine lv_lmul hx hb dX9_withTexts_54 ?_
      refine lv_aload_n hx hb dX9_withTexts_55 rfl (lv_at lv 0 rfl) ?_
      refine lv_iload hx hb dX9_withTexts_56 (lv_at lv 2 rfl) ?_
      refine lv_iload hx hb dX9_withTexts_58 (lv_at lv 3 rfl) ?_
      refine x_cont_i Dy (x_runV (As := [.int v5, .int v6]) (rest := [.long ((31 : Int64) * v3)]) C Dy (m_X9_law E l _ _ v5 v6 _ hwp) (cw_X9_332 C rfl rfl ⟨Nat.le_trans (Nat.le_of_ble_eq_true rfl) hR.1, Nat.le_trans (Nat.le_of_ble_eq_true rfl) hR.2⟩) wx_0 rfl rfl lv.1 rfl (Nat.le_of_ble_eq_true rfl) dX9_withTexts_60 ⟨Nat.zero_le _, Nat.zero_le _⟩) (fun r3 h4 hl4 H locs hwp Dy => ?_)
      obtain ⟨rfl, hwp⟩ := hwp
      refine lv_i2l hx hb dX9_withTexts_63 rfl ?_
      refine lv_ladd hx hb dX9_withTexts_64 ?_
      refine lv_topl (fun x5 ex5 => ?_)
      have hwp := hwp x5 ex5
      refine lv_lstore_n (lv' := [(3, .long x5), (0, .ref (wad (wdX E) 0)), (5, .int v5), (6, .int v6)]) hx hb dX9_withTexts_65 rfl lv (by decide) rfl (fun ls lv => ?_)
      refine lv_iinc (v := (v6 + (1 : Int32))) (lv' := [(6, .int (v6 + (1 : Int32))), (3, .long x5), (0, .ref (wad (wdX E) 0)), (5, .int v5)]) hx hb dX9_withTexts_66 lv (k := 3) rfl rfl (by decide) rfl (fun ls lv => ?_)
      refine lv_goto (tgt := 44) hx hb dX9_withTexts_69 (by decide) ?_
      exact ih h4 x5 v5 (v6 + (1 : Int32)) _ _ _ Dy (lv_sub lv [2, 1, 3, 0] rfl) hwp
set_option maxHeartbeats 4000000 in
set_option maxRecDepth 100000 in
theorem t_X9_withTexts_96 (E : xE) {p : Program} {l : Launch} {e : Env} {R : Room} {s : State} {m : MethodId} {args : Array Value} {below : List Frame} {meth : Method} {c : Code} (C : mC (wdX E) p s m meth c args cX9_withTexts 7 RX9 (some .long)) (hR : 4 ≤ R.frames ∧ 93 ≤ R.locals) {hl : MemL} (Qp : Int64 → Mem → Prop) (K81 : Mem → Int64 → Int32 → Prop) (hK81 : ∀ (h : Mem) (v3 : Int64) (v5 : Int32) (H : Heap) (locs : List Loc) (ls : Array Slot), mD (wdX E) h hl s H locs → lv_has ls 7 [(0, .ref (wad (wdX E) 0)), (3, .long v3), (5, .int v5)] → K81 h v3 v5 → W p l e R s m args below meth c H locs 0 0 (MQ below (mQl (wdX E) (fun r h1 hl1 => hl = hl1 ∧ Qp r h1)) args s 0 0 (wA (wdX E))) (F0 m 81 ls [])) : ∀ (n : Nat) (h : Mem) (v3 : Int64) (v5 : Int32) (v6 : Int32) (H : Heap) (locs : List Loc) (ls : Array Slot), mD (wdX E) h hl s H locs → lv_has ls 7 [(0, .ref (wad (wdX E) 0)), (3, .long v3), (5, .int v5), (6, .int v6)] → b_X9_withTexts_96 n h v3 v5 v6 K81 Qp → W p l e R s m args below meth c H locs 0 0 (MQ below (mQl (wdX E) (fun r h1 hl1 => hl = hl1 ∧ Qp r h1)) args s 0 0 (wA (wdX E))) (F0 m 96 ls []) := by
  have hx := C.x
  have hb := C.b
  intro n
  induction n with
  | zero => intro h v3 v5 v6 H locs ls Dy lv hwp; exact hwp.elim
  | succ n ih =>
    intro h v3 v5 v6 H locs ls Dy lv hwp
    simp only [b_X9_withTexts_96] at hwp
    refine lv_iload hx hb dX9_withTexts_96 (lv_at lv 3 rfl) ?_
    refine lv_iconst (v := (3 : Int32)) hx hb dX9_withTexts_98 (by decide) ?_
    refine lv_icmp_ge (tgt := 124) hx hb dX9_withTexts_99 (by decide) (fun c7 => ?_) (fun c7 => ?_)
    · have hwp := hwp.1 c7
      refine lv_iinc (v := (v5 + (1 : Int32))) (lv' := [(5, .int (v5 + (1 : Int32))), (0, .ref (wad (wdX E) 0)), (3, .long v3), (6, .int v6)]) hx hb dX9_withTexts_124 lv (k := 2) rfl rfl (by decide) rfl (fun ls lv => ?_)
      refine lv_goto (tgt := 81) hx hb dX9_withTexts_127 (by decide) ?_
      exact hK81 h v3 (v5 + (1 : Int32)) _ _ _ Dy (lv_sub lv [1, 2, 0] rfl) hwp
    · have hwp := hwp.2 c7
      refine lv_ldc2 hx hb C.ow (C.ts _ k_779) dX9_withTexts_102 ?_
      refine lv_lload_n hx hb dX9_withTexts_105 rfl (lv_at lv 1 rfl) ?_
      refine lv_lmul hx hb dX9_withTexts_106 ?_
      refine lv_aload_n hx hb dX9_withTexts_107 rfl (lv_at lv 0 rfl) ?_
      refine lv_iload hx hb dX9_withTexts_108 (lv_at lv 2 rfl) ?_
      refine lv_iload hx hb dX9_withTexts_110 (lv_at lv 3 rfl) ?_
      refine x_cont_i Dy (x_runV (As := [.int v5, .int v6]) (rest := [.long ((31 : Int64) * v3)]) C Dy (m_X9_want E l _ _ v5 v6 _ hwp) (cw_X9_335 C rfl rfl ⟨Nat.le_trans (Nat.le_of_ble_eq_true rfl) hR.1, Nat.le_trans (Nat.le_of_ble_eq_true rfl) hR.2⟩) wx_0 rfl rfl lv.1 rfl (Nat.le_of_ble_eq_true rfl) dX9_withTexts_112 ⟨Nat.zero_le _, Nat.zero_le _⟩) (fun r8 h9 hl9 H locs hwp Dy => ?_)
      obtain ⟨rfl, hwp⟩ := hwp
      refine lv_i2l hx hb dX9_withTexts_115 rfl ?_
      refine lv_ladd hx hb dX9_withTexts_116 ?_
      refine lv_topl (fun x10 ex10 => ?_)
      have hwp := hwp x10 ex10
      refine lv_lstore_n (lv' := [(3, .long x10), (0, .ref (wad (wdX E) 0)), (5, .int v5), (6, .int v6)]) hx hb dX9_withTexts_117 rfl lv (by decide) rfl (fun ls lv => ?_)
      refine lv_iinc (v := (v6 + (1 : Int32))) (lv' := [(6, .int (v6 + (1 : Int32))), (3, .long x10), (0, .ref (wad (wdX E) 0)), (5, .int v5)]) hx hb dX9_withTexts_118 lv (k := 3) rfl rfl (by decide) rfl (fun ls lv => ?_)
      refine lv_goto (tgt := 96) hx hb dX9_withTexts_121 (by decide) ?_
      exact ih h9 x10 v5 (v6 + (1 : Int32)) _ _ _ Dy (lv_sub lv [2, 1, 3, 0] rfl) hwp
set_option maxHeartbeats 4000000 in
set_option maxRecDepth 100000 in
theorem t_X9_withTexts_81 (E : xE) {p : Program} {l : Launch} {e : Env} {R : Room} {s : State} {m : MethodId} {args : Array Value} {below : List Frame} {meth : Method} {c : Code} (C : mC (wdX E) p s m meth c args cX9_withTexts 7 RX9 (some .long)) (hR : 4 ≤ R.frames ∧ 93 ≤ R.locals) {hl : MemL} (Qp : Int64 → Mem → Prop) : ∀ (n : Nat) (h : Mem) (v3 : Int64) (v5 : Int32) (H : Heap) (locs : List Loc) (ls : Array Slot), mD (wdX E) h hl s H locs → lv_has ls 7 [(0, .ref (wad (wdX E) 0)), (3, .long v3), (5, .int v5)] → b_X9_withTexts_81 n h v3 v5 Qp → W p l e R s m args below meth c H locs 0 0 (MQ below (mQl (wdX E) (fun r h1 hl1 => hl = hl1 ∧ Qp r h1)) args s 0 0 (wA (wdX E))) (F0 m 81 ls []) := by
  have hx := C.x
  have hb := C.b
  intro n
  induction n with
  | zero => intro h v3 v5 H locs ls Dy lv hwp; exact hwp.elim
  | succ n ih =>
    intro h v3 v5 H locs ls Dy lv hwp
    simp only [b_X9_withTexts_81] at hwp
    refine lv_iload hx hb dX9_withTexts_81 (lv_at lv 2 rfl) ?_
    refine lv_aload_n hx hb dX9_withTexts_83 rfl (lv_at lv 0 rfl) ?_
    refine gf_X9_31_0 C Dy dX9_withTexts_84 ?_
    refine gf_X9_139_4 C Dy dX9_withTexts_87 ?_
    refine lv_icmp_ge (tgt := 130) hx hb dX9_withTexts_90 (by decide) (fun c6 => ?_) (fun c6 => ?_)
    · have hwp := hwp.1 c6
      refine lv_lload_n hx hb dX9_withTexts_130 rfl (lv_at lv 1 rfl) ?_
      exact x_lret C Dy ⟨rfl, hwp⟩ dX9_withTexts_131
    · have hwp := hwp.2 c6
      refine lv_iconst (v := (0 : Int32)) hx hb dX9_withTexts_93 (by decide) ?_
      refine lv_istore (lv' := [(6, .int (0 : Int32)), (0, .ref (wad (wdX E) 0)), (3, .long v3), (5, .int v5)]) hx hb dX9_withTexts_94 lv (by decide) rfl (fun ls lv => ?_)
      obtain ⟨n0, hwp⟩ := hwp
      exact t_X9_withTexts_96 E C hR Qp (fun h v3 v5 => b_X9_withTexts_81 n h v3 v5 Qp) (fun h v3 v5 H locs ls Dy lv hwp => ih h v3 v5 H locs ls Dy lv hwp) n0 h v3 v5 (0 : Int32) _ _ _ Dy (lv_sub lv [1, 2, 3, 0] rfl) hwp
set_option maxHeartbeats 4000000 in
set_option maxRecDepth 100000 in
theorem t_X9_withTexts_29 (E : xE) {p : Program} {l : Launch} {e : Env} {R : Room} {s : State} {m : MethodId} {args : Array Value} {below : List Frame} {meth : Method} {c : Code} (C : mC (wdX E) p s m meth c args cX9_withTexts 7 RX9 (some .long)) (hR : 4 ≤ R.frames ∧ 93 ≤ R.locals) {hl : MemL} (Qp : Int64 → Mem → Prop) : ∀ (n : Nat) (h : Mem) (v3 : Int64) (v5 : Int32) (H : Heap) (locs : List Loc) (ls : Array Slot), mD (wdX E) h hl s H locs → lv_has ls 7 [(0, .ref (wad (wdX E) 0)), (3, .long v3), (5, .int v5)] → b_X9_withTexts_29 n h v3 v5 Qp → W p l e R s m args below meth c H locs 0 0 (MQ below (mQl (wdX E) (fun r h1 hl1 => hl = hl1 ∧ Qp r h1)) args s 0 0 (wA (wdX E))) (F0 m 29 ls []) := by
  have hx := C.x
  have hb := C.b
  intro n
  induction n with
  | zero => intro h v3 v5 H locs ls Dy lv hwp; exact hwp.elim
  | succ n ih =>
    intro h v3 v5 H locs ls Dy lv hwp
    simp only [b_X9_withTexts_29] at hwp
    refine lv_iload hx hb dX9_withTexts_29 (lv_at lv 2 rfl) ?_
    refine lv_aload_n hx hb dX9_withTexts_31 rfl (lv_at lv 0 rfl) ?_
    refine gf_X9_37_0 C Dy dX9_withTexts_32 ?_
    refine gf_X9_132_7 C Dy dX9_withTexts_35 ?_
    refine lv_icmp_ge (tgt := 78) hx hb dX9_withTexts_38 (by decide) (fun c1 => ?_) (fun c1 => ?_)
    · have hwp := hwp.1 c1
      refine lv_iconst (v := (0 : Int32)) hx hb dX9_withTexts_78 (by decide) ?_
      refine lv_istore (lv' := [(5, .int (0 : Int32)), (0, .ref (wad (wdX E) 0)), (3, .long v3)]) hx hb dX9_withTexts_79 lv (by decide) rfl (fun ls lv => ?_)
      obtain ⟨n0, hwp⟩ := hwp
      exact t_X9_withTexts_81 E C hR Qp n0 h v3 (0 : Int32) _ _ _ Dy (lv_sub lv [1, 2, 0] rfl) hwp
    · have hwp := hwp.2 c1
      refine lv_iconst (v := (0 : Int32)) hx hb dX9_withTexts_41 (by decide) ?_
      refine lv_istore (lv' := [(6, .int (0 : Int32)), (0, .ref (wad (wdX E) 0)), (3, .long v3), (5, .int v5)]) hx hb dX9_withTexts_42 lv (by decide) rfl (fun ls lv => ?_)
      obtain ⟨n0, hwp⟩ := hwp
      exact t_X9_withTexts_44 E C hR Qp (fun h v3 v5 => b_X9_withTexts_29 n h v3 v5 Qp) (fun h v3 v5 H locs ls Dy lv hwp => ih h v3 v5 H locs ls Dy lv hwp) n0 h v3 v5 (0 : Int32) _ _ _ Dy (lv_sub lv [1, 2, 3, 0] rfl) hwp
set_option maxHeartbeats 4000000 in
set_option maxRecDepth 100000 in
theorem m_X9_withTexts (E : xE) (l : Launch) (h : Mem) (hl : MemL) (v1 : Int64) (Qp : Int64 → Mem → Prop) (hwp : p_X9_withTexts h v1 Qp) : Met l yX9_withTexts (wsU yX9_withTexts cX9_withTexts 7 (some .long)) ({ frames := 4, cells := 0, slots := 0, locals := 93 } : Room) (mPc (wdX E) [.ref (wad (wdX E) 0), .long v1] h hl) (mQl (wdX E) (fun r h1 hl1 => hl = hl1 ∧ Qp r h1)) 0 0 (wA (wdX E)) := by
  refine x_met RX9 [(0, .ref (wad (wdX E) 0)), (1, .long v1)] (by decide) rfl (Nat.le_of_ble_eq_true rfl) rfl ?_
  intro p e s m args below meth c ls C Dy lv
  have hx := C.x
  have hb := C.b
  have hR : 4 ≤ ({ frames := 4, cells := 0, slots := 0, locals := 93 } : Room).frames ∧ 93 ≤ ({ frames := 4, cells := 0, slots := 0, locals := 93 } : Room).locals := ⟨Nat.le_refl _, Nat.le_refl _⟩
  unfold p_X9_withTexts at hwp
  refine lv_ldc2 hx hb C.ow (C.ts _ k_779) dX9_withTexts_0 ?_
  refine lv_lload_n hx hb dX9_withTexts_3 rfl (lv_at lv 1 rfl) ?_
  refine lv_lmul hx hb dX9_withTexts_4 ?_
  refine lv_aload_n hx hb dX9_withTexts_5 rfl (lv_at lv 0 rfl) ?_
  refine lv_iconst (v := (0 : Int32)) hx hb dX9_withTexts_6 (by decide) ?_
  refine x_cont_i Dy (x_runV (As := [.int (0 : Int32)]) (rest := [.long ((31 : Int64) * v1)]) C Dy (m_X9_fault E l _ _ (0 : Int32) _ hwp) (cw_X9_329 C rfl rfl ⟨Nat.le_trans (Nat.le_of_ble_eq_true rfl) hR.1, Nat.le_trans (Nat.le_of_ble_eq_true rfl) hR.2⟩) wx_0 rfl rfl lv.1 rfl (Nat.le_of_ble_eq_true rfl) dX9_withTexts_7 ⟨Nat.zero_le _, Nat.zero_le _⟩) (fun r11 h12 hl12 H locs hwp Dy => ?_)
  obtain ⟨rfl, hwp⟩ := hwp
  refine lv_i2l hx hb dX9_withTexts_10 rfl ?_
  refine lv_ladd hx hb dX9_withTexts_11 ?_
  refine lv_topl (fun x13 ex13 => ?_)
  have hwp := hwp x13 ex13
  refine lv_lstore_n (lv' := [(3, .long x13), (0, .ref (wad (wdX E) 0)), (1, .long v1)]) hx hb dX9_withTexts_12 rfl lv (by decide) rfl (fun ls lv => ?_)
  refine lv_ldc2 hx hb C.ow (C.ts _ k_779) dX9_withTexts_13 ?_
  refine lv_lload_n hx hb dX9_withTexts_16 rfl (lv_at lv 0 rfl) ?_
  refine lv_lmul hx hb dX9_withTexts_17 ?_
  refine lv_aload_n hx hb dX9_withTexts_18 rfl (lv_at lv 1 rfl) ?_
  refine lv_iconst (v := (1 : Int32)) hx hb dX9_withTexts_19 (by decide) ?_
  refine x_cont_i Dy (x_runV (As := [.int (1 : Int32)]) (rest := [.long ((31 : Int64) * x13)]) C Dy (m_X9_fault E l _ _ (1 : Int32) _ hwp) (cw_X9_329 C rfl rfl ⟨Nat.le_trans (Nat.le_of_ble_eq_true rfl) hR.1, Nat.le_trans (Nat.le_of_ble_eq_true rfl) hR.2⟩) wx_0 rfl rfl lv.1 rfl (Nat.le_of_ble_eq_true rfl) dX9_withTexts_20 ⟨Nat.zero_le _, Nat.zero_le _⟩) (fun r14 h15 hl15 H locs hwp Dy => ?_)
  obtain ⟨rfl, hwp⟩ := hwp
  refine lv_i2l hx hb dX9_withTexts_23 rfl ?_
  refine lv_ladd hx hb dX9_withTexts_24 ?_
  refine lv_topl (fun x16 ex16 => ?_)
  have hwp := hwp x16 ex16
  refine lv_lstore_n (lv' := [(3, .long x16), (0, .ref (wad (wdX E) 0)), (1, .long v1)]) hx hb dX9_withTexts_25 rfl lv (by decide) rfl (fun ls lv => ?_)
  refine lv_iconst (v := (0 : Int32)) hx hb dX9_withTexts_26 (by decide) ?_
  refine lv_istore (lv' := [(5, .int (0 : Int32)), (3, .long x16), (0, .ref (wad (wdX E) 0)), (1, .long v1)]) hx hb dX9_withTexts_27 lv (by decide) rfl (fun ls lv => ?_)
  obtain ⟨n0, hwp⟩ := hwp
  exact t_X9_withTexts_29 E C hR Qp n0 h15 x16 (0 : Int32) _ _ _ Dy (lv_sub lv [2, 1, 0] rfl) hwp
def b_X9_withYear_144 : Nat → Mem → MemL → Int32 → Int64 → Int32 → Int32 → (Int64 → Mem → MemL → Prop) → Prop
  | 0 => fun _ _ _ _ _ _ _ => False
  | n + 1 => fun h hl v3 v4 v7 v8 Qp => ((v7 ≤ v8 → Qp v4 h hl) ∧ (¬ (v7 ≤ v8) → (vp_in v8 3 ∧ (p_X9_does h v3 (tabF 5 v8.toNatClampNeg) (fun r25 h26 => (∀ x27 : Int64, x27 = (((31 : Int64) * v4) + (r25.toInt64)) → (p_X9_exempt h26 v3 (tabF 5 v8.toNatClampNeg) (1 : Int32) (0 : Int32) (fun r28 h29 => (∀ x30 : Int64, x30 = (((31 : Int64) * x27) + (r28.toInt64)) → (p_X9_exempt h29 v3 (tabF 5 v8.toNatClampNeg) (1 : Int32) (1 : Int32) (fun r31 h32 => (∀ x33 : Int64, x33 = (((31 : Int64) * x30) + (r31.toInt64)) → (p_X9_gout h32 hl (5 : Int32) v3 (tabF 5 v8.toNatClampNeg) (1 : Int32) (0 : Int32) (fun r34 h35 hl35 => (∀ x36 : Int64, x36 = (((31 : Int64) * x33) + r34) → (p_X9_gout h35 hl35 (5 : Int32) v3 (tabF 5 v8.toNatClampNeg) (1 : Int32) (1 : Int32) (fun r37 h38 hl38 => (∀ x39 : Int64, x39 = (((31 : Int64) * x36) + r37) → b_X9_withYear_144 n h38 hl38 v3 x39 v7 (v8 + (1 : Int32)) Qp))))))))))))))))))
def b_X9_withYear_6 : Nat → Mem → MemL → Int32 → Int64 → Int32 → (Int64 → Mem → MemL → Prop) → Prop
  | 0 => fun _ _ _ _ _ _ => False
  | n + 1 => fun h hl v3 v4 v6 Qp => (((3 : Int32) ≤ v6 → (p_X9_joy h v3 (0 : Int32) (fun r2 h3 => (∀ x4 : Int64, x4 = (((31 : Int64) * v4) + (r2.toInt64)) → (p_X9_joy h3 v3 (1 : Int32) (fun r5 h6 => (∀ x7 : Int64, x7 = (((31 : Int64) * x4) + (r5.toInt64)) → (p_X9_quarrels h6 v3 (0 : Int32) (fun r8 h9 => (∀ x10 : Int64, x10 = (((31 : Int64) * x7) + (r8.toInt64)) → (p_X9_quarrels h9 v3 (1 : Int32) (fun r11 h12 => (∀ x13 : Int64, x13 = (((31 : Int64) * x10) + (r11.toInt64)) → (p_X9_keep h12 v3 (0 : Int32) (fun r14 h15 => (∀ x16 : Int64, x16 = (((31 : Int64) * x13) + (r14.toInt64)) → (p_X9_keep h15 v3 (1 : Int32) (fun r17 h18 => (∀ x19 : Int64, x19 = (((31 : Int64) * x16) + (r17.toInt64)) → (∃ n144, b_X9_withYear_144 n144 h18 hl v3 x19 (Int32.ofNat 3) (0 : Int32) Qp)))))))))))))))))))) ∧ (¬ ((3 : Int32) ≤ v6) → (p_X9_binds h v3 v6 (fun r20 h21 => (∀ x22 : Int64, x22 = (((31 : Int64) * v4) + (r20.toInt64)) → b_X9_withYear_6 n h21 hl v3 x22 (v6 + (1 : Int32)) Qp)))))
def p_X9_withYear (h : Mem) (hl : MemL) (v1 : Int64) (v3 : Int32) (Qp : Int64 → Mem → MemL → Prop) : Prop := (∃ n6, b_X9_withYear_6 n6 h hl v3 v1 (0 : Int32) Qp)
set_option maxHeartbeats 4000000 in
set_option maxRecDepth 100000 in
theorem t_X9_withYear_144 (E : xE) {p : Program} {l : Launch} {e : Env} {R : Room} {s : State} {m : MethodId} {args : Array Value} {below : List Frame} {meth : Method} {c : Code} (C : mC (wdX E) p s m meth c args cX9_withYear 10 RX9 (some .long)) (hR : 19 ≤ R.frames ∧ 501 ≤ R.locals)  (Qp : Int64 → Mem → MemL → Prop) : ∀ (n : Nat) (h : Mem) (hl : MemL) (v3 : Int32) (v4 : Int64) (v7 : Int32) (v8 : Int32) (H : Heap) (locs : List Loc) (ls : Array Slot), mD (wdX E) h hl s H locs → lv_has ls 10 [(0, .ref (wad (wdX E) 0)), (3, .int v3), (4, .long v4), (6, .ref (xtb E 5)), (7, .int v7), (8, .int v8)] → b_X9_withYear_144 n h hl v3 v4 v7 v8 Qp → W p l e R s m args below meth c H locs 0 0 (MQ below (mQl (wdX E) (fun r h1 hl1 => Qp r h1 hl1)) args s 0 0 (wA (wdX E))) (F0 m 144 ls []) := by
  have hx := C.x
  have hb := C.b
  intro n
  induction n with
  | zero => intro h hl v3 v4 v7 v8 H locs ls Dy lv hwp; exact hwp.elim
  | succ n ih =>
    intro h hl v3 v4 v7 v8 H locs ls Dy lv hwp
    simp only [b_X9_withYear_144] at hwp
    refine lv_iload hx hb dX9_withYear_144 (lv_at lv 5 rfl) ?_
    refine lv_iload hx hb dX9_withYear_146 (lv_at lv 4 rfl) ?_
    refine lv_icmp_ge (tgt := 257) hx hb dX9_withYear_148 (by decide) (fun c23 => ?_) (fun c23 => ?_)
    · have hwp := hwp.1 c23
      refine lv_lload hx hb dX9_withYear_257 (lv_at lv 2 rfl) ?_
      exact x_lret C Dy hwp dX9_withYear_259
    · have hwp := hwp.2 c23
      refine lv_aload hx hb dX9_withYear_151 (lv_at lv 3 rfl) ?_
      refine lv_iload hx hb dX9_withYear_153 (lv_at lv 5 rfl) ?_
      obtain ⟨g24, hwp⟩ := hwp
      refine x_tald C Dy tab_5 g24 dX9_withYear_155 ?_
      refine lv_istore (lv' := [(9, .int (tabF 5 v8.toNatClampNeg)), (0, .ref (wad (wdX E) 0)), (3, .int v3), (4, .long v4), (6, .ref (xtb E 5)), (7, .int v7), (8, .int v8)]) hx hb dX9_withYear_156 lv (by decide) rfl (fun ls lv => ?_)
      refine lv_ldc2 hx hb C.ow (C.ts _ k_779) dX9_withYear_158 ?_
      refine lv_lload hx hb dX9_withYear_161 (lv_at lv 3 rfl) ?_
      refine lv_lmul hx hb dX9_withYear_163 ?_
      refine lv_aload_n hx hb dX9_withYear_164 rfl (lv_at lv 1 rfl) ?_
      refine lv_iload_n hx hb dX9_withYear_165 rfl (lv_at lv 2 rfl) ?_
      refine lv_iload hx hb dX9_withYear_166 (lv_at lv 0 rfl) ?_
      refine x_cont_i Dy (x_runV (As := [.int v3, .int (tabF 5 v8.toNatClampNeg)]) (rest := [.long ((31 : Int64) * v4)]) C Dy (m_X9_does E l _ _ v3 (tabF 5 v8.toNatClampNeg) _ hwp) (cw_X9_353 C rfl rfl ⟨Nat.le_trans (Nat.le_of_ble_eq_true rfl) hR.1, Nat.le_trans (Nat.le_of_ble_eq_true rfl) hR.2⟩) wx_0 rfl rfl lv.1 rfl (Nat.le_of_ble_eq_true rfl) dX9_withYear_168 ⟨Nat.zero_le _, Nat.zero_le _⟩) (fun r25 h26 hl26 H locs hwp Dy => ?_)
      obtain ⟨rfl, hwp⟩ := hwp
      refine lv_i2l hx hb dX9_withYear_171 rfl ?_
      refine lv_ladd hx hb dX9_withYear_172 ?_
      refine lv_topl (fun x27 ex27 => ?_)
      have hwp := hwp x27 ex27
      refine lv_lstore (lv' := [(4, .long x27), (9, .int (tabF 5 v8.toNatClampNeg)), (0, .ref (wad (wdX E) 0)), (3, .int v3), (6, .ref (xtb E 5)), (7, .int v7), (8, .int v8)]) hx hb dX9_withYear_173 lv (by decide) rfl (fun ls lv => ?_)
      refine lv_ldc2 hx hb C.ow (C.ts _ k_779) dX9_withYear_175 ?_
      refine lv_lload hx hb dX9_withYear_178 (lv_at lv 0 rfl) ?_
      refine lv_lmul hx hb dX9_withYear_180 ?_
      refine lv_aload_n hx hb dX9_withYear_181 rfl (lv_at lv 2 rfl) ?_
      refine lv_iload_n hx hb dX9_withYear_182 rfl (lv_at lv 3 rfl) ?_
      refine lv_iload hx hb dX9_withYear_183 (lv_at lv 1 rfl) ?_
      refine lv_iconst (v := (1 : Int32)) hx hb dX9_withYear_185 (by decide) ?_
      refine lv_iconst (v := (0 : Int32)) hx hb dX9_withYear_186 (by decide) ?_
      refine x_cont_i Dy (x_runV (As := [.int v3, .int (tabF 5 v8.toNatClampNeg), .int (1 : Int32), .int (0 : Int32)]) (rest := [.long ((31 : Int64) * x27)]) C Dy (m_X9_exempt E l _ _ v3 (tabF 5 v8.toNatClampNeg) (1 : Int32) (0 : Int32) _ hwp) (cw_X9_356 C rfl rfl ⟨Nat.le_trans (Nat.le_of_ble_eq_true rfl) hR.1, Nat.le_trans (Nat.le_of_ble_eq_true rfl) hR.2⟩) wx_0 rfl rfl lv.1 rfl (Nat.le_of_ble_eq_true rfl) dX9_withYear_187 ⟨Nat.zero_le _, Nat.zero_le _⟩) (fun r28 h29 hl29 H locs hwp Dy => ?_)
      obtain ⟨rfl, hwp⟩ := hwp
      refine lv_i2l hx hb dX9_withYear_190 rfl ?_
      refine lv_ladd hx hb dX9_withYear_191 ?_
      refine lv_topl (fun x30 ex30 => ?_)
      have hwp := hwp x30 ex30
      refine lv_lstore (lv' := [(4, .long x30), (9, .int (tabF 5 v8.toNatClampNeg)), (0, .ref (wad (wdX E) 0)), (3, .int v3), (6, .ref (xtb E 5)), (7, .int v7), (8, .int v8)]) hx hb dX9_withYear_192 lv (by decide) rfl (fun ls lv => ?_)
      refine lv_ldc2 hx hb C.ow (C.ts _ k_779) dX9_withYear_194 ?_
      refine lv_lload hx hb dX9_withYear_197 (lv_at lv 0 rfl) ?_
      refine lv_lmul hx hb dX9_withYear_199 ?_
      refine lv_aload_n hx hb dX9_withYear_200 rfl (lv_at lv 2 rfl) ?_
      refine lv_iload_n hx hb dX9_withYear_201 rfl (lv_at lv 3 rfl) ?_
      refine lv_iload hx hb dX9_withYear_202 (lv_at lv 1 rfl) ?_
      refine lv_iconst (v := (1 : Int32)) hx hb dX9_withYear_204 (by decide) ?_
      refine lv_iconst (v := (1 : Int32)) hx hb dX9_withYear_205 (by decide) ?_
      refine x_cont_i Dy (x_runV (As := [.int v3, .int (tabF 5 v8.toNatClampNeg), .int (1 : Int32), .int (1 : Int32)]) (rest := [.long ((31 : Int64) * x30)]) C Dy (m_X9_exempt E l _ _ v3 (tabF 5 v8.toNatClampNeg) (1 : Int32) (1 : Int32) _ hwp) (cw_X9_356 C rfl rfl ⟨Nat.le_trans (Nat.le_of_ble_eq_true rfl) hR.1, Nat.le_trans (Nat.le_of_ble_eq_true rfl) hR.2⟩) wx_0 rfl rfl lv.1 rfl (Nat.le_of_ble_eq_true rfl) dX9_withYear_206 ⟨Nat.zero_le _, Nat.zero_le _⟩) (fun r31 h32 hl32 H locs hwp Dy => ?_)
      obtain ⟨rfl, hwp⟩ := hwp
      refine lv_i2l hx hb dX9_withYear_209 rfl ?_
      refine lv_ladd hx hb dX9_withYear_210 ?_
      refine lv_topl (fun x33 ex33 => ?_)
      have hwp := hwp x33 ex33
      refine lv_lstore (lv' := [(4, .long x33), (9, .int (tabF 5 v8.toNatClampNeg)), (0, .ref (wad (wdX E) 0)), (3, .int v3), (6, .ref (xtb E 5)), (7, .int v7), (8, .int v8)]) hx hb dX9_withYear_211 lv (by decide) rfl (fun ls lv => ?_)
      refine lv_ldc2 hx hb C.ow (C.ts _ k_779) dX9_withYear_213 ?_
      refine lv_lload hx hb dX9_withYear_216 (lv_at lv 0 rfl) ?_
      refine lv_lmul hx hb dX9_withYear_218 ?_
      refine lv_aload_n hx hb dX9_withYear_219 rfl (lv_at lv 2 rfl) ?_
      refine lv_iconst (v := (5 : Int32)) hx hb dX9_withYear_220 (by decide) ?_
      refine lv_iload_n hx hb dX9_withYear_221 rfl (lv_at lv 3 rfl) ?_
      refine lv_iload hx hb dX9_withYear_222 (lv_at lv 1 rfl) ?_
      refine lv_iconst (v := (1 : Int32)) hx hb dX9_withYear_224 (by decide) ?_
      refine lv_iconst (v := (0 : Int32)) hx hb dX9_withYear_225 (by decide) ?_
      refine x_cont_l Dy (x_runV (As := [.int (5 : Int32), .int v3, .int (tabF 5 v8.toNatClampNeg), .int (1 : Int32), .int (0 : Int32)]) (rest := [.long ((31 : Int64) * x33)]) C Dy (m_X9_gout E l _ _ (5 : Int32) v3 (tabF 5 v8.toNatClampNeg) (1 : Int32) (0 : Int32) _ hwp) (cw_X9_360 C rfl rfl ⟨Nat.le_trans (Nat.le_of_ble_eq_true rfl) hR.1, Nat.le_trans (Nat.le_of_ble_eq_true rfl) hR.2⟩) wx_0 rfl rfl lv.1 rfl (Nat.le_of_ble_eq_true rfl) dX9_withYear_226 ⟨Nat.zero_le _, Nat.zero_le _⟩) (fun r34 h35 hl35 H locs hwp Dy => ?_)
      refine lv_ladd hx hb dX9_withYear_229 ?_
      refine lv_topl (fun x36 ex36 => ?_)
      have hwp := hwp x36 ex36
      refine lv_lstore (lv' := [(4, .long x36), (9, .int (tabF 5 v8.toNatClampNeg)), (0, .ref (wad (wdX E) 0)), (3, .int v3), (6, .ref (xtb E 5)), (7, .int v7), (8, .int v8)]) hx hb dX9_withYear_230 lv (by decide) rfl (fun ls lv => ?_)
      refine lv_ldc2 hx hb C.ow (C.ts _ k_779) dX9_withYear_232 ?_
      refine lv_lload hx hb dX9_withYear_235 (lv_at lv 0 rfl) ?_
      refine lv_lmul hx hb dX9_withYear_237 ?_
      refine lv_aload_n hx hb dX9_withYear_238 rfl (lv_at lv 2 rfl) ?_
      refine lv_iconst (v := (5 : Int32)) hx hb dX9_withYear_239 (by decide) ?_
      refine lv_iload_n hx hb dX9_withYear_240 rfl (lv_at lv 3 rfl) ?_
      refine lv_iload hx hb dX9_withYear_241 (lv_at lv 1 rfl) ?_
      refine lv_iconst (v := (1 : Int32)) hx hb dX9_withYear_243 (by decide) ?_
      refine lv_iconst (v := (1 : Int32)) hx hb dX9_withYear_244 (by decide) ?_
      refine x_cont_l Dy (x_runV (As := [.int (5 : Int32), .int v3, .int (tabF 5 v8.toNatClampNeg), .int (1 : Int32), .int (1 : Int32)]) (rest := [.long ((31 : Int64) * x36)]) C Dy (m_X9_gout E l _ _ (5 : Int32) v3 (tabF 5 v8.toNatClampNeg) (1 : Int32) (1 : Int32) _ hwp) (cw_X9_360 C rfl rfl ⟨Nat.le_trans (Nat.le_of_ble_eq_true rfl) hR.1, Nat.le_trans (Nat.le_of_ble_eq_true rfl) hR.2⟩) wx_0 rfl rfl lv.1 rfl (Nat.le_of_ble_eq_true rfl) dX9_withYear_245 ⟨Nat.zero_le _, Nat.zero_le _⟩) (fun r37 h38 hl38 H locs hwp Dy => ?_)
      refine lv_ladd hx hb dX9_withYear_248 ?_
      refine lv_topl (fun x39 ex39 => ?_)
      have hwp := hwp x39 ex39
      refine lv_lstore (lv' := [(4, .long x39), (9, .int (tabF 5 v8.toNatClampNeg)), (0, .ref (wad (wdX E) 0)), (3, .int v3), (6, .ref (xtb E 5)), (7, .int v7), (8, .int v8)]) hx hb dX9_withYear_249 lv (by decide) rfl (fun ls lv => ?_)
      refine lv_iinc (v := (v8 + (1 : Int32))) (lv' := [(8, .int (v8 + (1 : Int32))), (4, .long x39), (9, .int (tabF 5 v8.toNatClampNeg)), (0, .ref (wad (wdX E) 0)), (3, .int v3), (6, .ref (xtb E 5)), (7, .int v7)]) hx hb dX9_withYear_251 lv (k := 6) rfl rfl (by decide) rfl (fun ls lv => ?_)
      refine lv_goto (tgt := 144) hx hb dX9_withYear_254 (by decide) ?_
      exact ih h38 hl38 v3 x39 v7 (v8 + (1 : Int32)) _ _ _ Dy (lv_sub lv [3, 4, 1, 5, 6, 0] rfl) hwp
set_option maxHeartbeats 4000000 in
set_option maxRecDepth 100000 in
theorem t_X9_withYear_6 (E : xE) {p : Program} {l : Launch} {e : Env} {R : Room} {s : State} {m : MethodId} {args : Array Value} {below : List Frame} {meth : Method} {c : Code} (C : mC (wdX E) p s m meth c args cX9_withYear 10 RX9 (some .long)) (hR : 19 ≤ R.frames ∧ 501 ≤ R.locals)  (Qp : Int64 → Mem → MemL → Prop) : ∀ (n : Nat) (h : Mem) (hl : MemL) (v3 : Int32) (v4 : Int64) (v6 : Int32) (H : Heap) (locs : List Loc) (ls : Array Slot), mD (wdX E) h hl s H locs → lv_has ls 10 [(0, .ref (wad (wdX E) 0)), (3, .int v3), (4, .long v4), (6, .int v6)] → b_X9_withYear_6 n h hl v3 v4 v6 Qp → W p l e R s m args below meth c H locs 0 0 (MQ below (mQl (wdX E) (fun r h1 hl1 => Qp r h1 hl1)) args s 0 0 (wA (wdX E))) (F0 m 6 ls []) := by
  have hx := C.x
  have hb := C.b
  intro n
  induction n with
  | zero => intro h hl v3 v4 v6 H locs ls Dy lv hwp; exact hwp.elim
  | succ n ih =>
    intro h hl v3 v4 v6 H locs ls Dy lv hwp
    simp only [b_X9_withYear_6] at hwp
    refine lv_iload hx hb dX9_withYear_6 (lv_at lv 3 rfl) ?_
    refine lv_iconst (v := (3 : Int32)) hx hb dX9_withYear_8 (by decide) ?_
    refine lv_icmp_ge (tgt := 35) hx hb dX9_withYear_9 (by decide) (fun c1 => ?_) (fun c1 => ?_)
    · have hwp := hwp.1 c1
      refine lv_ldc2 hx hb C.ow (C.ts _ k_779) dX9_withYear_35 ?_
      refine lv_lload hx hb dX9_withYear_38 (lv_at lv 2 rfl) ?_
      refine lv_lmul hx hb dX9_withYear_40 ?_
      refine lv_aload_n hx hb dX9_withYear_41 rfl (lv_at lv 0 rfl) ?_
      refine lv_iload_n hx hb dX9_withYear_42 rfl (lv_at lv 1 rfl) ?_
      refine lv_iconst (v := (0 : Int32)) hx hb dX9_withYear_43 (by decide) ?_
      refine x_cont_i Dy (x_runV (As := [.int v3, .int (0 : Int32)]) (rest := [.long ((31 : Int64) * v4)]) C Dy (m_X9_joy E l _ _ v3 (0 : Int32) _ hwp) (cw_X9_341 C rfl rfl ⟨Nat.le_trans (Nat.le_of_ble_eq_true rfl) hR.1, Nat.le_trans (Nat.le_of_ble_eq_true rfl) hR.2⟩) wx_0 rfl rfl lv.1 rfl (Nat.le_of_ble_eq_true rfl) dX9_withYear_44 ⟨Nat.zero_le _, Nat.zero_le _⟩) (fun r2 h3 hl3 H locs hwp Dy => ?_)
      obtain ⟨rfl, hwp⟩ := hwp
      refine lv_i2l hx hb dX9_withYear_47 rfl ?_
      refine lv_ladd hx hb dX9_withYear_48 ?_
      refine lv_topl (fun x4 ex4 => ?_)
      have hwp := hwp x4 ex4
      refine lv_lstore (lv' := [(4, .long x4), (0, .ref (wad (wdX E) 0)), (3, .int v3), (6, .int v6)]) hx hb dX9_withYear_49 lv (by decide) rfl (fun ls lv => ?_)
      refine lv_ldc2 hx hb C.ow (C.ts _ k_779) dX9_withYear_51 ?_
      refine lv_lload hx hb dX9_withYear_54 (lv_at lv 0 rfl) ?_
      refine lv_lmul hx hb dX9_withYear_56 ?_
      refine lv_aload_n hx hb dX9_withYear_57 rfl (lv_at lv 1 rfl) ?_
      refine lv_iload_n hx hb dX9_withYear_58 rfl (lv_at lv 2 rfl) ?_
      refine lv_iconst (v := (1 : Int32)) hx hb dX9_withYear_59 (by decide) ?_
      refine x_cont_i Dy (x_runV (As := [.int v3, .int (1 : Int32)]) (rest := [.long ((31 : Int64) * x4)]) C Dy (m_X9_joy E l _ _ v3 (1 : Int32) _ hwp) (cw_X9_341 C rfl rfl ⟨Nat.le_trans (Nat.le_of_ble_eq_true rfl) hR.1, Nat.le_trans (Nat.le_of_ble_eq_true rfl) hR.2⟩) wx_0 rfl rfl lv.1 rfl (Nat.le_of_ble_eq_true rfl) dX9_withYear_60 ⟨Nat.zero_le _, Nat.zero_le _⟩) (fun r5 h6 hl6 H locs hwp Dy => ?_)
      obtain ⟨rfl, hwp⟩ := hwp
      refine lv_i2l hx hb dX9_withYear_63 rfl ?_
      refine lv_ladd hx hb dX9_withYear_64 ?_
      refine lv_topl (fun x7 ex7 => ?_)
      have hwp := hwp x7 ex7
      refine lv_lstore (lv' := [(4, .long x7), (0, .ref (wad (wdX E) 0)), (3, .int v3), (6, .int v6)]) hx hb dX9_withYear_65 lv (by decide) rfl (fun ls lv => ?_)
      refine lv_ldc2 hx hb C.ow (C.ts _ k_779) dX9_withYear_67 ?_
      refine lv_lload hx hb dX9_withYear_70 (lv_at lv 0 rfl) ?_
      refine lv_lmul hx hb dX9_withYear_72 ?_
      refine lv_aload_n hx hb dX9_withYear_73 rfl (lv_at lv 1 rfl) ?_
      refine lv_iload_n hx hb dX9_withYear_74 rfl (lv_at lv 2 rfl) ?_
      refine lv_iconst (v := (0 : Int32)) hx hb dX9_withYear_75 (by decide) ?_
      refine x_cont_i Dy (x_runV (As := [.int v3, .int (0 : Int32)]) (rest := [.long ((31 : Int64) * x7)]) C Dy (m_X9_quarrels E l _ _ v3 (0 : Int32) _ hwp) (cw_X9_344 C rfl rfl ⟨Nat.le_trans (Nat.le_of_ble_eq_true rfl) hR.1, Nat.le_trans (Nat.le_of_ble_eq_true rfl) hR.2⟩) wx_0 rfl rfl lv.1 rfl (Nat.le_of_ble_eq_true rfl) dX9_withYear_76 ⟨Nat.zero_le _, Nat.zero_le _⟩) (fun r8 h9 hl9 H locs hwp Dy => ?_)
      obtain ⟨rfl, hwp⟩ := hwp
      refine lv_i2l hx hb dX9_withYear_79 rfl ?_
      refine lv_ladd hx hb dX9_withYear_80 ?_
      refine lv_topl (fun x10 ex10 => ?_)
      have hwp := hwp x10 ex10
      refine lv_lstore (lv' := [(4, .long x10), (0, .ref (wad (wdX E) 0)), (3, .int v3), (6, .int v6)]) hx hb dX9_withYear_81 lv (by decide) rfl (fun ls lv => ?_)
      refine lv_ldc2 hx hb C.ow (C.ts _ k_779) dX9_withYear_83 ?_
      refine lv_lload hx hb dX9_withYear_86 (lv_at lv 0 rfl) ?_
      refine lv_lmul hx hb dX9_withYear_88 ?_
      refine lv_aload_n hx hb dX9_withYear_89 rfl (lv_at lv 1 rfl) ?_
      refine lv_iload_n hx hb dX9_withYear_90 rfl (lv_at lv 2 rfl) ?_
      refine lv_iconst (v := (1 : Int32)) hx hb dX9_withYear_91 (by decide) ?_
      refine x_cont_i Dy (x_runV (As := [.int v3, .int (1 : Int32)]) (rest := [.long ((31 : Int64) * x10)]) C Dy (m_X9_quarrels E l _ _ v3 (1 : Int32) _ hwp) (cw_X9_344 C rfl rfl ⟨Nat.le_trans (Nat.le_of_ble_eq_true rfl) hR.1, Nat.le_trans (Nat.le_of_ble_eq_true rfl) hR.2⟩) wx_0 rfl rfl lv.1 rfl (Nat.le_of_ble_eq_true rfl) dX9_withYear_92 ⟨Nat.zero_le _, Nat.zero_le _⟩) (fun r11 h12 hl12 H locs hwp Dy => ?_)
      obtain ⟨rfl, hwp⟩ := hwp
      refine lv_i2l hx hb dX9_withYear_95 rfl ?_
      refine lv_ladd hx hb dX9_withYear_96 ?_
      refine lv_topl (fun x13 ex13 => ?_)
      have hwp := hwp x13 ex13
      refine lv_lstore (lv' := [(4, .long x13), (0, .ref (wad (wdX E) 0)), (3, .int v3), (6, .int v6)]) hx hb dX9_withYear_97 lv (by decide) rfl (fun ls lv => ?_)
      refine lv_ldc2 hx hb C.ow (C.ts _ k_779) dX9_withYear_99 ?_
      refine lv_lload hx hb dX9_withYear_102 (lv_at lv 0 rfl) ?_
      refine lv_lmul hx hb dX9_withYear_104 ?_
      refine lv_aload_n hx hb dX9_withYear_105 rfl (lv_at lv 1 rfl) ?_
      refine lv_iload_n hx hb dX9_withYear_106 rfl (lv_at lv 2 rfl) ?_
      refine lv_iconst (v := (0 : Int32)) hx hb dX9_withYear_107 (by decide) ?_
      refine x_cont_i Dy (x_runV (As := [.int v3, .int (0 : Int32)]) (rest := [.long ((31 : Int64) * x13)]) C Dy (m_X9_keep E l _ _ v3 (0 : Int32) _ hwp) (cw_X9_347 C rfl rfl ⟨Nat.le_trans (Nat.le_of_ble_eq_true rfl) hR.1, Nat.le_trans (Nat.le_of_ble_eq_true rfl) hR.2⟩) wx_0 rfl rfl lv.1 rfl (Nat.le_of_ble_eq_true rfl) dX9_withYear_108 ⟨Nat.zero_le _, Nat.zero_le _⟩) (fun r14 h15 hl15 H locs hwp Dy => ?_)
      obtain ⟨rfl, hwp⟩ := hwp
      refine lv_i2l hx hb dX9_withYear_111 rfl ?_
      refine lv_ladd hx hb dX9_withYear_112 ?_
      refine lv_topl (fun x16 ex16 => ?_)
      have hwp := hwp x16 ex16
      refine lv_lstore (lv' := [(4, .long x16), (0, .ref (wad (wdX E) 0)), (3, .int v3), (6, .int v6)]) hx hb dX9_withYear_113 lv (by decide) rfl (fun ls lv => ?_)
      refine lv_ldc2 hx hb C.ow (C.ts _ k_779) dX9_withYear_115 ?_
      refine lv_lload hx hb dX9_withYear_118 (lv_at lv 0 rfl) ?_
      refine lv_lmul hx hb dX9_withYear_120 ?_
      refine lv_aload_n hx hb dX9_withYear_121 rfl (lv_at lv 1 rfl) ?_
      refine lv_iload_n hx hb dX9_withYear_122 rfl (lv_at lv 2 rfl) ?_
      refine lv_iconst (v := (1 : Int32)) hx hb dX9_withYear_123 (by decide) ?_
      refine x_cont_i Dy (x_runV (As := [.int v3, .int (1 : Int32)]) (rest := [.long ((31 : Int64) * x16)]) C Dy (m_X9_keep E l _ _ v3 (1 : Int32) _ hwp) (cw_X9_347 C rfl rfl ⟨Nat.le_trans (Nat.le_of_ble_eq_true rfl) hR.1, Nat.le_trans (Nat.le_of_ble_eq_true rfl) hR.2⟩) wx_0 rfl rfl lv.1 rfl (Nat.le_of_ble_eq_true rfl) dX9_withYear_124 ⟨Nat.zero_le _, Nat.zero_le _⟩) (fun r17 h18 hl18 H locs hwp Dy => ?_)
      obtain ⟨rfl, hwp⟩ := hwp
      refine lv_i2l hx hb dX9_withYear_127 rfl ?_
      refine lv_ladd hx hb dX9_withYear_128 ?_
      refine lv_topl (fun x19 ex19 => ?_)
      have hwp := hwp x19 ex19
      refine lv_lstore (lv' := [(4, .long x19), (0, .ref (wad (wdX E) 0)), (3, .int v3), (6, .int v6)]) hx hb dX9_withYear_129 lv (by decide) rfl (fun ls lv => ?_)
      refine x_gets C Dy fld_5 k_798 dX9_withYear_131 ?_
      refine lv_astore (lv' := [(6, .ref (xtb E 5)), (4, .long x19), (0, .ref (wad (wdX E) 0)), (3, .int v3)]) hx hb dX9_withYear_134 lv (by decide) rfl (fun ls lv => ?_)
      refine lv_aload hx hb dX9_withYear_136 (lv_at lv 0 rfl) ?_
      refine x_tlen C Dy tab_5 rfl dX9_withYear_138 ?_
      refine lv_istore (lv' := [(7, .int (Int32.ofNat 3)), (6, .ref (xtb E 5)), (4, .long x19), (0, .ref (wad (wdX E) 0)), (3, .int v3)]) hx hb dX9_withYear_139 lv (by decide) rfl (fun ls lv => ?_)
      refine lv_iconst (v := (0 : Int32)) hx hb dX9_withYear_141 (by decide) ?_
      refine lv_istore (lv' := [(8, .int (0 : Int32)), (7, .int (Int32.ofNat 3)), (6, .ref (xtb E 5)), (4, .long x19), (0, .ref (wad (wdX E) 0)), (3, .int v3)]) hx hb dX9_withYear_142 lv (by decide) rfl (fun ls lv => ?_)
      obtain ⟨n0, hwp⟩ := hwp
      exact t_X9_withYear_144 E C hR Qp n0 h18 hl v3 x19 (Int32.ofNat 3) (0 : Int32) _ _ _ Dy (lv_sub lv [4, 5, 3, 2, 1, 0] rfl) hwp
    · have hwp := hwp.2 c1
      refine lv_ldc2 hx hb C.ow (C.ts _ k_779) dX9_withYear_12 ?_
      refine lv_lload hx hb dX9_withYear_15 (lv_at lv 2 rfl) ?_
      refine lv_lmul hx hb dX9_withYear_17 ?_
      refine lv_aload_n hx hb dX9_withYear_18 rfl (lv_at lv 0 rfl) ?_
      refine lv_iload_n hx hb dX9_withYear_19 rfl (lv_at lv 1 rfl) ?_
      refine lv_iload hx hb dX9_withYear_20 (lv_at lv 3 rfl) ?_
      refine x_cont_i Dy (x_runV (As := [.int v3, .int v6]) (rest := [.long ((31 : Int64) * v4)]) C Dy (m_X9_binds E l _ _ v3 v6 _ hwp) (cw_X9_338 C rfl rfl ⟨Nat.le_trans (Nat.le_of_ble_eq_true rfl) hR.1, Nat.le_trans (Nat.le_of_ble_eq_true rfl) hR.2⟩) wx_0 rfl rfl lv.1 rfl (Nat.le_of_ble_eq_true rfl) dX9_withYear_22 ⟨Nat.zero_le _, Nat.zero_le _⟩) (fun r20 h21 hl21 H locs hwp Dy => ?_)
      obtain ⟨rfl, hwp⟩ := hwp
      refine lv_i2l hx hb dX9_withYear_25 rfl ?_
      refine lv_ladd hx hb dX9_withYear_26 ?_
      refine lv_topl (fun x22 ex22 => ?_)
      have hwp := hwp x22 ex22
      refine lv_lstore (lv' := [(4, .long x22), (0, .ref (wad (wdX E) 0)), (3, .int v3), (6, .int v6)]) hx hb dX9_withYear_27 lv (by decide) rfl (fun ls lv => ?_)
      refine lv_iinc (v := (v6 + (1 : Int32))) (lv' := [(6, .int (v6 + (1 : Int32))), (4, .long x22), (0, .ref (wad (wdX E) 0)), (3, .int v3)]) hx hb dX9_withYear_29 lv (k := 3) rfl rfl (by decide) rfl (fun ls lv => ?_)
      refine lv_goto (tgt := 6) hx hb dX9_withYear_32 (by decide) ?_
      exact ih h21 hl v3 x22 (v6 + (1 : Int32)) _ _ _ Dy (lv_sub lv [2, 3, 1, 0] rfl) hwp
set_option maxHeartbeats 4000000 in
set_option maxRecDepth 100000 in
theorem m_X9_withYear (E : xE) (l : Launch) (h : Mem) (hl : MemL) (v1 : Int64) (v3 : Int32) (Qp : Int64 → Mem → MemL → Prop) (hwp : p_X9_withYear h hl v1 v3 Qp) : Met l yX9_withYear (wsU yX9_withYear cX9_withYear 10 (some .long)) ({ frames := 19, cells := 0, slots := 0, locals := 501 } : Room) (mPc (wdX E) [.ref (wad (wdX E) 0), .long v1, .int v3] h hl) (mQl (wdX E) (fun r h1 hl1 => Qp r h1 hl1)) 0 0 (wA (wdX E)) := by
  refine x_met RX9 [(0, .ref (wad (wdX E) 0)), (1, .long v1), (3, .int v3)] (by decide) rfl (Nat.le_of_ble_eq_true rfl) rfl ?_
  intro p e s m args below meth c ls C Dy lv
  have hx := C.x
  have hb := C.b
  have hR : 19 ≤ ({ frames := 19, cells := 0, slots := 0, locals := 501 } : Room).frames ∧ 501 ≤ ({ frames := 19, cells := 0, slots := 0, locals := 501 } : Room).locals := ⟨Nat.le_refl _, Nat.le_refl _⟩
  unfold p_X9_withYear at hwp
  refine lv_lload_n hx hb dX9_withYear_0 rfl (lv_at lv 1 rfl) ?_
  refine lv_lstore (lv' := [(4, .long v1), (0, .ref (wad (wdX E) 0)), (1, .long v1), (3, .int v3)]) hx hb dX9_withYear_1 lv (by decide) rfl (fun ls lv => ?_)
  refine lv_iconst (v := (0 : Int32)) hx hb dX9_withYear_3 (by decide) ?_
  refine lv_istore (lv' := [(6, .int (0 : Int32)), (4, .long v1), (0, .ref (wad (wdX E) 0)), (1, .long v1), (3, .int v3)]) hx hb dX9_withYear_4 lv (by decide) rfl (fun ls lv => ?_)
  obtain ⟨n0, hwp⟩ := hwp
  exact t_X9_withYear_6 E C hR Qp n0 h hl v3 v1 (0 : Int32) _ _ _ Dy (lv_sub lv [2, 4, 1, 0] rfl) hwp
def b_X9_digest_107 : Nat → Mem → MemL → Int64 → Int32 → (Int64 → Mem → MemL → Prop) → Prop
  | 0 => fun _ _ _ _ _ => False
  | n + 1 => fun h hl v1 v3 Qp => (((3 : Int32) ≤ v3 → (p_X9_watch h (fun r18 h19 => (∀ x20 : Int64, x20 = (((31 : Int64) * v1) + (r18.toInt64)) → (p_X9_years h19 (7 : Int32) (20 : Int32) (0 : Int32) (fun r21 h22 => (∀ x23 : Int64, x23 = (((31 : Int64) * x20) + (r21.toInt64)) → (p_X9_years h22 (7 : Int32) (20 : Int32) (1 : Int32) (fun r24 h25 => Qp (((31 : Int64) * x23) + (r24.toInt64)) h25 hl))))))))) ∧ (¬ ((3 : Int32) ≤ v3) → (p_X9_sets h v3 (fun r26 h27 => (∀ x28 : Int64, x28 = (((31 : Int64) * v1) + (r26.toInt64)) → b_X9_digest_107 n h27 hl x28 (v3 + (1 : Int32)) Qp)))))
def b_X9_digest_48 : Nat → Mem → MemL → Int64 → Int32 → Int32 → (Int64 → Mem → MemL → Prop) → Prop
  | 0 => fun _ _ _ _ _ _ => False
  | n + 1 => fun h hl v1 v4 v5 Qp => ((v4 ≤ v5 → (p_X9_order h (3 : Int32) (2 : Int32) (-1 : Int32) (fun r8 h9 => (∀ x10 : Int64, x10 = (((31 : Int64) * v1) + (r8.toInt64)) → (p_X9_order h9 (3 : Int32) (2 : Int32) (0 : Int32) (fun r11 h12 => (∀ x13 : Int64, x13 = (((31 : Int64) * x10) + (r11.toInt64)) → (∃ n107, b_X9_digest_107 n107 h12 hl x13 (0 : Int32) Qp)))))))) ∧ (¬ (v4 ≤ v5) → (vp_in v5 3 ∧ (p_X9_withYear h hl v1 (tabF 4 v5.toNatClampNeg) (fun r15 h16 hl16 => b_X9_digest_48 n h16 hl16 r15 v4 (v5 + (1 : Int32)) Qp)))))
def b_X9_digest_6 : Nat → Mem → MemL → Int64 → Int32 → (Int64 → Mem → MemL → Prop) → Prop
  | 0 => fun _ _ _ _ _ => False
  | n + 1 => fun h hl v1 v3 Qp => (((8 : Int32) ≤ v3 → (p_X9_withTexts h v1 (fun r2 h3 => (∃ n48, b_X9_digest_48 n48 h3 hl r2 (Int32.ofNat 3) (0 : Int32) Qp)))) ∧ (¬ ((8 : Int32) ≤ v3) → (p_X9_count h v3 (fun r4 h5 => (∀ x6 : Int64, x6 = (((31 : Int64) * v1) + (r4.toInt64)) → b_X9_digest_6 n h5 hl x6 (v3 + (1 : Int32)) Qp)))))
def p_X9_digest (h : Mem) (hl : MemL) (Qp : Int64 → Mem → MemL → Prop) : Prop := (∃ n6, b_X9_digest_6 n6 h hl (17 : Int64) (0 : Int32) Qp)
set_option maxHeartbeats 4000000 in
set_option maxRecDepth 100000 in
theorem t_X9_digest_107 (E : xE) {p : Program} {l : Launch} {e : Env} {R : Room} {s : State} {m : MethodId} {args : Array Value} {below : List Frame} {meth : Method} {c : Code} (C : mC (wdX E) p s m meth c args cX9_digest 7 RX9 (some .long)) (hR : 20 ≤ R.frames ∧ 530 ≤ R.locals)  (Qp : Int64 → Mem → MemL → Prop) : ∀ (n : Nat) (h : Mem) (hl : MemL) (v1 : Int64) (v3 : Int32) (H : Heap) (locs : List Loc) (ls : Array Slot), mD (wdX E) h hl s H locs → lv_has ls 7 [(0, .ref (wad (wdX E) 0)), (1, .long v1), (3, .int v3)] → b_X9_digest_107 n h hl v1 v3 Qp → W p l e R s m args below meth c H locs 0 0 (MQ below (mQl (wdX E) (fun r h1 hl1 => Qp r h1 hl1)) args s 0 0 (wA (wdX E))) (F0 m 107 ls []) := by
  have hx := C.x
  have hb := C.b
  intro n
  induction n with
  | zero => intro h hl v1 v3 H locs ls Dy lv hwp; exact hwp.elim
  | succ n ih =>
    intro h hl v1 v3 H locs ls Dy lv hwp
    simp only [b_X9_digest_107] at hwp
    refine lv_iload_n hx hb dX9_digest_107 rfl (lv_at lv 2 rfl) ?_
    refine lv_iconst (v := (3 : Int32)) hx hb dX9_digest_108 (by decide) ?_
    refine lv_icmp_ge (tgt := 131) hx hb dX9_digest_109 (by decide) (fun c17 => ?_) (fun c17 => ?_)
    · have hwp := hwp.1 c17
      refine lv_ldc2 hx hb C.ow (C.ts _ k_779) dX9_digest_131 ?_
      refine lv_lload_n hx hb dX9_digest_134 rfl (lv_at lv 1 rfl) ?_
      refine lv_lmul hx hb dX9_digest_135 ?_
      refine lv_aload_n hx hb dX9_digest_136 rfl (lv_at lv 0 rfl) ?_
      refine x_cont_i Dy (x_runV (As := []) (rest := [.long ((31 : Int64) * v1)]) C Dy (m_X9_watch E l _ _ _ hwp) (cw_X9_323 C rfl rfl ⟨Nat.le_trans (Nat.le_of_ble_eq_true rfl) hR.1, Nat.le_trans (Nat.le_of_ble_eq_true rfl) hR.2⟩) wx_0 rfl rfl lv.1 rfl (Nat.le_of_ble_eq_true rfl) dX9_digest_137 ⟨Nat.zero_le _, Nat.zero_le _⟩) (fun r18 h19 hl19 H locs hwp Dy => ?_)
      obtain ⟨rfl, hwp⟩ := hwp
      refine lv_i2l hx hb dX9_digest_140 rfl ?_
      refine lv_ladd hx hb dX9_digest_141 ?_
      refine lv_topl (fun x20 ex20 => ?_)
      have hwp := hwp x20 ex20
      refine lv_lstore_n (lv' := [(1, .long x20), (0, .ref (wad (wdX E) 0)), (3, .int v3)]) hx hb dX9_digest_142 rfl lv (by decide) rfl (fun ls lv => ?_)
      refine lv_ldc2 hx hb C.ow (C.ts _ k_779) dX9_digest_143 ?_
      refine lv_lload_n hx hb dX9_digest_146 rfl (lv_at lv 0 rfl) ?_
      refine lv_lmul hx hb dX9_digest_147 ?_
      refine lv_aload_n hx hb dX9_digest_148 rfl (lv_at lv 1 rfl) ?_
      refine lv_bipush (v := (7 : Int32)) hx hb dX9_digest_149 (by decide) ?_
      refine lv_bipush (v := (20 : Int32)) hx hb dX9_digest_151 (by decide) ?_
      refine lv_iconst (v := (0 : Int32)) hx hb dX9_digest_153 (by decide) ?_
      refine x_cont_i Dy (x_runV (As := [.int (7 : Int32), .int (20 : Int32), .int (0 : Int32)]) (rest := [.long ((31 : Int64) * x20)]) C Dy (m_X9_years E l _ _ (7 : Int32) (20 : Int32) (0 : Int32) _ hwp) (cw_X9_326 C rfl rfl ⟨Nat.le_trans (Nat.le_of_ble_eq_true rfl) hR.1, Nat.le_trans (Nat.le_of_ble_eq_true rfl) hR.2⟩) wx_0 rfl rfl lv.1 rfl (Nat.le_of_ble_eq_true rfl) dX9_digest_154 ⟨Nat.zero_le _, Nat.zero_le _⟩) (fun r21 h22 hl22 H locs hwp Dy => ?_)
      obtain ⟨rfl, hwp⟩ := hwp
      refine lv_i2l hx hb dX9_digest_157 rfl ?_
      refine lv_ladd hx hb dX9_digest_158 ?_
      refine lv_topl (fun x23 ex23 => ?_)
      have hwp := hwp x23 ex23
      refine lv_lstore_n (lv' := [(1, .long x23), (0, .ref (wad (wdX E) 0)), (3, .int v3)]) hx hb dX9_digest_159 rfl lv (by decide) rfl (fun ls lv => ?_)
      refine lv_ldc2 hx hb C.ow (C.ts _ k_779) dX9_digest_160 ?_
      refine lv_lload_n hx hb dX9_digest_163 rfl (lv_at lv 0 rfl) ?_
      refine lv_lmul hx hb dX9_digest_164 ?_
      refine lv_aload_n hx hb dX9_digest_165 rfl (lv_at lv 1 rfl) ?_
      refine lv_bipush (v := (7 : Int32)) hx hb dX9_digest_166 (by decide) ?_
      refine lv_bipush (v := (20 : Int32)) hx hb dX9_digest_168 (by decide) ?_
      refine lv_iconst (v := (1 : Int32)) hx hb dX9_digest_170 (by decide) ?_
      refine x_cont_i Dy (x_runV (As := [.int (7 : Int32), .int (20 : Int32), .int (1 : Int32)]) (rest := [.long ((31 : Int64) * x23)]) C Dy (m_X9_years E l _ _ (7 : Int32) (20 : Int32) (1 : Int32) _ hwp) (cw_X9_326 C rfl rfl ⟨Nat.le_trans (Nat.le_of_ble_eq_true rfl) hR.1, Nat.le_trans (Nat.le_of_ble_eq_true rfl) hR.2⟩) wx_0 rfl rfl lv.1 rfl (Nat.le_of_ble_eq_true rfl) dX9_digest_171 ⟨Nat.zero_le _, Nat.zero_le _⟩) (fun r24 h25 hl25 H locs hwp Dy => ?_)
      obtain ⟨rfl, hwp⟩ := hwp
      refine lv_i2l hx hb dX9_digest_174 rfl ?_
      refine lv_ladd hx hb dX9_digest_175 ?_
      exact x_lret C Dy hwp dX9_digest_176
    · have hwp := hwp.2 c17
      refine lv_ldc2 hx hb C.ow (C.ts _ k_779) dX9_digest_112 ?_
      refine lv_lload_n hx hb dX9_digest_115 rfl (lv_at lv 1 rfl) ?_
      refine lv_lmul hx hb dX9_digest_116 ?_
      refine lv_aload_n hx hb dX9_digest_117 rfl (lv_at lv 0 rfl) ?_
      refine lv_iload_n hx hb dX9_digest_118 rfl (lv_at lv 2 rfl) ?_
      refine x_cont_i Dy (x_runV (As := [.int v3]) (rest := [.long ((31 : Int64) * v1)]) C Dy (m_X9_sets E l _ _ v3 _ hwp) (cw_X9_320 C rfl rfl ⟨Nat.le_trans (Nat.le_of_ble_eq_true rfl) hR.1, Nat.le_trans (Nat.le_of_ble_eq_true rfl) hR.2⟩) wx_0 rfl rfl lv.1 rfl (Nat.le_of_ble_eq_true rfl) dX9_digest_119 ⟨Nat.zero_le _, Nat.zero_le _⟩) (fun r26 h27 hl27 H locs hwp Dy => ?_)
      obtain ⟨rfl, hwp⟩ := hwp
      refine lv_i2l hx hb dX9_digest_122 rfl ?_
      refine lv_ladd hx hb dX9_digest_123 ?_
      refine lv_topl (fun x28 ex28 => ?_)
      have hwp := hwp x28 ex28
      refine lv_lstore_n (lv' := [(1, .long x28), (0, .ref (wad (wdX E) 0)), (3, .int v3)]) hx hb dX9_digest_124 rfl lv (by decide) rfl (fun ls lv => ?_)
      refine lv_iinc (v := (v3 + (1 : Int32))) (lv' := [(3, .int (v3 + (1 : Int32))), (1, .long x28), (0, .ref (wad (wdX E) 0))]) hx hb dX9_digest_125 lv (k := 2) rfl rfl (by decide) rfl (fun ls lv => ?_)
      refine lv_goto (tgt := 107) hx hb dX9_digest_128 (by decide) ?_
      exact ih h27 hl x28 (v3 + (1 : Int32)) _ _ _ Dy (lv_sub lv [2, 1, 0] rfl) hwp
set_option maxHeartbeats 4000000 in
set_option maxRecDepth 100000 in
theorem t_X9_digest_48 (E : xE) {p : Program} {l : Launch} {e : Env} {R : Room} {s : State} {m : MethodId} {args : Array Value} {below : List Frame} {meth : Method} {c : Code} (C : mC (wdX E) p s m meth c args cX9_digest 7 RX9 (some .long)) (hR : 20 ≤ R.frames ∧ 530 ≤ R.locals)  (Qp : Int64 → Mem → MemL → Prop) : ∀ (n : Nat) (h : Mem) (hl : MemL) (v1 : Int64) (v4 : Int32) (v5 : Int32) (H : Heap) (locs : List Loc) (ls : Array Slot), mD (wdX E) h hl s H locs → lv_has ls 7 [(0, .ref (wad (wdX E) 0)), (1, .long v1), (3, .ref (xtb E 4)), (4, .int v4), (5, .int v5)] → b_X9_digest_48 n h hl v1 v4 v5 Qp → W p l e R s m args below meth c H locs 0 0 (MQ below (mQl (wdX E) (fun r h1 hl1 => Qp r h1 hl1)) args s 0 0 (wA (wdX E))) (F0 m 48 ls []) := by
  have hx := C.x
  have hb := C.b
  intro n
  induction n with
  | zero => intro h hl v1 v4 v5 H locs ls Dy lv hwp; exact hwp.elim
  | succ n ih =>
    intro h hl v1 v4 v5 H locs ls Dy lv hwp
    simp only [b_X9_digest_48] at hwp
    refine lv_iload hx hb dX9_digest_48 (lv_at lv 4 rfl) ?_
    refine lv_iload hx hb dX9_digest_50 (lv_at lv 3 rfl) ?_
    refine lv_icmp_ge (tgt := 75) hx hb dX9_digest_52 (by decide) (fun c7 => ?_) (fun c7 => ?_)
    · have hwp := hwp.1 c7
      refine lv_ldc2 hx hb C.ow (C.ts _ k_779) dX9_digest_75 ?_
      refine lv_lload_n hx hb dX9_digest_78 rfl (lv_at lv 1 rfl) ?_
      refine lv_lmul hx hb dX9_digest_79 ?_
      refine lv_aload_n hx hb dX9_digest_80 rfl (lv_at lv 0 rfl) ?_
      refine lv_iconst (v := (3 : Int32)) hx hb dX9_digest_81 (by decide) ?_
      refine lv_iconst (v := (2 : Int32)) hx hb dX9_digest_82 (by decide) ?_
      refine lv_iconst (v := (-1 : Int32)) hx hb dX9_digest_83 (by decide) ?_
      refine x_cont_i Dy (x_runV (As := [.int (3 : Int32), .int (2 : Int32), .int (-1 : Int32)]) (rest := [.long ((31 : Int64) * v1)]) C Dy (m_X9_order E l _ _ (3 : Int32) (2 : Int32) (-1 : Int32) _ hwp) (cw_X9_317 C rfl rfl ⟨Nat.le_trans (Nat.le_of_ble_eq_true rfl) hR.1, Nat.le_trans (Nat.le_of_ble_eq_true rfl) hR.2⟩) wx_0 rfl rfl lv.1 rfl (Nat.le_of_ble_eq_true rfl) dX9_digest_84 ⟨Nat.zero_le _, Nat.zero_le _⟩) (fun r8 h9 hl9 H locs hwp Dy => ?_)
      obtain ⟨rfl, hwp⟩ := hwp
      refine lv_i2l hx hb dX9_digest_87 rfl ?_
      refine lv_ladd hx hb dX9_digest_88 ?_
      refine lv_topl (fun x10 ex10 => ?_)
      have hwp := hwp x10 ex10
      refine lv_lstore_n (lv' := [(1, .long x10), (0, .ref (wad (wdX E) 0)), (3, .ref (xtb E 4)), (4, .int v4), (5, .int v5)]) hx hb dX9_digest_89 rfl lv (by decide) rfl (fun ls lv => ?_)
      refine lv_ldc2 hx hb C.ow (C.ts _ k_779) dX9_digest_90 ?_
      refine lv_lload_n hx hb dX9_digest_93 rfl (lv_at lv 0 rfl) ?_
      refine lv_lmul hx hb dX9_digest_94 ?_
      refine lv_aload_n hx hb dX9_digest_95 rfl (lv_at lv 1 rfl) ?_
      refine lv_iconst (v := (3 : Int32)) hx hb dX9_digest_96 (by decide) ?_
      refine lv_iconst (v := (2 : Int32)) hx hb dX9_digest_97 (by decide) ?_
      refine lv_iconst (v := (0 : Int32)) hx hb dX9_digest_98 (by decide) ?_
      refine x_cont_i Dy (x_runV (As := [.int (3 : Int32), .int (2 : Int32), .int (0 : Int32)]) (rest := [.long ((31 : Int64) * x10)]) C Dy (m_X9_order E l _ _ (3 : Int32) (2 : Int32) (0 : Int32) _ hwp) (cw_X9_317 C rfl rfl ⟨Nat.le_trans (Nat.le_of_ble_eq_true rfl) hR.1, Nat.le_trans (Nat.le_of_ble_eq_true rfl) hR.2⟩) wx_0 rfl rfl lv.1 rfl (Nat.le_of_ble_eq_true rfl) dX9_digest_99 ⟨Nat.zero_le _, Nat.zero_le _⟩) (fun r11 h12 hl12 H locs hwp Dy => ?_)
      obtain ⟨rfl, hwp⟩ := hwp
      refine lv_i2l hx hb dX9_digest_102 rfl ?_
      refine lv_ladd hx hb dX9_digest_103 ?_
      refine lv_topl (fun x13 ex13 => ?_)
      have hwp := hwp x13 ex13
      refine lv_lstore_n (lv' := [(1, .long x13), (0, .ref (wad (wdX E) 0)), (3, .ref (xtb E 4)), (4, .int v4), (5, .int v5)]) hx hb dX9_digest_104 rfl lv (by decide) rfl (fun ls lv => ?_)
      refine lv_iconst (v := (0 : Int32)) hx hb dX9_digest_105 (by decide) ?_
      refine lv_istore_n (lv' := [(3, .int (0 : Int32)), (1, .long x13), (0, .ref (wad (wdX E) 0)), (4, .int v4), (5, .int v5)]) hx hb dX9_digest_106 rfl lv (by decide) rfl (fun ls lv => ?_)
      obtain ⟨n0, hwp⟩ := hwp
      exact t_X9_digest_107 E C hR Qp n0 h12 hl x13 (0 : Int32) _ _ _ Dy (lv_sub lv [2, 1, 0] rfl) hwp
    · have hwp := hwp.2 c7
      refine lv_aload_n hx hb dX9_digest_55 rfl (lv_at lv 2 rfl) ?_
      refine lv_iload hx hb dX9_digest_56 (lv_at lv 4 rfl) ?_
      obtain ⟨g14, hwp⟩ := hwp
      refine x_tald C Dy tab_4 g14 dX9_digest_58 ?_
      refine lv_istore (lv' := [(6, .int (tabF 4 v5.toNatClampNeg)), (0, .ref (wad (wdX E) 0)), (1, .long v1), (3, .ref (xtb E 4)), (4, .int v4), (5, .int v5)]) hx hb dX9_digest_59 lv (by decide) rfl (fun ls lv => ?_)
      refine lv_aload_n hx hb dX9_digest_61 rfl (lv_at lv 1 rfl) ?_
      refine lv_lload_n hx hb dX9_digest_62 rfl (lv_at lv 2 rfl) ?_
      refine lv_iload hx hb dX9_digest_63 (lv_at lv 0 rfl) ?_
      refine x_cont_l Dy (x_runV (As := [.long v1, .int (tabF 4 v5.toNatClampNeg)]) (rest := []) C Dy (m_X9_withYear E l _ _ v1 (tabF 4 v5.toNatClampNeg) _ hwp) (cw_X9_313 C rfl rfl ⟨Nat.le_trans (Nat.le_of_ble_eq_true rfl) hR.1, Nat.le_trans (Nat.le_of_ble_eq_true rfl) hR.2⟩) wx_0 rfl rfl lv.1 rfl (Nat.le_of_ble_eq_true rfl) dX9_digest_65 ⟨Nat.zero_le _, Nat.zero_le _⟩) (fun r15 h16 hl16 H locs hwp Dy => ?_)
      refine lv_lstore_n (lv' := [(1, .long r15), (6, .int (tabF 4 v5.toNatClampNeg)), (0, .ref (wad (wdX E) 0)), (3, .ref (xtb E 4)), (4, .int v4), (5, .int v5)]) hx hb dX9_digest_68 rfl lv (by decide) rfl (fun ls lv => ?_)
      refine lv_iinc (v := (v5 + (1 : Int32))) (lv' := [(5, .int (v5 + (1 : Int32))), (1, .long r15), (6, .int (tabF 4 v5.toNatClampNeg)), (0, .ref (wad (wdX E) 0)), (3, .ref (xtb E 4)), (4, .int v4)]) hx hb dX9_digest_69 lv (k := 5) rfl rfl (by decide) rfl (fun ls lv => ?_)
      refine lv_goto (tgt := 48) hx hb dX9_digest_72 (by decide) ?_
      exact ih h16 hl16 r15 v4 (v5 + (1 : Int32)) _ _ _ Dy (lv_sub lv [3, 1, 4, 5, 0] rfl) hwp
set_option maxHeartbeats 4000000 in
set_option maxRecDepth 100000 in
theorem t_X9_digest_6 (E : xE) {p : Program} {l : Launch} {e : Env} {R : Room} {s : State} {m : MethodId} {args : Array Value} {below : List Frame} {meth : Method} {c : Code} (C : mC (wdX E) p s m meth c args cX9_digest 7 RX9 (some .long)) (hR : 20 ≤ R.frames ∧ 530 ≤ R.locals)  (Qp : Int64 → Mem → MemL → Prop) : ∀ (n : Nat) (h : Mem) (hl : MemL) (v1 : Int64) (v3 : Int32) (H : Heap) (locs : List Loc) (ls : Array Slot), mD (wdX E) h hl s H locs → lv_has ls 7 [(0, .ref (wad (wdX E) 0)), (1, .long v1), (3, .int v3)] → b_X9_digest_6 n h hl v1 v3 Qp → W p l e R s m args below meth c H locs 0 0 (MQ below (mQl (wdX E) (fun r h1 hl1 => Qp r h1 hl1)) args s 0 0 (wA (wdX E))) (F0 m 6 ls []) := by
  have hx := C.x
  have hb := C.b
  intro n
  induction n with
  | zero => intro h hl v1 v3 H locs ls Dy lv hwp; exact hwp.elim
  | succ n ih =>
    intro h hl v1 v3 H locs ls Dy lv hwp
    simp only [b_X9_digest_6] at hwp
    refine lv_iload_n hx hb dX9_digest_6 rfl (lv_at lv 2 rfl) ?_
    refine lv_bipush (v := (8 : Int32)) hx hb dX9_digest_7 (by decide) ?_
    refine lv_icmp_ge (tgt := 31) hx hb dX9_digest_9 (by decide) (fun c1 => ?_) (fun c1 => ?_)
    · have hwp := hwp.1 c1
      refine lv_aload_n hx hb dX9_digest_31 rfl (lv_at lv 0 rfl) ?_
      refine lv_lload_n hx hb dX9_digest_32 rfl (lv_at lv 1 rfl) ?_
      refine x_cont_l Dy (x_runV (As := [.long v1]) (rest := []) C Dy (m_X9_withTexts E l _ _ v1 _ hwp) (cw_X9_306 C rfl rfl ⟨Nat.le_trans (Nat.le_of_ble_eq_true rfl) hR.1, Nat.le_trans (Nat.le_of_ble_eq_true rfl) hR.2⟩) wx_0 rfl rfl lv.1 rfl (Nat.le_of_ble_eq_true rfl) dX9_digest_33 ⟨Nat.zero_le _, Nat.zero_le _⟩) (fun r2 h3 hl3 H locs hwp Dy => ?_)
      obtain ⟨rfl, hwp⟩ := hwp
      refine lv_lstore_n (lv' := [(1, .long r2), (0, .ref (wad (wdX E) 0)), (3, .int v3)]) hx hb dX9_digest_36 rfl lv (by decide) rfl (fun ls lv => ?_)
      refine x_gets C Dy fld_4 k_788 dX9_digest_37 ?_
      refine lv_astore_n (lv' := [(3, .ref (xtb E 4)), (1, .long r2), (0, .ref (wad (wdX E) 0))]) hx hb dX9_digest_40 rfl lv (by decide) rfl (fun ls lv => ?_)
      refine lv_aload_n hx hb dX9_digest_41 rfl (lv_at lv 0 rfl) ?_
      refine x_tlen C Dy tab_4 rfl dX9_digest_42 ?_
      refine lv_istore (lv' := [(4, .int (Int32.ofNat 3)), (3, .ref (xtb E 4)), (1, .long r2), (0, .ref (wad (wdX E) 0))]) hx hb dX9_digest_43 lv (by decide) rfl (fun ls lv => ?_)
      refine lv_iconst (v := (0 : Int32)) hx hb dX9_digest_45 (by decide) ?_
      refine lv_istore (lv' := [(5, .int (0 : Int32)), (4, .int (Int32.ofNat 3)), (3, .ref (xtb E 4)), (1, .long r2), (0, .ref (wad (wdX E) 0))]) hx hb dX9_digest_46 lv (by decide) rfl (fun ls lv => ?_)
      obtain ⟨n0, hwp⟩ := hwp
      exact t_X9_digest_48 E C hR Qp n0 h3 hl r2 (Int32.ofNat 3) (0 : Int32) _ _ _ Dy (lv_sub lv [4, 3, 2, 1, 0] rfl) hwp
    · have hwp := hwp.2 c1
      refine lv_ldc2 hx hb C.ow (C.ts _ k_779) dX9_digest_12 ?_
      refine lv_lload_n hx hb dX9_digest_15 rfl (lv_at lv 1 rfl) ?_
      refine lv_lmul hx hb dX9_digest_16 ?_
      refine lv_aload_n hx hb dX9_digest_17 rfl (lv_at lv 0 rfl) ?_
      refine lv_iload_n hx hb dX9_digest_18 rfl (lv_at lv 2 rfl) ?_
      refine x_cont_i Dy (x_runV (As := [.int v3]) (rest := [.long ((31 : Int64) * v1)]) C Dy (m_X9_count E l _ _ v3 _ hwp) (cw_X9_303 C rfl rfl ⟨Nat.le_trans (Nat.le_of_ble_eq_true rfl) hR.1, Nat.le_trans (Nat.le_of_ble_eq_true rfl) hR.2⟩) wx_0 rfl rfl lv.1 rfl (Nat.le_of_ble_eq_true rfl) dX9_digest_19 ⟨Nat.zero_le _, Nat.zero_le _⟩) (fun r4 h5 hl5 H locs hwp Dy => ?_)
      obtain ⟨rfl, hwp⟩ := hwp
      refine lv_i2l hx hb dX9_digest_22 rfl ?_
      refine lv_ladd hx hb dX9_digest_23 ?_
      refine lv_topl (fun x6 ex6 => ?_)
      have hwp := hwp x6 ex6
      refine lv_lstore_n (lv' := [(1, .long x6), (0, .ref (wad (wdX E) 0)), (3, .int v3)]) hx hb dX9_digest_24 rfl lv (by decide) rfl (fun ls lv => ?_)
      refine lv_iinc (v := (v3 + (1 : Int32))) (lv' := [(3, .int (v3 + (1 : Int32))), (1, .long x6), (0, .ref (wad (wdX E) 0))]) hx hb dX9_digest_25 lv (k := 2) rfl rfl (by decide) rfl (fun ls lv => ?_)
      refine lv_goto (tgt := 6) hx hb dX9_digest_28 (by decide) ?_
      exact ih h5 hl x6 (v3 + (1 : Int32)) _ _ _ Dy (lv_sub lv [2, 1, 0] rfl) hwp
set_option maxHeartbeats 4000000 in
set_option maxRecDepth 100000 in
theorem m_X9_digest (E : xE) (l : Launch) (h : Mem) (hl : MemL) (Qp : Int64 → Mem → MemL → Prop) (hwp : p_X9_digest h hl Qp) : Met l yX9_digest (wsU yX9_digest cX9_digest 7 (some .long)) ({ frames := 20, cells := 0, slots := 0, locals := 530 } : Room) (mPc (wdX E) [.ref (wad (wdX E) 0)] h hl) (mQl (wdX E) (fun r h1 hl1 => Qp r h1 hl1)) 0 0 (wA (wdX E)) := by
  refine x_met RX9 [(0, .ref (wad (wdX E) 0))] (by decide) rfl (Nat.le_of_ble_eq_true rfl) rfl ?_
  intro p e s m args below meth c ls C Dy lv
  have hx := C.x
  have hb := C.b
  have hR : 20 ≤ ({ frames := 20, cells := 0, slots := 0, locals := 530 } : Room).frames ∧ 530 ≤ ({ frames := 20, cells := 0, slots := 0, locals := 530 } : Room).locals := ⟨Nat.le_refl _, Nat.le_refl _⟩
  unfold p_X9_digest at hwp
  refine lv_ldc2 hx hb C.ow (C.ts _ k_778) dX9_digest_0 ?_
  refine lv_lstore_n (lv' := [(1, .long (17 : Int64)), (0, .ref (wad (wdX E) 0))]) hx hb dX9_digest_3 rfl lv (by decide) rfl (fun ls lv => ?_)
  refine lv_iconst (v := (0 : Int32)) hx hb dX9_digest_4 (by decide) ?_
  refine lv_istore_n (lv' := [(3, .int (0 : Int32)), (1, .long (17 : Int64)), (0, .ref (wad (wdX E) 0))]) hx hb dX9_digest_5 rfl lv (by decide) rfl (fun ls lv => ?_)
  obtain ⟨n0, hwp⟩ := hwp
  exact t_X9_digest_6 E C hR Qp n0 h hl (17 : Int64) (0 : Int32) _ _ _ Dy (lv_sub lv [2, 1, 0] rfl) hwp
