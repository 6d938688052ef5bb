def b_X10_readsThing_90 (h : Mem) (v1 : Int32) (v2 : Int32) (v3 : Int32) (K25 : Mem → Int32 → Int32 → Int32 → Prop) (Qp : Int32 → Mem → Prop) : Prop := K25 (up2 h 0 7 ((h 0 7) + (1 : Int32))) v1 v2 (v3 + (1 : Int32))
def b_X10_readsThing_169 (h : Mem) (v1 : Int32) (Qp : Int32 → Mem → Prop) : Prop := (vp_in v1 2 ∧ (vp_in v1 2 ∧ Qp (1 : Int32) (up2 h 7 v1.toNatClampNeg ((h 7 v1.toNatClampNeg) + (1 : Int32)))))
def b_X10_readsThing_165 (h : Mem) (v1 : Int32) (w0 : Int32) (w1 : Int32) (Qp : Int32 → Mem → Prop) : Prop := b_X10_readsThing_169 (up2 h 0 7 (w1 + w0)) v1 Qp
def b_X10_readsThing_148 (h : Mem) (v1 : Int32) (v3 : Int32) (w0 : Int32) (w1 : Int32) (Qp : Int32 → Mem → Prop) : Prop := (vp_in w1 60 ∧ b_X10_readsThing_165 (up2 h 8 w1.toNatClampNeg w0) v1 (if v3 = (-9 : Int32) then (0 : Int32) else (1 : Int32)) ((up2 h 8 w1.toNatClampNeg w0) 0 7) Qp)
def b_X10_readsThing_25 : Nat → Mem → Int32 → Int32 → Int32 → (Int32 → Mem → Prop) → Prop
  | 0 => fun _ _ _ _ _ => False
  | n + 1 => fun h v1 v2 v3 Qp => ((v2 ≤ v3 → ((v1 = 0 → (p_X10_here h (0 : Int32) (fun r3 => (p_X10_within r3 (48 : Int32) (57 : Int32) (fun r5 => (vp_in (0 : Int32) 2 ∧ b_X10_readsThing_148 h v1 r5 (if r5 = (-9 : Int32) then (-1 : Int32) else r5) (((5 : Int32) * (h 7 (0 : Int32).toNatClampNeg)) + (4 : Int32)) Qp)))))) ∧ (¬ (v1 = 0) → b_X10_readsThing_169 h v1 Qp))) ∧ (¬ (v2 ≤ v3) → (p_X10_here h v1 (fun r9 => (p_X10_tellsOf v1 v3 r9 (fun r11 => ((0 ≤ r11 → ((v1 = 0 → (vp_in (0 : Int32) 2 ∧ (vp_in (((5 : Int32) * (h 7 (0 : Int32).toNatClampNeg)) + v3) 60 ∧ b_X10_readsThing_90 (up2 h 8 (((5 : Int32) * (h 7 (0 : Int32).toNatClampNeg)) + v3).toNatClampNeg r11) v1 v2 v3 (fun h v1 v2 v3 => b_X10_readsThing_25 n h v1 v2 v3 Qp) Qp))) ∧ (¬ (v1 = 0) → (vp_in (1 : Int32) 2 ∧ (vp_in (((3 : Int32) * (h 7 (1 : Int32).toNatClampNeg)) + v3) 36 ∧ b_X10_readsThing_90 (up2 h 9 (((3 : Int32) * (h 7 (1 : Int32).toNatClampNeg)) + v3).toNatClampNeg r11) v1 v2 v3 (fun h v1 v2 v3 => b_X10_readsThing_25 n h v1 v2 v3 Qp) Qp))))) ∧ (¬ (0 ≤ r11) → Qp (0 : Int32) h))))))))
def b_X10_readsThing_22 (h : Mem) (v1 : Int32) (w0 : Int32) (Qp : Int32 → Mem → Prop) : Prop := (∃ n25, b_X10_readsThing_25 n25 h v1 w0 (0 : Int32) Qp)
def p_X10_readsThing (h : Mem) (v1 : Int32) (Qp : Int32 → Mem → Prop) : Prop := (vp_in v1 2 ∧ (((h 7 v1.toNatClampNeg) = (12 : Int32) → Qp (0 : Int32) h) ∧ (¬ ((h 7 v1.toNatClampNeg) = (12 : Int32)) → b_X10_readsThing_22 h v1 (if v1 = 0 then (4 : Int32) else (3 : Int32)) Qp)))
set_option maxHeartbeats 4000000 in
set_option maxRecDepth 100000 in
theorem t_X10_readsThing_90 (E : xE) {p : Program} {l : Launch} {e : Env} {R : Room} {s : State} {m : MethodId} {args : Array Value} {below : List Frame} {meth : Method} {c : Code} (C : mC (wdM E) p s m meth c args cX10_readsThing 5 RX10 (some .boolean)) (hR : 3 ≤ R.frames ∧ 69 ≤ R.locals) {hl : MemL} (Qp : Int32 → Mem → Prop) (K25 : Mem → Int32 → Int32 → Int32 → Prop) (hK25 : ∀ (h : Mem) (v1 : Int32) (v2 : Int32) (v3 : Int32) (H : Heap) (locs : List Loc) (ls : Array Slot), mD (wdM E) h hl s H locs → lv_has ls 5 [(0, .ref (wad (wdM E) 0)), (1, .int v1), (2, .int v2), (3, .int v3)] → K25 h v1 v2 v3 → W p l e R s m args below meth c H locs 0 0 (MQ below (mQz (wdM E) (fun r h1 hl1 => hl = hl1 ∧ Qp r h1)) args s 0 0 (wA (wdM E))) (F0 m 25 ls [])) : ∀ (h : Mem) (v1 : Int32) (v2 : Int32) (v3 : Int32) (H : Heap) (locs : List Loc) (ls : Array Slot), mD (wdM E) h hl s H locs → lv_has ls 5 [(0, .ref (wad (wdM E) 0)), (1, .int v1), (2, .int v2), (3, .int v3)] → b_X10_readsThing_90 h v1 v2 v3 K25 Qp → W p l e R s m args below meth c H locs 0 0 (MQ below (mQz (wdM E) (fun r h1 hl1 => hl = hl1 ∧ Qp r h1)) args s 0 0 (wA (wdM E))) (F0 m 90 ls []) := by
  have hx := C.x
  have hb := C.b
  intro h v1 v2 v3 H locs ls Dy lv hwp
  unfold b_X10_readsThing_90 at hwp
  refine lv_aload_n hx hb dX10_readsThing_90 rfl (lv_at lv 0 rfl) ?_
  refine lv_dup hx hb dX10_readsThing_91 rfl ?_
  refine gf_X10_100_0 C Dy dX10_readsThing_92 ?_
  refine lv_iconst (v := (1 : Int32)) hx hb dX10_readsThing_95 (by decide) ?_
  refine lv_iadd hx hb dX10_readsThing_96 ?_
  refine pf_X10_100_0 C Dy dX10_readsThing_97 (fun H locs Dy => ?_)
  refine lv_iinc (v := (v3 + (1 : Int32))) (lv' := [(3, .int (v3 + (1 : Int32))), (0, .ref (wad (wdM E) 0)), (1, .int v1), (2, .int v2)]) hx hb dX10_readsThing_100 lv (k := 3) rfl rfl (by decide) rfl (fun ls lv => ?_)
  refine lv_goto (tgt := 25) hx hb dX10_readsThing_103 (by decide) ?_
  exact hK25 (up2 h 0 7 ((h 0 7) + (1 : Int32))) v1 v2 (v3 + (1 : Int32)) _ _ _ Dy (lv_sub lv [1, 2, 3, 0] rfl) hwp
set_option maxHeartbeats 4000000 in
set_option maxRecDepth 100000 in
theorem t_X10_readsThing_169 (E : xE) {p : Program} {l : Launch} {e : Env} {R : Room} {s : State} {m : MethodId} {args : Array Value} {below : List Frame} {meth : Method} {c : Code} (C : mC (wdM E) p s m meth c args cX10_readsThing 5 RX10 (some .boolean)) (hR : 3 ≤ R.frames ∧ 69 ≤ R.locals) {hl : MemL} (Qp : Int32 → Mem → Prop) : ∀ (h : Mem) (v1 : Int32) (H : Heap) (locs : List Loc) (ls : Array Slot), mD (wdM E) h hl s H locs → lv_has ls 5 [(0, .ref (wad (wdM E) 0)), (1, .int v1)] → b_X10_readsThing_169 h v1 Qp → W p l e R s m args below meth c H locs 0 0 (MQ below (mQz (wdM E) (fun r h1 hl1 => hl = hl1 ∧ Qp r h1)) args s 0 0 (wA (wdM E))) (F0 m 169 ls []) := by
  have hx := C.x
  have hb := C.b
  intro h v1 H locs ls Dy lv hwp
  unfold b_X10_readsThing_169 at hwp
  refine lv_aload_n hx hb dX10_readsThing_169 rfl (lv_at lv 0 rfl) ?_
  refine gf_X10_28_0 C Dy dX10_readsThing_170 ?_
  refine lv_iload_n hx hb dX10_readsThing_173 rfl (lv_at lv 1 rfl) ?_
  refine lv_dup2_11 hx hb dX10_readsThing_174 rfl rfl ?_
  obtain ⟨g21, hwp⟩ := hwp
  refine x_iald C Dy wma_7 g21 dX10_readsThing_175 ?_
  refine lv_iconst (v := (1 : Int32)) hx hb dX10_readsThing_176 (by decide) ?_
  refine lv_iadd hx hb dX10_readsThing_177 ?_
  obtain ⟨g22, hwp⟩ := hwp
  refine x_iast C Dy wma_7 g22 dX10_readsThing_178 (fun H locs Dy => ?_)
  refine lv_iconst (v := (1 : Int32)) hx hb dX10_readsThing_179 (by decide) ?_
  exact x_zret C Dy z01_1 ⟨rfl, hwp⟩ dX10_readsThing_180
set_option maxHeartbeats 4000000 in
set_option maxRecDepth 100000 in
theorem t_X10_readsThing_165 (E : xE) {p : Program} {l : Launch} {e : Env} {R : Room} {s : State} {m : MethodId} {args : Array Value} {below : List Frame} {meth : Method} {c : Code} (C : mC (wdM E) p s m meth c args cX10_readsThing 5 RX10 (some .boolean)) (hR : 3 ≤ R.frames ∧ 69 ≤ R.locals) {hl : MemL} (Qp : Int32 → Mem → Prop) : ∀ (h : Mem) (v1 : Int32) (w0 : Int32) (w1 : Int32) (H : Heap) (locs : List Loc) (ls : Array Slot), mD (wdM E) h hl s H locs → lv_has ls 5 [(0, .ref (wad (wdM E) 0)), (1, .int v1)] → b_X10_readsThing_165 h v1 w0 w1 Qp → W p l e R s m args below meth c H locs 0 0 (MQ below (mQz (wdM E) (fun r h1 hl1 => hl = hl1 ∧ Qp r h1)) args s 0 0 (wA (wdM E))) (F0 m 165 ls [.int w0, .int w1, .ref (wad (wdM E) 0)]) := by
  have hx := C.x
  have hb := C.b
  intro h v1 w0 w1 H locs ls Dy lv hwp
  unfold b_X10_readsThing_165 at hwp
  refine lv_iadd hx hb dX10_readsThing_165 ?_
  refine pf_X10_100_0 C Dy dX10_readsThing_166 (fun H locs Dy => ?_)
  exact t_X10_readsThing_169 E C hR Qp (up2 h 0 7 (w1 + w0)) v1 _ _ _ Dy (lv_sub lv [0, 1] rfl) hwp
set_option maxHeartbeats 4000000 in
set_option maxRecDepth 100000 in
theorem t_X10_readsThing_148 (E : xE) {p : Program} {l : Launch} {e : Env} {R : Room} {s : State} {m : MethodId} {args : Array Value} {below : List Frame} {meth : Method} {c : Code} (C : mC (wdM E) p s m meth c args cX10_readsThing 5 RX10 (some .boolean)) (hR : 3 ≤ R.frames ∧ 69 ≤ R.locals) {hl : MemL} (Qp : Int32 → Mem → Prop) : ∀ (h : Mem) (v1 : Int32) (v3 : Int32) (w0 : Int32) (w1 : Int32) (H : Heap) (locs : List Loc) (ls : Array Slot), mD (wdM E) h hl s H locs → lv_has ls 5 [(0, .ref (wad (wdM E) 0)), (1, .int v1), (3, .int v3)] → b_X10_readsThing_148 h v1 v3 w0 w1 Qp → W p l e R s m args below meth c H locs 0 0 (MQ below (mQz (wdM E) (fun r h1 hl1 => hl = hl1 ∧ Qp r h1)) args s 0 0 (wA (wdM E))) (F0 m 148 ls [.int w0, .int w1, .ref (wad (wdM E) 8)]) := by
  have hx := C.x
  have hb := C.b
  intro h v1 v3 w0 w1 H locs ls Dy lv hwp
  unfold b_X10_readsThing_148 at hwp
  obtain ⟨g19, hwp⟩ := hwp
  refine x_iast C Dy wma_8 g19 dX10_readsThing_148 (fun H locs Dy => ?_)
  refine lv_aload_n hx hb dX10_readsThing_149 rfl (lv_at lv 0 rfl) ?_
  refine lv_dup hx hb dX10_readsThing_150 rfl ?_
  refine gf_X10_100_0 C Dy dX10_readsThing_151 ?_
  refine lv_iload_n hx hb dX10_readsThing_154 rfl (lv_at lv 2 rfl) ?_
  refine lv_bipush (v := (-9 : Int32)) hx hb dX10_readsThing_155 (by decide) ?_
  refine lv_icmp_ne (tgt := 164) hx hb dX10_readsThing_157 (by decide) (fun c20 => ?_) (fun c20 => ?_)
  · try simp only [if_neg c20] at hwp
    refine lv_iconst (v := (1 : Int32)) hx hb dX10_readsThing_164 (by decide) ?_
    exact t_X10_readsThing_165 E C hR Qp (up2 h 8 w1.toNatClampNeg w0) v1 (1 : Int32) ((up2 h 8 w1.toNatClampNeg w0) 0 7) _ _ _ Dy (lv_sub lv [0, 1] rfl) hwp
  · try simp only [if_pos c20] at hwp
    refine lv_iconst (v := (0 : Int32)) hx hb dX10_readsThing_160 (by decide) ?_
    refine lv_goto (tgt := 165) hx hb dX10_readsThing_161 (by decide) ?_
    exact t_X10_readsThing_165 E C hR Qp (up2 h 8 w1.toNatClampNeg w0) v1 (0 : Int32) ((up2 h 8 w1.toNatClampNeg w0) 0 7) _ _ _ Dy (lv_sub lv [0, 1] rfl) hwp
set_option maxHeartbeats 4000000 in
set_option maxRecDepth 100000 in
theorem t_X10_readsThing_25 (E : xE) {p : Program} {l : Launch} {e : Env} {R : Room} {s : State} {m : MethodId} {args : Array Value} {below : List Frame} {meth : Method} {c : Code} (C : mC (wdM E) p s m meth c args cX10_readsThing 5 RX10 (some .boolean)) (hR : 3 ≤ R.frames ∧ 69 ≤ R.locals) {hl : MemL} (Qp : Int32 → Mem → Prop) : ∀ (n : Nat) (h : Mem) (v1 : Int32) (v2 : Int32) (v3 : Int32) (H : Heap) (locs : List Loc) (ls : Array Slot), mD (wdM E) h hl s H locs → lv_has ls 5 [(0, .ref (wad (wdM E) 0)), (1, .int v1), (2, .int v2), (3, .int v3)] → b_X10_readsThing_25 n h v1 v2 v3 Qp → W p l e R s m args below meth c H locs 0 0 (MQ below (mQz (wdM E) (fun r h1 hl1 => hl = hl1 ∧ Qp r h1)) args s 0 0 (wA (wdM E))) (F0 m 25 ls []) := by
  have hx := C.x
  have hb := C.b
  intro n
  induction n with
  | zero => intro h v1 v2 v3 H locs ls Dy lv hwp; exact hwp.elim
  | succ n ih =>
    intro h v1 v2 v3 H locs ls Dy lv hwp
    simp only [b_X10_readsThing_25] at hwp
    refine lv_iload_n hx hb dX10_readsThing_25 rfl (lv_at lv 3 rfl) ?_
    refine lv_iload_n hx hb dX10_readsThing_26 rfl (lv_at lv 2 rfl) ?_
    refine lv_icmp_ge (tgt := 106) hx hb dX10_readsThing_27 (by decide) (fun c1 => ?_) (fun c1 => ?_)
    · have hwp := hwp.1 c1
      refine lv_iload_n hx hb dX10_readsThing_106 rfl (lv_at lv 1 rfl) ?_
      refine lv_if_ne (tgt := 169) hx hb dX10_readsThing_107 (by decide) (fun c2 => ?_) (fun c2 => ?_)
      · have hwp := hwp.2 c2
        exact t_X10_readsThing_169 E C hR Qp h v1 _ _ _ Dy (lv_sub lv [0, 1] rfl) hwp
      · have hwp := hwp.1 c2
        refine lv_aload_n hx hb dX10_readsThing_110 rfl (lv_at lv 0 rfl) ?_
        refine lv_iconst (v := (0 : Int32)) hx hb dX10_readsThing_111 (by decide) ?_
        refine x_cont_i Dy (x_runV (As := [.int (0 : Int32)]) (rest := []) C Dy (m_X10_here E l _ _ (0 : Int32) _ hwp) (cw_X10_106 C rfl rfl ⟨Nat.le_trans (Nat.le_of_ble_eq_true rfl) hR.1, Nat.le_trans (Nat.le_of_ble_eq_true rfl) hR.2⟩) wm_0 rfl rfl lv.1 rfl (Nat.le_of_ble_eq_true rfl) dX10_readsThing_112 ⟨Nat.zero_le _, Nat.zero_le _⟩) (fun r3 h4 hl4 H locs hwp Dy => ?_)
        obtain ⟨rfl, rfl, hwp⟩ := hwp
        refine lv_bipush (v := (48 : Int32)) hx hb dX10_readsThing_115 (by decide) ?_
        refine lv_bipush (v := (57 : Int32)) hx hb dX10_readsThing_117 (by decide) ?_
        refine x_cont_i Dy (x_runS (As := [.int r3, .int (48 : Int32), .int (57 : Int32)]) (rest := []) C Dy (m_X10_within E l _ _ r3 (48 : Int32) (57 : Int32) _ hwp) (cw_X10_103 C rfl rfl ⟨Nat.le_trans (Nat.le_of_ble_eq_true rfl) hR.1, Nat.le_trans (Nat.le_of_ble_eq_true rfl) hR.2⟩) rfl lv.1 rfl (Nat.le_of_ble_eq_true rfl) dX10_readsThing_119 ⟨Nat.zero_le _, Nat.zero_le _⟩) (fun r5 h6 hl6 H locs hwp Dy => ?_)
        obtain ⟨rfl, rfl, hwp⟩ := hwp
        refine lv_istore_n (lv' := [(3, .int r5), (0, .ref (wad (wdM E) 0)), (1, .int v1), (2, .int v2)]) hx hb dX10_readsThing_122 rfl lv (by decide) rfl (fun ls lv => ?_)
        refine lv_aload_n hx hb dX10_readsThing_123 rfl (lv_at lv 1 rfl) ?_
        refine gf_X10_31_0 C Dy dX10_readsThing_124 ?_
        refine lv_iconst (v := (5 : Int32)) hx hb dX10_readsThing_127 (by decide) ?_
        refine lv_aload_n hx hb dX10_readsThing_128 rfl (lv_at lv 1 rfl) ?_
        refine gf_X10_28_0 C Dy dX10_readsThing_129 ?_
        refine lv_iconst (v := (0 : Int32)) hx hb dX10_readsThing_132 (by decide) ?_
        obtain ⟨g7, hwp⟩ := hwp
        refine x_iald C Dy wma_7 g7 dX10_readsThing_133 ?_
        refine lv_imul hx hb dX10_readsThing_134 ?_
        refine lv_iconst (v := (4 : Int32)) hx hb dX10_readsThing_135 (by decide) ?_
        refine lv_iadd hx hb dX10_readsThing_136 ?_
        refine lv_iload_n hx hb dX10_readsThing_137 rfl (lv_at lv 0 rfl) ?_
        refine lv_bipush (v := (-9 : Int32)) hx hb dX10_readsThing_138 (by decide) ?_
        refine lv_icmp_ne (tgt := 147) hx hb dX10_readsThing_140 (by decide) (fun c8 => ?_) (fun c8 => ?_)
        · try simp only [if_neg c8] at hwp
          refine lv_iload_n hx hb dX10_readsThing_147 rfl (lv_at lv 0 rfl) ?_
          exact t_X10_readsThing_148 E C hR Qp h v1 r5 r5 (((5 : Int32) * (h 7 (0 : Int32).toNatClampNeg)) + (4 : Int32)) _ _ _ Dy (lv_sub lv [1, 2, 0] rfl) hwp
        · try simp only [if_pos c8] at hwp
          refine lv_iconst (v := (-1 : Int32)) hx hb dX10_readsThing_143 (by decide) ?_
          refine lv_goto (tgt := 148) hx hb dX10_readsThing_144 (by decide) ?_
          exact t_X10_readsThing_148 E C hR Qp h v1 r5 (-1 : Int32) (((5 : Int32) * (h 7 (0 : Int32).toNatClampNeg)) + (4 : Int32)) _ _ _ Dy (lv_sub lv [1, 2, 0] rfl) hwp
    · have hwp := hwp.2 c1
      refine lv_iload_n hx hb dX10_readsThing_30 rfl (lv_at lv 1 rfl) ?_
      refine lv_iload_n hx hb dX10_readsThing_31 rfl (lv_at lv 3 rfl) ?_
      refine lv_aload_n hx hb dX10_readsThing_32 rfl (lv_at lv 0 rfl) ?_
      refine lv_iload_n hx hb dX10_readsThing_33 rfl (lv_at lv 1 rfl) ?_
      refine x_cont_i Dy (x_runV (As := [.int v1]) (rest := [.int v3, .int v1]) C Dy (m_X10_here E l _ _ v1 _ hwp) (cw_X10_106 C rfl rfl ⟨Nat.le_trans (Nat.le_of_ble_eq_true rfl) hR.1, Nat.le_trans (Nat.le_of_ble_eq_true rfl) hR.2⟩) wm_0 rfl rfl lv.1 rfl (Nat.le_of_ble_eq_true rfl) dX10_readsThing_34 ⟨Nat.zero_le _, Nat.zero_le _⟩) (fun r9 h10 hl10 H locs hwp Dy => ?_)
      obtain ⟨rfl, rfl, hwp⟩ := hwp
      refine x_cont_i Dy (x_runS (As := [.int v1, .int v3, .int r9]) (rest := []) C Dy (m_X10_tellsOf E l _ _ v1 v3 r9 _ hwp) (cw_X10_109 C rfl rfl ⟨Nat.le_trans (Nat.le_of_ble_eq_true rfl) hR.1, Nat.le_trans (Nat.le_of_ble_eq_true rfl) hR.2⟩) rfl lv.1 rfl (Nat.le_of_ble_eq_true rfl) dX10_readsThing_37 ⟨Nat.zero_le _, Nat.zero_le _⟩) (fun r11 h12 hl12 H locs hwp Dy => ?_)
      obtain ⟨rfl, rfl, hwp⟩ := hwp
      refine lv_istore (lv' := [(4, .int r11), (0, .ref (wad (wdM E) 0)), (1, .int v1), (2, .int v2), (3, .int v3)]) hx hb dX10_readsThing_40 lv (by decide) rfl (fun ls lv => ?_)
      refine lv_iload hx hb dX10_readsThing_42 (lv_at lv 0 rfl) ?_
      refine lv_if_ge (tgt := 49) hx hb dX10_readsThing_44 (by decide) (fun c13 => ?_) (fun c13 => ?_)
      · have hwp := hwp.1 c13
        refine lv_iload_n hx hb dX10_readsThing_49 rfl (lv_at lv 2 rfl) ?_
        refine lv_if_ne (tgt := 73) hx hb dX10_readsThing_50 (by decide) (fun c14 => ?_) (fun c14 => ?_)
        · have hwp := hwp.2 c14
          refine lv_aload_n hx hb dX10_readsThing_73 rfl (lv_at lv 1 rfl) ?_
          refine gf_X10_34_0 C Dy dX10_readsThing_74 ?_
          refine lv_iconst (v := (3 : Int32)) hx hb dX10_readsThing_77 (by decide) ?_
          refine lv_aload_n hx hb dX10_readsThing_78 rfl (lv_at lv 1 rfl) ?_
          refine gf_X10_28_0 C Dy dX10_readsThing_79 ?_
          refine lv_iconst (v := (1 : Int32)) hx hb dX10_readsThing_82 (by decide) ?_
          obtain ⟨g15, hwp⟩ := hwp
          refine x_iald C Dy wma_7 g15 dX10_readsThing_83 ?_
          refine lv_imul hx hb dX10_readsThing_84 ?_
          refine lv_iload_n hx hb dX10_readsThing_85 rfl (lv_at lv 4 rfl) ?_
          refine lv_iadd hx hb dX10_readsThing_86 ?_
          refine lv_iload hx hb dX10_readsThing_87 (lv_at lv 0 rfl) ?_
          obtain ⟨g16, hwp⟩ := hwp
          refine x_iast C Dy wma_9 g16 dX10_readsThing_89 (fun H locs Dy => ?_)
          exact t_X10_readsThing_90 E C hR Qp (fun h v1 v2 v3 => b_X10_readsThing_25 n h v1 v2 v3 Qp) (fun h v1 v2 v3 H locs ls Dy lv hwp => ih h v1 v2 v3 H locs ls Dy lv hwp) (up2 h 9 (((3 : Int32) * (h 7 (1 : Int32).toNatClampNeg)) + v3).toNatClampNeg r11) v1 v2 v3 _ _ _ Dy (lv_sub lv [1, 2, 3, 4] rfl) hwp
        · have hwp := hwp.1 c14
          refine lv_aload_n hx hb dX10_readsThing_53 rfl (lv_at lv 1 rfl) ?_
          refine gf_X10_31_0 C Dy dX10_readsThing_54 ?_
          refine lv_iconst (v := (5 : Int32)) hx hb dX10_readsThing_57 (by decide) ?_
          refine lv_aload_n hx hb dX10_readsThing_58 rfl (lv_at lv 1 rfl) ?_
          refine gf_X10_28_0 C Dy dX10_readsThing_59 ?_
          refine lv_iconst (v := (0 : Int32)) hx hb dX10_readsThing_62 (by decide) ?_
          obtain ⟨g17, hwp⟩ := hwp
          refine x_iald C Dy wma_7 g17 dX10_readsThing_63 ?_
          refine lv_imul hx hb dX10_readsThing_64 ?_
          refine lv_iload_n hx hb dX10_readsThing_65 rfl (lv_at lv 4 rfl) ?_
          refine lv_iadd hx hb dX10_readsThing_66 ?_
          refine lv_iload hx hb dX10_readsThing_67 (lv_at lv 0 rfl) ?_
          obtain ⟨g18, hwp⟩ := hwp
          refine x_iast C Dy wma_8 g18 dX10_readsThing_69 (fun H locs Dy => ?_)
          refine lv_goto (tgt := 90) hx hb dX10_readsThing_70 (by decide) ?_
          exact t_X10_readsThing_90 E C hR Qp (fun h v1 v2 v3 => b_X10_readsThing_25 n h v1 v2 v3 Qp) (fun h v1 v2 v3 H locs ls Dy lv hwp => ih h v1 v2 v3 H locs ls Dy lv hwp) (up2 h 8 (((5 : Int32) * (h 7 (0 : Int32).toNatClampNeg)) + v3).toNatClampNeg r11) v1 v2 v3 _ _ _ Dy (lv_sub lv [1, 2, 3, 4] rfl) hwp
      · have hwp := hwp.2 c13
        refine lv_iconst (v := (0 : Int32)) hx hb dX10_readsThing_47 (by decide) ?_
        exact x_zret C Dy z01_0 ⟨rfl, hwp⟩ dX10_readsThing_48
set_option maxHeartbeats 4000000 in
set_option maxRecDepth 100000 in
theorem t_X10_readsThing_22 (E : xE) {p : Program} {l : Launch} {e : Env} {R : Room} {s : State} {m : MethodId} {args : Array Value} {below : List Frame} {meth : Method} {c : Code} (C : mC (wdM E) p s m meth c args cX10_readsThing 5 RX10 (some .boolean)) (hR : 3 ≤ R.frames ∧ 69 ≤ R.locals) {hl : MemL} (Qp : Int32 → Mem → Prop) : ∀ (h : Mem) (v1 : Int32) (w0 : Int32) (H : Heap) (locs : List Loc) (ls : Array Slot), mD (wdM E) h hl s H locs → lv_has ls 5 [(0, .ref (wad (wdM E) 0)), (1, .int v1)] → b_X10_readsThing_22 h v1 w0 Qp → W p l e R s m args below meth c H locs 0 0 (MQ below (mQz (wdM E) (fun r h1 hl1 => hl = hl1 ∧ Qp r h1)) args s 0 0 (wA (wdM E))) (F0 m 22 ls [.int w0]) := by
  have hx := C.x
  have hb := C.b
  intro h v1 w0 H locs ls Dy lv hwp
  unfold b_X10_readsThing_22 at hwp
  refine lv_istore_n (lv' := [(2, .int w0), (0, .ref (wad (wdM E) 0)), (1, .int v1)]) hx hb dX10_readsThing_22 rfl lv (by decide) rfl (fun ls lv => ?_)
  refine lv_iconst (v := (0 : Int32)) hx hb dX10_readsThing_23 (by decide) ?_
  refine lv_istore_n (lv' := [(3, .int (0 : Int32)), (2, .int w0), (0, .ref (wad (wdM E) 0)), (1, .int v1)]) hx hb dX10_readsThing_24 rfl lv (by decide) rfl (fun ls lv => ?_)
  obtain ⟨n0, hwp⟩ := hwp
  exact t_X10_readsThing_25 E C hR Qp n0 h v1 w0 (0 : Int32) _ _ _ Dy (lv_sub lv [2, 3, 1, 0] rfl) hwp
set_option maxHeartbeats 4000000 in
set_option maxRecDepth 100000 in
theorem m_X10_readsThing (E : xE) (l : Launch) (h : Mem) (hl : MemL) (v1 : Int32) (Qp : Int32 → Mem → Prop) (hwp : p_X10_readsThing h v1 Qp) : Met l yX10_readsThing (wsU yX10_readsThing cX10_readsThing 5 (some .boolean)) ({ frames := 3, cells := 0, slots := 0, locals := 69 } : Room) (mPc (wdM E) [.ref (wad (wdM E) 0), .int v1] h hl) (mQz (wdM E) (fun r h1 hl1 => hl = hl1 ∧ Qp r h1)) 0 0 (wA (wdM E)) := by
  refine x_met RX10 [(0, .ref (wad (wdM E) 0)), (1, .int v1)] (by decide) rfl (Nat.le_of_ble_eq_true rfl) rfl ?_
  intro p e s m args below meth c ls C Dy lv
  have hx := C.x
  have hb := C.b
  have hR : 3 ≤ ({ frames := 3, cells := 0, slots := 0, locals := 69 } : Room).frames ∧ 69 ≤ ({ frames := 3, cells := 0, slots := 0, locals := 69 } : Room).locals := ⟨Nat.le_refl _, Nat.le_refl _⟩
  unfold p_X10_readsThing at hwp
  refine lv_aload_n hx hb dX10_readsThing_0 rfl (lv_at lv 0 rfl) ?_
  refine gf_X10_28_0 C Dy dX10_readsThing_1 ?_
  refine lv_iload_n hx hb dX10_readsThing_4 rfl (lv_at lv 1 rfl) ?_
  obtain ⟨g23, hwp⟩ := hwp
  refine x_iald C Dy wma_7 g23 dX10_readsThing_5 ?_
  refine lv_bipush (v := (12 : Int32)) hx hb dX10_readsThing_6 (by decide) ?_
  refine lv_icmp_ne (tgt := 13) hx hb dX10_readsThing_8 (by decide) (fun c24 => ?_) (fun c24 => ?_)
  · have hwp := hwp.2 c24
    refine lv_iload_n hx hb dX10_readsThing_13 rfl (lv_at lv 1 rfl) ?_
    refine lv_if_ne (tgt := 21) hx hb dX10_readsThing_14 (by decide) (fun c25 => ?_) (fun c25 => ?_)
    · try simp only [if_neg c25] at hwp
      refine lv_iconst (v := (3 : Int32)) hx hb dX10_readsThing_21 (by decide) ?_
      exact t_X10_readsThing_22 E C hR Qp h v1 (3 : Int32) _ _ _ Dy (lv_sub lv [0, 1] rfl) hwp
    · try simp only [if_pos c25] at hwp
      refine lv_iconst (v := (4 : Int32)) hx hb dX10_readsThing_17 (by decide) ?_
      refine lv_goto (tgt := 22) hx hb dX10_readsThing_18 (by decide) ?_
      exact t_X10_readsThing_22 E C hR Qp h v1 (4 : Int32) _ _ _ Dy (lv_sub lv [0, 1] rfl) hwp
  · have hwp := hwp.1 c24
    refine lv_iconst (v := (0 : Int32)) hx hb dX10_readsThing_11 (by decide) ?_
    exact x_zret C Dy z01_0 ⟨rfl, hwp⟩ dX10_readsThing_12
def b_X10_readsText_78 (h : Mem) (v1 : Int32) (Qp : Int32 → Mem → Prop) : Prop := (vp_in v1 2 ∧ Qp ((up2 h 7 v1.toNatClampNeg (0 : Int32)) 0 7) (up2 h 7 v1.toNatClampNeg (0 : Int32)))
def b_X10_readsText_104 (h : Mem) (v1 : Int32) (v2 : Int32) (w0 : Int32) (w1 : Int32) (K27 : Mem → Int32 → Int32 → Prop) (Qp : Int32 → Mem → Prop) : Prop := K27 (up2 h 0 7 (w1 + w0)) v1 v2
def b_X10_readsText_90 (h : Mem) (v1 : Int32) (v2 : Int32) (K27 : Mem → Int32 → Int32 → Prop) (Qp : Int32 → Mem → Prop) : Prop := b_X10_readsText_104 h v1 v2 (if v2 = 0 then (0 : Int32) else (1 : Int32)) (h 0 7) K27 Qp
def b_X10_readsText_59 (h : Mem) (v1 : Int32) (v3 : Int32) (w0 : Int32) (K27 : Mem → Int32 → Int32 → Prop) (Qp : Int32 → Mem → Prop) : Prop := ((v3 = 0 → b_X10_readsText_78 h v1 Qp) ∧ (¬ (v3 = 0) → ((w0 = 0 → b_X10_readsText_90 h v1 w0 K27 Qp) ∧ (¬ (w0 = 0) → (p_X10_here h v1 (fun r9 => ((r9 = (59 : Int32) → b_X10_readsText_90 h v1 w0 K27 Qp) ∧ (¬ (r9 = (59 : Int32)) → b_X10_readsText_78 h v1 Qp))))))))
def b_X10_readsText_58 (h : Mem) (v1 : Int32) (v3 : Int32) (K27 : Mem → Int32 → Int32 → Prop) (Qp : Int32 → Mem → Prop) : Prop := b_X10_readsText_59 h v1 v3 (0 : Int32) K27 Qp
def b_X10_readsText_27 : Nat → Mem → Int32 → Int32 → (Int32 → Mem → Prop) → Prop
  | 0 => fun _ _ _ _ => False
  | n + 1 => fun h v1 v2 Qp => ((v2 = 0 → Qp (-1 : Int32) h) ∧ (¬ (v2 = 0) → (p_X10_readsThing h v1 (fun r2 h3 => ((r2 = 0 → b_X10_readsText_58 h3 v1 r2 (fun h v1 v2 => b_X10_readsText_27 n h v1 v2 Qp) Qp) ∧ (¬ (r2 = 0) → (vp_in v1 2 ∧ (((h3 6 v1.toNatClampNeg) ≤ (h3 0 7) → b_X10_readsText_58 h3 v1 r2 (fun h v1 v2 => b_X10_readsText_27 n h v1 v2 Qp) Qp) ∧ (¬ ((h3 6 v1.toNatClampNeg) ≤ (h3 0 7)) → b_X10_readsText_59 h3 v1 r2 (1 : Int32) (fun h v1 v2 => b_X10_readsText_27 n h v1 v2 Qp) Qp)))))))))
def b_X10_readsText_26 (h : Mem) (v1 : Int32) (w0 : Int32) (Qp : Int32 → Mem → Prop) : Prop := (∃ n27, b_X10_readsText_27 n27 h v1 w0 Qp)
def p_X10_readsText (h : Mem) (v1 : Int32) (Qp : Int32 → Mem → Prop) : Prop := (vp_in v1 2 ∧ (vp_in v1 2 ∧ b_X10_readsText_26 (up2 (up2 h 0 7 (0 : Int32)) 7 v1.toNatClampNeg (0 : Int32)) v1 (if ((up2 (up2 h 0 7 (0 : Int32)) 7 v1.toNatClampNeg (0 : Int32)) 6 v1.toNatClampNeg) ≤ 0 then (0 : Int32) else (1 : Int32)) Qp))
set_option maxHeartbeats 4000000 in
set_option maxRecDepth 100000 in
theorem t_X10_readsText_78 (E : xE) {p : Program} {l : Launch} {e : Env} {R : Room} {s : State} {m : MethodId} {args : Array Value} {below : List Frame} {meth : Method} {c : Code} (C : mC (wdM E) p s m meth c args cX10_readsText 4 RX10 (some .int)) (hR : 4 ≤ R.frames ∧ 93 ≤ R.locals) {hl : MemL} (Qp : Int32 → Mem → Prop) : ∀ (h : Mem) (v1 : Int32) (H : Heap) (locs : List Loc) (ls : Array Slot), mD (wdM E) h hl s H locs → lv_has ls 4 [(0, .ref (wad (wdM E) 0)), (1, .int v1)] → b_X10_readsText_78 h v1 Qp → W p l e R s m args below meth c H locs 0 0 (MQ below (mQi (wdM E) (fun r h1 hl1 => hl = hl1 ∧ Qp r h1)) args s 0 0 (wA (wdM E))) (F0 m 78 ls []) := by
  have hx := C.x
  have hb := C.b
  intro h v1 H locs ls Dy lv hwp
  unfold b_X10_readsText_78 at hwp
  refine lv_aload_n hx hb dX10_readsText_78 rfl (lv_at lv 0 rfl) ?_
  refine gf_X10_28_0 C Dy dX10_readsText_79 ?_
  refine lv_iload_n hx hb dX10_readsText_82 rfl (lv_at lv 1 rfl) ?_
  refine lv_iconst (v := (0 : Int32)) hx hb dX10_readsText_83 (by decide) ?_
  obtain ⟨g12, hwp⟩ := hwp
  refine x_iast C Dy wma_7 g12 dX10_readsText_84 (fun H locs Dy => ?_)
  refine lv_aload_n hx hb dX10_readsText_85 rfl (lv_at lv 0 rfl) ?_
  refine gf_X10_100_0 C Dy dX10_readsText_86 ?_
  exact x_iret C Dy ⟨rfl, hwp⟩ dX10_readsText_89
set_option maxHeartbeats 4000000 in
set_option maxRecDepth 100000 in
theorem t_X10_readsText_104 (E : xE) {p : Program} {l : Launch} {e : Env} {R : Room} {s : State} {m : MethodId} {args : Array Value} {below : List Frame} {meth : Method} {c : Code} (C : mC (wdM E) p s m meth c args cX10_readsText 4 RX10 (some .int)) (hR : 4 ≤ R.frames ∧ 93 ≤ R.locals) {hl : MemL} (Qp : Int32 → Mem → Prop) (K27 : Mem → Int32 → Int32 → Prop) (hK27 : ∀ (h : Mem) (v1 : Int32) (v2 : Int32) (H : Heap) (locs : List Loc) (ls : Array Slot), mD (wdM E) h hl s H locs → lv_has ls 4 [(0, .ref (wad (wdM E) 0)), (1, .int v1), (2, .int v2)] → K27 h v1 v2 → W p l e R s m args below meth c H locs 0 0 (MQ below (mQi (wdM E) (fun r h1 hl1 => hl = hl1 ∧ Qp r h1)) args s 0 0 (wA (wdM E))) (F0 m 27 ls [])) : ∀ (h : Mem) (v1 : Int32) (v2 : Int32) (w0 : Int32) (w1 : Int32) (H : Heap) (locs : List Loc) (ls : Array Slot), mD (wdM E) h hl s H locs → lv_has ls 4 [(0, .ref (wad (wdM E) 0)), (1, .int v1), (2, .int v2)] → b_X10_readsText_104 h v1 v2 w0 w1 K27 Qp → W p l e R s m args below meth c H locs 0 0 (MQ below (mQi (wdM E) (fun r h1 hl1 => hl = hl1 ∧ Qp r h1)) args s 0 0 (wA (wdM E))) (F0 m 104 ls [.int w0, .int w1, .ref (wad (wdM E) 0)]) := by
  have hx := C.x
  have hb := C.b
  intro h v1 v2 w0 w1 H locs ls Dy lv hwp
  unfold b_X10_readsText_104 at hwp
  refine lv_iadd hx hb dX10_readsText_104 ?_
  refine pf_X10_100_0 C Dy dX10_readsText_105 (fun H locs Dy => ?_)
  refine lv_goto (tgt := 27) hx hb dX10_readsText_108 (by decide) ?_
  exact hK27 (up2 h 0 7 (w1 + w0)) v1 v2 _ _ _ Dy (lv_sub lv [0, 1, 2] rfl) hwp
set_option maxHeartbeats 4000000 in
set_option maxRecDepth 100000 in
theorem t_X10_readsText_90 (E : xE) {p : Program} {l : Launch} {e : Env} {R : Room} {s : State} {m : MethodId} {args : Array Value} {below : List Frame} {meth : Method} {c : Code} (C : mC (wdM E) p s m meth c args cX10_readsText 4 RX10 (some .int)) (hR : 4 ≤ R.frames ∧ 93 ≤ R.locals) {hl : MemL} (Qp : Int32 → Mem → Prop) (K27 : Mem → Int32 → Int32 → Prop) (hK27 : ∀ (h : Mem) (v1 : Int32) (v2 : Int32) (H : Heap) (locs : List Loc) (ls : Array Slot), mD (wdM E) h hl s H locs → lv_has ls 4 [(0, .ref (wad (wdM E) 0)), (1, .int v1), (2, .int v2)] → K27 h v1 v2 → W p l e R s m args below meth c H locs 0 0 (MQ below (mQi (wdM E) (fun r h1 hl1 => hl = hl1 ∧ Qp r h1)) args s 0 0 (wA (wdM E))) (F0 m 27 ls [])) : ∀ (h : Mem) (v1 : Int32) (v2 : Int32) (H : Heap) (locs : List Loc) (ls : Array Slot), mD (wdM E) h hl s H locs → lv_has ls 4 [(0, .ref (wad (wdM E) 0)), (1, .int v1), (2, .int v2)] → b_X10_readsText_90 h v1 v2 K27 Qp → W p l e R s m args below meth c H locs 0 0 (MQ below (mQi (wdM E) (fun r h1 hl1 => hl = hl1 ∧ Qp r h1)) args s 0 0 (wA (wdM E))) (F0 m 90 ls []) := by
  have hx := C.x
  have hb := C.b
  intro h v1 v2 H locs ls Dy lv hwp
  unfold b_X10_readsText_90 at hwp
  refine lv_aload_n hx hb dX10_readsText_90 rfl (lv_at lv 0 rfl) ?_
  refine lv_dup hx hb dX10_readsText_91 rfl ?_
  refine gf_X10_100_0 C Dy dX10_readsText_92 ?_
  refine lv_iload_n hx hb dX10_readsText_95 rfl (lv_at lv 2 rfl) ?_
  refine lv_if_eq (tgt := 103) hx hb dX10_readsText_96 (by decide) (fun c13 => ?_) (fun c13 => ?_)
  · try simp only [if_pos c13] at hwp
    refine lv_iconst (v := (0 : Int32)) hx hb dX10_readsText_103 (by decide) ?_
    exact t_X10_readsText_104 E C hR Qp K27 hK27 h v1 v2 (0 : Int32) (h 0 7) _ _ _ Dy (lv_sub lv [0, 1, 2] rfl) hwp
  · try simp only [if_neg c13] at hwp
    refine lv_iconst (v := (1 : Int32)) hx hb dX10_readsText_99 (by decide) ?_
    refine lv_goto (tgt := 104) hx hb dX10_readsText_100 (by decide) ?_
    exact t_X10_readsText_104 E C hR Qp K27 hK27 h v1 v2 (1 : Int32) (h 0 7) _ _ _ Dy (lv_sub lv [0, 1, 2] rfl) hwp
set_option maxHeartbeats 4000000 in
set_option maxRecDepth 100000 in
theorem t_X10_readsText_59 (E : xE) {p : Program} {l : Launch} {e : Env} {R : Room} {s : State} {m : MethodId} {args : Array Value} {below : List Frame} {meth : Method} {c : Code} (C : mC (wdM E) p s m meth c args cX10_readsText 4 RX10 (some .int)) (hR : 4 ≤ R.frames ∧ 93 ≤ R.locals) {hl : MemL} (Qp : Int32 → Mem → Prop) (K27 : Mem → Int32 → Int32 → Prop) (hK27 : ∀ (h : Mem) (v1 : Int32) (v2 : Int32) (H : Heap) (locs : List Loc) (ls : Array Slot), mD (wdM E) h hl s H locs → lv_has ls 4 [(0, .ref (wad (wdM E) 0)), (1, .int v1), (2, .int v2)] → K27 h v1 v2 → W p l e R s m args below meth c H locs 0 0 (MQ below (mQi (wdM E) (fun r h1 hl1 => hl = hl1 ∧ Qp r h1)) args s 0 0 (wA (wdM E))) (F0 m 27 ls [])) : ∀ (h : Mem) (v1 : Int32) (v3 : Int32) (w0 : Int32) (H : Heap) (locs : List Loc) (ls : Array Slot), mD (wdM E) h hl s H locs → lv_has ls 4 [(0, .ref (wad (wdM E) 0)), (1, .int v1), (3, .int v3)] → b_X10_readsText_59 h v1 v3 w0 K27 Qp → W p l e R s m args below meth c H locs 0 0 (MQ below (mQi (wdM E) (fun r h1 hl1 => hl = hl1 ∧ Qp r h1)) args s 0 0 (wA (wdM E))) (F0 m 59 ls [.int w0]) := by
  have hx := C.x
  have hb := C.b
  intro h v1 v3 w0 H locs ls Dy lv hwp
  unfold b_X10_readsText_59 at hwp
  refine lv_istore_n (lv' := [(2, .int w0), (0, .ref (wad (wdM E) 0)), (1, .int v1), (3, .int v3)]) hx hb dX10_readsText_59 rfl lv (by decide) rfl (fun ls lv => ?_)
  refine lv_iload_n hx hb dX10_readsText_60 rfl (lv_at lv 3 rfl) ?_
  refine lv_if_eq (tgt := 78) hx hb dX10_readsText_61 (by decide) (fun c7 => ?_) (fun c7 => ?_)
  · have hwp := hwp.1 c7
    exact t_X10_readsText_78 E C hR Qp h v1 _ _ _ Dy (lv_sub lv [1, 2] rfl) hwp
  · have hwp := hwp.2 c7
    refine lv_iload_n hx hb dX10_readsText_64 rfl (lv_at lv 0 rfl) ?_
    refine lv_if_eq (tgt := 90) hx hb dX10_readsText_65 (by decide) (fun c8 => ?_) (fun c8 => ?_)
    · have hwp := hwp.1 c8
      exact t_X10_readsText_90 E C hR Qp K27 hK27 h v1 w0 _ _ _ Dy (lv_sub lv [1, 2, 0] rfl) hwp
    · have hwp := hwp.2 c8
      refine lv_aload_n hx hb dX10_readsText_68 rfl (lv_at lv 1 rfl) ?_
      refine lv_iload_n hx hb dX10_readsText_69 rfl (lv_at lv 2 rfl) ?_
      refine x_cont_i Dy (x_runV (As := [.int v1]) (rest := []) C Dy (m_X10_here E l _ _ v1 _ hwp) (cw_X10_106 C rfl rfl ⟨Nat.le_trans (Nat.le_of_ble_eq_true rfl) hR.1, Nat.le_trans (Nat.le_of_ble_eq_true rfl) hR.2⟩) wm_0 rfl rfl lv.1 rfl (Nat.le_of_ble_eq_true rfl) dX10_readsText_70 ⟨Nat.zero_le _, Nat.zero_le _⟩) (fun r9 h10 hl10 H locs hwp Dy => ?_)
      obtain ⟨rfl, rfl, hwp⟩ := hwp
      refine lv_bipush (v := (59 : Int32)) hx hb dX10_readsText_73 (by decide) ?_
      refine lv_icmp_eq (tgt := 90) hx hb dX10_readsText_75 (by decide) (fun c11 => ?_) (fun c11 => ?_)
      · have hwp := hwp.1 c11
        exact t_X10_readsText_90 E C hR Qp K27 hK27 h v1 w0 _ _ _ Dy (lv_sub lv [1, 2, 0] rfl) hwp
      · have hwp := hwp.2 c11
        exact t_X10_readsText_78 E C hR Qp h v1 _ _ _ Dy (lv_sub lv [1, 2] rfl) hwp
set_option maxHeartbeats 4000000 in
set_option maxRecDepth 100000 in
theorem t_X10_readsText_58 (E : xE) {p : Program} {l : Launch} {e : Env} {R : Room} {s : State} {m : MethodId} {args : Array Value} {below : List Frame} {meth : Method} {c : Code} (C : mC (wdM E) p s m meth c args cX10_readsText 4 RX10 (some .int)) (hR : 4 ≤ R.frames ∧ 93 ≤ R.locals) {hl : MemL} (Qp : Int32 → Mem → Prop) (K27 : Mem → Int32 → Int32 → Prop) (hK27 : ∀ (h : Mem) (v1 : Int32) (v2 : Int32) (H : Heap) (locs : List Loc) (ls : Array Slot), mD (wdM E) h hl s H locs → lv_has ls 4 [(0, .ref (wad (wdM E) 0)), (1, .int v1), (2, .int v2)] → K27 h v1 v2 → W p l e R s m args below meth c H locs 0 0 (MQ below (mQi (wdM E) (fun r h1 hl1 => hl = hl1 ∧ Qp r h1)) args s 0 0 (wA (wdM E))) (F0 m 27 ls [])) : ∀ (h : Mem) (v1 : Int32) (v3 : Int32) (H : Heap) (locs : List Loc) (ls : Array Slot), mD (wdM E) h hl s H locs → lv_has ls 4 [(0, .ref (wad (wdM E) 0)), (1, .int v1), (3, .int v3)] → b_X10_readsText_58 h v1 v3 K27 Qp → W p l e R s m args below meth c H locs 0 0 (MQ below (mQi (wdM E) (fun r h1 hl1 => hl = hl1 ∧ Qp r h1)) args s 0 0 (wA (wdM E))) (F0 m 58 ls []) := by
  have hx := C.x
  have hb := C.b
  intro h v1 v3 H locs ls Dy lv hwp
  unfold b_X10_readsText_58 at hwp
  refine lv_iconst (v := (0 : Int32)) hx hb dX10_readsText_58 (by decide) ?_
  exact t_X10_readsText_59 E C hR Qp K27 hK27 h v1 v3 (0 : Int32) _ _ _ Dy (lv_sub lv [0, 1, 2] rfl) hwp
set_option maxHeartbeats 4000000 in
set_option maxRecDepth 100000 in
theorem t_X10_readsText_27 (E : xE) {p : Program} {l : Launch} {e : Env} {R : Room} {s : State} {m : MethodId} {args : Array Value} {below : List Frame} {meth : Method} {c : Code} (C : mC (wdM E) p s m meth c args cX10_readsText 4 RX10 (some .int)) (hR : 4 ≤ R.frames ∧ 93 ≤ R.locals) {hl : MemL} (Qp : Int32 → Mem → Prop) : ∀ (n : Nat) (h : Mem) (v1 : Int32) (v2 : Int32) (H : Heap) (locs : List Loc) (ls : Array Slot), mD (wdM E) h hl s H locs → lv_has ls 4 [(0, .ref (wad (wdM E) 0)), (1, .int v1), (2, .int v2)] → b_X10_readsText_27 n h v1 v2 Qp → W p l e R s m args below meth c H locs 0 0 (MQ below (mQi (wdM E) (fun r h1 hl1 => hl = hl1 ∧ Qp r h1)) args s 0 0 (wA (wdM E))) (F0 m 27 ls []) := by
  have hx := C.x
  have hb := C.b
  intro n
  induction n with
  | zero => intro h v1 v2 H locs ls Dy lv hwp; exact hwp.elim
  | succ n ih =>
    intro h v1 v2 H locs ls Dy lv hwp
    simp only [b_X10_readsText_27] at hwp
    refine lv_iload_n hx hb dX10_readsText_27 rfl (lv_at lv 2 rfl) ?_
    refine lv_if_eq (tgt := 111) hx hb dX10_readsText_28 (by decide) (fun c1 => ?_) (fun c1 => ?_)
    · have hwp := hwp.1 c1
      refine lv_iconst (v := (-1 : Int32)) hx hb dX10_readsText_111 (by decide) ?_
      exact x_iret C Dy ⟨rfl, hwp⟩ dX10_readsText_112
    · have hwp := hwp.2 c1
      refine lv_aload_n hx hb dX10_readsText_31 rfl (lv_at lv 0 rfl) ?_
      refine lv_iload_n hx hb dX10_readsText_32 rfl (lv_at lv 1 rfl) ?_
      refine x_cont_z Dy (x_runV (As := [.int v1]) (rest := []) C Dy (m_X10_readsThing E l _ _ v1 _ hwp) (cw_X10_112 C rfl rfl ⟨Nat.le_trans (Nat.le_of_ble_eq_true rfl) hR.1, Nat.le_trans (Nat.le_of_ble_eq_true rfl) hR.2⟩) wm_0 rfl rfl lv.1 rfl (Nat.le_of_ble_eq_true rfl) dX10_readsText_33 ⟨Nat.zero_le _, Nat.zero_le _⟩) (fun r2 h3 hl3 H locs zr2 hwp Dy => ?_)
      obtain ⟨rfl, hwp⟩ := hwp
      refine lv_istore_n (lv' := [(3, .int r2), (0, .ref (wad (wdM E) 0)), (1, .int v1), (2, .int v2)]) hx hb dX10_readsText_36 rfl lv (by decide) rfl (fun ls lv => ?_)
      refine lv_iload_n hx hb dX10_readsText_37 rfl (lv_at lv 0 rfl) ?_
      refine lv_if_eq (tgt := 58) hx hb dX10_readsText_38 (by decide) (fun c4 => ?_) (fun c4 => ?_)
      · have hwp := hwp.1 c4
        exact t_X10_readsText_58 E C hR Qp (fun h v1 v2 => b_X10_readsText_27 n h v1 v2 Qp) (fun h v1 v2 H locs ls Dy lv hwp => ih h v1 v2 H locs ls Dy lv hwp) h3 v1 r2 _ _ _ Dy (lv_sub lv [1, 2, 0] rfl) hwp
      · have hwp := hwp.2 c4
        refine lv_aload_n hx hb dX10_readsText_41 rfl (lv_at lv 1 rfl) ?_
        refine gf_X10_100_0 C Dy dX10_readsText_42 ?_
        refine lv_aload_n hx hb dX10_readsText_45 rfl (lv_at lv 1 rfl) ?_
        refine gf_X10_25_0 C Dy dX10_readsText_46 ?_
        refine lv_iload_n hx hb dX10_readsText_49 rfl (lv_at lv 2 rfl) ?_
        obtain ⟨g5, hwp⟩ := hwp
        refine x_iald C Dy wma_6 g5 dX10_readsText_50 ?_
        refine lv_icmp_ge (tgt := 58) hx hb dX10_readsText_51 (by decide) (fun c6 => ?_) (fun c6 => ?_)
        · have hwp := hwp.1 c6
          exact t_X10_readsText_58 E C hR Qp (fun h v1 v2 => b_X10_readsText_27 n h v1 v2 Qp) (fun h v1 v2 H locs ls Dy lv hwp => ih h v1 v2 H locs ls Dy lv hwp) h3 v1 r2 _ _ _ Dy (lv_sub lv [1, 2, 0] rfl) hwp
        · have hwp := hwp.2 c6
          refine lv_iconst (v := (1 : Int32)) hx hb dX10_readsText_54 (by decide) ?_
          refine lv_goto (tgt := 59) hx hb dX10_readsText_55 (by decide) ?_
          exact t_X10_readsText_59 E C hR Qp (fun h v1 v2 => b_X10_readsText_27 n h v1 v2 Qp) (fun h v1 v2 H locs ls Dy lv hwp => ih h v1 v2 H locs ls Dy lv hwp) h3 v1 r2 (1 : Int32) _ _ _ Dy (lv_sub lv [1, 2, 0] rfl) hwp
set_option maxHeartbeats 4000000 in
set_option maxRecDepth 100000 in
theorem t_X10_readsText_26 (E : xE) {p : Program} {l : Launch} {e : Env} {R : Room} {s : State} {m : MethodId} {args : Array Value} {below : List Frame} {meth : Method} {c : Code} (C : mC (wdM E) p s m meth c args cX10_readsText 4 RX10 (some .int)) (hR : 4 ≤ R.frames ∧ 93 ≤ R.locals) {hl : MemL} (Qp : Int32 → Mem → Prop) : ∀ (h : Mem) (v1 : Int32) (w0 : Int32) (H : Heap) (locs : List Loc) (ls : Array Slot), mD (wdM E) h hl s H locs → lv_has ls 4 [(0, .ref (wad (wdM E) 0)), (1, .int v1)] → b_X10_readsText_26 h v1 w0 Qp → W p l e R s m args below meth c H locs 0 0 (MQ below (mQi (wdM E) (fun r h1 hl1 => hl = hl1 ∧ Qp r h1)) args s 0 0 (wA (wdM E))) (F0 m 26 ls [.int w0]) := by
  have hx := C.x
  have hb := C.b
  intro h v1 w0 H locs ls Dy lv hwp
  unfold b_X10_readsText_26 at hwp
  refine lv_istore_n (lv' := [(2, .int w0), (0, .ref (wad (wdM E) 0)), (1, .int v1)]) hx hb dX10_readsText_26 rfl lv (by decide) rfl (fun ls lv => ?_)
  obtain ⟨n0, hwp⟩ := hwp
  exact t_X10_readsText_27 E C hR Qp n0 h v1 w0 _ _ _ Dy (lv_sub lv [1, 2, 0] rfl) hwp
set_option maxHeartbeats 4000000 in
set_option maxRecDepth 100000 in
theorem m_X10_readsText (E : xE) (l : Launch) (h : Mem) (hl : MemL) (v1 : Int32) (Qp : Int32 → Mem → Prop) (hwp : p_X10_readsText h v1 Qp) : Met l yX10_readsText (wsU yX10_readsText cX10_readsText 4 (some .int)) ({ frames := 4, cells := 0, slots := 0, locals := 93 } : Room) (mPc (wdM E) [.ref (wad (wdM E) 0), .int v1] h hl) (mQi (wdM E) (fun r h1 hl1 => hl = hl1 ∧ Qp r h1)) 0 0 (wA (wdM E)) := by
  refine x_met RX10 [(0, .ref (wad (wdM E) 0)), (1, .int v1)] (by decide) rfl (Nat.le_of_ble_eq_true rfl) rfl ?_
  intro p e s m args below meth c ls C Dy lv
  have hx := C.x
  have hb := C.b
  have hR : 4 ≤ ({ frames := 4, cells := 0, slots := 0, locals := 93 } : Room).frames ∧ 93 ≤ ({ frames := 4, cells := 0, slots := 0, locals := 93 } : Room).locals := ⟨Nat.le_refl _, Nat.le_refl _⟩
  unfold p_X10_readsText at hwp
  refine lv_aload_n hx hb dX10_readsText_0 rfl (lv_at lv 0 rfl) ?_
  refine lv_iconst (v := (0 : Int32)) hx hb dX10_readsText_1 (by decide) ?_
  refine pf_X10_100_0 C Dy dX10_readsText_2 (fun H locs Dy => ?_)
  refine lv_aload_n hx hb dX10_readsText_5 rfl (lv_at lv 0 rfl) ?_
  refine gf_X10_28_0 C Dy dX10_readsText_6 ?_
  refine lv_iload_n hx hb dX10_readsText_9 rfl (lv_at lv 1 rfl) ?_
  refine lv_iconst (v := (0 : Int32)) hx hb dX10_readsText_10 (by decide) ?_
  obtain ⟨g14, hwp⟩ := hwp
  refine x_iast C Dy wma_7 g14 dX10_readsText_11 (fun H locs Dy => ?_)
  refine lv_aload_n hx hb dX10_readsText_12 rfl (lv_at lv 0 rfl) ?_
  refine gf_X10_25_0 C Dy dX10_readsText_13 ?_
  refine lv_iload_n hx hb dX10_readsText_16 rfl (lv_at lv 1 rfl) ?_
  obtain ⟨g15, hwp⟩ := hwp
  refine x_iald C Dy wma_6 g15 dX10_readsText_17 ?_
  refine lv_if_le (tgt := 25) hx hb dX10_readsText_18 (by decide) (fun c16 => ?_) (fun c16 => ?_)
  · try simp only [if_pos c16] at hwp
    refine lv_iconst (v := (0 : Int32)) hx hb dX10_readsText_25 (by decide) ?_
    exact t_X10_readsText_26 E C hR Qp (up2 (up2 h 0 7 (0 : Int32)) 7 v1.toNatClampNeg (0 : Int32)) v1 (0 : Int32) _ _ _ Dy (lv_sub lv [0, 1] rfl) hwp
  · try simp only [if_neg c16] at hwp
    refine lv_iconst (v := (1 : Int32)) hx hb dX10_readsText_21 (by decide) ?_
    refine lv_goto (tgt := 26) hx hb dX10_readsText_22 (by decide) ?_
    exact t_X10_readsText_26 E C hR Qp (up2 (up2 h 0 7 (0 : Int32)) 7 v1.toNatClampNeg (0 : Int32)) v1 (1 : Int32) _ _ _ Dy (lv_sub lv [0, 1] rfl) hwp
def p_X10_reads (h : Mem) (Qp : Mem → Prop) : Prop := (p_X10_readsText h (0 : Int32) (fun r1 h2 => (p_X10_readsText h2 (1 : Int32) (fun r3 h4 => Qp h4))))
set_option maxHeartbeats 4000000 in
set_option maxRecDepth 100000 in
theorem m_X10_reads (E : xE) (l : Launch) (h : Mem) (hl : MemL) (Qp : Mem → Prop) (hwp : p_X10_reads h Qp) : Met l yX10_reads (wsU yX10_reads cX10_reads 1 none) ({ frames := 5, cells := 0, slots := 0, locals := 116 } : Room) (mPc (wdM E) [.ref (wad (wdM E) 0)] h hl) (mQv (wdM E) (fun h1 hl1 => hl = hl1 ∧ Qp h1)) 0 0 (wA (wdM E)) := by
  refine x_met RX10 [(0, .ref (wad (wdM E) 0))] (by decide) rfl (Nat.le_of_ble_eq_true rfl) rfl ?_
  intro p e s m args below meth c ls C Dy lv
  have hx := C.x
  have hb := C.b
  have hR : 5 ≤ ({ frames := 5, cells := 0, slots := 0, locals := 116 } : Room).frames ∧ 116 ≤ ({ frames := 5, cells := 0, slots := 0, locals := 116 } : Room).locals := ⟨Nat.le_refl _, Nat.le_refl _⟩
  unfold p_X10_reads at hwp
  refine lv_aload_n hx hb dX10_reads_0 rfl (lv_at lv 0 rfl) ?_
  refine lv_iconst (v := (0 : Int32)) hx hb dX10_reads_1 (by decide) ?_
  refine x_cont_i Dy (x_runV (As := [.int (0 : Int32)]) (rest := []) C Dy (m_X10_readsText E l _ _ (0 : Int32) _ hwp) (cw_X10_115 C rfl rfl ⟨Nat.le_trans (Nat.le_of_ble_eq_true rfl) hR.1, Nat.le_trans (Nat.le_of_ble_eq_true rfl) hR.2⟩) wm_0 rfl rfl lv.1 rfl (Nat.le_of_ble_eq_true rfl) dX10_reads_2 ⟨Nat.zero_le _, Nat.zero_le _⟩) (fun r1 h2 hl2 H locs hwp Dy => ?_)
  obtain ⟨rfl, hwp⟩ := hwp
  refine lv_pop hx hb dX10_reads_5 rfl ?_
  refine lv_aload_n hx hb dX10_reads_6 rfl (lv_at lv 0 rfl) ?_
  refine lv_iconst (v := (1 : Int32)) hx hb dX10_reads_7 (by decide) ?_
  refine x_cont_i Dy (x_runV (As := [.int (1 : Int32)]) (rest := []) C Dy (m_X10_readsText E l _ _ (1 : Int32) _ hwp) (cw_X10_115 C rfl rfl ⟨Nat.le_trans (Nat.le_of_ble_eq_true rfl) hR.1, Nat.le_trans (Nat.le_of_ble_eq_true rfl) hR.2⟩) wm_0 rfl rfl lv.1 rfl (Nat.le_of_ble_eq_true rfl) dX10_reads_8 ⟨Nat.zero_le _, Nat.zero_le _⟩) (fun r3 h4 hl4 H locs hwp Dy => ?_)
  obtain ⟨rfl, hwp⟩ := hwp
  refine lv_pop hx hb dX10_reads_11 rfl ?_
  exact x_vret C Dy ⟨rfl, hwp⟩ dX10_reads_12
def p_X10_fault (h : Mem) (v1 : Int32) (Qp : Int32 → Mem → Prop) : Prop := (p_X10_isTwo v1 (fun r1 => ((r1 = 0 → Qp (-2 : Int32) h) ∧ (¬ (r1 = 0) → (p_X10_readsText h v1 (fun r4 h5 => Qp r4 h5))))))
set_option maxHeartbeats 4000000 in
set_option maxRecDepth 100000 in
theorem m_X10_fault (E : xE) (l : Launch) (h : Mem) (hl : MemL) (v1 : Int32) (Qp : Int32 → Mem → Prop) (hwp : p_X10_fault h v1 Qp) : Met l yX10_fault (wsU yX10_fault cX10_fault 2 (some .int)) ({ frames := 5, cells := 0, slots := 0, locals := 116 } : Room) (mPc (wdM E) [.ref (wad (wdM E) 0), .int v1] h hl) (mQi (wdM E) (fun r h1 hl1 => hl = hl1 ∧ Qp r h1)) 0 0 (wA (wdM E)) := by
  refine x_met RX10 [(0, .ref (wad (wdM E) 0)), (1, .int v1)] (by decide) rfl (Nat.le_of_ble_eq_true rfl) rfl ?_
  intro p e s m args below meth c ls C Dy lv
  have hx := C.x
  have hb := C.b
  have hR : 5 ≤ ({ frames := 5, cells := 0, slots := 0, locals := 116 } : Room).frames ∧ 116 ≤ ({ frames := 5, cells := 0, slots := 0, locals := 116 } : Room).locals := ⟨Nat.le_refl _, Nat.le_refl _⟩
  unfold p_X10_fault at hwp
  refine lv_iload_n hx hb dX10_fault_0 rfl (lv_at lv 1 rfl) ?_
  refine x_cont_z Dy (x_runS (As := [.int v1]) (rest := []) C Dy (m_X10_isTwo E l _ _ v1 _ hwp) (cw_X10_95 C rfl rfl ⟨Nat.le_trans (Nat.le_of_ble_eq_true rfl) hR.1, Nat.le_trans (Nat.le_of_ble_eq_true rfl) hR.2⟩) rfl lv.1 rfl (Nat.le_of_ble_eq_true rfl) dX10_fault_1 ⟨Nat.zero_le _, Nat.zero_le _⟩) (fun r1 h2 hl2 H locs zr1 hwp Dy => ?_)
  obtain ⟨rfl, rfl, hwp⟩ := hwp
  refine lv_if_eq (tgt := 15) hx hb dX10_fault_4 (by decide) (fun c3 => ?_) (fun c3 => ?_)
  · have hwp := hwp.1 c3
    refine lv_bipush (v := (-2 : Int32)) hx hb dX10_fault_15 (by decide) ?_
    exact x_iret C Dy ⟨rfl, hwp⟩ dX10_fault_17
  · have hwp := hwp.2 c3
    refine lv_aload_n hx hb dX10_fault_7 rfl (lv_at lv 0 rfl) ?_
    refine lv_iload_n hx hb dX10_fault_8 rfl (lv_at lv 1 rfl) ?_
    refine x_cont_i Dy (x_runV (As := [.int v1]) (rest := []) C Dy (m_X10_readsText E l _ _ v1 _ hwp) (cw_X10_115 C rfl rfl ⟨Nat.le_trans (Nat.le_of_ble_eq_true rfl) hR.1, Nat.le_trans (Nat.le_of_ble_eq_true rfl) hR.2⟩) wm_0 rfl rfl lv.1 rfl (Nat.le_of_ble_eq_true rfl) dX10_fault_9 ⟨Nat.zero_le _, Nat.zero_le _⟩) (fun r4 h5 hl5 H locs hwp Dy => ?_)
    obtain ⟨rfl, hwp⟩ := hwp
    refine lv_goto (tgt := 17) hx hb dX10_fault_12 (by decide) ?_
    exact x_iret C Dy ⟨rfl, hwp⟩ dX10_fault_17
def p_X10_isLaw (h : Mem) (v1 : Int32) (Qp : Int32 → Prop) : Prop := (vp_in (0 : Int32) 2 ∧ (p_X10_in (v1.toInt64) (0 : Int64) (((h 7 (0 : Int32).toNatClampNeg) - (1 : Int32)).toInt64) (fun r2 => Qp r2)))
set_option maxHeartbeats 4000000 in
set_option maxRecDepth 100000 in
theorem m_X10_isLaw (E : xE) (l : Launch) (h : Mem) (hl : MemL) (v1 : Int32) (Qp : Int32 → Prop) (hwp : p_X10_isLaw h v1 Qp) : Met l yX10_isLaw (wsU yX10_isLaw cX10_isLaw 2 (some .boolean)) ({ frames := 1, cells := 0, slots := 0, locals := 25 } : Room) (mPc (wdM E) [.ref (wad (wdM E) 0), .int v1] h hl) (mQz (wdM E) (fun r h1 hl1 => h = h1 ∧ hl = hl1 ∧ Qp r)) 0 0 (wA (wdM E)) := by
  refine x_met RX10 [(0, .ref (wad (wdM E) 0)), (1, .int v1)] (by decide) rfl (Nat.le_of_ble_eq_true rfl) rfl ?_
  intro p e s m args below meth c ls C Dy lv
  have hx := C.x
  have hb := C.b
  have hR : 1 ≤ ({ frames := 1, cells := 0, slots := 0, locals := 25 } : Room).frames ∧ 25 ≤ ({ frames := 1, cells := 0, slots := 0, locals := 25 } : Room).locals := ⟨Nat.le_refl _, Nat.le_refl _⟩
  unfold p_X10_isLaw at hwp
  refine lv_iload_n hx hb dX10_isLaw_0 rfl (lv_at lv 1 rfl) ?_
  refine lv_i2l hx hb dX10_isLaw_1 rfl ?_
  refine lv_lconst (v := (0 : Int64)) hx hb dX10_isLaw_2 (by decide) ?_
  refine lv_aload_n hx hb dX10_isLaw_3 rfl (lv_at lv 0 rfl) ?_
  refine gf_X10_28_0 C Dy dX10_isLaw_4 ?_
  refine lv_iconst (v := (0 : Int32)) hx hb dX10_isLaw_7 (by decide) ?_
  obtain ⟨g1, hwp⟩ := hwp
  refine x_iald C Dy wma_7 g1 dX10_isLaw_8 ?_
  refine lv_iconst (v := (1 : Int32)) hx hb dX10_isLaw_9 (by decide) ?_
  refine lv_isub hx hb dX10_isLaw_10 ?_
  refine lv_i2l hx hb dX10_isLaw_11 rfl ?_
  refine x_cont_z Dy (x_runS (As := [.long (v1.toInt64), .long (0 : Int64), .long (((h 7 (0 : Int32).toNatClampNeg) - (1 : Int32)).toInt64)]) (rest := []) C Dy (m_X10_in E l _ _ (v1.toInt64) (0 : Int64) (((h 7 (0 : Int32).toNatClampNeg) - (1 : Int32)).toInt64) _ hwp) (cw_X10_66 C rfl rfl ⟨Nat.le_trans (Nat.le_of_ble_eq_true rfl) hR.1, Nat.le_trans (Nat.le_of_ble_eq_true rfl) hR.2⟩) rfl lv.1 rfl (Nat.le_of_ble_eq_true rfl) dX10_isLaw_12 ⟨Nat.zero_le _, Nat.zero_le _⟩) (fun r2 h3 hl3 H locs zr2 hwp Dy => ?_)
  obtain ⟨rfl, rfl, hwp⟩ := hwp
  exact x_zret C Dy zr2 ⟨rfl, rfl, hwp⟩ dX10_isLaw_15
def p_X10_isYear (v0 : Int32) (Qp : Int32 → Prop) : Prop := (p_X10_in (v0.toInt64) (0 : Int64) (29 : Int64) (fun r1 => Qp r1))
set_option maxHeartbeats 4000000 in
set_option maxRecDepth 100000 in
theorem m_X10_isYear (E : xE) (l : Launch) (h : Mem) (hl : MemL) (v0 : Int32) (Qp : Int32 → Prop) (hwp : p_X10_isYear v0 Qp) : Met l yX10_isYear (wsU yX10_isYear cX10_isYear 1 (some .boolean)) ({ frames := 1, cells := 0, slots := 0, locals := 25 } : Room) (mPc (wdM E) [.int v0] h hl) (mQz (wdM E) (fun r h1 hl1 => h = h1 ∧ hl = hl1 ∧ Qp r)) 0 0 (wA (wdM E)) := by
  refine x_met RX10 [(0, .int v0)] (by decide) rfl (Nat.le_of_ble_eq_true rfl) rfl ?_
  intro p e s m args below meth c ls C Dy lv
  have hx := C.x
  have hb := C.b
  have hR : 1 ≤ ({ frames := 1, cells := 0, slots := 0, locals := 25 } : Room).frames ∧ 25 ≤ ({ frames := 1, cells := 0, slots := 0, locals := 25 } : Room).locals := ⟨Nat.le_refl _, Nat.le_refl _⟩
  unfold p_X10_isYear at hwp
  refine lv_iload_n hx hb dX10_isYear_0 rfl (lv_at lv 0 rfl) ?_
  refine lv_i2l hx hb dX10_isYear_1 rfl ?_
  refine lv_lconst (v := (0 : Int64)) hx hb dX10_isYear_2 (by decide) ?_
  refine lv_ldc2 hx hb C.ow (C.ts _ k_991) dX10_isYear_3 ?_
  refine x_cont_z Dy (x_runS (As := [.long (v0.toInt64), .long (0 : Int64), .long (29 : Int64)]) (rest := []) C Dy (m_X10_in E l _ _ (v0.toInt64) (0 : Int64) (29 : Int64) _ hwp) (cw_X10_66 C rfl rfl ⟨Nat.le_trans (Nat.le_of_ble_eq_true rfl) hR.1, Nat.le_trans (Nat.le_of_ble_eq_true rfl) hR.2⟩) rfl lv.1 rfl (Nat.le_of_ble_eq_true rfl) dX10_isYear_6 ⟨Nat.zero_le _, Nat.zero_le _⟩) (fun r1 h2 hl2 H locs zr1 hwp Dy => ?_)
  obtain ⟨rfl, rfl, hwp⟩ := hwp
  exact x_zret C Dy zr1 ⟨rfl, rfl, hwp⟩ dX10_isYear_9
def p_X10_isHour (v0 : Int32) (Qp : Int32 → Prop) : Prop := (p_X10_in (v0.toInt64) (0 : Int64) (23 : Int64) (fun r1 => Qp r1))
set_option maxHeartbeats 4000000 in
set_option maxRecDepth 100000 in
theorem m_X10_isHour (E : xE) (l : Launch) (h : Mem) (hl : MemL) (v0 : Int32) (Qp : Int32 → Prop) (hwp : p_X10_isHour v0 Qp) : Met l yX10_isHour (wsU yX10_isHour cX10_isHour 1 (some .boolean)) ({ frames := 1, cells := 0, slots := 0, locals := 25 } : Room) (mPc (wdM E) [.int v0] h hl) (mQz (wdM E) (fun r h1 hl1 => h = h1 ∧ hl = hl1 ∧ Qp r)) 0 0 (wA (wdM E)) := by
  refine x_met RX10 [(0, .int v0)] (by decide) rfl (Nat.le_of_ble_eq_true rfl) rfl ?_
  intro p e s m args below meth c ls C Dy lv
  have hx := C.x
  have hb := C.b
  have hR : 1 ≤ ({ frames := 1, cells := 0, slots := 0, locals := 25 } : Room).frames ∧ 25 ≤ ({ frames := 1, cells := 0, slots := 0, locals := 25 } : Room).locals := ⟨Nat.le_refl _, Nat.le_refl _⟩
  unfold p_X10_isHour at hwp
  refine lv_iload_n hx hb dX10_isHour_0 rfl (lv_at lv 0 rfl) ?_
  refine lv_i2l hx hb dX10_isHour_1 rfl ?_
  refine lv_lconst (v := (0 : Int64)) hx hb dX10_isHour_2 (by decide) ?_
  refine lv_ldc2 hx hb C.ow (C.ts _ k_1032) dX10_isHour_3 ?_
  refine x_cont_z Dy (x_runS (As := [.long (v0.toInt64), .long (0 : Int64), .long (23 : Int64)]) (rest := []) C Dy (m_X10_in E l _ _ (v0.toInt64) (0 : Int64) (23 : Int64) _ hwp) (cw_X10_66 C rfl rfl ⟨Nat.le_trans (Nat.le_of_ble_eq_true rfl) hR.1, Nat.le_trans (Nat.le_of_ble_eq_true rfl) hR.2⟩) rfl lv.1 rfl (Nat.le_of_ble_eq_true rfl) dX10_isHour_6 ⟨Nat.zero_le _, Nat.zero_le _⟩) (fun r1 h2 hl2 H locs zr1 hwp Dy => ?_)
  obtain ⟨rfl, rfl, hwp⟩ := hwp
  exact x_zret C Dy zr1 ⟨rfl, rfl, hwp⟩ dX10_isHour_9
def p_X10_law (h : Mem) (v1 : Int32) (v2 : Int32) (Qp : Int32 → Mem → Prop) : Prop := (p_X10_reads h (fun h2 => (p_X10_isLaw h2 v1 (fun r3 => ((r3 = 0 → Qp (-2 : Int32) h2) ∧ (¬ (r3 = 0) → (p_X10_in (v2.toInt64) (0 : Int64) (4 : Int64) (fun r6 => ((r6 = 0 → Qp (-2 : Int32) h2) ∧ (¬ (r6 = 0) → (vp_in (((5 : Int32) * v1) + v2) 60 ∧ Qp (h2 8 (((5 : Int32) * v1) + v2).toNatClampNeg) h2)))))))))))
set_option maxHeartbeats 4000000 in
set_option maxRecDepth 100000 in
theorem m_X10_law (E : xE) (l : Launch) (h : Mem) (hl : MemL) (v1 : Int32) (v2 : Int32) (Qp : Int32 → Mem → Prop) (hwp : p_X10_law h v1 v2 Qp) : Met l yX10_law (wsU yX10_law cX10_law 3 (some .int)) ({ frames := 6, cells := 0, slots := 0, locals := 136 } : Room) (mPc (wdM E) [.ref (wad (wdM E) 0), .int v1, .int v2] h hl) (mQi (wdM E) (fun r h1 hl1 => hl = hl1 ∧ Qp r h1)) 0 0 (wA (wdM E)) := by
  refine x_met RX10 [(0, .ref (wad (wdM E) 0)), (1, .int v1), (2, .int v2)] (by decide) rfl (Nat.le_of_ble_eq_true rfl) rfl ?_
  intro p e s m args below meth c ls C Dy lv
  have hx := C.x
  have hb := C.b
  have hR : 6 ≤ ({ frames := 6, cells := 0, slots := 0, locals := 136 } : Room).frames ∧ 136 ≤ ({ frames := 6, cells := 0, slots := 0, locals := 136 } : Room).locals := ⟨Nat.le_refl _, Nat.le_refl _⟩
  unfold p_X10_law at hwp
  refine lv_aload_n hx hb dX10_law_0 rfl (lv_at lv 0 rfl) ?_
  refine x_cont_v Dy (x_runV (As := []) (rest := []) C Dy (m_X10_reads E l _ _ _ hwp) (cw_X10_122 C rfl rfl ⟨Nat.le_trans (Nat.le_of_ble_eq_true rfl) hR.1, Nat.le_trans (Nat.le_of_ble_eq_true rfl) hR.2⟩) wm_0 rfl rfl lv.1 rfl (Nat.le_of_ble_eq_true rfl) dX10_law_1 ⟨Nat.zero_le _, Nat.zero_le _⟩) (fun h2 hl2 H locs hwp Dy => ?_)
  obtain ⟨rfl, hwp⟩ := hwp
  refine lv_aload_n hx hb dX10_law_4 rfl (lv_at lv 0 rfl) ?_
  refine lv_iload_n hx hb dX10_law_5 rfl (lv_at lv 1 rfl) ?_
  refine x_cont_z Dy (x_runV (As := [.int v1]) (rest := []) C Dy (m_X10_isLaw E l _ _ v1 _ hwp) (cw_X10_125 C rfl rfl ⟨Nat.le_trans (Nat.le_of_ble_eq_true rfl) hR.1, Nat.le_trans (Nat.le_of_ble_eq_true rfl) hR.2⟩) wm_0 rfl rfl lv.1 rfl (Nat.le_of_ble_eq_true rfl) dX10_law_6 ⟨Nat.zero_le _, Nat.zero_le _⟩) (fun r3 h4 hl4 H locs zr3 hwp Dy => ?_)
  obtain ⟨rfl, rfl, hwp⟩ := hwp
  refine lv_if_eq (tgt := 37) hx hb dX10_law_9 (by decide) (fun c5 => ?_) (fun c5 => ?_)
  · have hwp := hwp.1 c5
    refine lv_bipush (v := (-2 : Int32)) hx hb dX10_law_37 (by decide) ?_
    exact x_iret C Dy ⟨rfl, hwp⟩ dX10_law_39
  · have hwp := hwp.2 c5
    refine lv_iload_n hx hb dX10_law_12 rfl (lv_at lv 2 rfl) ?_
    refine lv_i2l hx hb dX10_law_13 rfl ?_
    refine lv_lconst (v := (0 : Int64)) hx hb dX10_law_14 (by decide) ?_
    refine lv_ldc2 hx hb C.ow (C.ts _ k_979) dX10_law_15 ?_
    refine x_cont_z Dy (x_runS (As := [.long (v2.toInt64), .long (0 : Int64), .long (4 : Int64)]) (rest := []) C Dy (m_X10_in E l _ _ (v2.toInt64) (0 : Int64) (4 : Int64) _ hwp) (cw_X10_66 C rfl rfl ⟨Nat.le_trans (Nat.le_of_ble_eq_true rfl) hR.1, Nat.le_trans (Nat.le_of_ble_eq_true rfl) hR.2⟩) rfl lv.1 rfl (Nat.le_of_ble_eq_true rfl) dX10_law_18 ⟨Nat.zero_le _, Nat.zero_le _⟩) (fun r6 h7 hl7 H locs zr6 hwp Dy => ?_)
    obtain ⟨rfl, rfl, hwp⟩ := hwp
    refine lv_if_eq (tgt := 37) hx hb dX10_law_21 (by decide) (fun c8 => ?_) (fun c8 => ?_)
    · have hwp := hwp.1 c8
      refine lv_bipush (v := (-2 : Int32)) hx hb dX10_law_37 (by decide) ?_
      exact x_iret C Dy ⟨rfl, hwp⟩ dX10_law_39
    · have hwp := hwp.2 c8
      refine lv_aload_n hx hb dX10_law_24 rfl (lv_at lv 0 rfl) ?_
      refine gf_X10_31_0 C Dy dX10_law_25 ?_
      refine lv_iconst (v := (5 : Int32)) hx hb dX10_law_28 (by decide) ?_
      refine lv_iload_n hx hb dX10_law_29 rfl (lv_at lv 1 rfl) ?_
      refine lv_imul hx hb dX10_law_30 ?_
      refine lv_iload_n hx hb dX10_law_31 rfl (lv_at lv 2 rfl) ?_
      refine lv_iadd hx hb dX10_law_32 ?_
      obtain ⟨g9, hwp⟩ := hwp
      refine x_iald C Dy wma_8 g9 dX10_law_33 ?_
      refine lv_goto (tgt := 39) hx hb dX10_law_34 (by decide) ?_
      exact x_iret C Dy ⟨rfl, hwp⟩ dX10_law_39
def p_X10_want (h : Mem) (v1 : Int32) (v2 : Int32) (Qp : Int32 → Mem → Prop) : Prop := (p_X10_reads h (fun h2 => (vp_in (1 : Int32) 2 ∧ (p_X10_in (v1.toInt64) (0 : Int64) (((h2 7 (1 : Int32).toNatClampNeg) - (1 : Int32)).toInt64) (fun r4 => ((r4 = 0 → Qp (-2 : Int32) h2) ∧ (¬ (r4 = 0) → (p_X10_in (v2.toInt64) (0 : Int64) (2 : Int64) (fun r7 => ((r7 = 0 → Qp (-2 : Int32) h2) ∧ (¬ (r7 = 0) → (vp_in (((3 : Int32) * v1) + v2) 36 ∧ Qp (h2 9 (((3 : Int32) * v1) + v2).toNatClampNeg) h2))))))))))))
set_option maxHeartbeats 4000000 in
set_option maxRecDepth 100000 in
theorem m_X10_want (E : xE) (l : Launch) (h : Mem) (hl : MemL) (v1 : Int32) (v2 : Int32) (Qp : Int32 → Mem → Prop) (hwp : p_X10_want h v1 v2 Qp) : Met l yX10_want (wsU yX10_want cX10_want 3 (some .int)) ({ frames := 6, cells := 0, slots := 0, locals := 136 } : Room) (mPc (wdM E) [.ref (wad (wdM E) 0), .int v1, .int v2] h hl) (mQi (wdM E) (fun r h1 hl1 => hl = hl1 ∧ Qp r h1)) 0 0 (wA (wdM E)) := by
  refine x_met RX10 [(0, .ref (wad (wdM E) 0)), (1, .int v1), (2, .int v2)] (by decide) rfl (Nat.le_of_ble_eq_true rfl) rfl ?_
  intro p e s m args below meth c ls C Dy lv
  have hx := C.x
  have hb := C.b
  have hR : 6 ≤ ({ frames := 6, cells := 0, slots := 0, locals := 136 } : Room).frames ∧ 136 ≤ ({ frames := 6, cells := 0, slots := 0, locals := 136 } : Room).locals := ⟨Nat.le_refl _, Nat.le_refl _⟩
  unfold p_X10_want at hwp
  refine lv_aload_n hx hb dX10_want_0 rfl (lv_at lv 0 rfl) ?_
  refine x_cont_v Dy (x_runV (As := []) (rest := []) C Dy (m_X10_reads E l _ _ _ hwp) (cw_X10_122 C rfl rfl ⟨Nat.le_trans (Nat.le_of_ble_eq_true rfl) hR.1, Nat.le_trans (Nat.le_of_ble_eq_true rfl) hR.2⟩) wm_0 rfl rfl lv.1 rfl (Nat.le_of_ble_eq_true rfl) dX10_want_1 ⟨Nat.zero_le _, Nat.zero_le _⟩) (fun h2 hl2 H locs hwp Dy => ?_)
  obtain ⟨rfl, hwp⟩ := hwp
  refine lv_iload_n hx hb dX10_want_4 rfl (lv_at lv 1 rfl) ?_
  refine lv_i2l hx hb dX10_want_5 rfl ?_
  refine lv_lconst (v := (0 : Int64)) hx hb dX10_want_6 (by decide) ?_
  refine lv_aload_n hx hb dX10_want_7 rfl (lv_at lv 0 rfl) ?_
  refine gf_X10_28_0 C Dy dX10_want_8 ?_
  refine lv_iconst (v := (1 : Int32)) hx hb dX10_want_11 (by decide) ?_
  obtain ⟨g3, hwp⟩ := hwp
  refine x_iald C Dy wma_7 g3 dX10_want_12 ?_
  refine lv_iconst (v := (1 : Int32)) hx hb dX10_want_13 (by decide) ?_
  refine lv_isub hx hb dX10_want_14 ?_
  refine lv_i2l hx hb dX10_want_15 rfl ?_
  refine x_cont_z Dy (x_runS (As := [.long (v1.toInt64), .long (0 : Int64), .long (((h2 7 (1 : Int32).toNatClampNeg) - (1 : Int32)).toInt64)]) (rest := []) C Dy (m_X10_in E l _ _ (v1.toInt64) (0 : Int64) (((h2 7 (1 : Int32).toNatClampNeg) - (1 : Int32)).toInt64) _ hwp) (cw_X10_66 C rfl rfl ⟨Nat.le_trans (Nat.le_of_ble_eq_true rfl) hR.1, Nat.le_trans (Nat.le_of_ble_eq_true rfl) hR.2⟩) rfl lv.1 rfl (Nat.le_of_ble_eq_true rfl) dX10_want_16 ⟨Nat.zero_le _, Nat.zero_le _⟩) (fun r4 h5 hl5 H locs zr4 hwp Dy => ?_)
  obtain ⟨rfl, rfl, hwp⟩ := hwp
  refine lv_if_eq (tgt := 47) hx hb dX10_want_19 (by decide) (fun c6 => ?_) (fun c6 => ?_)
  · have hwp := hwp.1 c6
    refine lv_bipush (v := (-2 : Int32)) hx hb dX10_want_47 (by decide) ?_
    exact x_iret C Dy ⟨rfl, hwp⟩ dX10_want_49
  · have hwp := hwp.2 c6
    refine lv_iload_n hx hb dX10_want_22 rfl (lv_at lv 2 rfl) ?_
    refine lv_i2l hx hb dX10_want_23 rfl ?_
    refine lv_lconst (v := (0 : Int64)) hx hb dX10_want_24 (by decide) ?_
    refine lv_ldc2 hx hb C.ow (C.ts _ k_900) dX10_want_25 ?_
    refine x_cont_z Dy (x_runS (As := [.long (v2.toInt64), .long (0 : Int64), .long (2 : Int64)]) (rest := []) C Dy (m_X10_in E l _ _ (v2.toInt64) (0 : Int64) (2 : Int64) _ hwp) (cw_X10_66 C rfl rfl ⟨Nat.le_trans (Nat.le_of_ble_eq_true rfl) hR.1, Nat.le_trans (Nat.le_of_ble_eq_true rfl) hR.2⟩) rfl lv.1 rfl (Nat.le_of_ble_eq_true rfl) dX10_want_28 ⟨Nat.zero_le _, Nat.zero_le _⟩) (fun r7 h8 hl8 H locs zr7 hwp Dy => ?_)
    obtain ⟨rfl, rfl, hwp⟩ := hwp
    refine lv_if_eq (tgt := 47) hx hb dX10_want_31 (by decide) (fun c9 => ?_) (fun c9 => ?_)
    · have hwp := hwp.1 c9
      refine lv_bipush (v := (-2 : Int32)) hx hb dX10_want_47 (by decide) ?_
      exact x_iret C Dy ⟨rfl, hwp⟩ dX10_want_49
    · have hwp := hwp.2 c9
      refine lv_aload_n hx hb dX10_want_34 rfl (lv_at lv 0 rfl) ?_
      refine gf_X10_34_0 C Dy dX10_want_35 ?_
      refine lv_iconst (v := (3 : Int32)) hx hb dX10_want_38 (by decide) ?_
      refine lv_iload_n hx hb dX10_want_39 rfl (lv_at lv 1 rfl) ?_
      refine lv_imul hx hb dX10_want_40 ?_
      refine lv_iload_n hx hb dX10_want_41 rfl (lv_at lv 2 rfl) ?_
      refine lv_iadd hx hb dX10_want_42 ?_
      obtain ⟨g10, hwp⟩ := hwp
      refine x_iald C Dy wma_9 g10 dX10_want_43 ?_
      refine lv_goto (tgt := 49) hx hb dX10_want_44 (by decide) ?_
      exact x_iret C Dy ⟨rfl, hwp⟩ dX10_want_49
def p_X10_trial (h : Mem) (v1 : Int32) (v2 : Int32) (Qp : Int32 → Mem → Prop) : Prop := (p_X10_isYear v1 (fun r1 => ((r1 = 0 → Qp (-2 : Int32) h) ∧ (¬ (r1 = 0) → (p_X10_in (v2.toInt64) (0 : Int64) (11 : Int64) (fun r4 => ((r4 = 0 → Qp (-2 : Int32) h) ∧ (¬ (r4 = 0) → (((h 0 11) = (12 : Int32) → Qp (-4 : Int32) h) ∧ (¬ ((h 0 11) = (12 : Int32)) → (vp_in ((2 : Int32) * (h 0 11)) 24 ∧ (vp_in (((2 : Int32) * ((up2 h 10 ((2 : Int32) * (h 0 11)).toNatClampNeg v1) 0 11)) + (1 : Int32)) 24 ∧ (∀ h10 : Mem, h10 = (up2 (up2 h 10 ((2 : Int32) * (h 0 11)).toNatClampNeg v1) 10 (((2 : Int32) * ((up2 h 10 ((2 : Int32) * (h 0 11)).toNatClampNeg v1) 0 11)) + (1 : Int32)).toNatClampNeg v2) → Qp ((up2 h10 0 11 ((h10 0 11) + (1 : Int32))) 0 11) (up2 h10 0 11 ((h10 0 11) + (1 : Int32))))))))))))))))
set_option maxHeartbeats 4000000 in
set_option maxRecDepth 100000 in
theorem m_X10_trial (E : xE) (l : Launch) (h : Mem) (hl : MemL) (v1 : Int32) (v2 : Int32) (Qp : Int32 → Mem → Prop) (hwp : p_X10_trial h v1 v2 Qp) : Met l yX10_trial (wsU yX10_trial cX10_trial 3 (some .int)) ({ frames := 2, cells := 0, slots := 0, locals := 45 } : Room) (mPc (wdM E) [.ref (wad (wdM E) 0), .int v1, .int v2] h hl) (mQi (wdM E) (fun r h1 hl1 => hl = hl1 ∧ Qp r h1)) 0 0 (wA (wdM E)) := by
  refine x_met RX10 [(0, .ref (wad (wdM E) 0)), (1, .int v1), (2, .int v2)] (by decide) rfl (Nat.le_of_ble_eq_true rfl) rfl ?_
  intro p e s m args below meth c ls C Dy lv
  have hx := C.x
  have hb := C.b
  have hR : 2 ≤ ({ frames := 2, cells := 0, slots := 0, locals := 45 } : Room).frames ∧ 45 ≤ ({ frames := 2, cells := 0, slots := 0, locals := 45 } : Room).locals := ⟨Nat.le_refl _, Nat.le_refl _⟩
  unfold p_X10_trial at hwp
  refine lv_iload_n hx hb dX10_trial_0 rfl (lv_at lv 1 rfl) ?_
  refine x_cont_z Dy (x_runS (As := [.int v1]) (rest := []) C Dy (m_X10_isYear E l _ _ v1 _ hwp) (cw_X10_130 C rfl rfl ⟨Nat.le_trans (Nat.le_of_ble_eq_true rfl) hR.1, Nat.le_trans (Nat.le_of_ble_eq_true rfl) hR.2⟩) rfl lv.1 rfl (Nat.le_of_ble_eq_true rfl) dX10_trial_1 ⟨Nat.zero_le _, Nat.zero_le _⟩) (fun r1 h2 hl2 H locs zr1 hwp Dy => ?_)
  obtain ⟨rfl, rfl, hwp⟩ := hwp
  refine lv_if_eq (tgt := 19) hx hb dX10_trial_4 (by decide) (fun c3 => ?_) (fun c3 => ?_)
  · have hwp := hwp.1 c3
    refine lv_bipush (v := (-2 : Int32)) hx hb dX10_trial_19 (by decide) ?_
    exact x_iret C Dy ⟨rfl, hwp⟩ dX10_trial_21
  · have hwp := hwp.2 c3
    refine lv_iload_n hx hb dX10_trial_7 rfl (lv_at lv 2 rfl) ?_
    refine lv_i2l hx hb dX10_trial_8 rfl ?_
    refine lv_lconst (v := (0 : Int64)) hx hb dX10_trial_9 (by decide) ?_
    refine lv_ldc2 hx hb C.ow (C.ts _ k_992) dX10_trial_10 ?_
    refine x_cont_z Dy (x_runS (As := [.long (v2.toInt64), .long (0 : Int64), .long (11 : Int64)]) (rest := []) C Dy (m_X10_in E l _ _ (v2.toInt64) (0 : Int64) (11 : Int64) _ hwp) (cw_X10_66 C rfl rfl ⟨Nat.le_trans (Nat.le_of_ble_eq_true rfl) hR.1, Nat.le_trans (Nat.le_of_ble_eq_true rfl) hR.2⟩) rfl lv.1 rfl (Nat.le_of_ble_eq_true rfl) dX10_trial_13 ⟨Nat.zero_le _, Nat.zero_le _⟩) (fun r4 h5 hl5 H locs zr4 hwp Dy => ?_)
    obtain ⟨rfl, rfl, hwp⟩ := hwp
    refine lv_if_ne (tgt := 22) hx hb dX10_trial_16 (by decide) (fun c6 => ?_) (fun c6 => ?_)
    · have hwp := hwp.2 c6
      refine lv_aload_n hx hb dX10_trial_22 rfl (lv_at lv 0 rfl) ?_
      refine gf_X10_135_0 C Dy dX10_trial_23 ?_
      refine lv_bipush (v := (12 : Int32)) hx hb dX10_trial_26 (by decide) ?_
      refine lv_icmp_ne (tgt := 34) hx hb dX10_trial_28 (by decide) (fun c7 => ?_) (fun c7 => ?_)
      · have hwp := hwp.2 c7
        refine lv_aload_n hx hb dX10_trial_34 rfl (lv_at lv 0 rfl) ?_
        refine gf_X10_37_0 C Dy dX10_trial_35 ?_
        refine lv_iconst (v := (2 : Int32)) hx hb dX10_trial_38 (by decide) ?_
        refine lv_aload_n hx hb dX10_trial_39 rfl (lv_at lv 0 rfl) ?_
        refine gf_X10_135_0 C Dy dX10_trial_40 ?_
        refine lv_imul hx hb dX10_trial_43 ?_
        refine lv_iload_n hx hb dX10_trial_44 rfl (lv_at lv 1 rfl) ?_
        obtain ⟨g8, hwp⟩ := hwp
        refine x_iast C Dy wma_10 g8 dX10_trial_45 (fun H locs Dy => ?_)
        refine lv_aload_n hx hb dX10_trial_46 rfl (lv_at lv 0 rfl) ?_
        refine gf_X10_37_0 C Dy dX10_trial_47 ?_
        refine lv_iconst (v := (2 : Int32)) hx hb dX10_trial_50 (by decide) ?_
        refine lv_aload_n hx hb dX10_trial_51 rfl (lv_at lv 0 rfl) ?_
        refine gf_X10_135_0 C Dy dX10_trial_52 ?_
        refine lv_imul hx hb dX10_trial_55 ?_
        refine lv_iconst (v := (1 : Int32)) hx hb dX10_trial_56 (by decide) ?_
        refine lv_iadd hx hb dX10_trial_57 ?_
        refine lv_iload_n hx hb dX10_trial_58 rfl (lv_at lv 2 rfl) ?_
        obtain ⟨g9, hwp⟩ := hwp
        refine x_iast C Dy wma_10 g9 dX10_trial_59 (fun H locs Dy => ?_)
        obtain ⟨h10, eh10⟩ : ∃ z : Mem, z = (up2 (up2 h 10 ((2 : Int32) * (h 0 11)).toNatClampNeg v1) 10 (((2 : Int32) * ((up2 h 10 ((2 : Int32) * (h 0 11)).toNatClampNeg v1) 0 11)) + (1 : Int32)).toNatClampNeg v2) := ⟨_, rfl⟩
        rw [← eh10] at Dy
        have hwp := hwp h10 eh10
        refine lv_aload_n hx hb dX10_trial_60 rfl (lv_at lv 0 rfl) ?_
        refine lv_dup hx hb dX10_trial_61 rfl ?_
        refine gf_X10_135_0 C Dy dX10_trial_62 ?_
        refine lv_iconst (v := (1 : Int32)) hx hb dX10_trial_65 (by decide) ?_
        refine lv_iadd hx hb dX10_trial_66 ?_
        refine pf_X10_135_0 C Dy dX10_trial_67 (fun H locs Dy => ?_)
        refine lv_aload_n hx hb dX10_trial_70 rfl (lv_at lv 0 rfl) ?_
        refine gf_X10_135_0 C Dy dX10_trial_71 ?_
        exact x_iret C Dy ⟨rfl, hwp⟩ dX10_trial_74
      · have hwp := hwp.1 c7
        refine lv_bipush (v := (-4 : Int32)) hx hb dX10_trial_31 (by decide) ?_
        exact x_iret C Dy ⟨rfl, hwp⟩ dX10_trial_33
    · have hwp := hwp.1 c6
      refine lv_bipush (v := (-2 : Int32)) hx hb dX10_trial_19 (by decide) ?_
      exact x_iret C Dy ⟨rfl, hwp⟩ dX10_trial_21
def p_X10_breach (h : Mem) (v1 : Int32) (v2 : Int32) (Qp : Int32 → Mem → Prop) : Prop := (p_X10_isYear v1 (fun r1 => ((r1 = 0 → Qp (-2 : Int32) h) ∧ (¬ (r1 = 0) → (p_X10_in (v2.toInt64) (0 : Int64) (11 : Int64) (fun r4 => ((r4 = 0 → Qp (-2 : Int32) h) ∧ (¬ (r4 = 0) → (((h 0 13) = (12 : Int32) → Qp (-4 : Int32) h) ∧ (¬ ((h 0 13) = (12 : Int32)) → (vp_in ((2 : Int32) * (h 0 13)) 24 ∧ (vp_in (((2 : Int32) * ((up2 h 11 ((2 : Int32) * (h 0 13)).toNatClampNeg v1) 0 13)) + (1 : Int32)) 24 ∧ (∀ h10 : Mem, h10 = (up2 (up2 h 11 ((2 : Int32) * (h 0 13)).toNatClampNeg v1) 11 (((2 : Int32) * ((up2 h 11 ((2 : Int32) * (h 0 13)).toNatClampNeg v1) 0 13)) + (1 : Int32)).toNatClampNeg v2) → Qp ((up2 h10 0 13 ((h10 0 13) + (1 : Int32))) 0 13) (up2 h10 0 13 ((h10 0 13) + (1 : Int32))))))))))))))))
set_option maxHeartbeats 4000000 in
set_option maxRecDepth 100000 in
theorem m_X10_breach (E : xE) (l : Launch) (h : Mem) (hl : MemL) (v1 : Int32) (v2 : Int32) (Qp : Int32 → Mem → Prop) (hwp : p_X10_breach h v1 v2 Qp) : Met l yX10_breach (wsU yX10_breach cX10_breach 3 (some .int)) ({ frames := 2, cells := 0, slots := 0, locals := 45 } : Room) (mPc (wdM E) [.ref (wad (wdM E) 0), .int v1, .int v2] h hl) (mQi (wdM E) (fun r h1 hl1 => hl = hl1 ∧ Qp r h1)) 0 0 (wA (wdM E)) := by
  refine x_met RX10 [(0, .ref (wad (wdM E) 0)), (1, .int v1), (2, .int v2)] (by decide) rfl (Nat.le_of_ble_eq_true rfl) rfl ?_
  intro p e s m args below meth c ls C Dy lv
  have hx := C.x
  have hb := C.b
  have hR : 2 ≤ ({ frames := 2, cells := 0, slots := 0, locals := 45 } : Room).frames ∧ 45 ≤ ({ frames := 2, cells := 0, slots := 0, locals := 45 } : Room).locals := ⟨Nat.le_refl _, Nat.le_refl _⟩
  unfold p_X10_breach at hwp
  refine lv_iload_n hx hb dX10_breach_0 rfl (lv_at lv 1 rfl) ?_
  refine x_cont_z Dy (x_runS (As := [.int v1]) (rest := []) C Dy (m_X10_isYear E l _ _ v1 _ hwp) (cw_X10_130 C rfl rfl ⟨Nat.le_trans (Nat.le_of_ble_eq_true rfl) hR.1, Nat.le_trans (Nat.le_of_ble_eq_true rfl) hR.2⟩) rfl lv.1 rfl (Nat.le_of_ble_eq_true rfl) dX10_breach_1 ⟨Nat.zero_le _, Nat.zero_le _⟩) (fun r1 h2 hl2 H locs zr1 hwp Dy => ?_)
  obtain ⟨rfl, rfl, hwp⟩ := hwp
  refine lv_if_eq (tgt := 19) hx hb dX10_breach_4 (by decide) (fun c3 => ?_) (fun c3 => ?_)
  · have hwp := hwp.1 c3
    refine lv_bipush (v := (-2 : Int32)) hx hb dX10_breach_19 (by decide) ?_
    exact x_iret C Dy ⟨rfl, hwp⟩ dX10_breach_21
  · have hwp := hwp.2 c3
    refine lv_iload_n hx hb dX10_breach_7 rfl (lv_at lv 2 rfl) ?_
    refine lv_i2l hx hb dX10_breach_8 rfl ?_
    refine lv_lconst (v := (0 : Int64)) hx hb dX10_breach_9 (by decide) ?_
    refine lv_ldc2 hx hb C.ow (C.ts _ k_992) dX10_breach_10 ?_
    refine x_cont_z Dy (x_runS (As := [.long (v2.toInt64), .long (0 : Int64), .long (11 : Int64)]) (rest := []) C Dy (m_X10_in E l _ _ (v2.toInt64) (0 : Int64) (11 : Int64) _ hwp) (cw_X10_66 C rfl rfl ⟨Nat.le_trans (Nat.le_of_ble_eq_true rfl) hR.1, Nat.le_trans (Nat.le_of_ble_eq_true rfl) hR.2⟩) rfl lv.1 rfl (Nat.le_of_ble_eq_true rfl) dX10_breach_13 ⟨Nat.zero_le _, Nat.zero_le _⟩) (fun r4 h5 hl5 H locs zr4 hwp Dy => ?_)
    obtain ⟨rfl, rfl, hwp⟩ := hwp
    refine lv_if_ne (tgt := 22) hx hb dX10_breach_16 (by decide) (fun c6 => ?_) (fun c6 => ?_)
    · have hwp := hwp.2 c6
      refine lv_aload_n hx hb dX10_breach_22 rfl (lv_at lv 0 rfl) ?_
      refine gf_X10_138_0 C Dy dX10_breach_23 ?_
      refine lv_bipush (v := (12 : Int32)) hx hb dX10_breach_26 (by decide) ?_
      refine lv_icmp_ne (tgt := 34) hx hb dX10_breach_28 (by decide) (fun c7 => ?_) (fun c7 => ?_)
      · have hwp := hwp.2 c7
        refine lv_aload_n hx hb dX10_breach_34 rfl (lv_at lv 0 rfl) ?_
        refine gf_X10_40_0 C Dy dX10_breach_35 ?_
        refine lv_iconst (v := (2 : Int32)) hx hb dX10_breach_38 (by decide) ?_
        refine lv_aload_n hx hb dX10_breach_39 rfl (lv_at lv 0 rfl) ?_
        refine gf_X10_138_0 C Dy dX10_breach_40 ?_
        refine lv_imul hx hb dX10_breach_43 ?_
        refine lv_iload_n hx hb dX10_breach_44 rfl (lv_at lv 1 rfl) ?_
        obtain ⟨g8, hwp⟩ := hwp
        refine x_iast C Dy wma_11 g8 dX10_breach_45 (fun H locs Dy => ?_)
        refine lv_aload_n hx hb dX10_breach_46 rfl (lv_at lv 0 rfl) ?_
        refine gf_X10_40_0 C Dy dX10_breach_47 ?_
        refine lv_iconst (v := (2 : Int32)) hx hb dX10_breach_50 (by decide) ?_
        refine lv_aload_n hx hb dX10_breach_51 rfl (lv_at lv 0 rfl) ?_
        refine gf_X10_138_0 C Dy dX10_breach_52 ?_
        refine lv_imul hx hb dX10_breach_55 ?_
        refine lv_iconst (v := (1 : Int32)) hx hb dX10_breach_56 (by decide) ?_
        refine lv_iadd hx hb dX10_breach_57 ?_
        refine lv_iload_n hx hb dX10_breach_58 rfl (lv_at lv 2 rfl) ?_
        obtain ⟨g9, hwp⟩ := hwp
        refine x_iast C Dy wma_11 g9 dX10_breach_59 (fun H locs Dy => ?_)
        obtain ⟨h10, eh10⟩ : ∃ z : Mem, z = (up2 (up2 h 11 ((2 : Int32) * (h 0 13)).toNatClampNeg v1) 11 (((2 : Int32) * ((up2 h 11 ((2 : Int32) * (h 0 13)).toNatClampNeg v1) 0 13)) + (1 : Int32)).toNatClampNeg v2) := ⟨_, rfl⟩
        rw [← eh10] at Dy
        have hwp := hwp h10 eh10
        refine lv_aload_n hx hb dX10_breach_60 rfl (lv_at lv 0 rfl) ?_
        refine lv_dup hx hb dX10_breach_61 rfl ?_
        refine gf_X10_138_0 C Dy dX10_breach_62 ?_
        refine lv_iconst (v := (1 : Int32)) hx hb dX10_breach_65 (by decide) ?_
        refine lv_iadd hx hb dX10_breach_66 ?_
        refine pf_X10_138_0 C Dy dX10_breach_67 (fun H locs Dy => ?_)
        refine lv_aload_n hx hb dX10_breach_70 rfl (lv_at lv 0 rfl) ?_
        refine gf_X10_138_0 C Dy dX10_breach_71 ?_
        exact x_iret C Dy ⟨rfl, hwp⟩ dX10_breach_74
      · have hwp := hwp.1 c7
        refine lv_bipush (v := (-4 : Int32)) hx hb dX10_breach_31 (by decide) ?_
        exact x_iret C Dy ⟨rfl, hwp⟩ dX10_breach_33
    · have hwp := hwp.1 c6
      refine lv_bipush (v := (-2 : Int32)) hx hb dX10_breach_19 (by decide) ?_
      exact x_iret C Dy ⟨rfl, hwp⟩ dX10_breach_21
def b_X10_back_47 (h : Mem) (v1 : Int32) (v2 : Int32) (w0 : Int32) (w1 : Int32) (Qp : Int32 → Mem → Prop) : Prop := Qp (v2 - (1 : Int32)) (up2 (up2 h 0 11 (w1 - w0)) 0 13 (((up2 h 0 11 (w1 - w0)) 0 13) - v1))
def b_X10_back_25 (h : Mem) (v1 : Int32) (w0 : Int32) (Qp : Int32 → Mem → Prop) : Prop := ((w0 = 0 → Qp (-3 : Int32) h) ∧ (¬ (w0 = 0) → b_X10_back_47 h v1 w0 (if v1 = 0 then (1 : Int32) else (0 : Int32)) (h 0 11) Qp))
def p_X10_back (h : Mem) (v1 : Int32) (Qp : Int32 → Mem → Prop) : Prop := (p_X10_isTwo v1 (fun r3 => ((r3 = 0 → Qp (-2 : Int32) h) ∧ (¬ (r3 = 0) → b_X10_back_25 h v1 (if v1 = 0 then (h 0 11) else (h 0 13)) Qp))))
set_option maxHeartbeats 4000000 in
set_option maxRecDepth 100000 in
theorem t_X10_back_47 (E : xE) {p : Program} {l : Launch} {e : Env} {R : Room} {s : State} {m : MethodId} {args : Array Value} {below : List Frame} {meth : Method} {c : Code} (C : mC (wdM E) p s m meth c args cX10_back 3 RX10 (some .int)) (hR : 2 ≤ R.frames ∧ 45 ≤ R.locals) {hl : MemL} (Qp : Int32 → Mem → Prop) : ∀ (h : Mem) (v1 : Int32) (v2 : Int32) (w0 : Int32) (w1 : Int32) (H : Heap) (locs : List Loc) (ls : Array Slot), mD (wdM E) h hl s H locs → lv_has ls 3 [(0, .ref (wad (wdM E) 0)), (1, .int v1), (2, .int v2)] → b_X10_back_47 h v1 v2 w0 w1 Qp → W p l e R s m args below meth c H locs 0 0 (MQ below (mQi (wdM E) (fun r h1 hl1 => hl = hl1 ∧ Qp r h1)) args s 0 0 (wA (wdM E))) (F0 m 47 ls [.int w0, .int w1, .ref (wad (wdM E) 0)]) := by
  have hx := C.x
  have hb := C.b
  intro h v1 v2 w0 w1 H locs ls Dy lv hwp
  unfold b_X10_back_47 at hwp
  refine lv_isub hx hb dX10_back_47 ?_
  refine pf_X10_135_0 C Dy dX10_back_48 (fun H locs Dy => ?_)
  refine lv_aload_n hx hb dX10_back_51 rfl (lv_at lv 0 rfl) ?_
  refine lv_dup hx hb dX10_back_52 rfl ?_
  refine gf_X10_138_0 C Dy dX10_back_53 ?_
  refine lv_iload_n hx hb dX10_back_56 rfl (lv_at lv 1 rfl) ?_
  refine lv_isub hx hb dX10_back_57 ?_
  refine pf_X10_138_0 C Dy dX10_back_58 (fun H locs Dy => ?_)
  refine lv_iload_n hx hb dX10_back_61 rfl (lv_at lv 2 rfl) ?_
  refine lv_iconst (v := (1 : Int32)) hx hb dX10_back_62 (by decide) ?_
  refine lv_isub hx hb dX10_back_63 ?_
  exact x_iret C Dy ⟨rfl, hwp⟩ dX10_back_64
set_option maxHeartbeats 4000000 in
set_option maxRecDepth 100000 in
theorem t_X10_back_25 (E : xE) {p : Program} {l : Launch} {e : Env} {R : Room} {s : State} {m : MethodId} {args : Array Value} {below : List Frame} {meth : Method} {c : Code} (C : mC (wdM E) p s m meth c args cX10_back 3 RX10 (some .int)) (hR : 2 ≤ R.frames ∧ 45 ≤ R.locals) {hl : MemL} (Qp : Int32 → Mem → Prop) : ∀ (h : Mem) (v1 : Int32) (w0 : Int32) (H : Heap) (locs : List Loc) (ls : Array Slot), mD (wdM E) h hl s H locs → lv_has ls 3 [(0, .ref (wad (wdM E) 0)), (1, .int v1)] → b_X10_back_25 h v1 w0 Qp → W p l e R s m args below meth c H locs 0 0 (MQ below (mQi (wdM E) (fun r h1 hl1 => hl = hl1 ∧ Qp r h1)) args s 0 0 (wA (wdM E))) (F0 m 25 ls [.int w0]) := by
  have hx := C.x
  have hb := C.b
  intro h v1 w0 H locs ls Dy lv hwp
  unfold b_X10_back_25 at hwp
  refine lv_istore_n (lv' := [(2, .int w0), (0, .ref (wad (wdM E) 0)), (1, .int v1)]) hx hb dX10_back_25 rfl lv (by decide) rfl (fun ls lv => ?_)
  refine lv_iload_n hx hb dX10_back_26 rfl (lv_at lv 0 rfl) ?_
  refine lv_if_ne (tgt := 33) hx hb dX10_back_27 (by decide) (fun c1 => ?_) (fun c1 => ?_)
  · have hwp := hwp.2 c1
    refine lv_aload_n hx hb dX10_back_33 rfl (lv_at lv 1 rfl) ?_
    refine lv_dup hx hb dX10_back_34 rfl ?_
    refine gf_X10_135_0 C Dy dX10_back_35 ?_
    refine lv_iload_n hx hb dX10_back_38 rfl (lv_at lv 2 rfl) ?_
    refine lv_if_ne (tgt := 46) hx hb dX10_back_39 (by decide) (fun c2 => ?_) (fun c2 => ?_)
    · try simp only [if_neg c2] at hwp
      refine lv_iconst (v := (0 : Int32)) hx hb dX10_back_46 (by decide) ?_
      exact t_X10_back_47 E C hR Qp h v1 w0 (0 : Int32) (h 0 11) _ _ _ Dy (lv_sub lv [1, 2, 0] rfl) hwp
    · try simp only [if_pos c2] at hwp
      refine lv_iconst (v := (1 : Int32)) hx hb dX10_back_42 (by decide) ?_
      refine lv_goto (tgt := 47) hx hb dX10_back_43 (by decide) ?_
      exact t_X10_back_47 E C hR Qp h v1 w0 (1 : Int32) (h 0 11) _ _ _ Dy (lv_sub lv [1, 2, 0] rfl) hwp
  · have hwp := hwp.1 c1
    refine lv_bipush (v := (-3 : Int32)) hx hb dX10_back_30 (by decide) ?_
    exact x_iret C Dy ⟨rfl, hwp⟩ dX10_back_32
set_option maxHeartbeats 4000000 in
set_option maxRecDepth 100000 in
theorem m_X10_back (E : xE) (l : Launch) (h : Mem) (hl : MemL) (v1 : Int32) (Qp : Int32 → Mem → Prop) (hwp : p_X10_back h v1 Qp) : Met l yX10_back (wsU yX10_back cX10_back 3 (some .int)) ({ frames := 2, cells := 0, slots := 0, locals := 45 } : Room) (mPc (wdM E) [.ref (wad (wdM E) 0), .int v1] h hl) (mQi (wdM E) (fun r h1 hl1 => hl = hl1 ∧ Qp r h1)) 0 0 (wA (wdM E)) := by
  refine x_met RX10 [(0, .ref (wad (wdM E) 0)), (1, .int v1)] (by decide) rfl (Nat.le_of_ble_eq_true rfl) rfl ?_
  intro p e s m args below meth c ls C Dy lv
  have hx := C.x
  have hb := C.b
  have hR : 2 ≤ ({ frames := 2, cells := 0, slots := 0, locals := 45 } : Room).frames ∧ 45 ≤ ({ frames := 2, cells := 0, slots := 0, locals := 45 } : Room).locals := ⟨Nat.le_refl _, Nat.le_refl _⟩
  unfold p_X10_back at hwp
  refine lv_iload_n hx hb dX10_back_0 rfl (lv_at lv 1 rfl) ?_
  refine x_cont_z Dy (x_runS (As := [.int v1]) (rest := []) C Dy (m_X10_isTwo E l _ _ v1 _ hwp) (cw_X10_95 C rfl rfl ⟨Nat.le_trans (Nat.le_of_ble_eq_true rfl) hR.1, Nat.le_trans (Nat.le_of_ble_eq_true rfl) hR.2⟩) rfl lv.1 rfl (Nat.le_of_ble_eq_true rfl) dX10_back_1 ⟨Nat.zero_le _, Nat.zero_le _⟩) (fun r3 h4 hl4 H locs zr3 hwp Dy => ?_)
  obtain ⟨rfl, rfl, hwp⟩ := hwp
  refine lv_if_ne (tgt := 10) hx hb dX10_back_4 (by decide) (fun c5 => ?_) (fun c5 => ?_)
  · have hwp := hwp.2 c5
    refine lv_iload_n hx hb dX10_back_10 rfl (lv_at lv 1 rfl) ?_
    refine lv_if_ne (tgt := 21) hx hb dX10_back_11 (by decide) (fun c6 => ?_) (fun c6 => ?_)
    · try simp only [if_neg c6] at hwp
      refine lv_aload_n hx hb dX10_back_21 rfl (lv_at lv 0 rfl) ?_
      refine gf_X10_138_0 C Dy dX10_back_22 ?_
      exact t_X10_back_25 E C hR Qp h v1 (h 0 13) _ _ _ Dy (lv_sub lv [0, 1] rfl) hwp
    · try simp only [if_pos c6] at hwp
      refine lv_aload_n hx hb dX10_back_14 rfl (lv_at lv 0 rfl) ?_
      refine gf_X10_135_0 C Dy dX10_back_15 ?_
      refine lv_goto (tgt := 25) hx hb dX10_back_18 (by decide) ?_
      exact t_X10_back_25 E C hR Qp h v1 (h 0 11) _ _ _ Dy (lv_sub lv [0, 1] rfl) hwp
  · have hwp := hwp.1 c5
    refine lv_bipush (v := (-2 : Int32)) hx hb dX10_back_7 (by decide) ?_
    exact x_iret C Dy ⟨rfl, hwp⟩ dX10_back_9
def b_X10_breaks_60 (h : Mem) (v1 : Int32) (v2 : Int32) (w0 : Int32) (w1 : Int32) (w2 : Int32) (K9 : Mem → Int32 → Int32 → Prop) (Qp : Mem → Prop) : Prop := (vp_in w2 12 ∧ K9 (up2 h 13 w2.toNatClampNeg (w1 ||| w0)) v1 (v2 + (1 : Int32)))
def b_X10_breaks_59 (h : Mem) (v1 : Int32) (v2 : Int32) (w0 : Int32) (w1 : Int32) (K9 : Mem → Int32 → Int32 → Prop) (Qp : Mem → Prop) : Prop := b_X10_breaks_60 h v1 v2 (0 : Int32) w0 w1 K9 Qp
def b_X10_breaks_9 : Nat → Mem → Int32 → Int32 → (Mem → Prop) → Prop
  | 0 => fun _ _ _ _ => False
  | n + 1 => fun h v1 v2 Qp => (((h 0 13) ≤ v2 → Qp h) ∧ (¬ ((h 0 13) ≤ v2) → (vp_in v1 12 ∧ (vp_in (((2 : Int32) * v2) + (1 : Int32)) 24 ∧ (((h 11 (((2 : Int32) * v2) + (1 : Int32)).toNatClampNeg) = v1 → (vp_in ((2 : Int32) * v2) 24 ∧ (vp_in v1 12 ∧ (((h 11 ((2 : Int32) * v2).toNatClampNeg) = (h 12 v1.toNatClampNeg) → b_X10_breaks_60 h v1 v2 (1 : Int32) (h 13 v1.toNatClampNeg) v1 (fun h v1 v2 => b_X10_breaks_9 n h v1 v2 Qp) Qp) ∧ (¬ ((h 11 ((2 : Int32) * v2).toNatClampNeg) = (h 12 v1.toNatClampNeg)) → b_X10_breaks_59 h v1 v2 (h 13 v1.toNatClampNeg) v1 (fun h v1 v2 => b_X10_breaks_9 n h v1 v2 Qp) Qp))))) ∧ (¬ ((h 11 (((2 : Int32) * v2) + (1 : Int32)).toNatClampNeg) = v1) → b_X10_breaks_59 h v1 v2 (h 13 v1.toNatClampNeg) v1 (fun h v1 v2 => b_X10_breaks_9 n h v1 v2 Qp) Qp))))))
def p_X10_breaks (h : Mem) (v1 : Int32) (Qp : Mem → Prop) : Prop := (vp_in v1 12 ∧ (∃ n9, b_X10_breaks_9 n9 (up2 h 13 v1.toNatClampNeg (0 : Int32)) v1 (0 : Int32) Qp))
set_option maxHeartbeats 4000000 in
set_option maxRecDepth 100000 in
theorem t_X10_breaks_60 (E : xE) {p : Program} {l : Launch} {e : Env} {R : Room} {s : State} {m : MethodId} {args : Array Value} {below : List Frame} {meth : Method} {c : Code} (C : mC (wdM E) p s m meth c args cX10_breaks 3 RX10 none) (hR : 0 ≤ R.frames ∧ 0 ≤ R.locals) {hl : MemL} (Qp : Mem → Prop) (K9 : Mem → Int32 → Int32 → Prop) (hK9 : ∀ (h : Mem) (v1 : Int32) (v2 : Int32) (H : Heap) (locs : List Loc) (ls : Array Slot), mD (wdM E) h hl s H locs → lv_has ls 3 [(0, .ref (wad (wdM E) 0)), (1, .int v1), (2, .int v2)] → K9 h v1 v2 → W p l e R s m args below meth c H locs 0 0 (MQ below (mQv (wdM E) (fun h1 hl1 => hl = hl1 ∧ Qp h1)) args s 0 0 (wA (wdM E))) (F0 m 9 ls [])) : ∀ (h : Mem) (v1 : Int32) (v2 : Int32) (w0 : Int32) (w1 : Int32) (w2 : Int32) (H : Heap) (locs : List Loc) (ls : Array Slot), mD (wdM E) h hl s H locs → lv_has ls 3 [(0, .ref (wad (wdM E) 0)), (1, .int v1), (2, .int v2)] → b_X10_breaks_60 h v1 v2 w0 w1 w2 K9 Qp → W p l e R s m args below meth c H locs 0 0 (MQ below (mQv (wdM E) (fun h1 hl1 => hl = hl1 ∧ Qp h1)) args s 0 0 (wA (wdM E))) (F0 m 60 ls [.int w0, .int w1, .int w2, .ref (wad (wdM E) 13)]) := by
  have hx := C.x
  have hb := C.b
  intro h v1 v2 w0 w1 w2 H locs ls Dy lv hwp
  unfold b_X10_breaks_60 at hwp
  refine lv_ior hx hb dX10_breaks_60 ?_
  obtain ⟨g8, hwp⟩ := hwp
  refine x_iast C Dy wma_13 g8 dX10_breaks_61 (fun H locs Dy => ?_)
  refine lv_iinc (v := (v2 + (1 : Int32))) (lv' := [(2, .int (v2 + (1 : Int32))), (0, .ref (wad (wdM E) 0)), (1, .int v1)]) hx hb dX10_breaks_62 lv (k := 2) rfl rfl (by decide) rfl (fun ls lv => ?_)
  refine lv_goto (tgt := 9) hx hb dX10_breaks_65 (by decide) ?_
  exact hK9 (up2 h 13 w2.toNatClampNeg (w1 ||| w0)) v1 (v2 + (1 : Int32)) _ _ _ Dy (lv_sub lv [1, 2, 0] rfl) hwp
set_option maxHeartbeats 4000000 in
set_option maxRecDepth 100000 in
theorem t_X10_breaks_59 (E : xE) {p : Program} {l : Launch} {e : Env} {R : Room} {s : State} {m : MethodId} {args : Array Value} {below : List Frame} {meth : Method} {c : Code} (C : mC (wdM E) p s m meth c args cX10_breaks 3 RX10 none) (hR : 0 ≤ R.frames ∧ 0 ≤ R.locals) {hl : MemL} (Qp : Mem → Prop) (K9 : Mem → Int32 → Int32 → Prop) (hK9 : ∀ (h : Mem) (v1 : Int32) (v2 : Int32) (H : Heap) (locs : List Loc) (ls : Array Slot), mD (wdM E) h hl s H locs → lv_has ls 3 [(0, .ref (wad (wdM E) 0)), (1, .int v1), (2, .int v2)] → K9 h v1 v2 → W p l e R s m args below meth c H locs 0 0 (MQ below (mQv (wdM E) (fun h1 hl1 => hl = hl1 ∧ Qp h1)) args s 0 0 (wA (wdM E))) (F0 m 9 ls [])) : ∀ (h : Mem) (v1 : Int32) (v2 : Int32) (w0 : Int32) (w1 : Int32) (H : Heap) (locs : List Loc) (ls : Array Slot), mD (wdM E) h hl s H locs → lv_has ls 3 [(0, .ref (wad (wdM E) 0)), (1, .int v1), (2, .int v2)] → b_X10_breaks_59 h v1 v2 w0 w1 K9 Qp → W p l e R s m args below meth c H locs 0 0 (MQ below (mQv (wdM E) (fun h1 hl1 => hl = hl1 ∧ Qp h1)) args s 0 0 (wA (wdM E))) (F0 m 59 ls [.int w0, .int w1, .ref (wad (wdM E) 13)]) := by
  have hx := C.x
  have hb := C.b
  intro h v1 v2 w0 w1 H locs ls Dy lv hwp
  unfold b_X10_breaks_59 at hwp
  refine lv_iconst (v := (0 : Int32)) hx hb dX10_breaks_59 (by decide) ?_
  exact t_X10_breaks_60 E C hR Qp K9 hK9 h v1 v2 (0 : Int32) w0 w1 _ _ _ Dy (lv_sub lv [0, 1, 2] rfl) hwp
set_option maxHeartbeats 4000000 in
set_option maxRecDepth 100000 in
theorem t_X10_breaks_9 (E : xE) {p : Program} {l : Launch} {e : Env} {R : Room} {s : State} {m : MethodId} {args : Array Value} {below : List Frame} {meth : Method} {c : Code} (C : mC (wdM E) p s m meth c args cX10_breaks 3 RX10 none) (hR : 0 ≤ R.frames ∧ 0 ≤ R.locals) {hl : MemL} (Qp : Mem → Prop) : ∀ (n : Nat) (h : Mem) (v1 : Int32) (v2 : Int32) (H : Heap) (locs : List Loc) (ls : Array Slot), mD (wdM E) h hl s H locs → lv_has ls 3 [(0, .ref (wad (wdM E) 0)), (1, .int v1), (2, .int v2)] → b_X10_breaks_9 n h v1 v2 Qp → W p l e R s m args below meth c H locs 0 0 (MQ below (mQv (wdM E) (fun h1 hl1 => hl = hl1 ∧ Qp h1)) args s 0 0 (wA (wdM E))) (F0 m 9 ls []) := by
  have hx := C.x
  have hb := C.b
  intro n
  induction n with
  | zero => intro h v1 v2 H locs ls Dy lv hwp; exact hwp.elim
  | succ n ih =>
    intro h v1 v2 H locs ls Dy lv hwp
    simp only [b_X10_breaks_9] at hwp
    refine lv_iload_n hx hb dX10_breaks_9 rfl (lv_at lv 2 rfl) ?_
    refine lv_aload_n hx hb dX10_breaks_10 rfl (lv_at lv 0 rfl) ?_
    refine gf_X10_138_0 C Dy dX10_breaks_11 ?_
    refine lv_icmp_ge (tgt := 68) hx hb dX10_breaks_14 (by decide) (fun c1 => ?_) (fun c1 => ?_)
    · have hwp := hwp.1 c1
      exact x_vret C Dy ⟨rfl, hwp⟩ dX10_breaks_68
    · have hwp := hwp.2 c1
      refine lv_aload_n hx hb dX10_breaks_17 rfl (lv_at lv 0 rfl) ?_
      refine gf_X10_46_0 C Dy dX10_breaks_18 ?_
      refine lv_iload_n hx hb dX10_breaks_21 rfl (lv_at lv 1 rfl) ?_
      refine lv_dup2_11 hx hb dX10_breaks_22 rfl rfl ?_
      obtain ⟨g2, hwp⟩ := hwp
      refine x_iald C Dy wma_13 g2 dX10_breaks_23 ?_
      refine lv_aload_n hx hb dX10_breaks_24 rfl (lv_at lv 0 rfl) ?_
      refine gf_X10_40_0 C Dy dX10_breaks_25 ?_
      refine lv_iconst (v := (2 : Int32)) hx hb dX10_breaks_28 (by decide) ?_
      refine lv_iload_n hx hb dX10_breaks_29 rfl (lv_at lv 2 rfl) ?_
      refine lv_imul hx hb dX10_breaks_30 ?_
      refine lv_iconst (v := (1 : Int32)) hx hb dX10_breaks_31 (by decide) ?_
      refine lv_iadd hx hb dX10_breaks_32 ?_
      obtain ⟨g3, hwp⟩ := hwp
      refine x_iald C Dy wma_11 g3 dX10_breaks_33 ?_
      refine lv_iload_n hx hb dX10_breaks_34 rfl (lv_at lv 1 rfl) ?_
      refine lv_icmp_ne (tgt := 59) hx hb dX10_breaks_35 (by decide) (fun c4 => ?_) (fun c4 => ?_)
      · have hwp := hwp.2 c4
        exact t_X10_breaks_59 E C hR Qp (fun h v1 v2 => b_X10_breaks_9 n h v1 v2 Qp) (fun h v1 v2 H locs ls Dy lv hwp => ih h v1 v2 H locs ls Dy lv hwp) h v1 v2 (h 13 v1.toNatClampNeg) v1 _ _ _ Dy (lv_sub lv [0, 1, 2] rfl) hwp
      · have hwp := hwp.1 c4
        refine lv_aload_n hx hb dX10_breaks_38 rfl (lv_at lv 0 rfl) ?_
        refine gf_X10_40_0 C Dy dX10_breaks_39 ?_
        refine lv_iconst (v := (2 : Int32)) hx hb dX10_breaks_42 (by decide) ?_
        refine lv_iload_n hx hb dX10_breaks_43 rfl (lv_at lv 2 rfl) ?_
        refine lv_imul hx hb dX10_breaks_44 ?_
        obtain ⟨g5, hwp⟩ := hwp
        refine x_iald C Dy wma_11 g5 dX10_breaks_45 ?_
        refine lv_aload_n hx hb dX10_breaks_46 rfl (lv_at lv 0 rfl) ?_
        refine gf_X10_43_0 C Dy dX10_breaks_47 ?_
        refine lv_iload_n hx hb dX10_breaks_50 rfl (lv_at lv 1 rfl) ?_
        obtain ⟨g6, hwp⟩ := hwp
        refine x_iald C Dy wma_12 g6 dX10_breaks_51 ?_
        refine lv_icmp_ne (tgt := 59) hx hb dX10_breaks_52 (by decide) (fun c7 => ?_) (fun c7 => ?_)
        · have hwp := hwp.2 c7
          exact t_X10_breaks_59 E C hR Qp (fun h v1 v2 => b_X10_breaks_9 n h v1 v2 Qp) (fun h v1 v2 H locs ls Dy lv hwp => ih h v1 v2 H locs ls Dy lv hwp) h v1 v2 (h 13 v1.toNatClampNeg) v1 _ _ _ Dy (lv_sub lv [0, 1, 2] rfl) hwp
        · have hwp := hwp.1 c7
          refine lv_iconst (v := (1 : Int32)) hx hb dX10_breaks_55 (by decide) ?_
          refine lv_goto (tgt := 60) hx hb dX10_breaks_56 (by decide) ?_
          exact t_X10_breaks_60 E C hR Qp (fun h v1 v2 => b_X10_breaks_9 n h v1 v2 Qp) (fun h v1 v2 H locs ls Dy lv hwp => ih h v1 v2 H locs ls Dy lv hwp) h v1 v2 (1 : Int32) (h 13 v1.toNatClampNeg) v1 _ _ _ Dy (lv_sub lv [0, 1, 2] rfl) hwp
set_option maxHeartbeats 4000000 in
set_option maxRecDepth 100000 in
theorem m_X10_breaks (E : xE) (l : Launch) (h : Mem) (hl : MemL) (v1 : Int32) (Qp : Mem → Prop) (hwp : p_X10_breaks h v1 Qp) : Met l yX10_breaks (wsU yX10_breaks cX10_breaks 3 none) ({ frames := 0, cells := 0, slots := 0, locals := 0 } : Room) (mPc (wdM E) [.ref (wad (wdM E) 0), .int v1] h hl) (mQv (wdM E) (fun h1 hl1 => hl = hl1 ∧ Qp h1)) 0 0 (wA (wdM E)) := by
  refine x_met RX10 [(0, .ref (wad (wdM E) 0)), (1, .int v1)] (by decide) rfl (Nat.le_of_ble_eq_true rfl) rfl ?_
  intro p e s m args below meth c ls C Dy lv
  have hx := C.x
  have hb := C.b
  have hR : 0 ≤ ({ frames := 0, cells := 0, slots := 0, locals := 0 } : Room).frames ∧ 0 ≤ ({ frames := 0, cells := 0, slots := 0, locals := 0 } : Room).locals := ⟨Nat.le_refl _, Nat.le_refl _⟩
  unfold p_X10_breaks at hwp
  refine lv_aload_n hx hb dX10_breaks_0 rfl (lv_at lv 0 rfl) ?_
  refine gf_X10_46_0 C Dy dX10_breaks_1 ?_
  refine lv_iload_n hx hb dX10_breaks_4 rfl (lv_at lv 1 rfl) ?_
  refine lv_iconst (v := (0 : Int32)) hx hb dX10_breaks_5 (by decide) ?_
  obtain ⟨g9, hwp⟩ := hwp
  refine x_iast C Dy wma_13 g9 dX10_breaks_6 (fun H locs Dy => ?_)
  refine lv_iconst (v := (0 : Int32)) hx hb dX10_breaks_7 (by decide) ?_
  refine lv_istore_n (lv' := [(2, .int (0 : Int32)), (0, .ref (wad (wdM E) 0)), (1, .int v1)]) hx hb dX10_breaks_8 rfl lv (by decide) rfl (fun ls lv => ?_)
  obtain ⟨n0, hwp⟩ := hwp
  exact t_X10_breaks_9 E C hR Qp n0 (up2 h 13 v1.toNatClampNeg (0 : Int32)) v1 (0 : Int32) _ _ _ Dy (lv_sub lv [1, 2, 0] rfl) hwp
def b_X10_find_66 (h : Mem) (v1 : Int32) (v2 : Int32) (w0 : Int32) (w1 : Int32) (K6 : Mem → Int32 → Prop) (K26 : Mem → Int32 → Int32 → Prop) (Qp : Mem → Prop) : Prop := (vp_in w1 12 ∧ K26 (up2 h 12 w1.toNatClampNeg w0) v1 (v2 + (-1 : Int32)))
def b_X10_find_26 : Nat → Mem → Int32 → Int32 → (Mem → Int32 → Prop) → (Mem → Prop) → Prop
  | 0 => fun _ _ _ _ _ => False
  | n + 1 => fun h v1 v2 K6 Qp => ((v2 < 0 → (p_X10_breaks h v1 (fun h6 => K6 h6 (v1 + (1 : Int32))))) ∧ (¬ (v2 < 0) → (vp_in (((2 : Int32) * v2) + (1 : Int32)) 24 ∧ (((h 10 (((2 : Int32) * v2) + (1 : Int32)).toNatClampNeg) = v1 → (vp_in ((2 : Int32) * v2) 24 ∧ b_X10_find_66 h v1 v2 (h 10 ((2 : Int32) * v2).toNatClampNeg) v1 K6 (fun h v1 v2 => b_X10_find_26 n h v1 v2 K6 Qp) Qp)) ∧ (¬ ((h 10 (((2 : Int32) * v2) + (1 : Int32)).toNatClampNeg) = v1) → (vp_in v1 12 ∧ b_X10_find_66 h v1 v2 (h 12 v1.toNatClampNeg) v1 K6 (fun h v1 v2 => b_X10_find_26 n h v1 v2 K6 Qp) Qp))))))
def b_X10_find_6 : Nat → Mem → Int32 → (Mem → Prop) → Prop
  | 0 => fun _ _ _ => False
  | n + 1 => fun h v1 Qp => (((12 : Int32) ≤ v1 → Qp h) ∧ (¬ ((12 : Int32) ≤ v1) → (vp_in v1 12 ∧ (∀ x3 : Int32, x3 = (((up2 h 12 v1.toNatClampNeg (-1 : Int32)) 0 11) - (1 : Int32)) → (∃ n26, b_X10_find_26 n26 (up2 h 12 v1.toNatClampNeg (-1 : Int32)) v1 x3 (fun h v1 => b_X10_find_6 n h v1 Qp) Qp)))))
def p_X10_find (h : Mem) (Qp : Mem → Prop) : Prop := (p_X10_reads h (fun h13 => (∃ n6, b_X10_find_6 n6 h13 (0 : Int32) Qp)))
set_option maxHeartbeats 4000000 in
set_option maxRecDepth 100000 in
theorem t_X10_find_66 (E : xE) {p : Program} {l : Launch} {e : Env} {R : Room} {s : State} {m : MethodId} {args : Array Value} {below : List Frame} {meth : Method} {c : Code} (C : mC (wdM E) p s m meth c args cX10_find 3 RX10 none) (hR : 6 ≤ R.frames ∧ 136 ≤ R.locals) {hl : MemL} (Qp : Mem → Prop) (K6 : Mem → Int32 → Prop) (K26 : Mem → Int32 → Int32 → Prop) (hK6 : ∀ (h : Mem) (v1 : Int32) (H : Heap) (locs : List Loc) (ls : Array Slot), mD (wdM E) h hl s H locs → lv_has ls 3 [(0, .ref (wad (wdM E) 0)), (1, .int v1)] → K6 h v1 → W p l e R s m args below meth c H locs 0 0 (MQ below (mQv (wdM E) (fun h1 hl1 => hl = hl1 ∧ Qp h1)) args s 0 0 (wA (wdM E))) (F0 m 6 ls [])) (hK26 : ∀ (h : Mem) (v1 : Int32) (v2 : Int32) (H : Heap) (locs : List Loc) (ls : Array Slot), mD (wdM E) h hl s H locs → lv_has ls 3 [(0, .ref (wad (wdM E) 0)), (1, .int v1), (2, .int v2)] → K26 h v1 v2 → W p l e R s m args below meth c H locs 0 0 (MQ below (mQv (wdM E) (fun h1 hl1 => hl = hl1 ∧ Qp h1)) args s 0 0 (wA (wdM E))) (F0 m 26 ls [])) : ∀ (h : Mem) (v1 : Int32) (v2 : Int32) (w0 : Int32) (w1 : Int32) (H : Heap) (locs : List Loc) (ls : Array Slot), mD (wdM E) h hl s H locs → lv_has ls 3 [(0, .ref (wad (wdM E) 0)), (1, .int v1), (2, .int v2)] → b_X10_find_66 h v1 v2 w0 w1 K6 K26 Qp → W p l e R s m args below meth c H locs 0 0 (MQ below (mQv (wdM E) (fun h1 hl1 => hl = hl1 ∧ Qp h1)) args s 0 0 (wA (wdM E))) (F0 m 66 ls [.int w0, .int w1, .ref (wad (wdM E) 12)]) := by
  have hx := C.x
  have hb := C.b
  intro h v1 v2 w0 w1 H locs ls Dy lv hwp
  unfold b_X10_find_66 at hwp
  obtain ⟨g11, hwp⟩ := hwp
  refine x_iast C Dy wma_12 g11 dX10_find_66 (fun H locs Dy => ?_)
  refine lv_iinc (v := (v2 + (-1 : Int32))) (lv' := [(2, .int (v2 + (-1 : Int32))), (0, .ref (wad (wdM E) 0)), (1, .int v1)]) hx hb dX10_find_67 lv (k := 2) rfl rfl (by decide) rfl (fun ls lv => ?_)
  refine lv_goto (tgt := 26) hx hb dX10_find_70 (by decide) ?_
  exact hK26 (up2 h 12 w1.toNatClampNeg w0) v1 (v2 + (-1 : Int32)) _ _ _ Dy (lv_sub lv [1, 2, 0] rfl) hwp
set_option maxHeartbeats 4000000 in
set_option maxRecDepth 100000 in
theorem t_X10_find_26 (E : xE) {p : Program} {l : Launch} {e : Env} {R : Room} {s : State} {m : MethodId} {args : Array Value} {below : List Frame} {meth : Method} {c : Code} (C : mC (wdM E) p s m meth c args cX10_find 3 RX10 none) (hR : 6 ≤ R.frames ∧ 136 ≤ R.locals) {hl : MemL} (Qp : Mem → Prop) (K6 : Mem → Int32 → Prop) (hK6 : ∀ (h : Mem) (v1 : Int32) (H : Heap) (locs : List Loc) (ls : Array Slot), mD (wdM E) h hl s H locs → lv_has ls 3 [(0, .ref (wad (wdM E) 0)), (1, .int v1)] → K6 h v1 → W p l e R s m args below meth c H locs 0 0 (MQ below (mQv (wdM E) (fun h1 hl1 => hl = hl1 ∧ Qp h1)) args s 0 0 (wA (wdM E))) (F0 m 6 ls [])) : ∀ (n : Nat) (h : Mem) (v1 : Int32) (v2 : Int32) (H : Heap) (locs : List Loc) (ls : Array Slot), mD (wdM E) h hl s H locs → lv_has ls 3 [(0, .ref (wad (wdM E) 0)), (1, .int v1), (2, .int v2)] → b_X10_find_26 n h v1 v2 K6 Qp → W p l e R s m args below meth c H locs 0 0 (MQ below (mQv (wdM E) (fun h1 hl1 => hl = hl1 ∧ Qp h1)) args s 0 0 (wA (wdM E))) (F0 m 26 ls []) := by
  have hx := C.x
  have hb := C.b
  intro n
  induction n with
  | zero => intro h v1 v2 H locs ls Dy lv hwp; exact hwp.elim
  | succ n ih =>
    intro h v1 v2 H locs ls Dy lv hwp
    simp only [b_X10_find_26] at hwp
    refine lv_iload_n hx hb dX10_find_26 rfl (lv_at lv 2 rfl) ?_
    refine lv_if_lt (tgt := 73) hx hb dX10_find_27 (by decide) (fun c4 => ?_) (fun c4 => ?_)
    · have hwp := hwp.1 c4
      refine lv_aload_n hx hb dX10_find_73 rfl (lv_at lv 0 rfl) ?_
      refine lv_iload_n hx hb dX10_find_74 rfl (lv_at lv 1 rfl) ?_
      refine x_cont_v Dy (x_runV (As := [.int v1]) (rest := []) C Dy (m_X10_breaks E l _ _ v1 _ hwp) (cw_X10_141 C rfl rfl ⟨Nat.le_trans (Nat.le_of_ble_eq_true rfl) hR.1, Nat.le_trans (Nat.le_of_ble_eq_true rfl) hR.2⟩) wm_0 rfl rfl lv.1 rfl (Nat.le_of_ble_eq_true rfl) dX10_find_75 ⟨Nat.zero_le _, Nat.zero_le _⟩) (fun h6 hl6 H locs hwp Dy => ?_)
      obtain ⟨rfl, hwp⟩ := hwp
      refine lv_iinc (v := (v1 + (1 : Int32))) (lv' := [(1, .int (v1 + (1 : Int32))), (0, .ref (wad (wdM E) 0)), (2, .int v2)]) hx hb dX10_find_78 lv (k := 1) rfl rfl (by decide) rfl (fun ls lv => ?_)
      refine lv_goto (tgt := 6) hx hb dX10_find_81 (by decide) ?_
      exact hK6 h6 (v1 + (1 : Int32)) _ _ _ Dy (lv_sub lv [1, 0] rfl) hwp
    · have hwp := hwp.2 c4
      refine lv_aload_n hx hb dX10_find_30 rfl (lv_at lv 0 rfl) ?_
      refine gf_X10_43_0 C Dy dX10_find_31 ?_
      refine lv_iload_n hx hb dX10_find_34 rfl (lv_at lv 1 rfl) ?_
      refine lv_aload_n hx hb dX10_find_35 rfl (lv_at lv 0 rfl) ?_
      refine gf_X10_37_0 C Dy dX10_find_36 ?_
      refine lv_iconst (v := (2 : Int32)) hx hb dX10_find_39 (by decide) ?_
      refine lv_iload_n hx hb dX10_find_40 rfl (lv_at lv 2 rfl) ?_
      refine lv_imul hx hb dX10_find_41 ?_
      refine lv_iconst (v := (1 : Int32)) hx hb dX10_find_42 (by decide) ?_
      refine lv_iadd hx hb dX10_find_43 ?_
      obtain ⟨g7, hwp⟩ := hwp
      refine x_iald C Dy wma_10 g7 dX10_find_44 ?_
      refine lv_iload_n hx hb dX10_find_45 rfl (lv_at lv 1 rfl) ?_
      refine lv_icmp_ne (tgt := 60) hx hb dX10_find_46 (by decide) (fun c8 => ?_) (fun c8 => ?_)
      · have hwp := hwp.2 c8
        refine lv_aload_n hx hb dX10_find_60 rfl (lv_at lv 0 rfl) ?_
        refine gf_X10_43_0 C Dy dX10_find_61 ?_
        refine lv_iload_n hx hb dX10_find_64 rfl (lv_at lv 1 rfl) ?_
        obtain ⟨g9, hwp⟩ := hwp
        refine x_iald C Dy wma_12 g9 dX10_find_65 ?_
        exact t_X10_find_66 E C hR Qp K6 (fun h v1 v2 => b_X10_find_26 n h v1 v2 K6 Qp) hK6 (fun h v1 v2 H locs ls Dy lv hwp => ih h v1 v2 H locs ls Dy lv hwp) h v1 v2 (h 12 v1.toNatClampNeg) v1 _ _ _ Dy (lv_sub lv [0, 1, 2] rfl) hwp
      · have hwp := hwp.1 c8
        refine lv_aload_n hx hb dX10_find_49 rfl (lv_at lv 0 rfl) ?_
        refine gf_X10_37_0 C Dy dX10_find_50 ?_
        refine lv_iconst (v := (2 : Int32)) hx hb dX10_find_53 (by decide) ?_
        refine lv_iload_n hx hb dX10_find_54 rfl (lv_at lv 2 rfl) ?_
        refine lv_imul hx hb dX10_find_55 ?_
        obtain ⟨g10, hwp⟩ := hwp
        refine x_iald C Dy wma_10 g10 dX10_find_56 ?_
        refine lv_goto (tgt := 66) hx hb dX10_find_57 (by decide) ?_
        exact t_X10_find_66 E C hR Qp K6 (fun h v1 v2 => b_X10_find_26 n h v1 v2 K6 Qp) hK6 (fun h v1 v2 H locs ls Dy lv hwp => ih h v1 v2 H locs ls Dy lv hwp) h v1 v2 (h 10 ((2 : Int32) * v2).toNatClampNeg) v1 _ _ _ Dy (lv_sub lv [0, 1, 2] rfl) hwp
set_option maxHeartbeats 4000000 in
set_option maxRecDepth 100000 in
theorem t_X10_find_6 (E : xE) {p : Program} {l : Launch} {e : Env} {R : Room} {s : State} {m : MethodId} {args : Array Value} {below : List Frame} {meth : Method} {c : Code} (C : mC (wdM E) p s m meth c args cX10_find 3 RX10 none) (hR : 6 ≤ R.frames ∧ 136 ≤ R.locals) {hl : MemL} (Qp : Mem → Prop) : ∀ (n : Nat) (h : Mem) (v1 : Int32) (H : Heap) (locs : List Loc) (ls : Array Slot), mD (wdM E) h hl s H locs → lv_has ls 3 [(0, .ref (wad (wdM E) 0)), (1, .int v1)] → b_X10_find_6 n h v1 Qp → W p l e R s m args below meth c H locs 0 0 (MQ below (mQv (wdM E) (fun h1 hl1 => hl = hl1 ∧ Qp h1)) args s 0 0 (wA (wdM E))) (F0 m 6 ls []) := by
  have hx := C.x
  have hb := C.b
  intro n
  induction n with
  | zero => intro h v1 H locs ls Dy lv hwp; exact hwp.elim
  | succ n ih =>
    intro h v1 H locs ls Dy lv hwp
    simp only [b_X10_find_6] at hwp
    refine lv_iload_n hx hb dX10_find_6 rfl (lv_at lv 1 rfl) ?_
    refine lv_bipush (v := (12 : Int32)) hx hb dX10_find_7 (by decide) ?_
    refine lv_icmp_ge (tgt := 84) hx hb dX10_find_9 (by decide) (fun c1 => ?_) (fun c1 => ?_)
    · have hwp := hwp.1 c1
      exact x_vret C Dy ⟨rfl, hwp⟩ dX10_find_84
    · have hwp := hwp.2 c1
      refine lv_aload_n hx hb dX10_find_12 rfl (lv_at lv 0 rfl) ?_
      refine gf_X10_43_0 C Dy dX10_find_13 ?_
      refine lv_iload_n hx hb dX10_find_16 rfl (lv_at lv 1 rfl) ?_
      refine lv_iconst (v := (-1 : Int32)) hx hb dX10_find_17 (by decide) ?_
      obtain ⟨g2, hwp⟩ := hwp
      refine x_iast C Dy wma_12 g2 dX10_find_18 (fun H locs Dy => ?_)
      refine lv_aload_n hx hb dX10_find_19 rfl (lv_at lv 0 rfl) ?_
      refine gf_X10_135_0 C Dy dX10_find_20 ?_
      refine lv_iconst (v := (1 : Int32)) hx hb dX10_find_23 (by decide) ?_
      refine lv_isub hx hb dX10_find_24 ?_
      refine lv_topi (fun x3 ex3 => ?_)
      have hwp := hwp x3 ex3
      refine lv_istore_n (lv' := [(2, .int x3), (0, .ref (wad (wdM E) 0)), (1, .int v1)]) hx hb dX10_find_25 rfl lv (by decide) rfl (fun ls lv => ?_)
      obtain ⟨n0, hwp⟩ := hwp
      exact t_X10_find_26 E C hR Qp (fun h v1 => b_X10_find_6 n h v1 Qp) (fun h v1 H locs ls Dy lv hwp => ih h v1 H locs ls Dy lv hwp) n0 (up2 h 12 v1.toNatClampNeg (-1 : Int32)) v1 x3 _ _ _ Dy (lv_sub lv [1, 2, 0] rfl) hwp
set_option maxHeartbeats 4000000 in
set_option maxRecDepth 100000 in
theorem m_X10_find (E : xE) (l : Launch) (h : Mem) (hl : MemL) (Qp : Mem → Prop) (hwp : p_X10_find h Qp) : Met l yX10_find (wsU yX10_find cX10_find 3 none) ({ frames := 6, cells := 0, slots := 0, locals := 136 } : Room) (mPc (wdM E) [.ref (wad (wdM E) 0)] h hl) (mQv (wdM E) (fun h1 hl1 => hl = hl1 ∧ Qp h1)) 0 0 (wA (wdM E)) := by
  refine x_met RX10 [(0, .ref (wad (wdM E) 0))] (by decide) rfl (Nat.le_of_ble_eq_true rfl) rfl ?_
  intro p e s m args below meth c ls C Dy lv
  have hx := C.x
  have hb := C.b
  have hR : 6 ≤ ({ frames := 6, cells := 0, slots := 0, locals := 136 } : Room).frames ∧ 136 ≤ ({ frames := 6, cells := 0, slots := 0, locals := 136 } : Room).locals := ⟨Nat.le_refl _, Nat.le_refl _⟩
  unfold p_X10_find at hwp
  refine lv_aload_n hx hb dX10_find_0 rfl (lv_at lv 0 rfl) ?_
  refine x_cont_v Dy (x_runV (As := []) (rest := []) C Dy (m_X10_reads E l _ _ _ hwp) (cw_X10_122 C rfl rfl ⟨Nat.le_trans (Nat.le_of_ble_eq_true rfl) hR.1, Nat.le_trans (Nat.le_of_ble_eq_true rfl) hR.2⟩) wm_0 rfl rfl lv.1 rfl (Nat.le_of_ble_eq_true rfl) dX10_find_1 ⟨Nat.zero_le _, Nat.zero_le _⟩) (fun h13 hl13 H locs hwp Dy => ?_)
  obtain ⟨rfl, hwp⟩ := hwp
  refine lv_iconst (v := (0 : Int32)) hx hb dX10_find_4 (by decide) ?_
  refine lv_istore_n (lv' := [(1, .int (0 : Int32)), (0, .ref (wad (wdM E) 0))]) hx hb dX10_find_5 rfl lv (by decide) rfl (fun ls lv => ?_)
  obtain ⟨n0, hwp⟩ := hwp
  exact t_X10_find_6 E C hR Qp n0 h13 (0 : Int32) _ _ _ Dy (lv_sub lv [1, 0] rfl) hwp
def b_X10_bindsAlone_19 (h : Mem) (v1 : Int32) (v2 : Int32) (w0 : Int32) (Qp : Int32 → Prop) : Prop := (vp_in v1 12 ∧ (((h 12 v1.toNatClampNeg) = (-1 : Int32) → Qp (0 : Int32)) ∧ (¬ ((h 12 v1.toNatClampNeg) = (-1 : Int32)) → ((w0 = 0 → (vp_in v1 12 ∧ ((v2 ≤ (h 12 v1.toNatClampNeg) → Qp (0 : Int32)) ∧ (¬ (v2 ≤ (h 12 v1.toNatClampNeg)) → (vp_in v1 12 ∧ (((h 13 v1.toNatClampNeg) = 0 → Qp (1 : Int32)) ∧ (¬ ((h 13 v1.toNatClampNeg) = 0) → Qp (0 : Int32)))))))) ∧ (¬ (w0 = 0) → Qp (1 : Int32))))))
def b_X10_bindsAlone_18 (h : Mem) (v1 : Int32) (v2 : Int32) (Qp : Int32 → Prop) : Prop := b_X10_bindsAlone_19 h v1 v2 (0 : Int32) Qp
def p_X10_bindsAlone (h : Mem) (v1 : Int32) (v2 : Int32) (v3 : Int32) (Qp : Int32 → Prop) : Prop := (vp_in v1 12 ∧ b_X10_bindsAlone_19 h v1 v2 (if (h 12 v1.toNatClampNeg) = v2 then (if v3 = 0 then (1 : Int32) else (0 : Int32)) else (0 : Int32)) Qp)
set_option maxHeartbeats 4000000 in
set_option maxRecDepth 100000 in
theorem t_X10_bindsAlone_19 (E : xE) {p : Program} {l : Launch} {e : Env} {R : Room} {s : State} {m : MethodId} {args : Array Value} {below : List Frame} {meth : Method} {c : Code} (C : mC (wdM E) p s m meth c args cX10_bindsAlone 5 RX10 (some .boolean)) (hR : 0 ≤ R.frames ∧ 0 ≤ R.locals) {h : Mem} {hl : MemL} (Qp : Int32 → Prop) : ∀ (v1 : Int32) (v2 : Int32) (w0 : Int32) (H : Heap) (locs : List Loc) (ls : Array Slot), mD (wdM E) h hl s H locs → lv_has ls 5 [(0, .ref (wad (wdM E) 0)), (1, .int v1), (2, .int v2)] → b_X10_bindsAlone_19 h v1 v2 w0 Qp → W p l e R s m args below meth c H locs 0 0 (MQ below (mQz (wdM E) (fun r h1 hl1 => h = h1 ∧ hl = hl1 ∧ Qp r)) args s 0 0 (wA (wdM E))) (F0 m 19 ls [.int w0]) := by
  have hx := C.x
  have hb := C.b
  intro v1 v2 w0 H locs ls Dy lv hwp
  unfold b_X10_bindsAlone_19 at hwp
  refine lv_istore (lv' := [(4, .int w0), (0, .ref (wad (wdM E) 0)), (1, .int v1), (2, .int v2)]) hx hb dX10_bindsAlone_19 lv (by decide) rfl (fun ls lv => ?_)
  refine lv_aload_n hx hb dX10_bindsAlone_21 rfl (lv_at lv 1 rfl) ?_
  refine gf_X10_43_0 C Dy dX10_bindsAlone_22 ?_
  refine lv_iload_n hx hb dX10_bindsAlone_25 rfl (lv_at lv 2 rfl) ?_
  obtain ⟨g1, hwp⟩ := hwp
  refine x_iald C Dy wma_12 g1 dX10_bindsAlone_26 ?_
  refine lv_iconst (v := (-1 : Int32)) hx hb dX10_bindsAlone_27 (by decide) ?_
  refine lv_icmp_eq (tgt := 59) hx hb dX10_bindsAlone_28 (by decide) (fun c2 => ?_) (fun c2 => ?_)
  · have hwp := hwp.1 c2
    refine lv_iconst (v := (0 : Int32)) hx hb dX10_bindsAlone_59 (by decide) ?_
    exact x_zret C Dy z01_0 ⟨rfl, rfl, hwp⟩ dX10_bindsAlone_60
  · have hwp := hwp.2 c2
    refine lv_iload hx hb dX10_bindsAlone_31 (lv_at lv 0 rfl) ?_
    refine lv_if_ne (tgt := 55) hx hb dX10_bindsAlone_33 (by decide) (fun c3 => ?_) (fun c3 => ?_)
    · have hwp := hwp.2 c3
      refine lv_iconst (v := (1 : Int32)) hx hb dX10_bindsAlone_55 (by decide) ?_
      refine lv_goto (tgt := 60) hx hb dX10_bindsAlone_56 (by decide) ?_
      exact x_zret C Dy z01_1 ⟨rfl, rfl, hwp⟩ dX10_bindsAlone_60
    · have hwp := hwp.1 c3
      refine lv_aload_n hx hb dX10_bindsAlone_36 rfl (lv_at lv 1 rfl) ?_
      refine gf_X10_43_0 C Dy dX10_bindsAlone_37 ?_
      refine lv_iload_n hx hb dX10_bindsAlone_40 rfl (lv_at lv 2 rfl) ?_
      obtain ⟨g4, hwp⟩ := hwp
      refine x_iald C Dy wma_12 g4 dX10_bindsAlone_41 ?_
      refine lv_iload_n hx hb dX10_bindsAlone_42 rfl (lv_at lv 3 rfl) ?_
      refine lv_icmp_ge (tgt := 59) hx hb dX10_bindsAlone_43 (by decide) (fun c5 => ?_) (fun c5 => ?_)
      · have hwp := hwp.1 c5
        refine lv_iconst (v := (0 : Int32)) hx hb dX10_bindsAlone_59 (by decide) ?_
        exact x_zret C Dy z01_0 ⟨rfl, rfl, hwp⟩ dX10_bindsAlone_60
      · have hwp := hwp.2 c5
        refine lv_aload_n hx hb dX10_bindsAlone_46 rfl (lv_at lv 1 rfl) ?_
        refine gf_X10_46_0 C Dy dX10_bindsAlone_47 ?_
        refine lv_iload_n hx hb dX10_bindsAlone_50 rfl (lv_at lv 2 rfl) ?_
        obtain ⟨g6, hwp⟩ := hwp
        refine x_iald C Dy wma_13 g6 dX10_bindsAlone_51 ?_
        refine lv_if_ne (tgt := 59) hx hb dX10_bindsAlone_52 (by decide) (fun c7 => ?_) (fun c7 => ?_)
        · have hwp := hwp.2 c7
          refine lv_iconst (v := (0 : Int32)) hx hb dX10_bindsAlone_59 (by decide) ?_
          exact x_zret C Dy z01_0 ⟨rfl, rfl, hwp⟩ dX10_bindsAlone_60
        · have hwp := hwp.1 c7
          refine lv_iconst (v := (1 : Int32)) hx hb dX10_bindsAlone_55 (by decide) ?_
          refine lv_goto (tgt := 60) hx hb dX10_bindsAlone_56 (by decide) ?_
          exact x_zret C Dy z01_1 ⟨rfl, rfl, hwp⟩ dX10_bindsAlone_60
set_option maxHeartbeats 4000000 in
set_option maxRecDepth 100000 in
theorem t_X10_bindsAlone_18 (E : xE) {p : Program} {l : Launch} {e : Env} {R : Room} {s : State} {m : MethodId} {args : Array Value} {below : List Frame} {meth : Method} {c : Code} (C : mC (wdM E) p s m meth c args cX10_bindsAlone 5 RX10 (some .boolean)) (hR : 0 ≤ R.frames ∧ 0 ≤ R.locals) {h : Mem} {hl : MemL} (Qp : Int32 → Prop) : ∀ (v1 : Int32) (v2 : Int32) (H : Heap) (locs : List Loc) (ls : Array Slot), mD (wdM E) h hl s H locs → lv_has ls 5 [(0, .ref (wad (wdM E) 0)), (1, .int v1), (2, .int v2)] → b_X10_bindsAlone_18 h v1 v2 Qp → W p l e R s m args below meth c H locs 0 0 (MQ below (mQz (wdM E) (fun r h1 hl1 => h = h1 ∧ hl = hl1 ∧ Qp r)) args s 0 0 (wA (wdM E))) (F0 m 18 ls []) := by
  have hx := C.x
  have hb := C.b
  intro v1 v2 H locs ls Dy lv hwp
  unfold b_X10_bindsAlone_18 at hwp
  refine lv_iconst (v := (0 : Int32)) hx hb dX10_bindsAlone_18 (by decide) ?_
  exact t_X10_bindsAlone_19 E C hR Qp v1 v2 (0 : Int32) _ _ _ Dy (lv_sub lv [0, 1, 2] rfl) hwp
set_option maxHeartbeats 4000000 in
set_option maxRecDepth 100000 in
theorem m_X10_bindsAlone (E : xE) (l : Launch) (h : Mem) (hl : MemL) (v1 : Int32) (v2 : Int32) (v3 : Int32) (Qp : Int32 → Prop) (hwp : p_X10_bindsAlone h v1 v2 v3 Qp) : Met l yX10_bindsAlone (wsU yX10_bindsAlone cX10_bindsAlone 5 (some .boolean)) ({ frames := 0, cells := 0, slots := 0, locals := 0 } : Room) (mPc (wdM E) [.ref (wad (wdM E) 0), .int v1, .int v2, .int v3] h hl) (mQz (wdM E) (fun r h1 hl1 => h = h1 ∧ hl = hl1 ∧ Qp r)) 0 0 (wA (wdM E)) := by
  refine x_met RX10 [(0, .ref (wad (wdM E) 0)), (1, .int v1), (2, .int v2), (3, .int v3)] (by decide) rfl (Nat.le_of_ble_eq_true rfl) rfl ?_
  intro p e s m args below meth c ls C Dy lv
  have hx := C.x
  have hb := C.b
  have hR : 0 ≤ ({ frames := 0, cells := 0, slots := 0, locals := 0 } : Room).frames ∧ 0 ≤ ({ frames := 0, cells := 0, slots := 0, locals := 0 } : Room).locals := ⟨Nat.le_refl _, Nat.le_refl _⟩
  unfold p_X10_bindsAlone at hwp
  refine lv_aload_n hx hb dX10_bindsAlone_0 rfl (lv_at lv 0 rfl) ?_
  refine gf_X10_43_0 C Dy dX10_bindsAlone_1 ?_
  refine lv_iload_n hx hb dX10_bindsAlone_4 rfl (lv_at lv 1 rfl) ?_
  obtain ⟨g8, hwp⟩ := hwp
  refine x_iald C Dy wma_12 g8 dX10_bindsAlone_5 ?_
  refine lv_iload_n hx hb dX10_bindsAlone_6 rfl (lv_at lv 2 rfl) ?_
  refine lv_icmp_ne (tgt := 18) hx hb dX10_bindsAlone_7 (by decide) (fun c9 => ?_) (fun c9 => ?_)
  · try simp only [if_neg c9] at hwp
    refine lv_iconst (v := (0 : Int32)) hx hb dX10_bindsAlone_18 (by decide) ?_
    exact t_X10_bindsAlone_19 E C hR Qp v1 v2 (0 : Int32) _ _ _ Dy (lv_sub lv [0, 1, 2] rfl) hwp
  · try simp only [if_pos c9] at hwp
    refine lv_iload_n hx hb dX10_bindsAlone_10 rfl (lv_at lv 3 rfl) ?_
    refine lv_if_ne (tgt := 18) hx hb dX10_bindsAlone_11 (by decide) (fun c10 => ?_) (fun c10 => ?_)
    · try simp only [if_neg c10] at hwp
      refine lv_iconst (v := (0 : Int32)) hx hb dX10_bindsAlone_18 (by decide) ?_
      exact t_X10_bindsAlone_19 E C hR Qp v1 v2 (0 : Int32) _ _ _ Dy (lv_sub lv [0, 1, 2] rfl) hwp
    · try simp only [if_pos c10] at hwp
      refine lv_iconst (v := (1 : Int32)) hx hb dX10_bindsAlone_14 (by decide) ?_
      refine lv_goto (tgt := 19) hx hb dX10_bindsAlone_15 (by decide) ?_
      exact t_X10_bindsAlone_19 E C hR Qp v1 v2 (1 : Int32) _ _ _ Dy (lv_sub lv [0, 1, 2] rfl) hwp
