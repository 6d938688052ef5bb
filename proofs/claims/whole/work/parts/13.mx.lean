def b_X7_parse_139 (h : Mem) (k : Nat) (v3 : Int32) (Qp : Mem → Prop) : Prop := Qp (up2 h k 8 v3)
def b_X7_parse_145 (h : Mem) (k : Nat) (v1 : Int32) (v2 : Int32) (v3 : Int32) (K32 : Mem → Int32 → Int32 → Int32 → Prop) (Qp : Mem → Prop) : Prop := K32 h v1 v2 (v3 + (1 : Int32))
def b_X7_parse_71 (h : Mem) (k : Nat) (v1 : Int32) (v2 : Int32) (v3 : Int32) (v4 : Int32) (K32 : Mem → Int32 → Int32 → Int32 → Prop) (Qp : Mem → Prop) : Prop := (((h k 3) ≤ v1 → b_X7_parse_139 h k v3 Qp) ∧ (¬ ((h k 3) ≤ v1) → (((Int32.ofNat (lenL k)) ≤ v2 → b_X7_parse_139 h k v3 Qp) ∧ (¬ ((Int32.ofNat (lenL k)) ≤ v2) → (vp_in v2 (lenL k) ∧ ((v4 < (tabF (tLe k) v2.toNatClampNeg) → b_X7_parse_139 h k v3 Qp) ∧ (¬ (v4 < (tabF (tLe k) v2.toNatClampNeg)) → (vp_in v2 (lenL k) ∧ (((tabF (tMo k) v2.toNatClampNeg) < v4 → b_X7_parse_139 h k v3 Qp) ∧ (¬ ((tabF (tMo k) v2.toNatClampNeg) < v4) → (vp_in v2 (lenL k) ∧ (vp_in ((v1 * (Int32.ofNat (lenL k))) + v2) (lenP k) ∧ b_X7_parse_145 (up2 h (k + 2) ((v1 * (Int32.ofNat (lenL k))) + v2).toNatClampNeg (v4 - (tabF (tLe k) v2.toNatClampNeg))) k v1 (v2 + (1 : Int32)) v3 K32 Qp))))))))))))
def b_X7_parse_32 : Nat → Mem → Nat → Int32 → Int32 → Int32 → (Mem → Prop) → Prop
  | 0 => fun _ _ _ _ _ _ => False
  | n + 1 => fun h k v1 v2 v3 Qp => (((h k 6) ≤ v3 → (((h k 2) ≤ v2 → Qp (up2 h k 7 (v1 + (1 : Int32)))) ∧ (¬ ((h k 2) ≤ v2) → Qp (up2 h k 8 (h k 6))))) ∧ (¬ ((h k 6) ≤ v3) → (vp_in v3 (lenB k) ∧ (∀ x4 : Int32, x4 = (h (k + 1) v3.toNatClampNeg) → ((v2 < (h k 2) → b_X7_parse_71 h k v1 v2 v3 x4 (fun h v1 v2 v3 => b_X7_parse_32 n h k v1 v2 v3 Qp) Qp) ∧ (¬ (v2 < (h k 2)) → ((x4 = (59 : Int32) → b_X7_parse_145 h k (v1 + (1 : Int32)) (0 : Int32) v3 (fun h v1 v2 v3 => b_X7_parse_32 n h k v1 v2 v3 Qp) Qp) ∧ (¬ (x4 = (59 : Int32)) → b_X7_parse_71 h k v1 v2 v3 x4 (fun h v1 v2 v3 => b_X7_parse_32 n h k v1 v2 v3 Qp) Qp))))))))
def p_X7_parse (h : Mem) (k : Nat) (Qp : Mem → Prop) : Prop := ((((up2 (up2 h k 7 (0 : Int32)) k 8 (-1 : Int32)) k 6) = 0 → Qp (up2 (up2 h k 7 (0 : Int32)) k 8 (-1 : Int32))) ∧ (¬ (((up2 (up2 h k 7 (0 : Int32)) k 8 (-1 : Int32)) k 6) = 0) → (p_J7_fill (up2 (up2 h k 7 (0 : Int32)) k 8 (-1 : Int32)) (k + 2) (lenP k) (-1 : Int32) (fun h17 => (∃ n32, b_X7_parse_32 n32 h17 k (0 : Int32) (0 : Int32) (0 : Int32) Qp)))))
set_option maxHeartbeats 4000000 in
set_option maxRecDepth 100000 in
theorem t_X7_parse_139 (E : xE) {p : Program} {l : Launch} {e : Env} {R : Room} {s : State} {m : MethodId} {args : Array Value} {below : List Frame} {meth : Method} {c : Code} (C : mC (wdX E) p s m meth c args cX7_parse 5 RX7 none) (hR : 1 ≤ R.frames ∧ 23 ≤ R.locals) {hl : MemL} (k : Nat) (hk : isSC k) (Qp : Mem → Prop) : ∀ (h : Mem) (v3 : Int32) (H : Heap) (locs : List Loc) (ls : Array Slot), mD (wdX E) h hl s H locs → lv_has ls 5 [(0, .ref (wad (wdX E) k)), (3, .int v3)] → b_X7_parse_139 h k v3 Qp → W p l e R s m args below meth c H locs 0 0 (MQ below (mQv (wdX E) (fun h1 hl1 => hl = hl1 ∧ Qp h1)) args s 0 0 (wA (wdX E))) (F0 m 139 ls []) := by
  have hx := C.x
  have hb := C.b
  intro h v3 H locs ls Dy lv hwp
  unfold b_X7_parse_139 at hwp
  refine lv_aload_n hx hb dX7_parse_139 rfl (lv_at lv 0 rfl) ?_
  refine lv_iload_n hx hb dX7_parse_140 rfl (lv_at lv 1 rfl) ?_
  refine pf_X7_18_SC hk C Dy dX7_parse_141 (fun H locs Dy => ?_)
  exact x_vret C Dy ⟨rfl, hwp⟩ dX7_parse_144
set_option maxHeartbeats 4000000 in
set_option maxRecDepth 100000 in
theorem t_X7_parse_145 (E : xE) {p : Program} {l : Launch} {e : Env} {R : Room} {s : State} {m : MethodId} {args : Array Value} {below : List Frame} {meth : Method} {c : Code} (C : mC (wdX E) p s m meth c args cX7_parse 5 RX7 none) (hR : 1 ≤ R.frames ∧ 23 ≤ R.locals) {hl : MemL} (k : Nat) (hk : isSC k) (Qp : Mem → Prop) (K32 : Mem → Int32 → Int32 → Int32 → Prop) (hK32 : ∀ (h : Mem) (v1 : Int32) (v2 : Int32) (v3 : Int32) (H : Heap) (locs : List Loc) (ls : Array Slot), mD (wdX E) h hl s H locs → lv_has ls 5 [(0, .ref (wad (wdX E) k)), (1, .int v1), (2, .int v2), (3, .int v3)] → K32 h v1 v2 v3 → W p l e R s m args below meth c H locs 0 0 (MQ below (mQv (wdX E) (fun h1 hl1 => hl = hl1 ∧ Qp h1)) args s 0 0 (wA (wdX E))) (F0 m 32 ls [])) : ∀ (h : Mem) (v1 : Int32) (v2 : Int32) (v3 : Int32) (H : Heap) (locs : List Loc) (ls : Array Slot), mD (wdX E) h hl s H locs → lv_has ls 5 [(0, .ref (wad (wdX E) k)), (1, .int v1), (2, .int v2), (3, .int v3)] → b_X7_parse_145 h k v1 v2 v3 K32 Qp → W p l e R s m args below meth c H locs 0 0 (MQ below (mQv (wdX E) (fun h1 hl1 => hl = hl1 ∧ Qp h1)) args s 0 0 (wA (wdX E))) (F0 m 145 ls []) := by
  have hx := C.x
  have hb := C.b
  intro h v1 v2 v3 H locs ls Dy lv hwp
  unfold b_X7_parse_145 at hwp
  refine lv_iinc (v := (v3 + (1 : Int32))) (lv' := [(3, .int (v3 + (1 : Int32))), (0, .ref (wad (wdX E) k)), (1, .int v1), (2, .int v2)]) hx hb dX7_parse_145 lv (k := 3) rfl rfl (by decide) rfl (fun ls lv => ?_)
  refine lv_goto (tgt := 32) hx hb dX7_parse_148 (by decide) ?_
  exact hK32 h v1 v2 (v3 + (1 : Int32)) _ _ _ Dy (lv_sub lv [1, 2, 3, 0] rfl) hwp
set_option maxHeartbeats 4000000 in
set_option maxRecDepth 100000 in
theorem t_X7_parse_71 (E : xE) {p : Program} {l : Launch} {e : Env} {R : Room} {s : State} {m : MethodId} {args : Array Value} {below : List Frame} {meth : Method} {c : Code} (C : mC (wdX E) p s m meth c args cX7_parse 5 RX7 none) (hR : 1 ≤ R.frames ∧ 23 ≤ R.locals) {hl : MemL} (k : Nat) (hk : isSC k) (Qp : Mem → Prop) (K32 : Mem → Int32 → Int32 → Int32 → Prop) (hK32 : ∀ (h : Mem) (v1 : Int32) (v2 : Int32) (v3 : Int32) (H : Heap) (locs : List Loc) (ls : Array Slot), mD (wdX E) h hl s H locs → lv_has ls 5 [(0, .ref (wad (wdX E) k)), (1, .int v1), (2, .int v2), (3, .int v3)] → K32 h v1 v2 v3 → W p l e R s m args below meth c H locs 0 0 (MQ below (mQv (wdX E) (fun h1 hl1 => hl = hl1 ∧ Qp h1)) args s 0 0 (wA (wdX E))) (F0 m 32 ls [])) : ∀ (h : Mem) (v1 : Int32) (v2 : Int32) (v3 : Int32) (v4 : Int32) (H : Heap) (locs : List Loc) (ls : Array Slot), mD (wdX E) h hl s H locs → lv_has ls 5 [(0, .ref (wad (wdX E) k)), (1, .int v1), (2, .int v2), (3, .int v3), (4, .int v4)] → b_X7_parse_71 h k v1 v2 v3 v4 K32 Qp → W p l e R s m args below meth c H locs 0 0 (MQ below (mQv (wdX E) (fun h1 hl1 => hl = hl1 ∧ Qp h1)) args s 0 0 (wA (wdX E))) (F0 m 71 ls []) := by
  have hx := C.x
  have hb := C.b
  intro h v1 v2 v3 v4 H locs ls Dy lv hwp
  unfold b_X7_parse_71 at hwp
  refine lv_iload_n hx hb dX7_parse_71 rfl (lv_at lv 1 rfl) ?_
  refine lv_aload_n hx hb dX7_parse_72 rfl (lv_at lv 0 rfl) ?_
  refine gf_X7_31_SC hk C Dy dX7_parse_73 ?_
  refine lv_icmp_ge (tgt := 139) hx hb dX7_parse_76 (by decide) (fun c7 => ?_) (fun c7 => ?_)
  · have hwp := hwp.1 c7
    exact t_X7_parse_139 E C hR k hk Qp h v3 _ _ _ Dy (lv_sub lv [0, 3] rfl) hwp
  · have hwp := hwp.2 c7
    refine lv_iload_n hx hb dX7_parse_79 rfl (lv_at lv 2 rfl) ?_
    refine lv_aload_n hx hb dX7_parse_80 rfl (lv_at lv 0 rfl) ?_
    refine gf_X7_21_SC hk C Dy dX7_parse_81 ?_
    refine x_tlen C Dy (tab_Le hk) rfl dX7_parse_84 ?_
    refine lv_icmp_ge (tgt := 139) hx hb dX7_parse_85 (by decide) (fun c8 => ?_) (fun c8 => ?_)
    · have hwp := hwp.1 c8
      exact t_X7_parse_139 E C hR k hk Qp h v3 _ _ _ Dy (lv_sub lv [0, 3] rfl) hwp
    · have hwp := hwp.2 c8
      refine lv_iload hx hb dX7_parse_88 (lv_at lv 4 rfl) ?_
      refine lv_aload_n hx hb dX7_parse_90 rfl (lv_at lv 0 rfl) ?_
      refine gf_X7_21_SC hk C Dy dX7_parse_91 ?_
      refine lv_iload_n hx hb dX7_parse_94 rfl (lv_at lv 2 rfl) ?_
      obtain ⟨g9, hwp⟩ := hwp
      refine x_tald C Dy (tab_Le hk) g9 dX7_parse_95 ?_
      refine lv_icmp_lt (tgt := 139) hx hb dX7_parse_96 (by decide) (fun c10 => ?_) (fun c10 => ?_)
      · have hwp := hwp.1 c10
        exact t_X7_parse_139 E C hR k hk Qp h v3 _ _ _ Dy (lv_sub lv [0, 3] rfl) hwp
      · have hwp := hwp.2 c10
        refine lv_iload hx hb dX7_parse_99 (lv_at lv 4 rfl) ?_
        refine lv_aload_n hx hb dX7_parse_101 rfl (lv_at lv 0 rfl) ?_
        refine gf_X7_25_SC hk C Dy dX7_parse_102 ?_
        refine lv_iload_n hx hb dX7_parse_105 rfl (lv_at lv 2 rfl) ?_
        obtain ⟨g11, hwp⟩ := hwp
        refine x_tald C Dy (tab_Mo hk) g11 dX7_parse_106 ?_
        refine lv_icmp_gt (tgt := 139) hx hb dX7_parse_107 (by decide) (fun c12 => ?_) (fun c12 => ?_)
        · have hwp := hwp.1 c12
          exact t_X7_parse_139 E C hR k hk Qp h v3 _ _ _ Dy (lv_sub lv [0, 3] rfl) hwp
        · have hwp := hwp.2 c12
          refine lv_aload_n hx hb dX7_parse_110 rfl (lv_at lv 0 rfl) ?_
          refine gf_X7_37_SC hk C Dy dX7_parse_111 ?_
          refine lv_iload_n hx hb dX7_parse_114 rfl (lv_at lv 1 rfl) ?_
          refine lv_aload_n hx hb dX7_parse_115 rfl (lv_at lv 0 rfl) ?_
          refine gf_X7_21_SC hk C Dy dX7_parse_116 ?_
          refine x_tlen C Dy (tab_Le hk) rfl dX7_parse_119 ?_
          refine lv_imul hx hb dX7_parse_120 ?_
          refine lv_iload_n hx hb dX7_parse_121 rfl (lv_at lv 2 rfl) ?_
          refine lv_iadd hx hb dX7_parse_122 ?_
          refine lv_iload hx hb dX7_parse_123 (lv_at lv 4 rfl) ?_
          refine lv_aload_n hx hb dX7_parse_125 rfl (lv_at lv 0 rfl) ?_
          refine gf_X7_21_SC hk C Dy dX7_parse_126 ?_
          refine lv_iload_n hx hb dX7_parse_129 rfl (lv_at lv 2 rfl) ?_
          obtain ⟨g13, hwp⟩ := hwp
          refine x_tald C Dy (tab_Le hk) g13 dX7_parse_130 ?_
          refine lv_isub hx hb dX7_parse_131 ?_
          obtain ⟨g14, hwp⟩ := hwp
          refine x_iast C Dy (ia_SCp hk) g14 dX7_parse_132 (fun H locs Dy => ?_)
          refine lv_iinc (v := (v2 + (1 : Int32))) (lv' := [(2, .int (v2 + (1 : Int32))), (0, .ref (wad (wdX E) k)), (1, .int v1), (3, .int v3), (4, .int v4)]) hx hb dX7_parse_133 lv (k := 2) rfl rfl (by decide) rfl (fun ls lv => ?_)
          refine lv_goto (tgt := 145) hx hb dX7_parse_136 (by decide) ?_
          exact t_X7_parse_145 E C hR k hk Qp K32 hK32 (up2 h (k + 2) ((v1 * (Int32.ofNat (lenL k))) + v2).toNatClampNeg (v4 - (tabF (tLe k) v2.toNatClampNeg))) v1 (v2 + (1 : Int32)) v3 _ _ _ Dy (lv_sub lv [1, 2, 0, 3] rfl) hwp
set_option maxHeartbeats 4000000 in
set_option maxRecDepth 100000 in
theorem t_X7_parse_32 (E : xE) {p : Program} {l : Launch} {e : Env} {R : Room} {s : State} {m : MethodId} {args : Array Value} {below : List Frame} {meth : Method} {c : Code} (C : mC (wdX E) p s m meth c args cX7_parse 5 RX7 none) (hR : 1 ≤ R.frames ∧ 23 ≤ R.locals) {hl : MemL} (k : Nat) (hk : isSC k) (Qp : Mem → Prop) : ∀ (n : Nat) (h : Mem) (v1 : Int32) (v2 : Int32) (v3 : Int32) (H : Heap) (locs : List Loc) (ls : Array Slot), mD (wdX E) h hl s H locs → lv_has ls 5 [(0, .ref (wad (wdX E) k)), (1, .int v1), (2, .int v2), (3, .int v3)] → b_X7_parse_32 n h k v1 v2 v3 Qp → W p l e R s m args below meth c H locs 0 0 (MQ below (mQv (wdX E) (fun h1 hl1 => hl = hl1 ∧ Qp h1)) args s 0 0 (wA (wdX E))) (F0 m 32 ls []) := by
  have hx := C.x
  have hb := C.b
  intro n
  induction n with
  | zero => intro h v1 v2 v3 H locs ls Dy lv hwp; exact hwp.elim
  | succ n ih =>
    intro h v1 v2 v3 H locs ls Dy lv hwp
    simp only [b_X7_parse_32] at hwp
    refine lv_iload_n hx hb dX7_parse_32 rfl (lv_at lv 3 rfl) ?_
    refine lv_aload_n hx hb dX7_parse_33 rfl (lv_at lv 0 rfl) ?_
    refine gf_X7_9_SC hk C Dy dX7_parse_34 ?_
    refine lv_icmp_ge (tgt := 151) hx hb dX7_parse_37 (by decide) (fun c1 => ?_) (fun c1 => ?_)
    · have hwp := hwp.1 c1
      refine lv_iload_n hx hb dX7_parse_151 rfl (lv_at lv 2 rfl) ?_
      refine lv_aload_n hx hb dX7_parse_152 rfl (lv_at lv 0 rfl) ?_
      refine gf_X7_28_SC hk C Dy dX7_parse_153 ?_
      refine lv_icmp_ge (tgt := 170) hx hb dX7_parse_156 (by decide) (fun c2 => ?_) (fun c2 => ?_)
      · have hwp := hwp.1 c2
        refine lv_aload_n hx hb dX7_parse_170 rfl (lv_at lv 0 rfl) ?_
        refine lv_iload_n hx hb dX7_parse_171 rfl (lv_at lv 1 rfl) ?_
        refine lv_iconst (v := (1 : Int32)) hx hb dX7_parse_172 (by decide) ?_
        refine lv_iadd hx hb dX7_parse_173 ?_
        refine pf_X7_15_SC hk C Dy dX7_parse_174 (fun H locs Dy => ?_)
        exact x_vret C Dy ⟨rfl, hwp⟩ dX7_parse_177
      · have hwp := hwp.2 c2
        refine lv_aload_n hx hb dX7_parse_159 rfl (lv_at lv 0 rfl) ?_
        refine lv_aload_n hx hb dX7_parse_160 rfl (lv_at lv 0 rfl) ?_
        refine gf_X7_9_SC hk C Dy dX7_parse_161 ?_
        refine pf_X7_18_SC hk C Dy dX7_parse_164 (fun H locs Dy => ?_)
        refine lv_goto (tgt := 177) hx hb dX7_parse_167 (by decide) ?_
        exact x_vret C Dy ⟨rfl, hwp⟩ dX7_parse_177
    · have hwp := hwp.2 c1
      refine lv_aload_n hx hb dX7_parse_40 rfl (lv_at lv 0 rfl) ?_
      refine gf_X7_34_SC hk C Dy dX7_parse_41 ?_
      refine lv_iload_n hx hb dX7_parse_44 rfl (lv_at lv 3 rfl) ?_
      obtain ⟨g3, hwp⟩ := hwp
      refine x_iald C Dy (ia_SCb hk) g3 dX7_parse_45 ?_
      refine lv_topi (fun x4 ex4 => ?_)
      have hwp := hwp x4 ex4
      refine lv_istore (lv' := [(4, .int x4), (0, .ref (wad (wdX E) k)), (1, .int v1), (2, .int v2), (3, .int v3)]) hx hb dX7_parse_46 lv (by decide) rfl (fun ls lv => ?_)
      refine lv_iload_n hx hb dX7_parse_48 rfl (lv_at lv 3 rfl) ?_
      refine lv_aload_n hx hb dX7_parse_49 rfl (lv_at lv 1 rfl) ?_
      refine gf_X7_28_SC hk C Dy dX7_parse_50 ?_
      refine lv_icmp_lt (tgt := 71) hx hb dX7_parse_53 (by decide) (fun c5 => ?_) (fun c5 => ?_)
      · have hwp := hwp.1 c5
        exact t_X7_parse_71 E C hR k hk Qp (fun h v1 v2 v3 => b_X7_parse_32 n h k v1 v2 v3 Qp) (fun h v1 v2 v3 H locs ls Dy lv hwp => ih h v1 v2 v3 H locs ls Dy lv hwp) h v1 v2 v3 x4 _ _ _ Dy (lv_sub lv [1, 2, 3, 4, 0] rfl) hwp
      · have hwp := hwp.2 c5
        refine lv_iload hx hb dX7_parse_56 (lv_at lv 0 rfl) ?_
        refine lv_bipush (v := (59 : Int32)) hx hb dX7_parse_58 (by decide) ?_
        refine lv_icmp_ne (tgt := 71) hx hb dX7_parse_60 (by decide) (fun c6 => ?_) (fun c6 => ?_)
        · have hwp := hwp.2 c6
          exact t_X7_parse_71 E C hR k hk Qp (fun h v1 v2 v3 => b_X7_parse_32 n h k v1 v2 v3 Qp) (fun h v1 v2 v3 H locs ls Dy lv hwp => ih h v1 v2 v3 H locs ls Dy lv hwp) h v1 v2 v3 x4 _ _ _ Dy (lv_sub lv [1, 2, 3, 4, 0] rfl) hwp
        · have hwp := hwp.1 c6
          refine lv_iinc (v := (v1 + (1 : Int32))) (lv' := [(1, .int (v1 + (1 : Int32))), (4, .int x4), (0, .ref (wad (wdX E) k)), (2, .int v2), (3, .int v3)]) hx hb dX7_parse_63 lv (k := 2) rfl rfl (by decide) rfl (fun ls lv => ?_)
          refine lv_iconst (v := (0 : Int32)) hx hb dX7_parse_66 (by decide) ?_
          refine lv_istore_n (lv' := [(2, .int (0 : Int32)), (1, .int (v1 + (1 : Int32))), (4, .int x4), (0, .ref (wad (wdX E) k)), (3, .int v3)]) hx hb dX7_parse_67 rfl lv (by decide) rfl (fun ls lv => ?_)
          refine lv_goto (tgt := 145) hx hb dX7_parse_68 (by decide) ?_
          exact t_X7_parse_145 E C hR k hk Qp (fun h v1 v2 v3 => b_X7_parse_32 n h k v1 v2 v3 Qp) (fun h v1 v2 v3 H locs ls Dy lv hwp => ih h v1 v2 v3 H locs ls Dy lv hwp) h (v1 + (1 : Int32)) (0 : Int32) v3 _ _ _ Dy (lv_sub lv [3, 1, 0, 4] rfl) hwp
set_option maxHeartbeats 4000000 in
set_option maxRecDepth 100000 in
theorem m_X7_parse (E : xE) (l : Launch) (h : Mem) (hl : MemL) (k : Nat) (hk : isSC k) (Qp : Mem → Prop) (hwp : p_X7_parse h k Qp) : Met l yX7_parse (wsU yX7_parse cX7_parse 5 none) ({ frames := 1, cells := 0, slots := 0, locals := 23 } : Room) (mPc (wdX E) [.ref (wad (wdX E) k)] h hl) (mQv (wdX E) (fun h1 hl1 => hl = hl1 ∧ Qp h1)) 0 0 (wA (wdX E)) := by
  refine x_met RX7 [(0, .ref (wad (wdX E) k))] (by decide) rfl (Nat.le_of_ble_eq_true rfl) rfl ?_
  intro p e s m args below meth c ls C Dy lv
  have hx := C.x
  have hb := C.b
  have hR : 1 ≤ ({ frames := 1, cells := 0, slots := 0, locals := 23 } : Room).frames ∧ 23 ≤ ({ frames := 1, cells := 0, slots := 0, locals := 23 } : Room).locals := ⟨Nat.le_refl _, Nat.le_refl _⟩
  unfold p_X7_parse at hwp
  refine lv_aload_n hx hb dX7_parse_0 rfl (lv_at lv 0 rfl) ?_
  refine lv_iconst (v := (0 : Int32)) hx hb dX7_parse_1 (by decide) ?_
  refine pf_X7_15_SC hk C Dy dX7_parse_2 (fun H locs Dy => ?_)
  refine lv_aload_n hx hb dX7_parse_5 rfl (lv_at lv 0 rfl) ?_
  refine lv_iconst (v := (-1 : Int32)) hx hb dX7_parse_6 (by decide) ?_
  refine pf_X7_18_SC hk C Dy dX7_parse_7 (fun H locs Dy => ?_)
  refine lv_aload_n hx hb dX7_parse_10 rfl (lv_at lv 0 rfl) ?_
  refine gf_X7_9_SC hk C Dy dX7_parse_11 ?_
  refine lv_if_ne (tgt := 18) hx hb dX7_parse_14 (by decide) (fun c15 => ?_) (fun c15 => ?_)
  · have hwp := hwp.2 c15
    refine lv_aload_n hx hb dX7_parse_18 rfl (lv_at lv 0 rfl) ?_
    refine gf_X7_37_SC hk C Dy dX7_parse_19 ?_
    refine lv_iconst (v := (-1 : Int32)) hx hb dX7_parse_22 (by decide) ?_
    refine x_cont_v Dy (x_runS (As := [.ref (wad (wdX E) (k + 2)), .int (-1 : Int32)]) (rest := []) C Dy (m_J7_fill (wdX E) l _ _ (k + 2) (lenP k) (ia_SCp hk) (-1 : Int32) _ hwp) (cw_X7_40 C rfl rfl ⟨Nat.le_trans (Nat.le_of_ble_eq_true rfl) hR.1, Nat.le_trans (Nat.le_of_ble_eq_true rfl) hR.2⟩) rfl lv.1 rfl (Nat.le_of_ble_eq_true rfl) dX7_parse_23 ⟨Nat.zero_le _, Nat.zero_le _⟩) (fun h17 hl17 H locs hwp Dy => ?_)
    obtain ⟨rfl, hwp⟩ := hwp
    refine lv_iconst (v := (0 : Int32)) hx hb dX7_parse_26 (by decide) ?_
    refine lv_istore_n (lv' := [(1, .int (0 : Int32)), (0, .ref (wad (wdX E) k))]) hx hb dX7_parse_27 rfl lv (by decide) rfl (fun ls lv => ?_)
    refine lv_iconst (v := (0 : Int32)) hx hb dX7_parse_28 (by decide) ?_
    refine lv_istore_n (lv' := [(2, .int (0 : Int32)), (1, .int (0 : Int32)), (0, .ref (wad (wdX E) k))]) hx hb dX7_parse_29 rfl lv (by decide) rfl (fun ls lv => ?_)
    refine lv_iconst (v := (0 : Int32)) hx hb dX7_parse_30 (by decide) ?_
    refine lv_istore_n (lv' := [(3, .int (0 : Int32)), (2, .int (0 : Int32)), (1, .int (0 : Int32)), (0, .ref (wad (wdX E) k))]) hx hb dX7_parse_31 rfl lv (by decide) rfl (fun ls lv => ?_)
    obtain ⟨n0, hwp⟩ := hwp
    exact t_X7_parse_32 E C hR k hk Qp n0 h17 (0 : Int32) (0 : Int32) (0 : Int32) _ _ _ Dy (lv_sub lv [3, 2, 1, 0] rfl) hwp
  · have hwp := hwp.1 c15
    exact x_vret C Dy ⟨rfl, hwp⟩ dX7_parse_17
def p_X8_isLost (h : Mem) (k : Nat) (Qp : Int32 → Prop) : Prop := Qp (if (h k 2) = (-1 : Int32) then (1 : Int32) else (0 : Int32))
set_option maxHeartbeats 4000000 in
set_option maxRecDepth 100000 in
theorem m_X8_isLost (E : xE) (l : Launch) (h : Mem) (hl : MemL) (k : Nat) (hk : isSH k) (Qp : Int32 → Prop) (hwp : p_X8_isLost h k Qp) : Met l yX8_isLost (wsU yX8_isLost cX8_isLost 1 (some .boolean)) ({ frames := 0, cells := 0, slots := 0, locals := 0 } : Room) (mPc (wdX E) [.ref (wad (wdX E) k)] h hl) (mQz (wdX E) (fun r h1 hl1 => h = h1 ∧ hl = hl1 ∧ Qp r)) 0 0 (wA (wdX E)) := by
  refine x_met RX8 [(0, .ref (wad (wdX E) k))] (by decide) rfl (Nat.le_of_ble_eq_true rfl) rfl ?_
  intro p e s m args below meth c ls C Dy lv
  have hx := C.x
  have hb := C.b
  have hR : 0 ≤ ({ frames := 0, cells := 0, slots := 0, locals := 0 } : Room).frames ∧ 0 ≤ ({ frames := 0, cells := 0, slots := 0, locals := 0 } : Room).locals := ⟨Nat.le_refl _, Nat.le_refl _⟩
  unfold p_X8_isLost at hwp
  refine lv_aload_n hx hb dX8_isLost_0 rfl (lv_at lv 0 rfl) ?_
  refine gf_X8_19_SH hk C Dy dX8_isLost_1 ?_
  refine lv_iconst (v := (-1 : Int32)) hx hb dX8_isLost_4 (by decide) ?_
  refine lv_icmp_ne (tgt := 12) hx hb dX8_isLost_5 (by decide) (fun c1 => ?_) (fun c1 => ?_)
  · try simp only [if_neg c1] at hwp
    refine lv_iconst (v := (0 : Int32)) hx hb dX8_isLost_12 (by decide) ?_
    exact x_zret C Dy z01_0 ⟨rfl, rfl, hwp⟩ dX8_isLost_13
  · try simp only [if_pos c1] at hwp
    refine lv_iconst (v := (1 : Int32)) hx hb dX8_isLost_8 (by decide) ?_
    refine lv_goto (tgt := 13) hx hb dX8_isLost_9 (by decide) ?_
    exact x_zret C Dy z01_1 ⟨rfl, rfl, hwp⟩ dX8_isLost_13
def p_X8_renew (h : Mem) (k : Nat) (v1 : Int32) (v2 : Int32) (Qp : Mem → Prop) : Prop := (p_J7_fill (up2 (up2 h k 1 v1) k 2 v2) (k + 1) 60 (0 : Int32) (fun h2 => Qp h2))
set_option maxHeartbeats 4000000 in
set_option maxRecDepth 100000 in
theorem m_X8_renew (E : xE) (l : Launch) (h : Mem) (hl : MemL) (k : Nat) (hk : isSH k) (v1 : Int32) (v2 : Int32) (Qp : Mem → Prop) (hwp : p_X8_renew h k v1 v2 Qp) : Met l yX8_renew (wsU yX8_renew cX8_renew 3 none) ({ frames := 1, cells := 0, slots := 0, locals := 23 } : Room) (mPc (wdX E) [.ref (wad (wdX E) k), .int v1, .int v2] h hl) (mQv (wdX E) (fun h1 hl1 => hl = hl1 ∧ Qp h1)) 0 0 (wA (wdX E)) := by
  refine x_met RX8 [(0, .ref (wad (wdX E) k)), (1, .int v1), (2, .int v2)] (by decide) rfl (Nat.le_of_ble_eq_true rfl) rfl ?_
  intro p e s m args below meth c ls C Dy lv
  have hx := C.x
  have hb := C.b
  have hR : 1 ≤ ({ frames := 1, cells := 0, slots := 0, locals := 23 } : Room).frames ∧ 23 ≤ ({ frames := 1, cells := 0, slots := 0, locals := 23 } : Room).locals := ⟨Nat.le_refl _, Nat.le_refl _⟩
  unfold p_X8_renew at hwp
  refine lv_aload_n hx hb dX8_renew_0 rfl (lv_at lv 0 rfl) ?_
  refine lv_iload_n hx hb dX8_renew_1 rfl (lv_at lv 1 rfl) ?_
  refine pf_X8_15_SH hk C Dy dX8_renew_2 (fun H locs Dy => ?_)
  refine lv_aload_n hx hb dX8_renew_5 rfl (lv_at lv 0 rfl) ?_
  refine lv_iload_n hx hb dX8_renew_6 rfl (lv_at lv 2 rfl) ?_
  refine pf_X8_19_SH hk C Dy dX8_renew_7 (fun H locs Dy => ?_)
  refine lv_aload_n hx hb dX8_renew_10 rfl (lv_at lv 0 rfl) ?_
  refine gf_X8_9_SH hk C Dy dX8_renew_11 ?_
  refine lv_iconst (v := (0 : Int32)) hx hb dX8_renew_14 (by decide) ?_
  refine x_cont_v Dy (x_runS (As := [.ref (wad (wdX E) (k + 1)), .int (0 : Int32)]) (rest := []) C Dy (m_J7_fill (wdX E) l _ _ (k + 1) 60 (ia_SHi hk) (0 : Int32) _ hwp) (cw_X8_22 C rfl rfl ⟨Nat.le_trans (Nat.le_of_ble_eq_true rfl) hR.1, Nat.le_trans (Nat.le_of_ble_eq_true rfl) hR.2⟩) rfl lv.1 rfl (Nat.le_of_ble_eq_true rfl) dX8_renew_15 ⟨Nat.zero_le _, Nat.zero_le _⟩) (fun h2 hl2 H locs hwp Dy => ?_)
  obtain ⟨rfl, hwp⟩ := hwp
  exact x_vret C Dy ⟨rfl, hwp⟩ dX8_renew_18
def p_X8_put (h : Mem) (k : Nat) (v1 : Int32) (v2 : Int32) (Qp : Mem → Prop) : Prop := ((v1 < 0 → Qp h) ∧ (¬ (v1 < 0) → ((v1 < (h k 2) → (∀ x3 : Int32, x3 = (h k 1) → ((x3 = (0 : Int32) → (vp_in v1 60 ∧ Qp (up2 h (k + 1) v1.toNatClampNeg (v2.toInt8.toInt32)))) ∧ (¬ (x3 = (0 : Int32)) → ((x3 = (1 : Int32) → (vp_in v1 60 ∧ Qp (up2 h (k + 1) v1.toNatClampNeg (v2.toInt16.toInt32)))) ∧ (¬ (x3 = (1 : Int32)) → (vp_in v1 60 ∧ Qp (up2 h (k + 1) v1.toNatClampNeg v2)))))))) ∧ (¬ (v1 < (h k 2)) → Qp h))))
set_option maxHeartbeats 4000000 in
set_option maxRecDepth 100000 in
theorem m_X8_put (E : xE) (l : Launch) (h : Mem) (hl : MemL) (k : Nat) (hk : isSH k) (v1 : Int32) (v2 : Int32) (Qp : Mem → Prop) (hwp : p_X8_put h k v1 v2 Qp) : Met l yX8_put (wsU yX8_put cX8_put 3 none) ({ frames := 0, cells := 0, slots := 0, locals := 0 } : Room) (mPc (wdX E) [.ref (wad (wdX E) k), .int v1, .int v2] h hl) (mQv (wdX E) (fun h1 hl1 => hl = hl1 ∧ Qp h1)) 0 0 (wA (wdX E)) := by
  refine x_met RX8 [(0, .ref (wad (wdX E) k)), (1, .int v1), (2, .int v2)] (by decide) rfl (Nat.le_of_ble_eq_true rfl) rfl ?_
  intro p e s m args below meth c ls C Dy lv
  have hx := C.x
  have hb := C.b
  have hR : 0 ≤ ({ frames := 0, cells := 0, slots := 0, locals := 0 } : Room).frames ∧ 0 ≤ ({ frames := 0, cells := 0, slots := 0, locals := 0 } : Room).locals := ⟨Nat.le_refl _, Nat.le_refl _⟩
  unfold p_X8_put at hwp
  refine lv_iload_n hx hb dX8_put_0 rfl (lv_at lv 1 rfl) ?_
  refine lv_if_lt (tgt := 12) hx hb dX8_put_1 (by decide) (fun c1 => ?_) (fun c1 => ?_)
  · have hwp := hwp.1 c1
    exact x_vret C Dy ⟨rfl, hwp⟩ dX8_put_12
  · have hwp := hwp.2 c1
    refine lv_iload_n hx hb dX8_put_4 rfl (lv_at lv 1 rfl) ?_
    refine lv_aload_n hx hb dX8_put_5 rfl (lv_at lv 0 rfl) ?_
    refine gf_X8_19_SH hk C Dy dX8_put_6 ?_
    refine lv_icmp_lt (tgt := 13) hx hb dX8_put_9 (by decide) (fun c2 => ?_) (fun c2 => ?_)
    · have hwp := hwp.1 c2
      refine lv_aload_n hx hb dX8_put_13 rfl (lv_at lv 0 rfl) ?_
      refine gf_X8_15_SH hk C Dy dX8_put_14 ?_
      refine lv_topi (fun x3 ex3 => ?_)
      have hwp := hwp x3 ex3
      by_cases c4 : x3 = (0 : Int32)
      · have hwp := hwp.1 c4
        refine lv_lookup (off := 27) (tgt := 44) hx hb dX8_put_17 (by decide) (by rw [c4]; rfl) (by decide) ?_
        refine lv_aload_n hx hb dX8_put_44 rfl (lv_at lv 0 rfl) ?_
        refine gf_X8_9_SH hk C Dy dX8_put_45 ?_
        refine lv_iload_n hx hb dX8_put_48 rfl (lv_at lv 1 rfl) ?_
        refine lv_iload_n hx hb dX8_put_49 rfl (lv_at lv 2 rfl) ?_
        refine lv_i2b hx hb dX8_put_50 rfl ?_
        obtain ⟨g5, hwp⟩ := hwp
        refine x_iast C Dy (ia_SHi hk) g5 dX8_put_51 (fun H locs Dy => ?_)
        refine lv_goto (tgt := 73) hx hb dX8_put_52 (by decide) ?_
        exact x_vret C Dy ⟨rfl, hwp⟩ dX8_put_73
      · have hwp := hwp.2 c4
        by_cases c6 : x3 = (1 : Int32)
        · have hwp := hwp.1 c6
          refine lv_lookup (off := 38) (tgt := 55) hx hb dX8_put_17 (by decide) (by rw [c6]; rfl) (by decide) ?_
          refine lv_aload_n hx hb dX8_put_55 rfl (lv_at lv 0 rfl) ?_
          refine gf_X8_9_SH hk C Dy dX8_put_56 ?_
          refine lv_iload_n hx hb dX8_put_59 rfl (lv_at lv 1 rfl) ?_
          refine lv_iload_n hx hb dX8_put_60 rfl (lv_at lv 2 rfl) ?_
          refine lv_i2s hx hb dX8_put_61 rfl ?_
          obtain ⟨g7, hwp⟩ := hwp
          refine x_iast C Dy (ia_SHi hk) g7 dX8_put_62 (fun H locs Dy => ?_)
          refine lv_goto (tgt := 73) hx hb dX8_put_63 (by decide) ?_
          exact x_vret C Dy ⟨rfl, hwp⟩ dX8_put_73
        · have hwp := hwp.2 c6
          refine lv_lookup (tgt := 66) (off := 49) hx hb dX8_put_17 (by decide) ((lv_osw c4 (a := 0) (by decide)).trans ((lv_osw c6 (a := 1) (by decide)).trans rfl)) (by decide) ?_
          refine lv_aload_n hx hb dX8_put_66 rfl (lv_at lv 0 rfl) ?_
          refine gf_X8_9_SH hk C Dy dX8_put_67 ?_
          refine lv_iload_n hx hb dX8_put_70 rfl (lv_at lv 1 rfl) ?_
          refine lv_iload_n hx hb dX8_put_71 rfl (lv_at lv 2 rfl) ?_
          obtain ⟨g8, hwp⟩ := hwp
          refine x_iast C Dy (ia_SHi hk) g8 dX8_put_72 (fun H locs Dy => ?_)
          exact x_vret C Dy ⟨rfl, hwp⟩ dX8_put_73
    · have hwp := hwp.2 c2
      exact x_vret C Dy ⟨rfl, hwp⟩ dX8_put_12
def p_X8_hasRun (h : Mem) (k : Nat) (v1 : Int32) (v2 : Int32) (Qp : Int32 → Prop) : Prop := Qp (if v1 < 0 then (0 : Int32) else (if v2 < 0 then (0 : Int32) else (if (h k 2) < v2 then (0 : Int32) else (if ((h k 2) - v2) < v1 then (0 : Int32) else (1 : Int32)))))
set_option maxHeartbeats 4000000 in
set_option maxRecDepth 100000 in
theorem m_X8_hasRun (E : xE) (l : Launch) (h : Mem) (hl : MemL) (k : Nat) (hk : isSH k) (v1 : Int32) (v2 : Int32) (Qp : Int32 → Prop) (hwp : p_X8_hasRun h k v1 v2 Qp) : Met l yX8_hasRun (wsU yX8_hasRun cX8_hasRun 3 (some .boolean)) ({ frames := 0, cells := 0, slots := 0, locals := 0 } : Room) (mPc (wdX E) [.ref (wad (wdX E) k), .int v1, .int v2] h hl) (mQz (wdX E) (fun r h1 hl1 => h = h1 ∧ hl = hl1 ∧ Qp r)) 0 0 (wA (wdX E)) := by
  refine x_met RX8 [(0, .ref (wad (wdX E) k)), (1, .int v1), (2, .int v2)] (by decide) rfl (Nat.le_of_ble_eq_true rfl) rfl ?_
  intro p e s m args below meth c ls C Dy lv
  have hx := C.x
  have hb := C.b
  have hR : 0 ≤ ({ frames := 0, cells := 0, slots := 0, locals := 0 } : Room).frames ∧ 0 ≤ ({ frames := 0, cells := 0, slots := 0, locals := 0 } : Room).locals := ⟨Nat.le_refl _, Nat.le_refl _⟩
  unfold p_X8_hasRun at hwp
  refine lv_iload_n hx hb dX8_hasRun_0 rfl (lv_at lv 1 rfl) ?_
  refine lv_if_lt (tgt := 30) hx hb dX8_hasRun_1 (by decide) (fun c1 => ?_) (fun c1 => ?_)
  · try simp only [if_pos c1] at hwp
    refine lv_iconst (v := (0 : Int32)) hx hb dX8_hasRun_30 (by decide) ?_
    exact x_zret C Dy z01_0 ⟨rfl, rfl, hwp⟩ dX8_hasRun_31
  · try simp only [if_neg c1] at hwp
    refine lv_iload_n hx hb dX8_hasRun_4 rfl (lv_at lv 2 rfl) ?_
    refine lv_if_lt (tgt := 30) hx hb dX8_hasRun_5 (by decide) (fun c2 => ?_) (fun c2 => ?_)
    · try simp only [if_pos c2] at hwp
      refine lv_iconst (v := (0 : Int32)) hx hb dX8_hasRun_30 (by decide) ?_
      exact x_zret C Dy z01_0 ⟨rfl, rfl, hwp⟩ dX8_hasRun_31
    · try simp only [if_neg c2] at hwp
      refine lv_iload_n hx hb dX8_hasRun_8 rfl (lv_at lv 2 rfl) ?_
      refine lv_aload_n hx hb dX8_hasRun_9 rfl (lv_at lv 0 rfl) ?_
      refine gf_X8_19_SH hk C Dy dX8_hasRun_10 ?_
      refine lv_icmp_gt (tgt := 30) hx hb dX8_hasRun_13 (by decide) (fun c3 => ?_) (fun c3 => ?_)
      · try simp only [if_pos c3] at hwp
        refine lv_iconst (v := (0 : Int32)) hx hb dX8_hasRun_30 (by decide) ?_
        exact x_zret C Dy z01_0 ⟨rfl, rfl, hwp⟩ dX8_hasRun_31
      · try simp only [if_neg c3] at hwp
        refine lv_iload_n hx hb dX8_hasRun_16 rfl (lv_at lv 1 rfl) ?_
        refine lv_aload_n hx hb dX8_hasRun_17 rfl (lv_at lv 0 rfl) ?_
        refine gf_X8_19_SH hk C Dy dX8_hasRun_18 ?_
        refine lv_iload_n hx hb dX8_hasRun_21 rfl (lv_at lv 2 rfl) ?_
        refine lv_isub hx hb dX8_hasRun_22 ?_
        refine lv_icmp_gt (tgt := 30) hx hb dX8_hasRun_23 (by decide) (fun c4 => ?_) (fun c4 => ?_)
        · try simp only [if_pos c4] at hwp
          refine lv_iconst (v := (0 : Int32)) hx hb dX8_hasRun_30 (by decide) ?_
          exact x_zret C Dy z01_0 ⟨rfl, rfl, hwp⟩ dX8_hasRun_31
        · try simp only [if_neg c4] at hwp
          refine lv_iconst (v := (1 : Int32)) hx hb dX8_hasRun_26 (by decide) ?_
          refine lv_goto (tgt := 31) hx hb dX8_hasRun_27 (by decide) ?_
          exact x_zret C Dy z01_1 ⟨rfl, rfl, hwp⟩ dX8_hasRun_31
def p_X9_within (v0 : Int32) (v1 : Int32) (Qp : Int32 → Prop) : Prop := Qp (if v0 < 0 then (0 : Int32) else (if v1 ≤ v0 then (0 : Int32) else (1 : Int32)))
set_option maxHeartbeats 4000000 in
set_option maxRecDepth 100000 in
theorem m_X9_within (E : xE) (l : Launch) (h : Mem) (hl : MemL) (v0 : Int32) (v1 : Int32) (Qp : Int32 → Prop) (hwp : p_X9_within v0 v1 Qp) : Met l yX9_within (wsU yX9_within cX9_within 2 (some .boolean)) ({ frames := 0, cells := 0, slots := 0, locals := 0 } : Room) (mPc (wdX E) [.int v0, .int v1] h hl) (mQz (wdX E) (fun r h1 hl1 => h = h1 ∧ hl = hl1 ∧ Qp r)) 0 0 (wA (wdX E)) := by
  refine x_met RX9 [(0, .int v0), (1, .int v1)] (by decide) rfl (Nat.le_of_ble_eq_true rfl) rfl ?_
  intro p e s m args below meth c ls C Dy lv
  have hx := C.x
  have hb := C.b
  have hR : 0 ≤ ({ frames := 0, cells := 0, slots := 0, locals := 0 } : Room).frames ∧ 0 ≤ ({ frames := 0, cells := 0, slots := 0, locals := 0 } : Room).locals := ⟨Nat.le_refl _, Nat.le_refl _⟩
  unfold p_X9_within at hwp
  refine lv_iload_n hx hb dX9_within_0 rfl (lv_at lv 0 rfl) ?_
  refine lv_if_lt (tgt := 13) hx hb dX9_within_1 (by decide) (fun c1 => ?_) (fun c1 => ?_)
  · try simp only [if_pos c1] at hwp
    refine lv_iconst (v := (0 : Int32)) hx hb dX9_within_13 (by decide) ?_
    exact x_zret C Dy z01_0 ⟨rfl, rfl, hwp⟩ dX9_within_14
  · try simp only [if_neg c1] at hwp
    refine lv_iload_n hx hb dX9_within_4 rfl (lv_at lv 0 rfl) ?_
    refine lv_iload_n hx hb dX9_within_5 rfl (lv_at lv 1 rfl) ?_
    refine lv_icmp_ge (tgt := 13) hx hb dX9_within_6 (by decide) (fun c2 => ?_) (fun c2 => ?_)
    · try simp only [if_pos c2] at hwp
      refine lv_iconst (v := (0 : Int32)) hx hb dX9_within_13 (by decide) ?_
      exact x_zret C Dy z01_0 ⟨rfl, rfl, hwp⟩ dX9_within_14
    · try simp only [if_neg c2] at hwp
      refine lv_iconst (v := (1 : Int32)) hx hb dX9_within_9 (by decide) ?_
      refine lv_goto (tgt := 14) hx hb dX9_within_10 (by decide) ?_
      exact x_zret C Dy z01_1 ⟨rfl, rfl, hwp⟩ dX9_within_14
def p_X9_scriptOf (v1 : Int32) (Qp : Nat → Prop) : Prop := Qp (if v1 = 0 then 1 else 4)
set_option maxHeartbeats 4000000 in
set_option maxRecDepth 100000 in
theorem m_X9_scriptOf (E : xE) (l : Launch) (h : Mem) (hl : MemL) (v1 : Int32) (Qp : Nat → Prop) (hwp : p_X9_scriptOf v1 Qp) : Met l yX9_scriptOf (wsU yX9_scriptOf cX9_scriptOf 2 (some (.object "KingsYear$Script"))) ({ frames := 0, cells := 0, slots := 0, locals := 0 } : Room) (mPc (wdX E) [.ref (wad (wdX E) 0), .int v1] h hl) (mQr (wdX E) (fun r h1 hl1 => isSC r ∧ h = h1 ∧ hl = hl1 ∧ Qp r)) 0 0 (wA (wdX E)) := by
  refine x_met RX9 [(0, .ref (wad (wdX E) 0)), (1, .int v1)] (by decide) rfl (Nat.le_of_ble_eq_true rfl) rfl ?_
  intro p e s m args below meth c ls C Dy lv
  have hx := C.x
  have hb := C.b
  have hR : 0 ≤ ({ frames := 0, cells := 0, slots := 0, locals := 0 } : Room).frames ∧ 0 ≤ ({ frames := 0, cells := 0, slots := 0, locals := 0 } : Room).locals := ⟨Nat.le_refl _, Nat.le_refl _⟩
  unfold p_X9_scriptOf at hwp
  refine lv_iload_n hx hb dX9_scriptOf_0 rfl (lv_at lv 1 rfl) ?_
  refine lv_if_ne (tgt := 11) hx hb dX9_scriptOf_1 (by decide) (fun c1 => ?_) (fun c1 => ?_)
  · try simp only [if_neg c1] at hwp
    refine lv_aload_n hx hb dX9_scriptOf_11 rfl (lv_at lv 0 rfl) ?_
    refine gf_X9_31_0 C Dy dX9_scriptOf_12 ?_
    exact x_rret C Dy ⟨(Or.inr rfl), rfl, rfl, hwp⟩ dX9_scriptOf_15
  · try simp only [if_pos c1] at hwp
    refine lv_aload_n hx hb dX9_scriptOf_4 rfl (lv_at lv 0 rfl) ?_
    refine gf_X9_21_0 C Dy dX9_scriptOf_5 ?_
    refine lv_goto (tgt := 15) hx hb dX9_scriptOf_8 (by decide) ?_
    exact x_rret C Dy ⟨(Or.inl rfl), rfl, rfl, hwp⟩ dX9_scriptOf_15
def p_X9_type (h : Mem) (v1 : Int32) (v2 : Int32) (Qp : Int32 → Mem → Prop) : Prop := (p_X9_within v1 (2 : Int32) (fun r1 => ((r1 = 0 → Qp (-2 : Int32) h) ∧ (¬ (r1 = 0) → (p_X9_within v2 (256 : Int32) (fun r4 => ((r4 = 0 → Qp (-2 : Int32) h) ∧ (¬ (r4 = 0) → (p_X9_scriptOf v1 (fun r7 => (p_X7_isFull h r7 (fun r9 => ((r9 = 0 → (p_X7_append h r7 v2 (fun h13 => Qp ((up2 h13 0 12 (1 : Int32)) r7 6) (up2 h13 0 12 (1 : Int32))))) ∧ (¬ (r9 = 0) → Qp (-4 : Int32) h))))))))))))))
set_option maxHeartbeats 4000000 in
set_option maxRecDepth 100000 in
theorem m_X9_type (E : xE) (l : Launch) (h : Mem) (hl : MemL) (v1 : Int32) (v2 : Int32) (Qp : Int32 → Mem → Prop) (hwp : p_X9_type h v1 v2 Qp) : Met l yX9_type (wsU yX9_type cX9_type 4 (some .int)) ({ frames := 1, cells := 0, slots := 0, locals := 21 } : Room) (mPc (wdX E) [.ref (wad (wdX E) 0), .int v1, .int v2] h hl) (mQi (wdX E) (fun r h1 hl1 => hl = hl1 ∧ Qp r h1)) 0 0 (wA (wdX E)) := by
  refine x_met RX9 [(0, .ref (wad (wdX E) 0)), (1, .int v1), (2, .int v2)] (by decide) rfl (Nat.le_of_ble_eq_true rfl) rfl ?_
  intro p e s m args below meth c ls C Dy lv
  have hx := C.x
  have hb := C.b
  have hR : 1 ≤ ({ frames := 1, cells := 0, slots := 0, locals := 21 } : Room).frames ∧ 21 ≤ ({ frames := 1, cells := 0, slots := 0, locals := 21 } : Room).locals := ⟨Nat.le_refl _, Nat.le_refl _⟩
  unfold p_X9_type at hwp
  refine lv_iload_n hx hb dX9_type_0 rfl (lv_at lv 1 rfl) ?_
  refine lv_iconst (v := (2 : Int32)) hx hb dX9_type_1 (by decide) ?_
  refine x_cont_z Dy (x_runS (As := [.int v1, .int (2 : Int32)]) (rest := []) C Dy (m_X9_within E l _ _ v1 (2 : Int32) _ hwp) (cw_X9_104 C rfl rfl ⟨Nat.le_trans (Nat.le_of_ble_eq_true rfl) hR.1, Nat.le_trans (Nat.le_of_ble_eq_true rfl) hR.2⟩) rfl lv.1 rfl (Nat.le_of_ble_eq_true rfl) dX9_type_2 ⟨Nat.zero_le _, Nat.zero_le _⟩) (fun r1 h2 hl2 H locs zr1 hwp Dy => ?_)
  obtain ⟨rfl, rfl, hwp⟩ := hwp
  refine lv_if_eq (tgt := 18) hx hb dX9_type_5 (by decide) (fun c3 => ?_) (fun c3 => ?_)
  · have hwp := hwp.1 c3
    refine lv_bipush (v := (-2 : Int32)) hx hb dX9_type_18 (by decide) ?_
    exact x_iret C Dy ⟨rfl, hwp⟩ dX9_type_20
  · have hwp := hwp.2 c3
    refine lv_iload_n hx hb dX9_type_8 rfl (lv_at lv 2 rfl) ?_
    refine lv_sipush (v := (256 : Int32)) hx hb dX9_type_9 (by decide) ?_
    refine x_cont_z Dy (x_runS (As := [.int v2, .int (256 : Int32)]) (rest := []) C Dy (m_X9_within E l _ _ v2 (256 : Int32) _ hwp) (cw_X9_104 C rfl rfl ⟨Nat.le_trans (Nat.le_of_ble_eq_true rfl) hR.1, Nat.le_trans (Nat.le_of_ble_eq_true rfl) hR.2⟩) rfl lv.1 rfl (Nat.le_of_ble_eq_true rfl) dX9_type_12 ⟨Nat.zero_le _, Nat.zero_le _⟩) (fun r4 h5 hl5 H locs zr4 hwp Dy => ?_)
    obtain ⟨rfl, rfl, hwp⟩ := hwp
    refine lv_if_ne (tgt := 21) hx hb dX9_type_15 (by decide) (fun c6 => ?_) (fun c6 => ?_)
    · have hwp := hwp.2 c6
      refine lv_aload_n hx hb dX9_type_21 rfl (lv_at lv 0 rfl) ?_
      refine lv_iload_n hx hb dX9_type_22 rfl (lv_at lv 1 rfl) ?_
      refine x_cont_r Dy (x_runV (As := [.int v1]) (rest := []) C Dy (m_X9_scriptOf E l _ _ v1 _ hwp) (cw_X9_108 C rfl rfl ⟨Nat.le_trans (Nat.le_of_ble_eq_true rfl) hR.1, Nat.le_trans (Nat.le_of_ble_eq_true rfl) hR.2⟩) wx_0 rfl rfl lv.1 rfl (Nat.le_of_ble_eq_true rfl) dX9_type_23 ⟨Nat.zero_le _, Nat.zero_le _⟩) (fun r7 h8 hl8 H locs hwp Dy => ?_)
      obtain ⟨hr7, rfl, rfl, hwp⟩ := hwp
      refine lv_astore_n (lv' := [(3, .ref (wad (wdX E) r7)), (0, .ref (wad (wdX E) 0)), (1, .int v1), (2, .int v2)]) hx hb dX9_type_26 rfl lv (by decide) rfl (fun ls lv => ?_)
      refine lv_aload_n hx hb dX9_type_27 rfl (lv_at lv 0 rfl) ?_
      refine x_cont_z Dy (x_runV (As := []) (rest := []) C Dy (m_X7_isFull E l _ _ r7 hr7 _ hwp) (cw_X9_112 C rfl rfl ⟨Nat.le_trans (Nat.le_of_ble_eq_true rfl) hR.1, Nat.le_trans (Nat.le_of_ble_eq_true rfl) hR.2⟩) (wx_SC hr7) rfl rfl lv.1 rfl (Nat.le_of_ble_eq_true rfl) dX9_type_28 ⟨Nat.zero_le _, Nat.zero_le _⟩) (fun r9 h10 hl10 H locs zr9 hwp Dy => ?_)
      obtain ⟨rfl, rfl, hwp⟩ := hwp
      refine lv_if_eq (tgt := 37) hx hb dX9_type_31 (by decide) (fun c11 => ?_) (fun c11 => ?_)
      · have hwp := hwp.1 c11
        refine lv_aload_n hx hb dX9_type_37 rfl (lv_at lv 0 rfl) ?_
        refine lv_iload_n hx hb dX9_type_38 rfl (lv_at lv 3 rfl) ?_
        refine x_cont_v Dy (x_runV (As := [.int v2]) (rest := []) C Dy (m_X7_append E l _ _ r7 hr7 v2 _ hwp) (cw_X9_116 C rfl rfl ⟨Nat.le_trans (Nat.le_of_ble_eq_true rfl) hR.1, Nat.le_trans (Nat.le_of_ble_eq_true rfl) hR.2⟩) (wx_SC hr7) rfl rfl lv.1 rfl (Nat.le_of_ble_eq_true rfl) dX9_type_39 ⟨Nat.zero_le _, Nat.zero_le _⟩) (fun h13 hl13 H locs hwp Dy => ?_)
        obtain ⟨rfl, hwp⟩ := hwp
        refine lv_aload_n hx hb dX9_type_42 rfl (lv_at lv 1 rfl) ?_
        refine lv_iconst (v := (1 : Int32)) hx hb dX9_type_43 (by decide) ?_
        refine pf_X9_95_0 C Dy z01_1 dX9_type_44 (fun H locs Dy => ?_)
        refine lv_aload_n hx hb dX9_type_47 rfl (lv_at lv 0 rfl) ?_
        refine gf_X9_120_SC hr7 C Dy dX9_type_48 ?_
        exact x_iret C Dy ⟨rfl, hwp⟩ dX9_type_51
      · have hwp := hwp.2 c11
        refine lv_bipush (v := (-4 : Int32)) hx hb dX9_type_34 (by decide) ?_
        exact x_iret C Dy ⟨rfl, hwp⟩ dX9_type_36
    · have hwp := hwp.1 c6
      refine lv_bipush (v := (-2 : Int32)) hx hb dX9_type_18 (by decide) ?_
      exact x_iret C Dy ⟨rfl, hwp⟩ dX9_type_20
def p_X9_wipe (h : Mem) (v1 : Int32) (Qp : Int32 → Mem → Prop) : Prop := (p_X9_within v1 (2 : Int32) (fun r1 => ((r1 = 0 → Qp (-2 : Int32) h) ∧ (¬ (r1 = 0) → (p_X9_scriptOf v1 (fun r4 => (p_X7_shorten h r4 (0 : Int32) (fun h7 => Qp (h r4 6) (up2 h7 0 12 (1 : Int32))))))))))
set_option maxHeartbeats 4000000 in
set_option maxRecDepth 100000 in
theorem m_X9_wipe (E : xE) (l : Launch) (h : Mem) (hl : MemL) (v1 : Int32) (Qp : Int32 → Mem → Prop) (hwp : p_X9_wipe h v1 Qp) : Met l yX9_wipe (wsU yX9_wipe cX9_wipe 4 (some .int)) ({ frames := 1, cells := 0, slots := 0, locals := 21 } : Room) (mPc (wdX E) [.ref (wad (wdX E) 0), .int v1] h hl) (mQi (wdX E) (fun r h1 hl1 => hl = hl1 ∧ Qp r h1)) 0 0 (wA (wdX E)) := by
  refine x_met RX9 [(0, .ref (wad (wdX E) 0)), (1, .int v1)] (by decide) rfl (Nat.le_of_ble_eq_true rfl) rfl ?_
  intro p e s m args below meth c ls C Dy lv
  have hx := C.x
  have hb := C.b
  have hR : 1 ≤ ({ frames := 1, cells := 0, slots := 0, locals := 21 } : Room).frames ∧ 21 ≤ ({ frames := 1, cells := 0, slots := 0, locals := 21 } : Room).locals := ⟨Nat.le_refl _, Nat.le_refl _⟩
  unfold p_X9_wipe at hwp
  refine lv_iload_n hx hb dX9_wipe_0 rfl (lv_at lv 1 rfl) ?_
  refine lv_iconst (v := (2 : Int32)) hx hb dX9_wipe_1 (by decide) ?_
  refine x_cont_z Dy (x_runS (As := [.int v1, .int (2 : Int32)]) (rest := []) C Dy (m_X9_within E l _ _ v1 (2 : Int32) _ hwp) (cw_X9_104 C rfl rfl ⟨Nat.le_trans (Nat.le_of_ble_eq_true rfl) hR.1, Nat.le_trans (Nat.le_of_ble_eq_true rfl) hR.2⟩) rfl lv.1 rfl (Nat.le_of_ble_eq_true rfl) dX9_wipe_2 ⟨Nat.zero_le _, Nat.zero_le _⟩) (fun r1 h2 hl2 H locs zr1 hwp Dy => ?_)
  obtain ⟨rfl, rfl, hwp⟩ := hwp
  refine lv_if_ne (tgt := 11) hx hb dX9_wipe_5 (by decide) (fun c3 => ?_) (fun c3 => ?_)
  · have hwp := hwp.2 c3
    refine lv_aload_n hx hb dX9_wipe_11 rfl (lv_at lv 0 rfl) ?_
    refine lv_iload_n hx hb dX9_wipe_12 rfl (lv_at lv 1 rfl) ?_
    refine x_cont_r Dy (x_runV (As := [.int v1]) (rest := []) C Dy (m_X9_scriptOf E l _ _ v1 _ hwp) (cw_X9_108 C rfl rfl ⟨Nat.le_trans (Nat.le_of_ble_eq_true rfl) hR.1, Nat.le_trans (Nat.le_of_ble_eq_true rfl) hR.2⟩) wx_0 rfl rfl lv.1 rfl (Nat.le_of_ble_eq_true rfl) dX9_wipe_13 ⟨Nat.zero_le _, Nat.zero_le _⟩) (fun r4 h5 hl5 H locs hwp Dy => ?_)
    obtain ⟨hr4, rfl, rfl, hwp⟩ := hwp
    refine lv_astore_n (lv' := [(2, .ref (wad (wdX E) r4)), (0, .ref (wad (wdX E) 0)), (1, .int v1)]) hx hb dX9_wipe_16 rfl lv (by decide) rfl (fun ls lv => ?_)
    refine lv_aload_n hx hb dX9_wipe_17 rfl (lv_at lv 0 rfl) ?_
    refine gf_X9_120_SC hr4 C Dy dX9_wipe_18 ?_
    refine lv_istore_n (lv' := [(3, .int (h r4 6)), (2, .ref (wad (wdX E) r4)), (0, .ref (wad (wdX E) 0)), (1, .int v1)]) hx hb dX9_wipe_21 rfl lv (by decide) rfl (fun ls lv => ?_)
    refine lv_aload_n hx hb dX9_wipe_22 rfl (lv_at lv 1 rfl) ?_
    refine lv_iconst (v := (0 : Int32)) hx hb dX9_wipe_23 (by decide) ?_
    refine x_cont_v Dy (x_runV (As := [.int (0 : Int32)]) (rest := []) C Dy (m_X7_shorten E l _ _ r4 hr4 (0 : Int32) _ hwp) (cw_X9_123 C rfl rfl ⟨Nat.le_trans (Nat.le_of_ble_eq_true rfl) hR.1, Nat.le_trans (Nat.le_of_ble_eq_true rfl) hR.2⟩) (wx_SC hr4) rfl rfl lv.1 rfl (Nat.le_of_ble_eq_true rfl) dX9_wipe_24 ⟨Nat.zero_le _, Nat.zero_le _⟩) (fun h7 hl7 H locs hwp Dy => ?_)
    obtain ⟨rfl, hwp⟩ := hwp
    refine lv_aload_n hx hb dX9_wipe_27 rfl (lv_at lv 2 rfl) ?_
    refine lv_iconst (v := (1 : Int32)) hx hb dX9_wipe_28 (by decide) ?_
    refine pf_X9_95_0 C Dy z01_1 dX9_wipe_29 (fun H locs Dy => ?_)
    refine lv_iload_n hx hb dX9_wipe_32 rfl (lv_at lv 0 rfl) ?_
    exact x_iret C Dy ⟨rfl, hwp⟩ dX9_wipe_33
  · have hwp := hwp.1 c3
    refine lv_bipush (v := (-2 : Int32)) hx hb dX9_wipe_8 (by decide) ?_
    exact x_iret C Dy ⟨rfl, hwp⟩ dX9_wipe_10
def p_X9_undo (h : Mem) (v1 : Int32) (Qp : Int32 → Mem → Prop) : Prop := (p_X9_within v1 (2 : Int32) (fun r1 => ((r1 = 0 → Qp (-2 : Int32) h) ∧ (¬ (r1 = 0) → (p_X9_scriptOf v1 (fun r4 => (((h r4 6) = 0 → Qp (-3 : Int32) h) ∧ (¬ ((h r4 6) = 0) → (p_X7_shorten h r4 ((h r4 6) - (1 : Int32)) (fun h8 => Qp ((up2 h8 0 12 (1 : Int32)) r4 6) (up2 h8 0 12 (1 : Int32))))))))))))
set_option maxHeartbeats 4000000 in
set_option maxRecDepth 100000 in
theorem m_X9_undo (E : xE) (l : Launch) (h : Mem) (hl : MemL) (v1 : Int32) (Qp : Int32 → Mem → Prop) (hwp : p_X9_undo h v1 Qp) : Met l yX9_undo (wsU yX9_undo cX9_undo 3 (some .int)) ({ frames := 1, cells := 0, slots := 0, locals := 21 } : Room) (mPc (wdX E) [.ref (wad (wdX E) 0), .int v1] h hl) (mQi (wdX E) (fun r h1 hl1 => hl = hl1 ∧ Qp r h1)) 0 0 (wA (wdX E)) := by
  refine x_met RX9 [(0, .ref (wad (wdX E) 0)), (1, .int v1)] (by decide) rfl (Nat.le_of_ble_eq_true rfl) rfl ?_
  intro p e s m args below meth c ls C Dy lv
  have hx := C.x
  have hb := C.b
  have hR : 1 ≤ ({ frames := 1, cells := 0, slots := 0, locals := 21 } : Room).frames ∧ 21 ≤ ({ frames := 1, cells := 0, slots := 0, locals := 21 } : Room).locals := ⟨Nat.le_refl _, Nat.le_refl _⟩
  unfold p_X9_undo at hwp
  refine lv_iload_n hx hb dX9_undo_0 rfl (lv_at lv 1 rfl) ?_
  refine lv_iconst (v := (2 : Int32)) hx hb dX9_undo_1 (by decide) ?_
  refine x_cont_z Dy (x_runS (As := [.int v1, .int (2 : Int32)]) (rest := []) C Dy (m_X9_within E l _ _ v1 (2 : Int32) _ hwp) (cw_X9_104 C rfl rfl ⟨Nat.le_trans (Nat.le_of_ble_eq_true rfl) hR.1, Nat.le_trans (Nat.le_of_ble_eq_true rfl) hR.2⟩) rfl lv.1 rfl (Nat.le_of_ble_eq_true rfl) dX9_undo_2 ⟨Nat.zero_le _, Nat.zero_le _⟩) (fun r1 h2 hl2 H locs zr1 hwp Dy => ?_)
  obtain ⟨rfl, rfl, hwp⟩ := hwp
  refine lv_if_ne (tgt := 11) hx hb dX9_undo_5 (by decide) (fun c3 => ?_) (fun c3 => ?_)
  · have hwp := hwp.2 c3
    refine lv_aload_n hx hb dX9_undo_11 rfl (lv_at lv 0 rfl) ?_
    refine lv_iload_n hx hb dX9_undo_12 rfl (lv_at lv 1 rfl) ?_
    refine x_cont_r Dy (x_runV (As := [.int v1]) (rest := []) C Dy (m_X9_scriptOf E l _ _ v1 _ hwp) (cw_X9_108 C rfl rfl ⟨Nat.le_trans (Nat.le_of_ble_eq_true rfl) hR.1, Nat.le_trans (Nat.le_of_ble_eq_true rfl) hR.2⟩) wx_0 rfl rfl lv.1 rfl (Nat.le_of_ble_eq_true rfl) dX9_undo_13 ⟨Nat.zero_le _, Nat.zero_le _⟩) (fun r4 h5 hl5 H locs hwp Dy => ?_)
    obtain ⟨hr4, rfl, rfl, hwp⟩ := hwp
    refine lv_astore_n (lv' := [(2, .ref (wad (wdX E) r4)), (0, .ref (wad (wdX E) 0)), (1, .int v1)]) hx hb dX9_undo_16 rfl lv (by decide) rfl (fun ls lv => ?_)
    refine lv_aload_n hx hb dX9_undo_17 rfl (lv_at lv 0 rfl) ?_
    refine gf_X9_120_SC hr4 C Dy dX9_undo_18 ?_
    refine lv_if_ne (tgt := 27) hx hb dX9_undo_21 (by decide) (fun c6 => ?_) (fun c6 => ?_)
    · have hwp := hwp.2 c6
      refine lv_aload_n hx hb dX9_undo_27 rfl (lv_at lv 0 rfl) ?_
      refine lv_aload_n hx hb dX9_undo_28 rfl (lv_at lv 0 rfl) ?_
      refine gf_X9_120_SC hr4 C Dy dX9_undo_29 ?_
      refine lv_iconst (v := (1 : Int32)) hx hb dX9_undo_32 (by decide) ?_
      refine lv_isub hx hb dX9_undo_33 ?_
      refine x_cont_v Dy (x_runV (As := [.int ((h r4 6) - (1 : Int32))]) (rest := []) C Dy (m_X7_shorten E l _ _ r4 hr4 ((h r4 6) - (1 : Int32)) _ hwp) (cw_X9_123 C rfl rfl ⟨Nat.le_trans (Nat.le_of_ble_eq_true rfl) hR.1, Nat.le_trans (Nat.le_of_ble_eq_true rfl) hR.2⟩) (wx_SC hr4) rfl rfl lv.1 rfl (Nat.le_of_ble_eq_true rfl) dX9_undo_34 ⟨Nat.zero_le _, Nat.zero_le _⟩) (fun h8 hl8 H locs hwp Dy => ?_)
      obtain ⟨rfl, hwp⟩ := hwp
      refine lv_aload_n hx hb dX9_undo_37 rfl (lv_at lv 1 rfl) ?_
      refine lv_iconst (v := (1 : Int32)) hx hb dX9_undo_38 (by decide) ?_
      refine pf_X9_95_0 C Dy z01_1 dX9_undo_39 (fun H locs Dy => ?_)
      refine lv_aload_n hx hb dX9_undo_42 rfl (lv_at lv 0 rfl) ?_
      refine gf_X9_120_SC hr4 C Dy dX9_undo_43 ?_
      exact x_iret C Dy ⟨rfl, hwp⟩ dX9_undo_46
    · have hwp := hwp.1 c6
      refine lv_bipush (v := (-3 : Int32)) hx hb dX9_undo_24 (by decide) ?_
      exact x_iret C Dy ⟨rfl, hwp⟩ dX9_undo_26
  · have hwp := hwp.1 c3
    refine lv_bipush (v := (-2 : Int32)) hx hb dX9_undo_8 (by decide) ?_
    exact x_iret C Dy ⟨rfl, hwp⟩ dX9_undo_10
def p_X9_refresh (h : Mem) (Qp : Mem → Prop) : Prop := (((h 0 12) = 0 → Qp h) ∧ (¬ ((h 0 12) = 0) → (p_X7_parse h 1 (fun h3 => (p_X7_parse h3 4 (fun h5 => (p_X0_layOut h5 (fun h7 => Qp (up2 (up2 h7 35 3 (1 : Int32)) 0 12 (0 : Int32))))))))))
set_option maxHeartbeats 4000000 in
set_option maxRecDepth 100000 in
theorem m_X9_refresh (E : xE) (l : Launch) (h : Mem) (hl : MemL) (Qp : Mem → Prop) (hwp : p_X9_refresh h Qp) : Met l yX9_refresh (wsU yX9_refresh cX9_refresh 1 none) ({ frames := 2, cells := 0, slots := 0, locals := 50 } : Room) (mPc (wdX E) [.ref (wad (wdX E) 0)] h hl) (mQv (wdX E) (fun h1 hl1 => hl = hl1 ∧ Qp h1)) 0 0 (wA (wdX E)) := by
  refine x_met RX9 [(0, .ref (wad (wdX E) 0))] (by decide) rfl (Nat.le_of_ble_eq_true rfl) rfl ?_
  intro p e s m args below meth c ls C Dy lv
  have hx := C.x
  have hb := C.b
  have hR : 2 ≤ ({ frames := 2, cells := 0, slots := 0, locals := 50 } : Room).frames ∧ 50 ≤ ({ frames := 2, cells := 0, slots := 0, locals := 50 } : Room).locals := ⟨Nat.le_refl _, Nat.le_refl _⟩
  unfold p_X9_refresh at hwp
  refine lv_aload_n hx hb dX9_refresh_0 rfl (lv_at lv 0 rfl) ?_
  refine gf_X9_95_0 C Dy dX9_refresh_1 ?_
  refine lv_if_eq (tgt := 49) hx hb dX9_refresh_4 (by decide) (fun c1 => ?_) (fun c1 => ?_)
  · have hwp := hwp.1 c1
    exact x_vret C Dy ⟨rfl, hwp⟩ dX9_refresh_49
  · have hwp := hwp.2 c1
    refine lv_aload_n hx hb dX9_refresh_7 rfl (lv_at lv 0 rfl) ?_
    refine gf_X9_21_0 C Dy dX9_refresh_8 ?_
    refine x_cont_v Dy (x_runV (As := []) (rest := []) C Dy (m_X7_parse E l _ _ 1 (Or.inl rfl) _ hwp) (cw_X9_364 C rfl rfl ⟨Nat.le_trans (Nat.le_of_ble_eq_true rfl) hR.1, Nat.le_trans (Nat.le_of_ble_eq_true rfl) hR.2⟩) wx_1 rfl rfl lv.1 rfl (Nat.le_of_ble_eq_true rfl) dX9_refresh_11 ⟨Nat.zero_le _, Nat.zero_le _⟩) (fun h3 hl3 H locs hwp Dy => ?_)
    obtain ⟨rfl, hwp⟩ := hwp
    refine lv_aload_n hx hb dX9_refresh_14 rfl (lv_at lv 0 rfl) ?_
    refine gf_X9_31_0 C Dy dX9_refresh_15 ?_
    refine x_cont_v Dy (x_runV (As := []) (rest := []) C Dy (m_X7_parse E l _ _ 4 (Or.inr rfl) _ hwp) (cw_X9_364 C rfl rfl ⟨Nat.le_trans (Nat.le_of_ble_eq_true rfl) hR.1, Nat.le_trans (Nat.le_of_ble_eq_true rfl) hR.2⟩) wx_4 rfl rfl lv.1 rfl (Nat.le_of_ble_eq_true rfl) dX9_refresh_18 ⟨Nat.zero_le _, Nat.zero_le _⟩) (fun h5 hl5 H locs hwp Dy => ?_)
    obtain ⟨rfl, hwp⟩ := hwp
    refine lv_aload_n hx hb dX9_refresh_21 rfl (lv_at lv 0 rfl) ?_
    refine gf_X9_37_0 C Dy dX9_refresh_22 ?_
    refine lv_aload_n hx hb dX9_refresh_25 rfl (lv_at lv 0 rfl) ?_
    refine gf_X9_21_0 C Dy dX9_refresh_26 ?_
    refine lv_aload_n hx hb dX9_refresh_29 rfl (lv_at lv 0 rfl) ?_
    refine gf_X9_31_0 C Dy dX9_refresh_30 ?_
    refine x_cont_v Dy (x_runV (As := [.ref (wad (wdX E) 1), .ref (wad (wdX E) 4)]) (rest := []) C Dy (m_X0_layOut E l _ _ _ hwp) (cw_X9_367 C rfl rfl ⟨Nat.le_trans (Nat.le_of_ble_eq_true rfl) hR.1, Nat.le_trans (Nat.le_of_ble_eq_true rfl) hR.2⟩) wx_7 rfl rfl lv.1 rfl (Nat.le_of_ble_eq_true rfl) dX9_refresh_33 ⟨Nat.zero_le _, Nat.zero_le _⟩) (fun h7 hl7 H locs hwp Dy => ?_)
    obtain ⟨rfl, hwp⟩ := hwp
    refine lv_aload_n hx hb dX9_refresh_36 rfl (lv_at lv 0 rfl) ?_
    refine gf_X9_78_0 C Dy dX9_refresh_37 ?_
    refine lv_iconst (v := (1 : Int32)) hx hb dX9_refresh_40 (by decide) ?_
    refine pf_X9_371_35 C Dy z01_1 dX9_refresh_41 (fun H locs Dy => ?_)
    refine lv_aload_n hx hb dX9_refresh_44 rfl (lv_at lv 0 rfl) ?_
    refine lv_iconst (v := (0 : Int32)) hx hb dX9_refresh_45 (by decide) ?_
    refine pf_X9_95_0 C Dy z01_0 dX9_refresh_46 (fun H locs Dy => ?_)
    exact x_vret C Dy ⟨rfl, hwp⟩ dX9_refresh_49
def p_X9_fault (h : Mem) (v1 : Int32) (Qp : Int32 → Mem → Prop) : Prop := (p_X9_within v1 (2 : Int32) (fun r1 => ((r1 = 0 → Qp (-2 : Int32) h) ∧ (¬ (r1 = 0) → (p_X9_refresh h (fun h5 => (p_X9_scriptOf v1 (fun r6 => Qp (h5 r6 8) h5))))))))
set_option maxHeartbeats 4000000 in
set_option maxRecDepth 100000 in
theorem m_X9_fault (E : xE) (l : Launch) (h : Mem) (hl : MemL) (v1 : Int32) (Qp : Int32 → Mem → Prop) (hwp : p_X9_fault h v1 Qp) : Met l yX9_fault (wsU yX9_fault cX9_fault 2 (some .int)) ({ frames := 3, cells := 0, slots := 0, locals := 70 } : Room) (mPc (wdX E) [.ref (wad (wdX E) 0), .int v1] h hl) (mQi (wdX E) (fun r h1 hl1 => hl = hl1 ∧ Qp r h1)) 0 0 (wA (wdX E)) := by
  refine x_met RX9 [(0, .ref (wad (wdX E) 0)), (1, .int v1)] (by decide) rfl (Nat.le_of_ble_eq_true rfl) rfl ?_
  intro p e s m args below meth c ls C Dy lv
  have hx := C.x
  have hb := C.b
  have hR : 3 ≤ ({ frames := 3, cells := 0, slots := 0, locals := 70 } : Room).frames ∧ 70 ≤ ({ frames := 3, cells := 0, slots := 0, locals := 70 } : Room).locals := ⟨Nat.le_refl _, Nat.le_refl _⟩
  unfold p_X9_fault at hwp
  refine lv_iload_n hx hb dX9_fault_0 rfl (lv_at lv 1 rfl) ?_
  refine lv_iconst (v := (2 : Int32)) hx hb dX9_fault_1 (by decide) ?_
  refine x_cont_z Dy (x_runS (As := [.int v1, .int (2 : Int32)]) (rest := []) C Dy (m_X9_within E l _ _ v1 (2 : Int32) _ hwp) (cw_X9_104 C rfl rfl ⟨Nat.le_trans (Nat.le_of_ble_eq_true rfl) hR.1, Nat.le_trans (Nat.le_of_ble_eq_true rfl) hR.2⟩) rfl lv.1 rfl (Nat.le_of_ble_eq_true rfl) dX9_fault_2 ⟨Nat.zero_le _, Nat.zero_le _⟩) (fun r1 h2 hl2 H locs zr1 hwp Dy => ?_)
  obtain ⟨rfl, rfl, hwp⟩ := hwp
  refine lv_if_ne (tgt := 11) hx hb dX9_fault_5 (by decide) (fun c3 => ?_) (fun c3 => ?_)
  · have hwp := hwp.2 c3
    refine lv_aload_n hx hb dX9_fault_11 rfl (lv_at lv 0 rfl) ?_
    refine x_cont_v Dy (x_runV (As := []) (rest := []) C Dy (m_X9_refresh E l _ _ _ hwp) (cw_X9_126 C rfl rfl ⟨Nat.le_trans (Nat.le_of_ble_eq_true rfl) hR.1, Nat.le_trans (Nat.le_of_ble_eq_true rfl) hR.2⟩) wx_0 rfl rfl lv.1 rfl (Nat.le_of_ble_eq_true rfl) dX9_fault_12 ⟨Nat.zero_le _, Nat.zero_le _⟩) (fun h5 hl5 H locs hwp Dy => ?_)
    obtain ⟨rfl, hwp⟩ := hwp
    refine lv_aload_n hx hb dX9_fault_15 rfl (lv_at lv 0 rfl) ?_
    refine lv_iload_n hx hb dX9_fault_16 rfl (lv_at lv 1 rfl) ?_
    refine x_cont_r Dy (x_runV (As := [.int v1]) (rest := []) C Dy (m_X9_scriptOf E l _ _ v1 _ hwp) (cw_X9_108 C rfl rfl ⟨Nat.le_trans (Nat.le_of_ble_eq_true rfl) hR.1, Nat.le_trans (Nat.le_of_ble_eq_true rfl) hR.2⟩) wx_0 rfl rfl lv.1 rfl (Nat.le_of_ble_eq_true rfl) dX9_fault_17 ⟨Nat.zero_le _, Nat.zero_le _⟩) (fun r6 h7 hl7 H locs hwp Dy => ?_)
    obtain ⟨hr6, rfl, rfl, hwp⟩ := hwp
    refine gf_X9_129_SC hr6 C Dy dX9_fault_20 ?_
    exact x_iret C Dy ⟨rfl, hwp⟩ dX9_fault_23
  · have hwp := hwp.1 c3
    refine lv_bipush (v := (-2 : Int32)) hx hb dX9_fault_8 (by decide) ?_
    exact x_iret C Dy ⟨rfl, hwp⟩ dX9_fault_10
def p_X9_law (h : Mem) (v1 : Int32) (v2 : Int32) (Qp : Int32 → Mem → Prop) : Prop := (p_X9_refresh h (fun h2 => (p_X9_within v1 (h2 7 0) (fun r3 => ((r3 = 0 → Qp (-2 : Int32) h2) ∧ (¬ (r3 = 0) → (p_X9_within v2 (5 : Int32) (fun r6 => ((r6 = 0 → Qp (-2 : Int32) h2) ∧ (¬ (r6 = 0) → (p_X0_lawPart h2 v1 v2 (fun r9 => Qp r9 h2))))))))))))
set_option maxHeartbeats 4000000 in
set_option maxRecDepth 100000 in
theorem m_X9_law (E : xE) (l : Launch) (h : Mem) (hl : MemL) (v1 : Int32) (v2 : Int32) (Qp : Int32 → Mem → Prop) (hwp : p_X9_law h v1 v2 Qp) : Met l yX9_law (wsU yX9_law cX9_law 3 (some .int)) ({ frames := 3, cells := 0, slots := 0, locals := 70 } : Room) (mPc (wdX E) [.ref (wad (wdX E) 0), .int v1, .int v2] h hl) (mQi (wdX E) (fun r h1 hl1 => hl = hl1 ∧ Qp r h1)) 0 0 (wA (wdX E)) := by
  refine x_met RX9 [(0, .ref (wad (wdX E) 0)), (1, .int v1), (2, .int v2)] (by decide) rfl (Nat.le_of_ble_eq_true rfl) rfl ?_
  intro p e s m args below meth c ls C Dy lv
  have hx := C.x
  have hb := C.b
  have hR : 3 ≤ ({ frames := 3, cells := 0, slots := 0, locals := 70 } : Room).frames ∧ 70 ≤ ({ frames := 3, cells := 0, slots := 0, locals := 70 } : Room).locals := ⟨Nat.le_refl _, Nat.le_refl _⟩
  unfold p_X9_law at hwp
  refine lv_aload_n hx hb dX9_law_0 rfl (lv_at lv 0 rfl) ?_
  refine x_cont_v Dy (x_runV (As := []) (rest := []) C Dy (m_X9_refresh E l _ _ _ hwp) (cw_X9_126 C rfl rfl ⟨Nat.le_trans (Nat.le_of_ble_eq_true rfl) hR.1, Nat.le_trans (Nat.le_of_ble_eq_true rfl) hR.2⟩) wx_0 rfl rfl lv.1 rfl (Nat.le_of_ble_eq_true rfl) dX9_law_1 ⟨Nat.zero_le _, Nat.zero_le _⟩) (fun h2 hl2 H locs hwp Dy => ?_)
  obtain ⟨rfl, hwp⟩ := hwp
  refine lv_iload_n hx hb dX9_law_4 rfl (lv_at lv 1 rfl) ?_
  refine lv_aload_n hx hb dX9_law_5 rfl (lv_at lv 0 rfl) ?_
  refine gf_X9_37_0 C Dy dX9_law_6 ?_
  refine gf_X9_132_7 C Dy dX9_law_9 ?_
  refine x_cont_z Dy (x_runS (As := [.int v1, .int (h2 7 0)]) (rest := []) C Dy (m_X9_within E l _ _ v1 (h2 7 0) _ hwp) (cw_X9_104 C rfl rfl ⟨Nat.le_trans (Nat.le_of_ble_eq_true rfl) hR.1, Nat.le_trans (Nat.le_of_ble_eq_true rfl) hR.2⟩) rfl lv.1 rfl (Nat.le_of_ble_eq_true rfl) dX9_law_12 ⟨Nat.zero_le _, Nat.zero_le _⟩) (fun r3 h4 hl4 H locs zr3 hwp Dy => ?_)
  obtain ⟨rfl, rfl, hwp⟩ := hwp
  refine lv_if_eq (tgt := 26) hx hb dX9_law_15 (by decide) (fun c5 => ?_) (fun c5 => ?_)
  · have hwp := hwp.1 c5
    refine lv_bipush (v := (-2 : Int32)) hx hb dX9_law_26 (by decide) ?_
    exact x_iret C Dy ⟨rfl, hwp⟩ dX9_law_28
  · have hwp := hwp.2 c5
    refine lv_iload_n hx hb dX9_law_18 rfl (lv_at lv 2 rfl) ?_
    refine lv_iconst (v := (5 : Int32)) hx hb dX9_law_19 (by decide) ?_
    refine x_cont_z Dy (x_runS (As := [.int v2, .int (5 : Int32)]) (rest := []) C Dy (m_X9_within E l _ _ v2 (5 : Int32) _ hwp) (cw_X9_104 C rfl rfl ⟨Nat.le_trans (Nat.le_of_ble_eq_true rfl) hR.1, Nat.le_trans (Nat.le_of_ble_eq_true rfl) hR.2⟩) rfl lv.1 rfl (Nat.le_of_ble_eq_true rfl) dX9_law_20 ⟨Nat.zero_le _, Nat.zero_le _⟩) (fun r6 h7 hl7 H locs zr6 hwp Dy => ?_)
    obtain ⟨rfl, rfl, hwp⟩ := hwp
    refine lv_if_ne (tgt := 29) hx hb dX9_law_23 (by decide) (fun c8 => ?_) (fun c8 => ?_)
    · have hwp := hwp.2 c8
      refine lv_aload_n hx hb dX9_law_29 rfl (lv_at lv 0 rfl) ?_
      refine gf_X9_37_0 C Dy dX9_law_30 ?_
      refine lv_iload_n hx hb dX9_law_33 rfl (lv_at lv 1 rfl) ?_
      refine lv_iload_n hx hb dX9_law_34 rfl (lv_at lv 2 rfl) ?_
      refine x_cont_i Dy (x_runV (As := [.int v1, .int v2]) (rest := []) C Dy (m_X0_lawPart E l _ _ v1 v2 _ hwp) (cw_X9_135 C rfl rfl ⟨Nat.le_trans (Nat.le_of_ble_eq_true rfl) hR.1, Nat.le_trans (Nat.le_of_ble_eq_true rfl) hR.2⟩) wx_7 rfl rfl lv.1 rfl (Nat.le_of_ble_eq_true rfl) dX9_law_35 ⟨Nat.zero_le _, Nat.zero_le _⟩) (fun r9 h10 hl10 H locs hwp Dy => ?_)
      obtain ⟨rfl, rfl, hwp⟩ := hwp
      exact x_iret C Dy ⟨rfl, hwp⟩ dX9_law_38
    · have hwp := hwp.1 c8
      refine lv_bipush (v := (-2 : Int32)) hx hb dX9_law_26 (by decide) ?_
      exact x_iret C Dy ⟨rfl, hwp⟩ dX9_law_28
def p_X9_want (h : Mem) (v1 : Int32) (v2 : Int32) (Qp : Int32 → Mem → Prop) : Prop := (p_X9_refresh h (fun h2 => (p_X9_within v1 (h2 4 7) (fun r3 => ((r3 = 0 → Qp (-2 : Int32) h2) ∧ (¬ (r3 = 0) → (p_X9_within v2 (3 : Int32) (fun r6 => ((r6 = 0 → Qp (-2 : Int32) h2) ∧ (¬ (r6 = 0) → (p_X7_part h2 4 v1 v2 (fun r9 => Qp (if v2 = (2 : Int32) then (r9 + (1 : Int32)) else r9) h2))))))))))))
set_option maxHeartbeats 4000000 in
set_option maxRecDepth 100000 in
theorem m_X9_want (E : xE) (l : Launch) (h : Mem) (hl : MemL) (v1 : Int32) (v2 : Int32) (Qp : Int32 → Mem → Prop) (hwp : p_X9_want h v1 v2 Qp) : Met l yX9_want (wsU yX9_want cX9_want 4 (some .int)) ({ frames := 3, cells := 0, slots := 0, locals := 70 } : Room) (mPc (wdX E) [.ref (wad (wdX E) 0), .int v1, .int v2] h hl) (mQi (wdX E) (fun r h1 hl1 => hl = hl1 ∧ Qp r h1)) 0 0 (wA (wdX E)) := by
  refine x_met RX9 [(0, .ref (wad (wdX E) 0)), (1, .int v1), (2, .int v2)] (by decide) rfl (Nat.le_of_ble_eq_true rfl) rfl ?_
  intro p e s m args below meth c ls C Dy lv
  have hx := C.x
  have hb := C.b
  have hR : 3 ≤ ({ frames := 3, cells := 0, slots := 0, locals := 70 } : Room).frames ∧ 70 ≤ ({ frames := 3, cells := 0, slots := 0, locals := 70 } : Room).locals := ⟨Nat.le_refl _, Nat.le_refl _⟩
  unfold p_X9_want at hwp
  refine lv_aload_n hx hb dX9_want_0 rfl (lv_at lv 0 rfl) ?_
  refine x_cont_v Dy (x_runV (As := []) (rest := []) C Dy (m_X9_refresh E l _ _ _ hwp) (cw_X9_126 C rfl rfl ⟨Nat.le_trans (Nat.le_of_ble_eq_true rfl) hR.1, Nat.le_trans (Nat.le_of_ble_eq_true rfl) hR.2⟩) wx_0 rfl rfl lv.1 rfl (Nat.le_of_ble_eq_true rfl) dX9_want_1 ⟨Nat.zero_le _, Nat.zero_le _⟩) (fun h2 hl2 H locs hwp Dy => ?_)
  obtain ⟨rfl, hwp⟩ := hwp
  refine lv_iload_n hx hb dX9_want_4 rfl (lv_at lv 1 rfl) ?_
  refine lv_aload_n hx hb dX9_want_5 rfl (lv_at lv 0 rfl) ?_
  refine gf_X9_31_0 C Dy dX9_want_6 ?_
  refine gf_X9_139_4 C Dy dX9_want_9 ?_
  refine x_cont_z Dy (x_runS (As := [.int v1, .int (h2 4 7)]) (rest := []) C Dy (m_X9_within E l _ _ v1 (h2 4 7) _ hwp) (cw_X9_104 C rfl rfl ⟨Nat.le_trans (Nat.le_of_ble_eq_true rfl) hR.1, Nat.le_trans (Nat.le_of_ble_eq_true rfl) hR.2⟩) rfl lv.1 rfl (Nat.le_of_ble_eq_true rfl) dX9_want_12 ⟨Nat.zero_le _, Nat.zero_le _⟩) (fun r3 h4 hl4 H locs zr3 hwp Dy => ?_)
  obtain ⟨rfl, rfl, hwp⟩ := hwp
  refine lv_if_eq (tgt := 26) hx hb dX9_want_15 (by decide) (fun c5 => ?_) (fun c5 => ?_)
  · have hwp := hwp.1 c5
    refine lv_bipush (v := (-2 : Int32)) hx hb dX9_want_26 (by decide) ?_
    exact x_iret C Dy ⟨rfl, hwp⟩ dX9_want_28
  · have hwp := hwp.2 c5
    refine lv_iload_n hx hb dX9_want_18 rfl (lv_at lv 2 rfl) ?_
    refine lv_iconst (v := (3 : Int32)) hx hb dX9_want_19 (by decide) ?_
    refine x_cont_z Dy (x_runS (As := [.int v2, .int (3 : Int32)]) (rest := []) C Dy (m_X9_within E l _ _ v2 (3 : Int32) _ hwp) (cw_X9_104 C rfl rfl ⟨Nat.le_trans (Nat.le_of_ble_eq_true rfl) hR.1, Nat.le_trans (Nat.le_of_ble_eq_true rfl) hR.2⟩) rfl lv.1 rfl (Nat.le_of_ble_eq_true rfl) dX9_want_20 ⟨Nat.zero_le _, Nat.zero_le _⟩) (fun r6 h7 hl7 H locs zr6 hwp Dy => ?_)
    obtain ⟨rfl, rfl, hwp⟩ := hwp
    refine lv_if_ne (tgt := 29) hx hb dX9_want_23 (by decide) (fun c8 => ?_) (fun c8 => ?_)
    · have hwp := hwp.2 c8
      refine lv_aload_n hx hb dX9_want_29 rfl (lv_at lv 0 rfl) ?_
      refine gf_X9_31_0 C Dy dX9_want_30 ?_
      refine lv_iload_n hx hb dX9_want_33 rfl (lv_at lv 1 rfl) ?_
      refine lv_iload_n hx hb dX9_want_34 rfl (lv_at lv 2 rfl) ?_
      refine x_cont_i Dy (x_runV (As := [.int v1, .int v2]) (rest := []) C Dy (m_X7_part E l _ _ 4 (Or.inr rfl) v1 v2 _ hwp) (cw_X9_142 C rfl rfl ⟨Nat.le_trans (Nat.le_of_ble_eq_true rfl) hR.1, Nat.le_trans (Nat.le_of_ble_eq_true rfl) hR.2⟩) wx_4 rfl rfl lv.1 rfl (Nat.le_of_ble_eq_true rfl) dX9_want_35 ⟨Nat.zero_le _, Nat.zero_le _⟩) (fun r9 h10 hl10 H locs hwp Dy => ?_)
      obtain ⟨rfl, rfl, hwp⟩ := hwp
      refine lv_istore_n (lv' := [(3, .int r9), (0, .ref (wad (wdX E) 0)), (1, .int v1), (2, .int v2)]) hx hb dX9_want_38 rfl lv (by decide) rfl (fun ls lv => ?_)
      refine lv_iload_n hx hb dX9_want_39 rfl (lv_at lv 3 rfl) ?_
      refine lv_iconst (v := (2 : Int32)) hx hb dX9_want_40 (by decide) ?_
      refine lv_icmp_ne (tgt := 50) hx hb dX9_want_41 (by decide) (fun c11 => ?_) (fun c11 => ?_)
      · try simp only [if_neg c11] at hwp
        refine lv_iload_n hx hb dX9_want_50 rfl (lv_at lv 0 rfl) ?_
        exact x_iret C Dy ⟨rfl, hwp⟩ dX9_want_51
      · try simp only [if_pos c11] at hwp
        refine lv_iload_n hx hb dX9_want_44 rfl (lv_at lv 0 rfl) ?_
        refine lv_iconst (v := (1 : Int32)) hx hb dX9_want_45 (by decide) ?_
        refine lv_iadd hx hb dX9_want_46 ?_
        refine lv_goto (tgt := 51) hx hb dX9_want_47 (by decide) ?_
        exact x_iret C Dy ⟨rfl, hwp⟩ dX9_want_51
    · have hwp := hwp.1 c8
      refine lv_bipush (v := (-2 : Int32)) hx hb dX9_want_26 (by decide) ?_
      exact x_iret C Dy ⟨rfl, hwp⟩ dX9_want_28
def p_X9_tell (h : Mem) (k : Nat) (v2 : Int32) (v3 : Int32) (Qp : Int32 → Mem → Prop) : Prop := (p_X9_within v2 (30 : Int32) (fun r1 => ((r1 = 0 → Qp (-2 : Int32) h) ∧ (¬ (r1 = 0) → (p_X9_within v3 (12 : Int32) (fun r4 => ((r4 = 0 → Qp (-2 : Int32) h) ∧ (¬ (r4 = 0) → (p_X4_isFull h k (fun r7 => ((r7 = 0 → (p_X4_append h k v2 v3 (fun h11 => (p_X6_retell h11 27 (fun h13 => Qp (h13 k 2) h13))))) ∧ (¬ (r7 = 0) → Qp (-4 : Int32) h))))))))))))
set_option maxHeartbeats 4000000 in
set_option maxRecDepth 100000 in
theorem m_X9_tell (E : xE) (l : Launch) (h : Mem) (hl : MemL) (k : Nat) (hk : isLG k) (v2 : Int32) (v3 : Int32) (Qp : Int32 → Mem → Prop) (hwp : p_X9_tell h k v2 v3 Qp) : Met l yX9_tell (wsU yX9_tell cX9_tell 4 (some .int)) ({ frames := 3, cells := 0, slots := 0, locals := 67 } : Room) (mPc (wdX E) [.ref (wad (wdX E) 0), .ref (wad (wdX E) k), .int v2, .int v3] h hl) (mQi (wdX E) (fun r h1 hl1 => hl = hl1 ∧ Qp r h1)) 0 0 (wA (wdX E)) := by
  refine x_met RX9 [(0, .ref (wad (wdX E) 0)), (1, .ref (wad (wdX E) k)), (2, .int v2), (3, .int v3)] (by decide) rfl (Nat.le_of_ble_eq_true rfl) rfl ?_
  intro p e s m args below meth c ls C Dy lv
  have hx := C.x
  have hb := C.b
  have hR : 3 ≤ ({ frames := 3, cells := 0, slots := 0, locals := 67 } : Room).frames ∧ 67 ≤ ({ frames := 3, cells := 0, slots := 0, locals := 67 } : Room).locals := ⟨Nat.le_refl _, Nat.le_refl _⟩
  unfold p_X9_tell at hwp
  refine lv_iload_n hx hb dX9_tell_0 rfl (lv_at lv 2 rfl) ?_
  refine lv_bipush (v := (30 : Int32)) hx hb dX9_tell_1 (by decide) ?_
  refine x_cont_z Dy (x_runS (As := [.int v2, .int (30 : Int32)]) (rest := []) C Dy (m_X9_within E l _ _ v2 (30 : Int32) _ hwp) (cw_X9_104 C rfl rfl ⟨Nat.le_trans (Nat.le_of_ble_eq_true rfl) hR.1, Nat.le_trans (Nat.le_of_ble_eq_true rfl) hR.2⟩) rfl lv.1 rfl (Nat.le_of_ble_eq_true rfl) dX9_tell_3 ⟨Nat.zero_le _, Nat.zero_le _⟩) (fun r1 h2 hl2 H locs zr1 hwp Dy => ?_)
  obtain ⟨rfl, rfl, hwp⟩ := hwp
  refine lv_if_eq (tgt := 18) hx hb dX9_tell_6 (by decide) (fun c3 => ?_) (fun c3 => ?_)
  · have hwp := hwp.1 c3
    refine lv_bipush (v := (-2 : Int32)) hx hb dX9_tell_18 (by decide) ?_
    exact x_iret C Dy ⟨rfl, hwp⟩ dX9_tell_20
  · have hwp := hwp.2 c3
    refine lv_iload_n hx hb dX9_tell_9 rfl (lv_at lv 3 rfl) ?_
    refine lv_bipush (v := (12 : Int32)) hx hb dX9_tell_10 (by decide) ?_
    refine x_cont_z Dy (x_runS (As := [.int v3, .int (12 : Int32)]) (rest := []) C Dy (m_X9_within E l _ _ v3 (12 : Int32) _ hwp) (cw_X9_104 C rfl rfl ⟨Nat.le_trans (Nat.le_of_ble_eq_true rfl) hR.1, Nat.le_trans (Nat.le_of_ble_eq_true rfl) hR.2⟩) rfl lv.1 rfl (Nat.le_of_ble_eq_true rfl) dX9_tell_12 ⟨Nat.zero_le _, Nat.zero_le _⟩) (fun r4 h5 hl5 H locs zr4 hwp Dy => ?_)
    obtain ⟨rfl, rfl, hwp⟩ := hwp
    refine lv_if_ne (tgt := 21) hx hb dX9_tell_15 (by decide) (fun c6 => ?_) (fun c6 => ?_)
    · have hwp := hwp.2 c6
      refine lv_aload_n hx hb dX9_tell_21 rfl (lv_at lv 1 rfl) ?_
      refine x_cont_z Dy (x_runV (As := []) (rest := []) C Dy (m_X4_isFull E l _ _ k hk _ hwp) (cw_X9_372 C rfl rfl ⟨Nat.le_trans (Nat.le_of_ble_eq_true rfl) hR.1, Nat.le_trans (Nat.le_of_ble_eq_true rfl) hR.2⟩) (wx_LG hk) rfl rfl lv.1 rfl (Nat.le_of_ble_eq_true rfl) dX9_tell_22 ⟨Nat.zero_le _, Nat.zero_le _⟩) (fun r7 h8 hl8 H locs zr7 hwp Dy => ?_)
      obtain ⟨rfl, rfl, hwp⟩ := hwp
      refine lv_if_eq (tgt := 31) hx hb dX9_tell_25 (by decide) (fun c9 => ?_) (fun c9 => ?_)
      · have hwp := hwp.1 c9
        refine lv_aload_n hx hb dX9_tell_31 rfl (lv_at lv 1 rfl) ?_
        refine lv_iload_n hx hb dX9_tell_32 rfl (lv_at lv 2 rfl) ?_
        refine lv_iload_n hx hb dX9_tell_33 rfl (lv_at lv 3 rfl) ?_
        refine x_cont_v Dy (x_runV (As := [.int v2, .int v3]) (rest := []) C Dy (m_X4_append E l _ _ k hk v2 v3 _ hwp) (cw_X9_373 C rfl rfl ⟨Nat.le_trans (Nat.le_of_ble_eq_true rfl) hR.1, Nat.le_trans (Nat.le_of_ble_eq_true rfl) hR.2⟩) (wx_LG hk) rfl rfl lv.1 rfl (Nat.le_of_ble_eq_true rfl) dX9_tell_34 ⟨Nat.zero_le _, Nat.zero_le _⟩) (fun h11 hl11 H locs hwp Dy => ?_)
        obtain ⟨rfl, hwp⟩ := hwp
        refine lv_aload_n hx hb dX9_tell_37 rfl (lv_at lv 0 rfl) ?_
        refine gf_X9_54_0 C Dy dX9_tell_38 ?_
        refine lv_aload_n hx hb dX9_tell_41 rfl (lv_at lv 0 rfl) ?_
        refine gf_X9_44_0 C Dy dX9_tell_42 ?_
        refine lv_aload_n hx hb dX9_tell_45 rfl (lv_at lv 0 rfl) ?_
        refine gf_X9_48_0 C Dy dX9_tell_46 ?_
        refine x_cont_v Dy (x_runV (As := [.ref (wad (wdX E) 21), .ref (wad (wdX E) 24)]) (rest := []) C Dy (m_X6_retell E l _ _ 27 (Or.inl rfl) _ hwp) (cw_X9_150 C rfl rfl ⟨Nat.le_trans (Nat.le_of_ble_eq_true rfl) hR.1, Nat.le_trans (Nat.le_of_ble_eq_true rfl) hR.2⟩) wx_27 rfl rfl lv.1 rfl (Nat.le_of_ble_eq_true rfl) dX9_tell_49 ⟨Nat.zero_le _, Nat.zero_le _⟩) (fun h13 hl13 H locs hwp Dy => ?_)
        obtain ⟨rfl, hwp⟩ := hwp
        refine lv_aload_n hx hb dX9_tell_52 rfl (lv_at lv 1 rfl) ?_
        refine gf_X9_149_LG hk C Dy dX9_tell_53 ?_
        exact x_iret C Dy ⟨rfl, hwp⟩ dX9_tell_56
      · have hwp := hwp.2 c9
        refine lv_bipush (v := (-4 : Int32)) hx hb dX9_tell_28 (by decide) ?_
        exact x_iret C Dy ⟨rfl, hwp⟩ dX9_tell_30
    · have hwp := hwp.1 c6
      refine lv_bipush (v := (-2 : Int32)) hx hb dX9_tell_18 (by decide) ?_
      exact x_iret C Dy ⟨rfl, hwp⟩ dX9_tell_20
def p_X9_trial (h : Mem) (v1 : Int32) (v2 : Int32) (Qp : Int32 → Mem → Prop) : Prop := (p_X9_tell h 21 v1 v2 (fun r1 h2 => Qp r1 h2))
set_option maxHeartbeats 4000000 in
set_option maxRecDepth 100000 in
theorem m_X9_trial (E : xE) (l : Launch) (h : Mem) (hl : MemL) (v1 : Int32) (v2 : Int32) (Qp : Int32 → Mem → Prop) (hwp : p_X9_trial h v1 v2 Qp) : Met l yX9_trial (wsU yX9_trial cX9_trial 3 (some .int)) ({ frames := 4, cells := 0, slots := 0, locals := 90 } : Room) (mPc (wdX E) [.ref (wad (wdX E) 0), .int v1, .int v2] h hl) (mQi (wdX E) (fun r h1 hl1 => hl = hl1 ∧ Qp r h1)) 0 0 (wA (wdX E)) := by
  refine x_met RX9 [(0, .ref (wad (wdX E) 0)), (1, .int v1), (2, .int v2)] (by decide) rfl (Nat.le_of_ble_eq_true rfl) rfl ?_
  intro p e s m args below meth c ls C Dy lv
  have hx := C.x
  have hb := C.b
  have hR : 4 ≤ ({ frames := 4, cells := 0, slots := 0, locals := 90 } : Room).frames ∧ 90 ≤ ({ frames := 4, cells := 0, slots := 0, locals := 90 } : Room).locals := ⟨Nat.le_refl _, Nat.le_refl _⟩
  unfold p_X9_trial at hwp
  refine lv_aload_n hx hb dX9_trial_0 rfl (lv_at lv 0 rfl) ?_
  refine lv_aload_n hx hb dX9_trial_1 rfl (lv_at lv 0 rfl) ?_
  refine gf_X9_44_0 C Dy dX9_trial_2 ?_
  refine lv_iload_n hx hb dX9_trial_5 rfl (lv_at lv 1 rfl) ?_
  refine lv_iload_n hx hb dX9_trial_6 rfl (lv_at lv 2 rfl) ?_
  refine x_cont_i Dy (x_runV (As := [.ref (wad (wdX E) 21), .int v1, .int v2]) (rest := []) C Dy (m_X9_tell E l _ _ 21 (Or.inl rfl) v1 v2 _ hwp) (cw_X9_145 C rfl rfl ⟨Nat.le_trans (Nat.le_of_ble_eq_true rfl) hR.1, Nat.le_trans (Nat.le_of_ble_eq_true rfl) hR.2⟩) wx_0 rfl rfl lv.1 rfl (Nat.le_of_ble_eq_true rfl) dX9_trial_7 ⟨Nat.zero_le _, Nat.zero_le _⟩) (fun r1 h2 hl2 H locs hwp Dy => ?_)
  obtain ⟨rfl, hwp⟩ := hwp
  exact x_iret C Dy ⟨rfl, hwp⟩ dX9_trial_10
def p_X9_breach (h : Mem) (v1 : Int32) (v2 : Int32) (Qp : Int32 → Mem → Prop) : Prop := (p_X9_tell h 24 v1 v2 (fun r1 h2 => Qp r1 h2))
set_option maxHeartbeats 4000000 in
set_option maxRecDepth 100000 in
theorem m_X9_breach (E : xE) (l : Launch) (h : Mem) (hl : MemL) (v1 : Int32) (v2 : Int32) (Qp : Int32 → Mem → Prop) (hwp : p_X9_breach h v1 v2 Qp) : Met l yX9_breach (wsU yX9_breach cX9_breach 3 (some .int)) ({ frames := 4, cells := 0, slots := 0, locals := 90 } : Room) (mPc (wdX E) [.ref (wad (wdX E) 0), .int v1, .int v2] h hl) (mQi (wdX E) (fun r h1 hl1 => hl = hl1 ∧ Qp r h1)) 0 0 (wA (wdX E)) := by
  refine x_met RX9 [(0, .ref (wad (wdX E) 0)), (1, .int v1), (2, .int v2)] (by decide) rfl (Nat.le_of_ble_eq_true rfl) rfl ?_
  intro p e s m args below meth c ls C Dy lv
  have hx := C.x
  have hb := C.b
  have hR : 4 ≤ ({ frames := 4, cells := 0, slots := 0, locals := 90 } : Room).frames ∧ 90 ≤ ({ frames := 4, cells := 0, slots := 0, locals := 90 } : Room).locals := ⟨Nat.le_refl _, Nat.le_refl _⟩
  unfold p_X9_breach at hwp
  refine lv_aload_n hx hb dX9_breach_0 rfl (lv_at lv 0 rfl) ?_
  refine lv_aload_n hx hb dX9_breach_1 rfl (lv_at lv 0 rfl) ?_
  refine gf_X9_48_0 C Dy dX9_breach_2 ?_
  refine lv_iload_n hx hb dX9_breach_5 rfl (lv_at lv 1 rfl) ?_
  refine lv_iload_n hx hb dX9_breach_6 rfl (lv_at lv 2 rfl) ?_
  refine x_cont_i Dy (x_runV (As := [.ref (wad (wdX E) 24), .int v1, .int v2]) (rest := []) C Dy (m_X9_tell E l _ _ 24 (Or.inr rfl) v1 v2 _ hwp) (cw_X9_145 C rfl rfl ⟨Nat.le_trans (Nat.le_of_ble_eq_true rfl) hR.1, Nat.le_trans (Nat.le_of_ble_eq_true rfl) hR.2⟩) wx_0 rfl rfl lv.1 rfl (Nat.le_of_ble_eq_true rfl) dX9_breach_7 ⟨Nat.zero_le _, Nat.zero_le _⟩) (fun r1 h2 hl2 H locs hwp Dy => ?_)
  obtain ⟨rfl, hwp⟩ := hwp
  exact x_iret C Dy ⟨rfl, hwp⟩ dX9_breach_10
def b_X9_back_26 (h : Mem) (q0 : Nat) (Qp : Int32 → Mem → Prop) : Prop := (((h q0 2) = 0 → Qp (-3 : Int32) h) ∧ (¬ ((h q0 2) = 0) → (p_X6_retell (up2 h q0 2 ((h q0 2) - (1 : Int32))) 27 (fun h3 => Qp (h3 q0 2) h3))))
def p_X9_back (h : Mem) (v1 : Int32) (Qp : Int32 → Mem → Prop) : Prop := (p_X9_within v1 (2 : Int32) (fun r4 => ((r4 = 0 → Qp (-2 : Int32) h) ∧ (¬ (r4 = 0) → b_X9_back_26 h (if v1 = 0 then 21 else 24) Qp))))
set_option maxHeartbeats 4000000 in
set_option maxRecDepth 100000 in
theorem t_X9_back_26 (E : xE) {p : Program} {l : Launch} {e : Env} {R : Room} {s : State} {m : MethodId} {args : Array Value} {below : List Frame} {meth : Method} {c : Code} (C : mC (wdX E) p s m meth c args cX9_back 3 RX9 (some .int)) (hR : 3 ≤ R.frames ∧ 67 ≤ R.locals) {hl : MemL} (Qp : Int32 → Mem → Prop) : ∀ (h : Mem) (q0 : Nat) (H : Heap) (locs : List Loc) (ls : Array Slot) (hq0 : isLG q0), mD (wdX E) h hl s H locs → lv_has ls 3 [(0, .ref (wad (wdX E) 0))] → b_X9_back_26 h q0 Qp → W p l e R s m args below meth c H locs 0 0 (MQ below (mQi (wdX E) (fun r h1 hl1 => hl = hl1 ∧ Qp r h1)) args s 0 0 (wA (wdX E))) (F0 m 26 ls [.ref (wad (wdX E) q0)]) := by
  have hx := C.x
  have hb := C.b
  intro h q0 H locs ls hq0 Dy lv hwp
  unfold b_X9_back_26 at hwp
  refine lv_astore_n (lv' := [(2, .ref (wad (wdX E) q0)), (0, .ref (wad (wdX E) 0))]) hx hb dX9_back_26 rfl lv (by decide) rfl (fun ls lv => ?_)
  refine lv_aload_n hx hb dX9_back_27 rfl (lv_at lv 0 rfl) ?_
  refine gf_X9_149_LG hq0 C Dy dX9_back_28 ?_
  refine lv_if_ne (tgt := 37) hx hb dX9_back_31 (by decide) (fun c1 => ?_) (fun c1 => ?_)
  · have hwp := hwp.2 c1
    refine lv_aload_n hx hb dX9_back_37 rfl (lv_at lv 0 rfl) ?_
    refine lv_dup hx hb dX9_back_38 rfl ?_
    refine gf_X9_149_LG hq0 C Dy dX9_back_39 ?_
    refine lv_iconst (v := (1 : Int32)) hx hb dX9_back_42 (by decide) ?_
    refine lv_isub hx hb dX9_back_43 ?_
    refine pf_X9_149_LG hq0 C Dy dX9_back_44 (fun H locs Dy => ?_)
    refine lv_aload_n hx hb dX9_back_47 rfl (lv_at lv 1 rfl) ?_
    refine gf_X9_54_0 C Dy dX9_back_48 ?_
    refine lv_aload_n hx hb dX9_back_51 rfl (lv_at lv 1 rfl) ?_
    refine gf_X9_44_0 C Dy dX9_back_52 ?_
    refine lv_aload_n hx hb dX9_back_55 rfl (lv_at lv 1 rfl) ?_
    refine gf_X9_48_0 C Dy dX9_back_56 ?_
    refine x_cont_v Dy (x_runV (As := [.ref (wad (wdX E) 21), .ref (wad (wdX E) 24)]) (rest := []) C Dy (m_X6_retell E l _ _ 27 (Or.inl rfl) _ hwp) (cw_X9_150 C rfl rfl ⟨Nat.le_trans (Nat.le_of_ble_eq_true rfl) hR.1, Nat.le_trans (Nat.le_of_ble_eq_true rfl) hR.2⟩) wx_27 rfl rfl lv.1 rfl (Nat.le_of_ble_eq_true rfl) dX9_back_59 ⟨Nat.zero_le _, Nat.zero_le _⟩) (fun h3 hl3 H locs hwp Dy => ?_)
    obtain ⟨rfl, hwp⟩ := hwp
    refine lv_aload_n hx hb dX9_back_62 rfl (lv_at lv 0 rfl) ?_
    refine gf_X9_149_LG hq0 C Dy dX9_back_63 ?_
    exact x_iret C Dy ⟨rfl, hwp⟩ dX9_back_66
  · have hwp := hwp.1 c1
    refine lv_bipush (v := (-3 : Int32)) hx hb dX9_back_34 (by decide) ?_
    exact x_iret C Dy ⟨rfl, hwp⟩ dX9_back_36
set_option maxHeartbeats 4000000 in
set_option maxRecDepth 100000 in
theorem m_X9_back (E : xE) (l : Launch) (h : Mem) (hl : MemL) (v1 : Int32) (Qp : Int32 → Mem → Prop) (hwp : p_X9_back h v1 Qp) : Met l yX9_back (wsU yX9_back cX9_back 3 (some .int)) ({ frames := 3, cells := 0, slots := 0, locals := 67 } : Room) (mPc (wdX E) [.ref (wad (wdX E) 0), .int v1] h hl) (mQi (wdX E) (fun r h1 hl1 => hl = hl1 ∧ Qp r h1)) 0 0 (wA (wdX E)) := by
  refine x_met RX9 [(0, .ref (wad (wdX E) 0)), (1, .int v1)] (by decide) rfl (Nat.le_of_ble_eq_true rfl) rfl ?_
  intro p e s m args below meth c ls C Dy lv
  have hx := C.x
  have hb := C.b
  have hR : 3 ≤ ({ frames := 3, cells := 0, slots := 0, locals := 67 } : Room).frames ∧ 67 ≤ ({ frames := 3, cells := 0, slots := 0, locals := 67 } : Room).locals := ⟨Nat.le_refl _, Nat.le_refl _⟩
  unfold p_X9_back at hwp
  refine lv_iload_n hx hb dX9_back_0 rfl (lv_at lv 1 rfl) ?_
  refine lv_iconst (v := (2 : Int32)) hx hb dX9_back_1 (by decide) ?_
  refine x_cont_z Dy (x_runS (As := [.int v1, .int (2 : Int32)]) (rest := []) C Dy (m_X9_within E l _ _ v1 (2 : Int32) _ hwp) (cw_X9_104 C rfl rfl ⟨Nat.le_trans (Nat.le_of_ble_eq_true rfl) hR.1, Nat.le_trans (Nat.le_of_ble_eq_true rfl) hR.2⟩) rfl lv.1 rfl (Nat.le_of_ble_eq_true rfl) dX9_back_2 ⟨Nat.zero_le _, Nat.zero_le _⟩) (fun r4 h5 hl5 H locs zr4 hwp Dy => ?_)
  obtain ⟨rfl, rfl, hwp⟩ := hwp
  refine lv_if_ne (tgt := 11) hx hb dX9_back_5 (by decide) (fun c6 => ?_) (fun c6 => ?_)
  · have hwp := hwp.2 c6
    refine lv_iload_n hx hb dX9_back_11 rfl (lv_at lv 1 rfl) ?_
    refine lv_if_ne (tgt := 22) hx hb dX9_back_12 (by decide) (fun c7 => ?_) (fun c7 => ?_)
    · try simp only [if_neg c7] at hwp
      refine lv_aload_n hx hb dX9_back_22 rfl (lv_at lv 0 rfl) ?_
      refine gf_X9_48_0 C Dy dX9_back_23 ?_
      exact t_X9_back_26 E C hR Qp h 24 _ _ _ (Or.inr rfl) Dy (lv_sub lv [0] rfl) hwp
    · try simp only [if_pos c7] at hwp
      refine lv_aload_n hx hb dX9_back_15 rfl (lv_at lv 0 rfl) ?_
      refine gf_X9_44_0 C Dy dX9_back_16 ?_
      refine lv_goto (tgt := 26) hx hb dX9_back_19 (by decide) ?_
      exact t_X9_back_26 E C hR Qp h 21 _ _ _ (Or.inl rfl) Dy (lv_sub lv [0] rfl) hwp
  · have hwp := hwp.1 c6
    refine lv_bipush (v := (-2 : Int32)) hx hb dX9_back_8 (by decide) ?_
    exact x_iret C Dy ⟨rfl, hwp⟩ dX9_back_10
def p_X9_binds (h : Mem) (v1 : Int32) (v2 : Int32) (Qp : Int32 → Mem → Prop) : Prop := (p_X9_within v1 (30 : Int32) (fun r1 => ((r1 = 0 → Qp (-2 : Int32) h) ∧ (¬ (r1 = 0) → (p_X9_within v2 (3 : Int32) (fun r4 => ((r4 = 0 → Qp (-2 : Int32) h) ∧ (¬ (r4 = 0) → (p_X9_refresh h (fun h8 => ((v2 = (0 : Int32) → (p_X6_bindingKing h8 27 v1 (fun r10 => Qp r10 h8))) ∧ (¬ (v2 = (0 : Int32)) → ((v2 = (1 : Int32) → (p_X6_bindingOthers h8 27 v1 (fun r13 => Qp r13 h8))) ∧ (¬ (v2 = (1 : Int32)) → (p_X6_lapsedBy h8 27 v1 (fun r15 => Qp r15 h8))))))))))))))))
set_option maxHeartbeats 4000000 in
set_option maxRecDepth 100000 in
theorem m_X9_binds (E : xE) (l : Launch) (h : Mem) (hl : MemL) (v1 : Int32) (v2 : Int32) (Qp : Int32 → Mem → Prop) (hwp : p_X9_binds h v1 v2 Qp) : Met l yX9_binds (wsU yX9_binds cX9_binds 3 (some .int)) ({ frames := 3, cells := 0, slots := 0, locals := 70 } : Room) (mPc (wdX E) [.ref (wad (wdX E) 0), .int v1, .int v2] h hl) (mQi (wdX E) (fun r h1 hl1 => hl = hl1 ∧ Qp r h1)) 0 0 (wA (wdX E)) := by
  refine x_met RX9 [(0, .ref (wad (wdX E) 0)), (1, .int v1), (2, .int v2)] (by decide) rfl (Nat.le_of_ble_eq_true rfl) rfl ?_
  intro p e s m args below meth c ls C Dy lv
  have hx := C.x
  have hb := C.b
  have hR : 3 ≤ ({ frames := 3, cells := 0, slots := 0, locals := 70 } : Room).frames ∧ 70 ≤ ({ frames := 3, cells := 0, slots := 0, locals := 70 } : Room).locals := ⟨Nat.le_refl _, Nat.le_refl _⟩
  unfold p_X9_binds at hwp
  refine lv_iload_n hx hb dX9_binds_0 rfl (lv_at lv 1 rfl) ?_
  refine lv_bipush (v := (30 : Int32)) hx hb dX9_binds_1 (by decide) ?_
  refine x_cont_z Dy (x_runS (As := [.int v1, .int (30 : Int32)]) (rest := []) C Dy (m_X9_within E l _ _ v1 (30 : Int32) _ hwp) (cw_X9_104 C rfl rfl ⟨Nat.le_trans (Nat.le_of_ble_eq_true rfl) hR.1, Nat.le_trans (Nat.le_of_ble_eq_true rfl) hR.2⟩) rfl lv.1 rfl (Nat.le_of_ble_eq_true rfl) dX9_binds_3 ⟨Nat.zero_le _, Nat.zero_le _⟩) (fun r1 h2 hl2 H locs zr1 hwp Dy => ?_)
  obtain ⟨rfl, rfl, hwp⟩ := hwp
  refine lv_if_eq (tgt := 17) hx hb dX9_binds_6 (by decide) (fun c3 => ?_) (fun c3 => ?_)
  · have hwp := hwp.1 c3
    refine lv_bipush (v := (-2 : Int32)) hx hb dX9_binds_17 (by decide) ?_
    exact x_iret C Dy ⟨rfl, hwp⟩ dX9_binds_19
  · have hwp := hwp.2 c3
    refine lv_iload_n hx hb dX9_binds_9 rfl (lv_at lv 2 rfl) ?_
    refine lv_iconst (v := (3 : Int32)) hx hb dX9_binds_10 (by decide) ?_
    refine x_cont_z Dy (x_runS (As := [.int v2, .int (3 : Int32)]) (rest := []) C Dy (m_X9_within E l _ _ v2 (3 : Int32) _ hwp) (cw_X9_104 C rfl rfl ⟨Nat.le_trans (Nat.le_of_ble_eq_true rfl) hR.1, Nat.le_trans (Nat.le_of_ble_eq_true rfl) hR.2⟩) rfl lv.1 rfl (Nat.le_of_ble_eq_true rfl) dX9_binds_11 ⟨Nat.zero_le _, Nat.zero_le _⟩) (fun r4 h5 hl5 H locs zr4 hwp Dy => ?_)
    obtain ⟨rfl, rfl, hwp⟩ := hwp
    refine lv_if_ne (tgt := 20) hx hb dX9_binds_14 (by decide) (fun c6 => ?_) (fun c6 => ?_)
    · have hwp := hwp.2 c6
      refine lv_aload_n hx hb dX9_binds_20 rfl (lv_at lv 0 rfl) ?_
      refine x_cont_v Dy (x_runV (As := []) (rest := []) C Dy (m_X9_refresh E l _ _ _ hwp) (cw_X9_126 C rfl rfl ⟨Nat.le_trans (Nat.le_of_ble_eq_true rfl) hR.1, Nat.le_trans (Nat.le_of_ble_eq_true rfl) hR.2⟩) wx_0 rfl rfl lv.1 rfl (Nat.le_of_ble_eq_true rfl) dX9_binds_21 ⟨Nat.zero_le _, Nat.zero_le _⟩) (fun h8 hl8 H locs hwp Dy => ?_)
      obtain ⟨rfl, hwp⟩ := hwp
      refine lv_iload_n hx hb dX9_binds_24 rfl (lv_at lv 2 rfl) ?_
      by_cases c9 : v2 = (0 : Int32)
      · have hwp := hwp.1 c9
        refine lv_lookup (off := 27) (tgt := 52) hx hb dX9_binds_25 (by decide) (by rw [c9]; rfl) (by decide) ?_
        refine lv_aload_n hx hb dX9_binds_52 rfl (lv_at lv 0 rfl) ?_
        refine gf_X9_54_0 C Dy dX9_binds_53 ?_
        refine lv_aload_n hx hb dX9_binds_56 rfl (lv_at lv 0 rfl) ?_
        refine gf_X9_37_0 C Dy dX9_binds_57 ?_
        refine lv_iload_n hx hb dX9_binds_60 rfl (lv_at lv 1 rfl) ?_
        refine x_cont_i Dy (x_runV (As := [.ref (wad (wdX E) 7), .int v1]) (rest := []) C Dy (m_X6_bindingKing E l _ _ 27 (Or.inl rfl) v1 _ hwp) (cw_X9_154 C rfl rfl ⟨Nat.le_trans (Nat.le_of_ble_eq_true rfl) hR.1, Nat.le_trans (Nat.le_of_ble_eq_true rfl) hR.2⟩) wx_27 rfl rfl lv.1 rfl (Nat.le_of_ble_eq_true rfl) dX9_binds_61 ⟨Nat.zero_le _, Nat.zero_le _⟩) (fun r10 h11 hl11 H locs hwp Dy => ?_)
        obtain ⟨rfl, rfl, hwp⟩ := hwp
        exact x_iret C Dy ⟨rfl, hwp⟩ dX9_binds_64
      · have hwp := hwp.2 c9
        by_cases c12 : v2 = (1 : Int32)
        · have hwp := hwp.1 c12
          refine lv_lookup (off := 40) (tgt := 65) hx hb dX9_binds_25 (by decide) (by rw [c12]; rfl) (by decide) ?_
          refine lv_aload_n hx hb dX9_binds_65 rfl (lv_at lv 0 rfl) ?_
          refine gf_X9_54_0 C Dy dX9_binds_66 ?_
          refine lv_aload_n hx hb dX9_binds_69 rfl (lv_at lv 0 rfl) ?_
          refine gf_X9_37_0 C Dy dX9_binds_70 ?_
          refine lv_iload_n hx hb dX9_binds_73 rfl (lv_at lv 1 rfl) ?_
          refine x_cont_i Dy (x_runV (As := [.ref (wad (wdX E) 7), .int v1]) (rest := []) C Dy (m_X6_bindingOthers E l _ _ 27 (Or.inl rfl) v1 _ hwp) (cw_X9_158 C rfl rfl ⟨Nat.le_trans (Nat.le_of_ble_eq_true rfl) hR.1, Nat.le_trans (Nat.le_of_ble_eq_true rfl) hR.2⟩) wx_27 rfl rfl lv.1 rfl (Nat.le_of_ble_eq_true rfl) dX9_binds_74 ⟨Nat.zero_le _, Nat.zero_le _⟩) (fun r13 h14 hl14 H locs hwp Dy => ?_)
          obtain ⟨rfl, rfl, hwp⟩ := hwp
          exact x_iret C Dy ⟨rfl, hwp⟩ dX9_binds_77
        · have hwp := hwp.2 c12
          refine lv_lookup (tgt := 78) (off := 53) hx hb dX9_binds_25 (by decide) ((lv_osw c9 (a := 0) (by decide)).trans ((lv_osw c12 (a := 1) (by decide)).trans rfl)) (by decide) ?_
          refine lv_aload_n hx hb dX9_binds_78 rfl (lv_at lv 0 rfl) ?_
          refine gf_X9_54_0 C Dy dX9_binds_79 ?_
          refine lv_aload_n hx hb dX9_binds_82 rfl (lv_at lv 0 rfl) ?_
          refine gf_X9_37_0 C Dy dX9_binds_83 ?_
          refine lv_iload_n hx hb dX9_binds_86 rfl (lv_at lv 1 rfl) ?_
          refine x_cont_i Dy (x_runV (As := [.ref (wad (wdX E) 7), .int v1]) (rest := []) C Dy (m_X6_lapsedBy E l _ _ 27 (Or.inl rfl) v1 _ hwp) (cw_X9_161 C rfl rfl ⟨Nat.le_trans (Nat.le_of_ble_eq_true rfl) hR.1, Nat.le_trans (Nat.le_of_ble_eq_true rfl) hR.2⟩) wx_27 rfl rfl lv.1 rfl (Nat.le_of_ble_eq_true rfl) dX9_binds_87 ⟨Nat.zero_le _, Nat.zero_le _⟩) (fun r15 h16 hl16 H locs hwp Dy => ?_)
          obtain ⟨rfl, rfl, hwp⟩ := hwp
          exact x_iret C Dy ⟨rfl, hwp⟩ dX9_binds_90
    · have hwp := hwp.1 c6
      refine lv_bipush (v := (-2 : Int32)) hx hb dX9_binds_17 (by decide) ?_
      exact x_iret C Dy ⟨rfl, hwp⟩ dX9_binds_19
def p_X9_kingsLaws (h : Mem) (v1 : Int32) (Qp : Int32 → Mem → Prop) : Prop := (p_X9_refresh h (fun h2 => (p_X6_bindingKing h2 27 v1 (fun r3 => Qp r3 h2))))
set_option maxHeartbeats 4000000 in
set_option maxRecDepth 100000 in
theorem m_X9_kingsLaws (E : xE) (l : Launch) (h : Mem) (hl : MemL) (v1 : Int32) (Qp : Int32 → Mem → Prop) (hwp : p_X9_kingsLaws h v1 Qp) : Met l yX9_kingsLaws (wsU yX9_kingsLaws cX9_kingsLaws 2 (some .int)) ({ frames := 3, cells := 0, slots := 0, locals := 70 } : Room) (mPc (wdX E) [.ref (wad (wdX E) 0), .int v1] h hl) (mQi (wdX E) (fun r h1 hl1 => hl = hl1 ∧ Qp r h1)) 0 0 (wA (wdX E)) := by
  refine x_met RX9 [(0, .ref (wad (wdX E) 0)), (1, .int v1)] (by decide) rfl (Nat.le_of_ble_eq_true rfl) rfl ?_
  intro p e s m args below meth c ls C Dy lv
  have hx := C.x
  have hb := C.b
  have hR : 3 ≤ ({ frames := 3, cells := 0, slots := 0, locals := 70 } : Room).frames ∧ 70 ≤ ({ frames := 3, cells := 0, slots := 0, locals := 70 } : Room).locals := ⟨Nat.le_refl _, Nat.le_refl _⟩
  unfold p_X9_kingsLaws at hwp
  refine lv_aload_n hx hb dX9_kingsLaws_0 rfl (lv_at lv 0 rfl) ?_
  refine x_cont_v Dy (x_runV (As := []) (rest := []) C Dy (m_X9_refresh E l _ _ _ hwp) (cw_X9_126 C rfl rfl ⟨Nat.le_trans (Nat.le_of_ble_eq_true rfl) hR.1, Nat.le_trans (Nat.le_of_ble_eq_true rfl) hR.2⟩) wx_0 rfl rfl lv.1 rfl (Nat.le_of_ble_eq_true rfl) dX9_kingsLaws_1 ⟨Nat.zero_le _, Nat.zero_le _⟩) (fun h2 hl2 H locs hwp Dy => ?_)
  obtain ⟨rfl, hwp⟩ := hwp
  refine lv_aload_n hx hb dX9_kingsLaws_4 rfl (lv_at lv 0 rfl) ?_
  refine gf_X9_54_0 C Dy dX9_kingsLaws_5 ?_
  refine lv_aload_n hx hb dX9_kingsLaws_8 rfl (lv_at lv 0 rfl) ?_
  refine gf_X9_37_0 C Dy dX9_kingsLaws_9 ?_
  refine lv_iload_n hx hb dX9_kingsLaws_12 rfl (lv_at lv 1 rfl) ?_
  refine x_cont_i Dy (x_runV (As := [.ref (wad (wdX E) 7), .int v1]) (rest := []) C Dy (m_X6_bindingKing E l _ _ 27 (Or.inl rfl) v1 _ hwp) (cw_X9_154 C rfl rfl ⟨Nat.le_trans (Nat.le_of_ble_eq_true rfl) hR.1, Nat.le_trans (Nat.le_of_ble_eq_true rfl) hR.2⟩) wx_27 rfl rfl lv.1 rfl (Nat.le_of_ble_eq_true rfl) dX9_kingsLaws_13 ⟨Nat.zero_le _, Nat.zero_le _⟩) (fun r3 h4 hl4 H locs hwp Dy => ?_)
  obtain ⟨rfl, rfl, hwp⟩ := hwp
  exact x_iret C Dy ⟨rfl, hwp⟩ dX9_kingsLaws_16
def p_X9_does (h : Mem) (v1 : Int32) (v2 : Int32) (Qp : Int32 → Mem → Prop) : Prop := (p_X9_within v1 (30 : Int32) (fun r1 => ((r1 = 0 → Qp (-2 : Int32) h) ∧ (¬ (r1 = 0) → (p_X9_within v2 (24 : Int32) (fun r4 => ((r4 = 0 → Qp (-2 : Int32) h) ∧ (¬ (r4 = 0) → (p_X9_kingsLaws h v1 (fun r7 h8 => (p_X0_deedBy h8 r7 v2 (fun r9 => Qp r9 h8))))))))))))
set_option maxHeartbeats 4000000 in
set_option maxRecDepth 100000 in
theorem m_X9_does (E : xE) (l : Launch) (h : Mem) (hl : MemL) (v1 : Int32) (v2 : Int32) (Qp : Int32 → Mem → Prop) (hwp : p_X9_does h v1 v2 Qp) : Met l yX9_does (wsU yX9_does cX9_does 3 (some .int)) ({ frames := 4, cells := 0, slots := 0, locals := 91 } : Room) (mPc (wdX E) [.ref (wad (wdX E) 0), .int v1, .int v2] h hl) (mQi (wdX E) (fun r h1 hl1 => hl = hl1 ∧ Qp r h1)) 0 0 (wA (wdX E)) := by
  refine x_met RX9 [(0, .ref (wad (wdX E) 0)), (1, .int v1), (2, .int v2)] (by decide) rfl (Nat.le_of_ble_eq_true rfl) rfl ?_
  intro p e s m args below meth c ls C Dy lv
  have hx := C.x
  have hb := C.b
  have hR : 4 ≤ ({ frames := 4, cells := 0, slots := 0, locals := 91 } : Room).frames ∧ 91 ≤ ({ frames := 4, cells := 0, slots := 0, locals := 91 } : Room).locals := ⟨Nat.le_refl _, Nat.le_refl _⟩
  unfold p_X9_does at hwp
  refine lv_iload_n hx hb dX9_does_0 rfl (lv_at lv 1 rfl) ?_
  refine lv_bipush (v := (30 : Int32)) hx hb dX9_does_1 (by decide) ?_
  refine x_cont_z Dy (x_runS (As := [.int v1, .int (30 : Int32)]) (rest := []) C Dy (m_X9_within E l _ _ v1 (30 : Int32) _ hwp) (cw_X9_104 C rfl rfl ⟨Nat.le_trans (Nat.le_of_ble_eq_true rfl) hR.1, Nat.le_trans (Nat.le_of_ble_eq_true rfl) hR.2⟩) rfl lv.1 rfl (Nat.le_of_ble_eq_true rfl) dX9_does_3 ⟨Nat.zero_le _, Nat.zero_le _⟩) (fun r1 h2 hl2 H locs zr1 hwp Dy => ?_)
  obtain ⟨rfl, rfl, hwp⟩ := hwp
  refine lv_if_eq (tgt := 18) hx hb dX9_does_6 (by decide) (fun c3 => ?_) (fun c3 => ?_)
  · have hwp := hwp.1 c3
    refine lv_bipush (v := (-2 : Int32)) hx hb dX9_does_18 (by decide) ?_
    exact x_iret C Dy ⟨rfl, hwp⟩ dX9_does_20
  · have hwp := hwp.2 c3
    refine lv_iload_n hx hb dX9_does_9 rfl (lv_at lv 2 rfl) ?_
    refine lv_bipush (v := (24 : Int32)) hx hb dX9_does_10 (by decide) ?_
    refine x_cont_z Dy (x_runS (As := [.int v2, .int (24 : Int32)]) (rest := []) C Dy (m_X9_within E l _ _ v2 (24 : Int32) _ hwp) (cw_X9_104 C rfl rfl ⟨Nat.le_trans (Nat.le_of_ble_eq_true rfl) hR.1, Nat.le_trans (Nat.le_of_ble_eq_true rfl) hR.2⟩) rfl lv.1 rfl (Nat.le_of_ble_eq_true rfl) dX9_does_12 ⟨Nat.zero_le _, Nat.zero_le _⟩) (fun r4 h5 hl5 H locs zr4 hwp Dy => ?_)
    obtain ⟨rfl, rfl, hwp⟩ := hwp
    refine lv_if_ne (tgt := 21) hx hb dX9_does_15 (by decide) (fun c6 => ?_) (fun c6 => ?_)
    · have hwp := hwp.2 c6
      refine lv_aload_n hx hb dX9_does_21 rfl (lv_at lv 0 rfl) ?_
      refine gf_X9_37_0 C Dy dX9_does_22 ?_
      refine lv_aload_n hx hb dX9_does_25 rfl (lv_at lv 0 rfl) ?_
      refine lv_iload_n hx hb dX9_does_26 rfl (lv_at lv 1 rfl) ?_
      refine x_cont_i Dy (x_runV (As := [.int v1]) (rest := [.ref (wad (wdX E) 7)]) C Dy (m_X9_kingsLaws E l _ _ v1 _ hwp) (cw_X9_164 C rfl rfl ⟨Nat.le_trans (Nat.le_of_ble_eq_true rfl) hR.1, Nat.le_trans (Nat.le_of_ble_eq_true rfl) hR.2⟩) wx_0 rfl rfl lv.1 rfl (Nat.le_of_ble_eq_true rfl) dX9_does_27 ⟨Nat.zero_le _, Nat.zero_le _⟩) (fun r7 h8 hl8 H locs hwp Dy => ?_)
      obtain ⟨rfl, hwp⟩ := hwp
      refine lv_iload_n hx hb dX9_does_30 rfl (lv_at lv 2 rfl) ?_
      refine x_cont_i Dy (x_runV (As := [.int r7, .int v2]) (rest := []) C Dy (m_X0_deedBy E l _ _ r7 v2 _ hwp) (cw_X9_168 C rfl rfl ⟨Nat.le_trans (Nat.le_of_ble_eq_true rfl) hR.1, Nat.le_trans (Nat.le_of_ble_eq_true rfl) hR.2⟩) wx_7 rfl rfl lv.1 rfl (Nat.le_of_ble_eq_true rfl) dX9_does_31 ⟨Nat.zero_le _, Nat.zero_le _⟩) (fun r9 h10 hl10 H locs hwp Dy => ?_)
      obtain ⟨rfl, rfl, hwp⟩ := hwp
      exact x_iret C Dy ⟨rfl, hwp⟩ dX9_does_34
    · have hwp := hwp.1 c6
      refine lv_bipush (v := (-2 : Int32)) hx hb dX9_does_18 (by decide) ?_
      exact x_iret C Dy ⟨rfl, hwp⟩ dX9_does_20
def p_X9_joy (h : Mem) (v1 : Int32) (v2 : Int32) (Qp : Int32 → Mem → Prop) : Prop := (p_X9_within v1 (30 : Int32) (fun r1 => ((r1 = 0 → Qp (-2 : Int32) h) ∧ (¬ (r1 = 0) → (p_X9_within v2 (2 : Int32) (fun r4 => ((r4 = 0 → Qp (-2 : Int32) h) ∧ (¬ (r4 = 0) → (p_X9_kingsLaws h v1 (fun r7 h8 => ((v2 = 0 → (p_X0_joyBy h8 r7 (fun r12 => Qp r12 h8))) ∧ (¬ (v2 = 0) → (p_X0_firstClash h8 r7 (fun r10 => Qp r10 h8))))))))))))))
set_option maxHeartbeats 4000000 in
set_option maxRecDepth 100000 in
theorem m_X9_joy (E : xE) (l : Launch) (h : Mem) (hl : MemL) (v1 : Int32) (v2 : Int32) (Qp : Int32 → Mem → Prop) (hwp : p_X9_joy h v1 v2 Qp) : Met l yX9_joy (wsU yX9_joy cX9_joy 4 (some .int)) ({ frames := 4, cells := 0, slots := 0, locals := 91 } : Room) (mPc (wdX E) [.ref (wad (wdX E) 0), .int v1, .int v2] h hl) (mQi (wdX E) (fun r h1 hl1 => hl = hl1 ∧ Qp r h1)) 0 0 (wA (wdX E)) := by
  refine x_met RX9 [(0, .ref (wad (wdX E) 0)), (1, .int v1), (2, .int v2)] (by decide) rfl (Nat.le_of_ble_eq_true rfl) rfl ?_
  intro p e s m args below meth c ls C Dy lv
  have hx := C.x
  have hb := C.b
  have hR : 4 ≤ ({ frames := 4, cells := 0, slots := 0, locals := 91 } : Room).frames ∧ 91 ≤ ({ frames := 4, cells := 0, slots := 0, locals := 91 } : Room).locals := ⟨Nat.le_refl _, Nat.le_refl _⟩
  unfold p_X9_joy at hwp
  refine lv_iload_n hx hb dX9_joy_0 rfl (lv_at lv 1 rfl) ?_
  refine lv_bipush (v := (30 : Int32)) hx hb dX9_joy_1 (by decide) ?_
  refine x_cont_z Dy (x_runS (As := [.int v1, .int (30 : Int32)]) (rest := []) C Dy (m_X9_within E l _ _ v1 (30 : Int32) _ hwp) (cw_X9_104 C rfl rfl ⟨Nat.le_trans (Nat.le_of_ble_eq_true rfl) hR.1, Nat.le_trans (Nat.le_of_ble_eq_true rfl) hR.2⟩) rfl lv.1 rfl (Nat.le_of_ble_eq_true rfl) dX9_joy_3 ⟨Nat.zero_le _, Nat.zero_le _⟩) (fun r1 h2 hl2 H locs zr1 hwp Dy => ?_)
  obtain ⟨rfl, rfl, hwp⟩ := hwp
  refine lv_if_eq (tgt := 17) hx hb dX9_joy_6 (by decide) (fun c3 => ?_) (fun c3 => ?_)
  · have hwp := hwp.1 c3
    refine lv_bipush (v := (-2 : Int32)) hx hb dX9_joy_17 (by decide) ?_
    exact x_iret C Dy ⟨rfl, hwp⟩ dX9_joy_19
  · have hwp := hwp.2 c3
    refine lv_iload_n hx hb dX9_joy_9 rfl (lv_at lv 2 rfl) ?_
    refine lv_iconst (v := (2 : Int32)) hx hb dX9_joy_10 (by decide) ?_
    refine x_cont_z Dy (x_runS (As := [.int v2, .int (2 : Int32)]) (rest := []) C Dy (m_X9_within E l _ _ v2 (2 : Int32) _ hwp) (cw_X9_104 C rfl rfl ⟨Nat.le_trans (Nat.le_of_ble_eq_true rfl) hR.1, Nat.le_trans (Nat.le_of_ble_eq_true rfl) hR.2⟩) rfl lv.1 rfl (Nat.le_of_ble_eq_true rfl) dX9_joy_11 ⟨Nat.zero_le _, Nat.zero_le _⟩) (fun r4 h5 hl5 H locs zr4 hwp Dy => ?_)
    obtain ⟨rfl, rfl, hwp⟩ := hwp
    refine lv_if_ne (tgt := 20) hx hb dX9_joy_14 (by decide) (fun c6 => ?_) (fun c6 => ?_)
    · have hwp := hwp.2 c6
      refine lv_aload_n hx hb dX9_joy_20 rfl (lv_at lv 0 rfl) ?_
      refine lv_iload_n hx hb dX9_joy_21 rfl (lv_at lv 1 rfl) ?_
      refine x_cont_i Dy (x_runV (As := [.int v1]) (rest := []) C Dy (m_X9_kingsLaws E l _ _ v1 _ hwp) (cw_X9_164 C rfl rfl ⟨Nat.le_trans (Nat.le_of_ble_eq_true rfl) hR.1, Nat.le_trans (Nat.le_of_ble_eq_true rfl) hR.2⟩) wx_0 rfl rfl lv.1 rfl (Nat.le_of_ble_eq_true rfl) dX9_joy_22 ⟨Nat.zero_le _, Nat.zero_le _⟩) (fun r7 h8 hl8 H locs hwp Dy => ?_)
      obtain ⟨rfl, hwp⟩ := hwp
      refine lv_istore_n (lv' := [(3, .int r7), (0, .ref (wad (wdX E) 0)), (1, .int v1), (2, .int v2)]) hx hb dX9_joy_25 rfl lv (by decide) rfl (fun ls lv => ?_)
      refine lv_iload_n hx hb dX9_joy_26 rfl (lv_at lv 3 rfl) ?_
      refine lv_if_ne (tgt := 41) hx hb dX9_joy_27 (by decide) (fun c9 => ?_) (fun c9 => ?_)
      · have hwp := hwp.2 c9
        refine lv_aload_n hx hb dX9_joy_41 rfl (lv_at lv 1 rfl) ?_
        refine gf_X9_37_0 C Dy dX9_joy_42 ?_
        refine lv_iload_n hx hb dX9_joy_45 rfl (lv_at lv 0 rfl) ?_
        refine x_cont_i Dy (x_runV (As := [.int r7]) (rest := []) C Dy (m_X0_firstClash E l _ _ r7 _ hwp) (cw_X9_174 C rfl rfl ⟨Nat.le_trans (Nat.le_of_ble_eq_true rfl) hR.1, Nat.le_trans (Nat.le_of_ble_eq_true rfl) hR.2⟩) wx_7 rfl rfl lv.1 rfl (Nat.le_of_ble_eq_true rfl) dX9_joy_46 ⟨Nat.zero_le _, Nat.zero_le _⟩) (fun r10 h11 hl11 H locs hwp Dy => ?_)
        obtain ⟨rfl, rfl, hwp⟩ := hwp
        exact x_iret C Dy ⟨rfl, hwp⟩ dX9_joy_49
      · have hwp := hwp.1 c9
        refine lv_aload_n hx hb dX9_joy_30 rfl (lv_at lv 1 rfl) ?_
        refine gf_X9_37_0 C Dy dX9_joy_31 ?_
        refine lv_iload_n hx hb dX9_joy_34 rfl (lv_at lv 0 rfl) ?_
        refine x_cont_i Dy (x_runV (As := [.int r7]) (rest := []) C Dy (m_X0_joyBy E l _ _ r7 _ hwp) (cw_X9_171 C rfl rfl ⟨Nat.le_trans (Nat.le_of_ble_eq_true rfl) hR.1, Nat.le_trans (Nat.le_of_ble_eq_true rfl) hR.2⟩) wx_7 rfl rfl lv.1 rfl (Nat.le_of_ble_eq_true rfl) dX9_joy_35 ⟨Nat.zero_le _, Nat.zero_le _⟩) (fun r12 h13 hl13 H locs hwp Dy => ?_)
        obtain ⟨rfl, rfl, hwp⟩ := hwp
        refine lv_goto (tgt := 49) hx hb dX9_joy_38 (by decide) ?_
        exact x_iret C Dy ⟨rfl, hwp⟩ dX9_joy_49
    · have hwp := hwp.1 c6
      refine lv_bipush (v := (-2 : Int32)) hx hb dX9_joy_17 (by decide) ?_
      exact x_iret C Dy ⟨rfl, hwp⟩ dX9_joy_19
def p_X9_quarrels (h : Mem) (v1 : Int32) (v2 : Int32) (Qp : Int32 → Mem → Prop) : Prop := (p_X9_within v1 (30 : Int32) (fun r1 => ((r1 = 0 → Qp (-2 : Int32) h) ∧ (¬ (r1 = 0) → (p_X9_within v2 (2 : Int32) (fun r4 => ((r4 = 0 → Qp (-2 : Int32) h) ∧ (¬ (r4 = 0) → (p_X9_kingsLaws h v1 (fun r7 h8 => ((v2 = 0 → (p_X0_quarrelCount h8 r7 (fun r12 => Qp r12 h8))) ∧ (¬ (v2 = 0) → (p_X0_leastQuarrel h8 r7 (fun r10 => Qp r10 h8))))))))))))))
set_option maxHeartbeats 4000000 in
set_option maxRecDepth 100000 in
theorem m_X9_quarrels (E : xE) (l : Launch) (h : Mem) (hl : MemL) (v1 : Int32) (v2 : Int32) (Qp : Int32 → Mem → Prop) (hwp : p_X9_quarrels h v1 v2 Qp) : Met l yX9_quarrels (wsU yX9_quarrels cX9_quarrels 4 (some .int)) ({ frames := 4, cells := 0, slots := 0, locals := 91 } : Room) (mPc (wdX E) [.ref (wad (wdX E) 0), .int v1, .int v2] h hl) (mQi (wdX E) (fun r h1 hl1 => hl = hl1 ∧ Qp r h1)) 0 0 (wA (wdX E)) := by
  refine x_met RX9 [(0, .ref (wad (wdX E) 0)), (1, .int v1), (2, .int v2)] (by decide) rfl (Nat.le_of_ble_eq_true rfl) rfl ?_
  intro p e s m args below meth c ls C Dy lv
  have hx := C.x
  have hb := C.b
  have hR : 4 ≤ ({ frames := 4, cells := 0, slots := 0, locals := 91 } : Room).frames ∧ 91 ≤ ({ frames := 4, cells := 0, slots := 0, locals := 91 } : Room).locals := ⟨Nat.le_refl _, Nat.le_refl _⟩
  unfold p_X9_quarrels at hwp
  refine lv_iload_n hx hb dX9_quarrels_0 rfl (lv_at lv 1 rfl) ?_
  refine lv_bipush (v := (30 : Int32)) hx hb dX9_quarrels_1 (by decide) ?_
  refine x_cont_z Dy (x_runS (As := [.int v1, .int (30 : Int32)]) (rest := []) C Dy (m_X9_within E l _ _ v1 (30 : Int32) _ hwp) (cw_X9_104 C rfl rfl ⟨Nat.le_trans (Nat.le_of_ble_eq_true rfl) hR.1, Nat.le_trans (Nat.le_of_ble_eq_true rfl) hR.2⟩) rfl lv.1 rfl (Nat.le_of_ble_eq_true rfl) dX9_quarrels_3 ⟨Nat.zero_le _, Nat.zero_le _⟩) (fun r1 h2 hl2 H locs zr1 hwp Dy => ?_)
  obtain ⟨rfl, rfl, hwp⟩ := hwp
  refine lv_if_eq (tgt := 17) hx hb dX9_quarrels_6 (by decide) (fun c3 => ?_) (fun c3 => ?_)
  · have hwp := hwp.1 c3
    refine lv_bipush (v := (-2 : Int32)) hx hb dX9_quarrels_17 (by decide) ?_
    exact x_iret C Dy ⟨rfl, hwp⟩ dX9_quarrels_19
  · have hwp := hwp.2 c3
    refine lv_iload_n hx hb dX9_quarrels_9 rfl (lv_at lv 2 rfl) ?_
    refine lv_iconst (v := (2 : Int32)) hx hb dX9_quarrels_10 (by decide) ?_
    refine x_cont_z Dy (x_runS (As := [.int v2, .int (2 : Int32)]) (rest := []) C Dy (m_X9_within E l _ _ v2 (2 : Int32) _ hwp) (cw_X9_104 C rfl rfl ⟨Nat.le_trans (Nat.le_of_ble_eq_true rfl) hR.1, Nat.le_trans (Nat.le_of_ble_eq_true rfl) hR.2⟩) rfl lv.1 rfl (Nat.le_of_ble_eq_true rfl) dX9_quarrels_11 ⟨Nat.zero_le _, Nat.zero_le _⟩) (fun r4 h5 hl5 H locs zr4 hwp Dy => ?_)
    obtain ⟨rfl, rfl, hwp⟩ := hwp
    refine lv_if_ne (tgt := 20) hx hb dX9_quarrels_14 (by decide) (fun c6 => ?_) (fun c6 => ?_)
    · have hwp := hwp.2 c6
      refine lv_aload_n hx hb dX9_quarrels_20 rfl (lv_at lv 0 rfl) ?_
      refine lv_iload_n hx hb dX9_quarrels_21 rfl (lv_at lv 1 rfl) ?_
      refine x_cont_i Dy (x_runV (As := [.int v1]) (rest := []) C Dy (m_X9_kingsLaws E l _ _ v1 _ hwp) (cw_X9_164 C rfl rfl ⟨Nat.le_trans (Nat.le_of_ble_eq_true rfl) hR.1, Nat.le_trans (Nat.le_of_ble_eq_true rfl) hR.2⟩) wx_0 rfl rfl lv.1 rfl (Nat.le_of_ble_eq_true rfl) dX9_quarrels_22 ⟨Nat.zero_le _, Nat.zero_le _⟩) (fun r7 h8 hl8 H locs hwp Dy => ?_)
      obtain ⟨rfl, hwp⟩ := hwp
      refine lv_istore_n (lv' := [(3, .int r7), (0, .ref (wad (wdX E) 0)), (1, .int v1), (2, .int v2)]) hx hb dX9_quarrels_25 rfl lv (by decide) rfl (fun ls lv => ?_)
      refine lv_iload_n hx hb dX9_quarrels_26 rfl (lv_at lv 3 rfl) ?_
      refine lv_if_ne (tgt := 41) hx hb dX9_quarrels_27 (by decide) (fun c9 => ?_) (fun c9 => ?_)
      · have hwp := hwp.2 c9
        refine lv_aload_n hx hb dX9_quarrels_41 rfl (lv_at lv 1 rfl) ?_
        refine gf_X9_37_0 C Dy dX9_quarrels_42 ?_
        refine lv_iload_n hx hb dX9_quarrels_45 rfl (lv_at lv 0 rfl) ?_
        refine x_cont_i Dy (x_runV (As := [.int r7]) (rest := []) C Dy (m_X0_leastQuarrel E l _ _ r7 _ hwp) (cw_X9_180 C rfl rfl ⟨Nat.le_trans (Nat.le_of_ble_eq_true rfl) hR.1, Nat.le_trans (Nat.le_of_ble_eq_true rfl) hR.2⟩) wx_7 rfl rfl lv.1 rfl (Nat.le_of_ble_eq_true rfl) dX9_quarrels_46 ⟨Nat.zero_le _, Nat.zero_le _⟩) (fun r10 h11 hl11 H locs hwp Dy => ?_)
        obtain ⟨rfl, rfl, hwp⟩ := hwp
        exact x_iret C Dy ⟨rfl, hwp⟩ dX9_quarrels_49
      · have hwp := hwp.1 c9
        refine lv_aload_n hx hb dX9_quarrels_30 rfl (lv_at lv 1 rfl) ?_
        refine gf_X9_37_0 C Dy dX9_quarrels_31 ?_
        refine lv_iload_n hx hb dX9_quarrels_34 rfl (lv_at lv 0 rfl) ?_
        refine x_cont_i Dy (x_runV (As := [.int r7]) (rest := []) C Dy (m_X0_quarrelCount E l _ _ r7 _ hwp) (cw_X9_177 C rfl rfl ⟨Nat.le_trans (Nat.le_of_ble_eq_true rfl) hR.1, Nat.le_trans (Nat.le_of_ble_eq_true rfl) hR.2⟩) wx_7 rfl rfl lv.1 rfl (Nat.le_of_ble_eq_true rfl) dX9_quarrels_35 ⟨Nat.zero_le _, Nat.zero_le _⟩) (fun r12 h13 hl13 H locs hwp Dy => ?_)
        obtain ⟨rfl, rfl, hwp⟩ := hwp
        refine lv_goto (tgt := 49) hx hb dX9_quarrels_38 (by decide) ?_
        exact x_iret C Dy ⟨rfl, hwp⟩ dX9_quarrels_49
    · have hwp := hwp.1 c6
      refine lv_bipush (v := (-2 : Int32)) hx hb dX9_quarrels_17 (by decide) ?_
      exact x_iret C Dy ⟨rfl, hwp⟩ dX9_quarrels_19
def p_X9_isDeedOrNone (v0 : Int32) (Qp : Int32 → Prop) : Prop := ((v0 = (-1 : Int32) → Qp (1 : Int32)) ∧ (¬ (v0 = (-1 : Int32)) → (p_X9_within v0 (6 : Int32) (fun r2 => ((r2 = 0 → Qp (0 : Int32)) ∧ (¬ (r2 = 0) → Qp (1 : Int32)))))))
set_option maxHeartbeats 4000000 in
set_option maxRecDepth 100000 in
theorem m_X9_isDeedOrNone (E : xE) (l : Launch) (h : Mem) (hl : MemL) (v0 : Int32) (Qp : Int32 → Prop) (hwp : p_X9_isDeedOrNone v0 Qp) : Met l yX9_isDeedOrNone (wsU yX9_isDeedOrNone cX9_isDeedOrNone 1 (some .boolean)) ({ frames := 1, cells := 0, slots := 0, locals := 21 } : Room) (mPc (wdX E) [.int v0] h hl) (mQz (wdX E) (fun r h1 hl1 => h = h1 ∧ hl = hl1 ∧ Qp r)) 0 0 (wA (wdX E)) := by
  refine x_met RX9 [(0, .int v0)] (by decide) rfl (Nat.le_of_ble_eq_true rfl) rfl ?_
  intro p e s m args below meth c ls C Dy lv
  have hx := C.x
  have hb := C.b
  have hR : 1 ≤ ({ frames := 1, cells := 0, slots := 0, locals := 21 } : Room).frames ∧ 21 ≤ ({ frames := 1, cells := 0, slots := 0, locals := 21 } : Room).locals := ⟨Nat.le_refl _, Nat.le_refl _⟩
  unfold p_X9_isDeedOrNone at hwp
  refine lv_iload_n hx hb dX9_isDeedOrNone_0 rfl (lv_at lv 0 rfl) ?_
  refine lv_iconst (v := (-1 : Int32)) hx hb dX9_isDeedOrNone_1 (by decide) ?_
  refine lv_icmp_eq (tgt := 14) hx hb dX9_isDeedOrNone_2 (by decide) (fun c1 => ?_) (fun c1 => ?_)
  · have hwp := hwp.1 c1
    refine lv_iconst (v := (1 : Int32)) hx hb dX9_isDeedOrNone_14 (by decide) ?_
    refine lv_goto (tgt := 19) hx hb dX9_isDeedOrNone_15 (by decide) ?_
    exact x_zret C Dy z01_1 ⟨rfl, rfl, hwp⟩ dX9_isDeedOrNone_19
  · have hwp := hwp.2 c1
    refine lv_iload_n hx hb dX9_isDeedOrNone_5 rfl (lv_at lv 0 rfl) ?_
    refine lv_bipush (v := (6 : Int32)) hx hb dX9_isDeedOrNone_6 (by decide) ?_
    refine x_cont_z Dy (x_runS (As := [.int v0, .int (6 : Int32)]) (rest := []) C Dy (m_X9_within E l _ _ v0 (6 : Int32) _ hwp) (cw_X9_104 C rfl rfl ⟨Nat.le_trans (Nat.le_of_ble_eq_true rfl) hR.1, Nat.le_trans (Nat.le_of_ble_eq_true rfl) hR.2⟩) rfl lv.1 rfl (Nat.le_of_ble_eq_true rfl) dX9_isDeedOrNone_8 ⟨Nat.zero_le _, Nat.zero_le _⟩) (fun r2 h3 hl3 H locs zr2 hwp Dy => ?_)
    obtain ⟨rfl, rfl, hwp⟩ := hwp
    refine lv_if_eq (tgt := 18) hx hb dX9_isDeedOrNone_11 (by decide) (fun c4 => ?_) (fun c4 => ?_)
    · have hwp := hwp.1 c4
      refine lv_iconst (v := (0 : Int32)) hx hb dX9_isDeedOrNone_18 (by decide) ?_
      exact x_zret C Dy z01_0 ⟨rfl, rfl, hwp⟩ dX9_isDeedOrNone_19
    · have hwp := hwp.2 c4
      refine lv_iconst (v := (1 : Int32)) hx hb dX9_isDeedOrNone_14 (by decide) ?_
      refine lv_goto (tgt := 19) hx hb dX9_isDeedOrNone_15 (by decide) ?_
      exact x_zret C Dy z01_1 ⟨rfl, rfl, hwp⟩ dX9_isDeedOrNone_19
def p_X9_exempt (h : Mem) (v1 : Int32) (v2 : Int32) (v3 : Int32) (v4 : Int32) (Qp : Int32 → Mem → Prop) : Prop := (p_X9_within v1 (30 : Int32) (fun r1 => ((r1 = 0 → Qp (-2 : Int32) h) ∧ (¬ (r1 = 0) → (p_X9_within v2 (24 : Int32) (fun r4 => ((r4 = 0 → Qp (-2 : Int32) h) ∧ (¬ (r4 = 0) → (p_X9_isDeedOrNone v3 (fun r7 => ((r7 = 0 → Qp (-2 : Int32) h) ∧ (¬ (r7 = 0) → (p_X9_within v4 (2 : Int32) (fun r10 => ((r10 = 0 → Qp (-2 : Int32) h) ∧ (¬ (r10 = 0) → (p_X9_kingsLaws h v1 (fun r13 h14 => (p_X0_leastExemption h14 r13 v2 v3 (fun r15 => ((r15 = (-1 : Int32) → Qp r15 h14) ∧ (¬ (r15 = (-1 : Int32)) → ((v4 = (1 : Int32) → Qp r15 h14) ∧ (¬ (v4 = (1 : Int32)) → (p_J6_bitCount r15 (fun r19 => Qp r19 h14))))))))))))))))))))))))))
set_option maxHeartbeats 4000000 in
set_option maxRecDepth 100000 in
theorem m_X9_exempt (E : xE) (l : Launch) (h : Mem) (hl : MemL) (v1 : Int32) (v2 : Int32) (v3 : Int32) (v4 : Int32) (Qp : Int32 → Mem → Prop) (hwp : p_X9_exempt h v1 v2 v3 v4 Qp) : Met l yX9_exempt (wsU yX9_exempt cX9_exempt 6 (some .int)) ({ frames := 4, cells := 0, slots := 0, locals := 91 } : Room) (mPc (wdX E) [.ref (wad (wdX E) 0), .int v1, .int v2, .int v3, .int v4] h hl) (mQi (wdX E) (fun r h1 hl1 => hl = hl1 ∧ Qp r h1)) 0 0 (wA (wdX E)) := by
  refine x_met RX9 [(0, .ref (wad (wdX E) 0)), (1, .int v1), (2, .int v2), (3, .int v3), (4, .int v4)] (by decide) rfl (Nat.le_of_ble_eq_true rfl) rfl ?_
  intro p e s m args below meth c ls C Dy lv
  have hx := C.x
  have hb := C.b
  have hR : 4 ≤ ({ frames := 4, cells := 0, slots := 0, locals := 91 } : Room).frames ∧ 91 ≤ ({ frames := 4, cells := 0, slots := 0, locals := 91 } : Room).locals := ⟨Nat.le_refl _, Nat.le_refl _⟩
  unfold p_X9_exempt at hwp
  refine lv_iload_n hx hb dX9_exempt_0 rfl (lv_at lv 1 rfl) ?_
  refine lv_bipush (v := (30 : Int32)) hx hb dX9_exempt_1 (by decide) ?_
  refine x_cont_z Dy (x_runS (As := [.int v1, .int (30 : Int32)]) (rest := []) C Dy (m_X9_within E l _ _ v1 (30 : Int32) _ hwp) (cw_X9_104 C rfl rfl ⟨Nat.le_trans (Nat.le_of_ble_eq_true rfl) hR.1, Nat.le_trans (Nat.le_of_ble_eq_true rfl) hR.2⟩) rfl lv.1 rfl (Nat.le_of_ble_eq_true rfl) dX9_exempt_3 ⟨Nat.zero_le _, Nat.zero_le _⟩) (fun r1 h2 hl2 H locs zr1 hwp Dy => ?_)
  obtain ⟨rfl, rfl, hwp⟩ := hwp
  refine lv_if_eq (tgt := 34) hx hb dX9_exempt_6 (by decide) (fun c3 => ?_) (fun c3 => ?_)
  · have hwp := hwp.1 c3
    refine lv_bipush (v := (-2 : Int32)) hx hb dX9_exempt_34 (by decide) ?_
    exact x_iret C Dy ⟨rfl, hwp⟩ dX9_exempt_36
  · have hwp := hwp.2 c3
    refine lv_iload_n hx hb dX9_exempt_9 rfl (lv_at lv 2 rfl) ?_
    refine lv_bipush (v := (24 : Int32)) hx hb dX9_exempt_10 (by decide) ?_
    refine x_cont_z Dy (x_runS (As := [.int v2, .int (24 : Int32)]) (rest := []) C Dy (m_X9_within E l _ _ v2 (24 : Int32) _ hwp) (cw_X9_104 C rfl rfl ⟨Nat.le_trans (Nat.le_of_ble_eq_true rfl) hR.1, Nat.le_trans (Nat.le_of_ble_eq_true rfl) hR.2⟩) rfl lv.1 rfl (Nat.le_of_ble_eq_true rfl) dX9_exempt_12 ⟨Nat.zero_le _, Nat.zero_le _⟩) (fun r4 h5 hl5 H locs zr4 hwp Dy => ?_)
    obtain ⟨rfl, rfl, hwp⟩ := hwp
    refine lv_if_eq (tgt := 34) hx hb dX9_exempt_15 (by decide) (fun c6 => ?_) (fun c6 => ?_)
    · have hwp := hwp.1 c6
      refine lv_bipush (v := (-2 : Int32)) hx hb dX9_exempt_34 (by decide) ?_
      exact x_iret C Dy ⟨rfl, hwp⟩ dX9_exempt_36
    · have hwp := hwp.2 c6
      refine lv_iload_n hx hb dX9_exempt_18 rfl (lv_at lv 3 rfl) ?_
      refine x_cont_z Dy (x_runS (As := [.int v3]) (rest := []) C Dy (m_X9_isDeedOrNone E l _ _ v3 _ hwp) (cw_X9_183 C rfl rfl ⟨Nat.le_trans (Nat.le_of_ble_eq_true rfl) hR.1, Nat.le_trans (Nat.le_of_ble_eq_true rfl) hR.2⟩) rfl lv.1 rfl (Nat.le_of_ble_eq_true rfl) dX9_exempt_19 ⟨Nat.zero_le _, Nat.zero_le _⟩) (fun r7 h8 hl8 H locs zr7 hwp Dy => ?_)
      obtain ⟨rfl, rfl, hwp⟩ := hwp
      refine lv_if_eq (tgt := 34) hx hb dX9_exempt_22 (by decide) (fun c9 => ?_) (fun c9 => ?_)
      · have hwp := hwp.1 c9
        refine lv_bipush (v := (-2 : Int32)) hx hb dX9_exempt_34 (by decide) ?_
        exact x_iret C Dy ⟨rfl, hwp⟩ dX9_exempt_36
      · have hwp := hwp.2 c9
        refine lv_iload hx hb dX9_exempt_25 (lv_at lv 4 rfl) ?_
        refine lv_iconst (v := (2 : Int32)) hx hb dX9_exempt_27 (by decide) ?_
        refine x_cont_z Dy (x_runS (As := [.int v4, .int (2 : Int32)]) (rest := []) C Dy (m_X9_within E l _ _ v4 (2 : Int32) _ hwp) (cw_X9_104 C rfl rfl ⟨Nat.le_trans (Nat.le_of_ble_eq_true rfl) hR.1, Nat.le_trans (Nat.le_of_ble_eq_true rfl) hR.2⟩) rfl lv.1 rfl (Nat.le_of_ble_eq_true rfl) dX9_exempt_28 ⟨Nat.zero_le _, Nat.zero_le _⟩) (fun r10 h11 hl11 H locs zr10 hwp Dy => ?_)
        obtain ⟨rfl, rfl, hwp⟩ := hwp
        refine lv_if_ne (tgt := 37) hx hb dX9_exempt_31 (by decide) (fun c12 => ?_) (fun c12 => ?_)
        · have hwp := hwp.2 c12
          refine lv_aload_n hx hb dX9_exempt_37 rfl (lv_at lv 0 rfl) ?_
          refine gf_X9_37_0 C Dy dX9_exempt_38 ?_
          refine lv_aload_n hx hb dX9_exempt_41 rfl (lv_at lv 0 rfl) ?_
          refine lv_iload_n hx hb dX9_exempt_42 rfl (lv_at lv 1 rfl) ?_
          refine x_cont_i Dy (x_runV (As := [.int v1]) (rest := [.ref (wad (wdX E) 7)]) C Dy (m_X9_kingsLaws E l _ _ v1 _ hwp) (cw_X9_164 C rfl rfl ⟨Nat.le_trans (Nat.le_of_ble_eq_true rfl) hR.1, Nat.le_trans (Nat.le_of_ble_eq_true rfl) hR.2⟩) wx_0 rfl rfl lv.1 rfl (Nat.le_of_ble_eq_true rfl) dX9_exempt_43 ⟨Nat.zero_le _, Nat.zero_le _⟩) (fun r13 h14 hl14 H locs hwp Dy => ?_)
          obtain ⟨rfl, hwp⟩ := hwp
          refine lv_iload_n hx hb dX9_exempt_46 rfl (lv_at lv 2 rfl) ?_
          refine lv_iload_n hx hb dX9_exempt_47 rfl (lv_at lv 3 rfl) ?_
          refine x_cont_i Dy (x_runV (As := [.int r13, .int v2, .int v3]) (rest := []) C Dy (m_X0_leastExemption E l _ _ r13 v2 v3 _ hwp) (cw_X9_187 C rfl rfl ⟨Nat.le_trans (Nat.le_of_ble_eq_true rfl) hR.1, Nat.le_trans (Nat.le_of_ble_eq_true rfl) hR.2⟩) wx_7 rfl rfl lv.1 rfl (Nat.le_of_ble_eq_true rfl) dX9_exempt_48 ⟨Nat.zero_le _, Nat.zero_le _⟩) (fun r15 h16 hl16 H locs hwp Dy => ?_)
          obtain ⟨rfl, rfl, hwp⟩ := hwp
          refine lv_istore (lv' := [(5, .int r15), (0, .ref (wad (wdX E) 0)), (1, .int v1), (2, .int v2), (3, .int v3), (4, .int v4)]) hx hb dX9_exempt_51 lv (by decide) rfl (fun ls lv => ?_)
          refine lv_iload hx hb dX9_exempt_53 (lv_at lv 0 rfl) ?_
          refine lv_iconst (v := (-1 : Int32)) hx hb dX9_exempt_55 (by decide) ?_
          refine lv_icmp_eq (tgt := 65) hx hb dX9_exempt_56 (by decide) (fun c17 => ?_) (fun c17 => ?_)
          · have hwp := hwp.1 c17
            refine lv_iload hx hb dX9_exempt_65 (lv_at lv 0 rfl) ?_
            refine lv_goto (tgt := 75) hx hb dX9_exempt_67 (by decide) ?_
            exact x_iret C Dy ⟨rfl, hwp⟩ dX9_exempt_75
          · have hwp := hwp.2 c17
            refine lv_iload hx hb dX9_exempt_59 (lv_at lv 5 rfl) ?_
            refine lv_iconst (v := (1 : Int32)) hx hb dX9_exempt_61 (by decide) ?_
            refine lv_icmp_ne (tgt := 70) hx hb dX9_exempt_62 (by decide) (fun c18 => ?_) (fun c18 => ?_)
            · have hwp := hwp.2 c18
              refine lv_iload hx hb dX9_exempt_70 (lv_at lv 0 rfl) ?_
              refine x_cont_i Dy (x_runS (As := [.int r15]) (rest := []) C Dy (m_J6_bitCount (wdX E) l _ _ r15 _ hwp) (cw_X9_191 C rfl rfl ⟨Nat.le_trans (Nat.le_of_ble_eq_true rfl) hR.1, Nat.le_trans (Nat.le_of_ble_eq_true rfl) hR.2⟩) rfl lv.1 rfl (Nat.le_of_ble_eq_true rfl) dX9_exempt_72 ⟨Nat.zero_le _, Nat.zero_le _⟩) (fun r19 h20 hl20 H locs hwp Dy => ?_)
              obtain ⟨rfl, rfl, hwp⟩ := hwp
              exact x_iret C Dy ⟨rfl, hwp⟩ dX9_exempt_75
            · have hwp := hwp.1 c18
              refine lv_iload hx hb dX9_exempt_65 (lv_at lv 0 rfl) ?_
              refine lv_goto (tgt := 75) hx hb dX9_exempt_67 (by decide) ?_
              exact x_iret C Dy ⟨rfl, hwp⟩ dX9_exempt_75
        · have hwp := hwp.1 c12
          refine lv_bipush (v := (-2 : Int32)) hx hb dX9_exempt_34 (by decide) ?_
          exact x_iret C Dy ⟨rfl, hwp⟩ dX9_exempt_36
