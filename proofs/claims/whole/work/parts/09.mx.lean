def b_J7_fill_5 : Nat → Mem → Nat → Nat → Int32 → Int32 → Int32 → (Mem → Prop) → Prop
  | 0 => fun _ _ _ _ _ _ _ => False
  | n + 1 => fun h k kn v1 v2 v3 Qp => ((v3 ≤ v2 → Qp h) ∧ (¬ (v3 ≤ v2) → (vp_in v2 kn ∧ b_J7_fill_5 n (up2 h k v2.toNatClampNeg v1) k kn v1 (v2 + (1 : Int32)) v3 Qp)))
def p_J7_fill (h : Mem) (k : Nat) (kn : Nat) (v1 : Int32) (Qp : Mem → Prop) : Prop := (∃ n5, b_J7_fill_5 n5 h k kn v1 (0 : Int32) (Int32.ofNat kn) Qp)
set_option maxHeartbeats 4000000 in
set_option maxRecDepth 100000 in
theorem t_J7_fill_5 (w : Wd) {p : Program} {l : Launch} {e : Env} {R : Room} {s : State} {m : MethodId} {args : Array Value} {below : List Frame} {meth : Method} {c : Code} (C : mC w p s m meth c args cJ7_fill_53178 4 RJ7 none) (hR : 0 ≤ R.frames ∧ 0 ≤ R.locals) {hl : MemL} (k : Nat) (kn : Nat) (hk : isIA w k kn) (Qp : Mem → Prop) : ∀ (n : Nat) (h : Mem) (v1 : Int32) (v2 : Int32) (v3 : Int32) (H : Heap) (locs : List Loc) (ls : Array Slot), mD w h hl s H locs → lv_has ls 4 [(0, .ref (wad w k)), (1, .int v1), (2, .int v2), (3, .int v3)] → b_J7_fill_5 n h k kn v1 v2 v3 Qp → W p l e R s m args below meth c H locs 0 0 (MQ below (mQv w (fun h1 hl1 => hl = hl1 ∧ Qp h1)) args s 0 0 (wA w)) (F0 m 5 ls []) := by
  have hx := C.x
  have hb := C.b
  intro n
  induction n with
  | zero => intro h v1 v2 v3 H locs ls Dy lv hwp; exact hwp.elim
  | succ n ih =>
    intro h v1 v2 v3 H locs ls Dy lv hwp
    simp only [b_J7_fill_5] at hwp
    refine lv_iload_n hx hb dJ7_fill_53178_5 rfl (lv_at lv 2 rfl) ?_
    refine lv_iload_n hx hb dJ7_fill_53178_6 rfl (lv_at lv 3 rfl) ?_
    refine lv_icmp_ge (tgt := 20) hx hb dJ7_fill_53178_7 (by decide) (fun c1 => ?_) (fun c1 => ?_)
    · have hwp := hwp.1 c1
      exact x_vret C Dy ⟨rfl, hwp⟩ dJ7_fill_53178_20
    · have hwp := hwp.2 c1
      refine lv_aload_n hx hb dJ7_fill_53178_10 rfl (lv_at lv 0 rfl) ?_
      refine lv_iload_n hx hb dJ7_fill_53178_11 rfl (lv_at lv 2 rfl) ?_
      refine lv_iload_n hx hb dJ7_fill_53178_12 rfl (lv_at lv 1 rfl) ?_
      obtain ⟨g2, hwp⟩ := hwp
      refine x_iast C Dy hk g2 dJ7_fill_53178_13 (fun H locs Dy => ?_)
      refine lv_iinc (v := (v2 + (1 : Int32))) (lv' := [(2, .int (v2 + (1 : Int32))), (0, .ref (wad w k)), (1, .int v1), (3, .int v3)]) hx hb dJ7_fill_53178_14 lv (k := 2) rfl rfl (by decide) rfl (fun ls lv => ?_)
      refine lv_goto (tgt := 5) hx hb dJ7_fill_53178_17 (by decide) ?_
      exact ih (up2 h k v2.toNatClampNeg v1) v1 (v2 + (1 : Int32)) v3 _ _ _ Dy (lv_sub lv [1, 2, 0, 3] rfl) hwp
set_option maxHeartbeats 4000000 in
set_option maxRecDepth 100000 in
theorem m_J7_fill (w : Wd) (l : Launch) (h : Mem) (hl : MemL) (k : Nat) (kn : Nat) (hk : isIA w k kn) (v1 : Int32) (Qp : Mem → Prop) (hwp : p_J7_fill h k kn v1 Qp) : Met l yJ7_fill_53178 (wsU yJ7_fill_53178 cJ7_fill_53178 4 none) ({ frames := 0, cells := 0, slots := 0, locals := 0 } : Room) (mPc w [.ref (wad w k), .int v1] h hl) (mQv w (fun h1 hl1 => hl = hl1 ∧ Qp h1)) 0 0 (wA w) := by
  refine x_met RJ7 [(0, .ref (wad w k)), (1, .int v1)] (by decide) rfl (Nat.le_of_ble_eq_true rfl) rfl ?_
  intro p e s m args below meth c ls C Dy lv
  have hx := C.x
  have hb := C.b
  have hR : 0 ≤ ({ frames := 0, cells := 0, slots := 0, locals := 0 } : Room).frames ∧ 0 ≤ ({ frames := 0, cells := 0, slots := 0, locals := 0 } : Room).locals := ⟨Nat.le_refl _, Nat.le_refl _⟩
  unfold p_J7_fill at hwp
  refine lv_iconst (v := (0 : Int32)) hx hb dJ7_fill_53178_0 (by decide) ?_
  refine lv_istore_n (lv' := [(2, .int (0 : Int32)), (0, .ref (wad w k)), (1, .int v1)]) hx hb dJ7_fill_53178_1 rfl lv (by decide) rfl (fun ls lv => ?_)
  refine lv_aload_n hx hb dJ7_fill_53178_2 rfl (lv_at lv 1 rfl) ?_
  refine x_alen C Dy hk rfl dJ7_fill_53178_3 ?_
  refine lv_istore_n (lv' := [(3, .int (Int32.ofNat kn)), (2, .int (0 : Int32)), (0, .ref (wad w k)), (1, .int v1)]) hx hb dJ7_fill_53178_4 rfl lv (by decide) rfl (fun ls lv => ?_)
  obtain ⟨n0, hwp⟩ := hwp
  exact t_J7_fill_5 w C hR k kn hk Qp n0 h v1 (0 : Int32) (Int32.ofNat kn) _ _ _ Dy (lv_sub lv [2, 3, 1, 0] rfl) hwp
def p_X7_part (h : Mem) (k : Nat) (v1 : Int32) (v2 : Int32) (Qp : Int32 → Prop) : Prop := (vp_in ((v1 * (Int32.ofNat (lenL k))) + v2) (lenP k) ∧ Qp (h (k + 2) ((v1 * (Int32.ofNat (lenL k))) + v2).toNatClampNeg))
set_option maxHeartbeats 4000000 in
set_option maxRecDepth 100000 in
theorem m_X7_part (E : xE) (l : Launch) (h : Mem) (hl : MemL) (k : Nat) (hk : isSC k) (v1 : Int32) (v2 : Int32) (Qp : Int32 → Prop) (hwp : p_X7_part h k v1 v2 Qp) : Met l yX7_part (wsU yX7_part cX7_part 3 (some .int)) ({ frames := 0, cells := 0, slots := 0, locals := 0 } : Room) (mPc (wdX E) [.ref (wad (wdX E) k), .int v1, .int v2] h hl) (mQi (wdX E) (fun r h1 hl1 => h = h1 ∧ hl = hl1 ∧ Qp r)) 0 0 (wA (wdX E)) := by
  refine x_met RX7 [(0, .ref (wad (wdX E) k)), (1, .int v1), (2, .int v2)] (by decide) rfl (Nat.le_of_ble_eq_true rfl) rfl ?_
  intro p e s m args below meth c ls C Dy lv
  have hx := C.x
  have hb := C.b
  have hR : 0 ≤ ({ frames := 0, cells := 0, slots := 0, locals := 0 } : Room).frames ∧ 0 ≤ ({ frames := 0, cells := 0, slots := 0, locals := 0 } : Room).locals := ⟨Nat.le_refl _, Nat.le_refl _⟩
  unfold p_X7_part at hwp
  refine lv_aload_n hx hb dX7_part_0 rfl (lv_at lv 0 rfl) ?_
  refine gf_X7_37_SC hk C Dy dX7_part_1 ?_
  refine lv_iload_n hx hb dX7_part_4 rfl (lv_at lv 1 rfl) ?_
  refine lv_aload_n hx hb dX7_part_5 rfl (lv_at lv 0 rfl) ?_
  refine gf_X7_21_SC hk C Dy dX7_part_6 ?_
  refine x_tlen C Dy (tab_Le hk) rfl dX7_part_9 ?_
  refine lv_imul hx hb dX7_part_10 ?_
  refine lv_iload_n hx hb dX7_part_11 rfl (lv_at lv 2 rfl) ?_
  refine lv_iadd hx hb dX7_part_12 ?_
  obtain ⟨g1, hwp⟩ := hwp
  refine x_iald C Dy (ia_SCp hk) g1 dX7_part_13 ?_
  exact x_iret C Dy ⟨rfl, rfl, hwp⟩ dX7_part_14
def b_X0_layLaw_122 (h : Mem) (v1 : Int32) (k2 : Nat) (v3 : Int32) (v5 : Int32) (w0 : Int32) (K44 : Mem → Int32 → Nat → Int32 → Int32 → Int32 → Prop) (Qp : Mem → Prop) : Prop := K44 h v1 k2 v3 w0 (v5 + (1 : Int32))
def b_X0_layLaw_44 : Nat → Mem → Int32 → Nat → Int32 → Int32 → Int32 → (Mem → Prop) → Prop
  | 0 => fun _ _ _ _ _ _ _ => False
  | n + 1 => fun h v1 k2 v3 v4 v5 Qp => (((24 : Int32) ≤ v5 → Qp h) ∧ (¬ ((24 : Int32) ≤ v5) → (vp_in v1 12 ∧ (vp_in v1 12 ∧ (vp_in v4 24 ∧ (vp_in v4 24 ∧ (∀ h9 : Mem, h9 = (up2 (up2 h 13 v1.toNatClampNeg ((h 13 v1.toNatClampNeg) ||| ((1 : Int32) <<< (v4 &&& 31)))) 19 v4.toNatClampNeg (((up2 h 13 v1.toNatClampNeg ((h 13 v1.toNatClampNeg) ||| ((1 : Int32) <<< (v4 &&& 31)))) 19 v4.toNatClampNeg) ||| v3)) → (vp_in v1 12 ∧ (vp_in ((v4 * (6 : Int32)) + (h9 9 v1.toNatClampNeg)) 144 ∧ (vp_in ((v4 * (6 : Int32)) + (h9 9 v1.toNatClampNeg)) 144 ∧ (∀ h13 : Mem, h13 = (up2 h9 k2 ((v4 * (6 : Int32)) + (h9 9 v1.toNatClampNeg)).toNatClampNeg ((h9 k2 ((v4 * (6 : Int32)) + (h9 9 v1.toNatClampNeg)).toNatClampNeg) ||| v3)) → (vp_in v1 12 ∧ ((v4 = (h13 11 v1.toNatClampNeg) → Qp h13) ∧ (¬ (v4 = (h13 11 v1.toNatClampNeg)) → b_X0_layLaw_122 h13 v1 k2 v3 v5 (if v4 = (23 : Int32) then (0 : Int32) else (v4 + (1 : Int32))) (fun h v1 k2 v3 v4 v5 => b_X0_layLaw_44 n h v1 k2 v3 v4 v5 Qp) Qp))))))))))))))
def b_X0_layLaw_21 (h : Mem) (v1 : Int32) (q0 : Nat) (Qp : Mem → Prop) : Prop := (∀ x1 : Int32, x1 = ((1 : Int32) <<< (v1 &&& 31)) → (vp_in v1 12 ∧ (vp_in v1 12 ∧ (∃ n44, b_X0_layLaw_44 n44 (up2 h 13 v1.toNatClampNeg (0 : Int32)) v1 q0 x1 (h 10 v1.toNatClampNeg) (0 : Int32) Qp))))
def p_X0_layLaw (h : Mem) (v1 : Int32) (Qp : Mem → Prop) : Prop := (vp_in v1 12 ∧ b_X0_layLaw_21 h v1 (if (h 8 v1.toNatClampNeg) = (1 : Int32) then 16 else 17) Qp)
set_option maxHeartbeats 4000000 in
set_option maxRecDepth 100000 in
theorem t_X0_layLaw_122 (E : xE) {p : Program} {l : Launch} {e : Env} {R : Room} {s : State} {m : MethodId} {args : Array Value} {below : List Frame} {meth : Method} {c : Code} (C : mC (wdX E) p s m meth c args cX0_layLaw 6 RX0 none) (hR : 0 ≤ R.frames ∧ 0 ≤ R.locals) {hl : MemL} (Qp : Mem → Prop) (K44 : Mem → Int32 → Nat → Int32 → Int32 → Int32 → Prop) (hK44 : ∀ (h : Mem) (v1 : Int32) (k2 : Nat) (v3 : Int32) (v4 : Int32) (v5 : Int32) (H : Heap) (locs : List Loc) (ls : Array Slot) (hk2 : isOB k2), mD (wdX E) h hl s H locs → lv_has ls 6 [(0, .ref (wad (wdX E) 7)), (1, .int v1), (2, .ref (wad (wdX E) k2)), (3, .int v3), (4, .int v4), (5, .int v5)] → K44 h v1 k2 v3 v4 v5 → W p l e R s m args below meth c H locs 0 0 (MQ below (mQv (wdX E) (fun h1 hl1 => hl = hl1 ∧ Qp h1)) args s 0 0 (wA (wdX E))) (F0 m 44 ls [])) : ∀ (h : Mem) (v1 : Int32) (k2 : Nat) (v3 : Int32) (v5 : Int32) (w0 : Int32) (H : Heap) (locs : List Loc) (ls : Array Slot) (hk2 : isOB k2), mD (wdX E) h hl s H locs → lv_has ls 6 [(0, .ref (wad (wdX E) 7)), (1, .int v1), (2, .ref (wad (wdX E) k2)), (3, .int v3), (5, .int v5)] → b_X0_layLaw_122 h v1 k2 v3 v5 w0 K44 Qp → W p l e R s m args below meth c H locs 0 0 (MQ below (mQv (wdX E) (fun h1 hl1 => hl = hl1 ∧ Qp h1)) args s 0 0 (wA (wdX E))) (F0 m 122 ls [.int w0]) := by
  have hx := C.x
  have hb := C.b
  intro h v1 k2 v3 v5 w0 H locs ls hk2 Dy lv hwp
  unfold b_X0_layLaw_122 at hwp
  refine lv_istore (lv' := [(4, .int w0), (0, .ref (wad (wdX E) 7)), (1, .int v1), (2, .ref (wad (wdX E) k2)), (3, .int v3), (5, .int v5)]) hx hb dX0_layLaw_122 lv (by decide) rfl (fun ls lv => ?_)
  refine lv_iinc (v := (v5 + (1 : Int32))) (lv' := [(5, .int (v5 + (1 : Int32))), (4, .int w0), (0, .ref (wad (wdX E) 7)), (1, .int v1), (2, .ref (wad (wdX E) k2)), (3, .int v3)]) hx hb dX0_layLaw_124 lv (k := 5) rfl rfl (by decide) rfl (fun ls lv => ?_)
  refine lv_goto (tgt := 44) hx hb dX0_layLaw_127 (by decide) ?_
  exact hK44 h v1 k2 v3 w0 (v5 + (1 : Int32)) _ _ _ hk2 Dy (lv_sub lv [2, 3, 4, 5, 1, 0] rfl) hwp
set_option maxHeartbeats 4000000 in
set_option maxRecDepth 100000 in
theorem t_X0_layLaw_44 (E : xE) {p : Program} {l : Launch} {e : Env} {R : Room} {s : State} {m : MethodId} {args : Array Value} {below : List Frame} {meth : Method} {c : Code} (C : mC (wdX E) p s m meth c args cX0_layLaw 6 RX0 none) (hR : 0 ≤ R.frames ∧ 0 ≤ R.locals) {hl : MemL} (Qp : Mem → Prop) : ∀ (n : Nat) (h : Mem) (v1 : Int32) (k2 : Nat) (v3 : Int32) (v4 : Int32) (v5 : Int32) (H : Heap) (locs : List Loc) (ls : Array Slot) (hk2 : isOB k2), mD (wdX E) h hl s H locs → lv_has ls 6 [(0, .ref (wad (wdX E) 7)), (1, .int v1), (2, .ref (wad (wdX E) k2)), (3, .int v3), (4, .int v4), (5, .int v5)] → b_X0_layLaw_44 n h v1 k2 v3 v4 v5 Qp → W p l e R s m args below meth c H locs 0 0 (MQ below (mQv (wdX E) (fun h1 hl1 => hl = hl1 ∧ Qp h1)) args s 0 0 (wA (wdX E))) (F0 m 44 ls []) := by
  have hx := C.x
  have hb := C.b
  intro n
  induction n with
  | zero => intro h v1 k2 v3 v4 v5 H locs ls hk2 Dy lv hwp; exact hwp.elim
  | succ n ih =>
    intro h v1 k2 v3 v4 v5 H locs ls hk2 Dy lv hwp
    simp only [b_X0_layLaw_44] at hwp
    refine lv_iload hx hb dX0_layLaw_44 (lv_at lv 5 rfl) ?_
    refine lv_bipush (v := (24 : Int32)) hx hb dX0_layLaw_46 (by decide) ?_
    refine lv_icmp_ge (tgt := 130) hx hb dX0_layLaw_48 (by decide) (fun c4 => ?_) (fun c4 => ?_)
    · have hwp := hwp.1 c4
      exact x_vret C Dy ⟨rfl, hwp⟩ dX0_layLaw_130
    · have hwp := hwp.2 c4
      refine lv_aload_n hx hb dX0_layLaw_51 rfl (lv_at lv 0 rfl) ?_
      refine gf_X0_31_7 C Dy dX0_layLaw_52 ?_
      refine lv_iload_n hx hb dX0_layLaw_55 rfl (lv_at lv 1 rfl) ?_
      refine lv_dup2_11 hx hb dX0_layLaw_56 rfl rfl ?_
      obtain ⟨g5, hwp⟩ := hwp
      refine x_iald C Dy wxa_13 g5 dX0_layLaw_57 ?_
      refine lv_iconst (v := (1 : Int32)) hx hb dX0_layLaw_58 (by decide) ?_
      refine lv_iload hx hb dX0_layLaw_59 (lv_at lv 4 rfl) ?_
      refine lv_ishl hx hb dX0_layLaw_61 ?_
      refine lv_ior hx hb dX0_layLaw_62 ?_
      obtain ⟨g6, hwp⟩ := hwp
      refine x_iast C Dy wxa_13 g6 dX0_layLaw_63 (fun H locs Dy => ?_)
      refine lv_aload_n hx hb dX0_layLaw_64 rfl (lv_at lv 0 rfl) ?_
      refine gf_X0_49_7 C Dy dX0_layLaw_65 ?_
      refine lv_iload hx hb dX0_layLaw_68 (lv_at lv 4 rfl) ?_
      refine lv_dup2_11 hx hb dX0_layLaw_70 rfl rfl ?_
      obtain ⟨g7, hwp⟩ := hwp
      refine x_iald C Dy wxa_19 g7 dX0_layLaw_71 ?_
      refine lv_iload_n hx hb dX0_layLaw_72 rfl (lv_at lv 3 rfl) ?_
      refine lv_ior hx hb dX0_layLaw_73 ?_
      obtain ⟨g8, hwp⟩ := hwp
      refine x_iast C Dy wxa_19 g8 dX0_layLaw_74 (fun H locs Dy => ?_)
      obtain ⟨h9, eh9⟩ : ∃ z : Mem, z = (up2 (up2 h 13 v1.toNatClampNeg ((h 13 v1.toNatClampNeg) ||| ((1 : Int32) <<< (v4 &&& 31)))) 19 v4.toNatClampNeg (((up2 h 13 v1.toNatClampNeg ((h 13 v1.toNatClampNeg) ||| ((1 : Int32) <<< (v4 &&& 31)))) 19 v4.toNatClampNeg) ||| v3)) := ⟨_, rfl⟩
      rw [← eh9] at Dy
      have hwp := hwp h9 eh9
      refine lv_aload_n hx hb dX0_layLaw_75 rfl (lv_at lv 2 rfl) ?_
      refine lv_iload hx hb dX0_layLaw_76 (lv_at lv 4 rfl) ?_
      refine lv_bipush (v := (6 : Int32)) hx hb dX0_layLaw_78 (by decide) ?_
      refine lv_imul hx hb dX0_layLaw_80 ?_
      refine lv_aload_n hx hb dX0_layLaw_81 rfl (lv_at lv 0 rfl) ?_
      refine gf_X0_19_7 C Dy dX0_layLaw_82 ?_
      refine lv_iload_n hx hb dX0_layLaw_85 rfl (lv_at lv 1 rfl) ?_
      obtain ⟨g10, hwp⟩ := hwp
      refine x_iald C Dy wxa_9 g10 dX0_layLaw_86 ?_
      refine lv_iadd hx hb dX0_layLaw_87 ?_
      refine lv_dup2_11 hx hb dX0_layLaw_88 rfl rfl ?_
      obtain ⟨g11, hwp⟩ := hwp
      refine x_iald C Dy (ia_OB hk2) g11 dX0_layLaw_89 ?_
      refine lv_iload_n hx hb dX0_layLaw_90 rfl (lv_at lv 3 rfl) ?_
      refine lv_ior hx hb dX0_layLaw_91 ?_
      obtain ⟨g12, hwp⟩ := hwp
      refine x_iast C Dy (ia_OB hk2) g12 dX0_layLaw_92 (fun H locs Dy => ?_)
      obtain ⟨h13, eh13⟩ : ∃ z : Mem, z = (up2 h9 k2 ((v4 * (6 : Int32)) + (h9 9 v1.toNatClampNeg)).toNatClampNeg ((h9 k2 ((v4 * (6 : Int32)) + (h9 9 v1.toNatClampNeg)).toNatClampNeg) ||| v3)) := ⟨_, rfl⟩
      rw [← eh13] at Dy
      have hwp := hwp h13 eh13
      refine lv_iload hx hb dX0_layLaw_93 (lv_at lv 4 rfl) ?_
      refine lv_aload_n hx hb dX0_layLaw_95 rfl (lv_at lv 0 rfl) ?_
      refine gf_X0_25_7 C Dy dX0_layLaw_96 ?_
      refine lv_iload_n hx hb dX0_layLaw_99 rfl (lv_at lv 1 rfl) ?_
      obtain ⟨g14, hwp⟩ := hwp
      refine x_iald C Dy wxa_11 g14 dX0_layLaw_100 ?_
      refine lv_icmp_ne (tgt := 107) hx hb dX0_layLaw_101 (by decide) (fun c15 => ?_) (fun c15 => ?_)
      · have hwp := hwp.2 c15
        refine lv_iload hx hb dX0_layLaw_107 (lv_at lv 4 rfl) ?_
        refine lv_bipush (v := (23 : Int32)) hx hb dX0_layLaw_109 (by decide) ?_
        refine lv_icmp_ne (tgt := 118) hx hb dX0_layLaw_111 (by decide) (fun c16 => ?_) (fun c16 => ?_)
        · try simp only [if_neg c16] at hwp
          refine lv_iload hx hb dX0_layLaw_118 (lv_at lv 4 rfl) ?_
          refine lv_iconst (v := (1 : Int32)) hx hb dX0_layLaw_120 (by decide) ?_
          refine lv_iadd hx hb dX0_layLaw_121 ?_
          exact t_X0_layLaw_122 E C hR Qp (fun h v1 k2 v3 v4 v5 => b_X0_layLaw_44 n h v1 k2 v3 v4 v5 Qp) (fun h v1 k2 v3 v4 v5 H locs ls hk2 Dy lv hwp => ih h v1 k2 v3 v4 v5 H locs ls hk2 Dy lv hwp) h13 v1 k2 v3 v5 (v4 + (1 : Int32)) _ _ _ hk2 Dy (lv_sub lv [0, 1, 2, 3, 5] rfl) hwp
        · try simp only [if_pos c16] at hwp
          refine lv_iconst (v := (0 : Int32)) hx hb dX0_layLaw_114 (by decide) ?_
          refine lv_goto (tgt := 122) hx hb dX0_layLaw_115 (by decide) ?_
          exact t_X0_layLaw_122 E C hR Qp (fun h v1 k2 v3 v4 v5 => b_X0_layLaw_44 n h v1 k2 v3 v4 v5 Qp) (fun h v1 k2 v3 v4 v5 H locs ls hk2 Dy lv hwp => ih h v1 k2 v3 v4 v5 H locs ls hk2 Dy lv hwp) h13 v1 k2 v3 v5 (0 : Int32) _ _ _ hk2 Dy (lv_sub lv [0, 1, 2, 3, 5] rfl) hwp
      · have hwp := hwp.1 c15
        refine lv_goto (tgt := 130) hx hb dX0_layLaw_104 (by decide) ?_
        exact x_vret C Dy ⟨rfl, hwp⟩ dX0_layLaw_130
set_option maxHeartbeats 4000000 in
set_option maxRecDepth 100000 in
theorem t_X0_layLaw_21 (E : xE) {p : Program} {l : Launch} {e : Env} {R : Room} {s : State} {m : MethodId} {args : Array Value} {below : List Frame} {meth : Method} {c : Code} (C : mC (wdX E) p s m meth c args cX0_layLaw 6 RX0 none) (hR : 0 ≤ R.frames ∧ 0 ≤ R.locals) {hl : MemL} (Qp : Mem → Prop) : ∀ (h : Mem) (v1 : Int32) (q0 : Nat) (H : Heap) (locs : List Loc) (ls : Array Slot) (hq0 : isOB q0), mD (wdX E) h hl s H locs → lv_has ls 6 [(0, .ref (wad (wdX E) 7)), (1, .int v1)] → b_X0_layLaw_21 h v1 q0 Qp → W p l e R s m args below meth c H locs 0 0 (MQ below (mQv (wdX E) (fun h1 hl1 => hl = hl1 ∧ Qp h1)) args s 0 0 (wA (wdX E))) (F0 m 21 ls [.ref (wad (wdX E) q0)]) := by
  have hx := C.x
  have hb := C.b
  intro h v1 q0 H locs ls hq0 Dy lv hwp
  unfold b_X0_layLaw_21 at hwp
  refine lv_astore_n (lv' := [(2, .ref (wad (wdX E) q0)), (0, .ref (wad (wdX E) 7)), (1, .int v1)]) hx hb dX0_layLaw_21 rfl lv (by decide) rfl (fun ls lv => ?_)
  refine lv_iconst (v := (1 : Int32)) hx hb dX0_layLaw_22 (by decide) ?_
  refine lv_iload_n hx hb dX0_layLaw_23 rfl (lv_at lv 2 rfl) ?_
  refine lv_ishl hx hb dX0_layLaw_24 ?_
  refine lv_topi (fun x1 ex1 => ?_)
  have hwp := hwp x1 ex1
  refine lv_istore_n (lv' := [(3, .int x1), (2, .ref (wad (wdX E) q0)), (0, .ref (wad (wdX E) 7)), (1, .int v1)]) hx hb dX0_layLaw_25 rfl lv (by decide) rfl (fun ls lv => ?_)
  refine lv_aload_n hx hb dX0_layLaw_26 rfl (lv_at lv 2 rfl) ?_
  refine gf_X0_22_7 C Dy dX0_layLaw_27 ?_
  refine lv_iload_n hx hb dX0_layLaw_30 rfl (lv_at lv 3 rfl) ?_
  obtain ⟨g2, hwp⟩ := hwp
  refine x_iald C Dy wxa_10 g2 dX0_layLaw_31 ?_
  refine lv_istore (lv' := [(4, .int (h 10 v1.toNatClampNeg)), (3, .int x1), (2, .ref (wad (wdX E) q0)), (0, .ref (wad (wdX E) 7)), (1, .int v1)]) hx hb dX0_layLaw_32 lv (by decide) rfl (fun ls lv => ?_)
  refine lv_aload_n hx hb dX0_layLaw_34 rfl (lv_at lv 3 rfl) ?_
  refine gf_X0_31_7 C Dy dX0_layLaw_35 ?_
  refine lv_iload_n hx hb dX0_layLaw_38 rfl (lv_at lv 4 rfl) ?_
  refine lv_iconst (v := (0 : Int32)) hx hb dX0_layLaw_39 (by decide) ?_
  obtain ⟨g3, hwp⟩ := hwp
  refine x_iast C Dy wxa_13 g3 dX0_layLaw_40 (fun H locs Dy => ?_)
  refine lv_iconst (v := (0 : Int32)) hx hb dX0_layLaw_41 (by decide) ?_
  refine lv_istore (lv' := [(5, .int (0 : Int32)), (4, .int (h 10 v1.toNatClampNeg)), (3, .int x1), (2, .ref (wad (wdX E) q0)), (0, .ref (wad (wdX E) 7)), (1, .int v1)]) hx hb dX0_layLaw_42 lv (by decide) rfl (fun ls lv => ?_)
  obtain ⟨n0, hwp⟩ := hwp
  exact t_X0_layLaw_44 E C hR Qp n0 (up2 h 13 v1.toNatClampNeg (0 : Int32)) v1 q0 x1 (h 10 v1.toNatClampNeg) (0 : Int32) _ _ _ hq0 Dy (lv_sub lv [4, 5, 3, 2, 1, 0] rfl) hwp
set_option maxHeartbeats 4000000 in
set_option maxRecDepth 100000 in
theorem m_X0_layLaw (E : xE) (l : Launch) (h : Mem) (hl : MemL) (v1 : Int32) (Qp : Mem → Prop) (hwp : p_X0_layLaw h v1 Qp) : Met l yX0_layLaw (wsU yX0_layLaw cX0_layLaw 6 none) ({ frames := 0, cells := 0, slots := 0, locals := 0 } : Room) (mPc (wdX E) [.ref (wad (wdX E) 7), .int v1] h hl) (mQv (wdX E) (fun h1 hl1 => hl = hl1 ∧ Qp h1)) 0 0 (wA (wdX E)) := by
  refine x_met RX0 [(0, .ref (wad (wdX E) 7)), (1, .int v1)] (by decide) rfl (Nat.le_of_ble_eq_true rfl) rfl ?_
  intro p e s m args below meth c ls C Dy lv
  have hx := C.x
  have hb := C.b
  have hR : 0 ≤ ({ frames := 0, cells := 0, slots := 0, locals := 0 } : Room).frames ∧ 0 ≤ ({ frames := 0, cells := 0, slots := 0, locals := 0 } : Room).locals := ⟨Nat.le_refl _, Nat.le_refl _⟩
  unfold p_X0_layLaw at hwp
  refine lv_aload_n hx hb dX0_layLaw_0 rfl (lv_at lv 0 rfl) ?_
  refine gf_X0_15_7 C Dy dX0_layLaw_1 ?_
  refine lv_iload_n hx hb dX0_layLaw_4 rfl (lv_at lv 1 rfl) ?_
  obtain ⟨g17, hwp⟩ := hwp
  refine x_iald C Dy wxa_8 g17 dX0_layLaw_5 ?_
  refine lv_iconst (v := (1 : Int32)) hx hb dX0_layLaw_6 (by decide) ?_
  refine lv_icmp_ne (tgt := 17) hx hb dX0_layLaw_7 (by decide) (fun c18 => ?_) (fun c18 => ?_)
  · try simp only [if_neg c18] at hwp
    refine lv_aload_n hx hb dX0_layLaw_17 rfl (lv_at lv 0 rfl) ?_
    refine gf_X0_43_7 C Dy dX0_layLaw_18 ?_
    exact t_X0_layLaw_21 E C hR Qp h v1 17 _ _ _ (Or.inr rfl) Dy (lv_sub lv [0, 1] rfl) hwp
  · try simp only [if_pos c18] at hwp
    refine lv_aload_n hx hb dX0_layLaw_10 rfl (lv_at lv 0 rfl) ?_
    refine gf_X0_40_7 C Dy dX0_layLaw_11 ?_
    refine lv_goto (tgt := 21) hx hb dX0_layLaw_14 (by decide) ?_
    exact t_X0_layLaw_21 E C hR Qp h v1 16 _ _ _ (Or.inl rfl) Dy (lv_sub lv [0, 1] rfl) hwp
def b_X0_chainOf_7 : Nat → Mem → Int32 → Int32 → Int32 → (Int32 → Prop) → Prop
  | 0 => fun _ _ _ _ _ => False
  | n + 1 => fun h v2 v3 v4 Qp => (((12 : Int32) ≤ v4 → Qp (4096 : Int32)) ∧ (¬ ((12 : Int32) ≤ v4) → (∀ x2 : Int32, x2 = (v2 ||| ((1 : Int32) <<< (v3 &&& 31))) → (vp_in v3 12 ∧ (((h 12 v3.toNatClampNeg) = (-1 : Int32) → Qp x2) ∧ (¬ ((h 12 v3.toNatClampNeg) = (-1 : Int32)) → (vp_in v3 12 ∧ (((h 12 v3.toNatClampNeg) < (h 7 0) → b_X0_chainOf_7 n h x2 (h 12 v3.toNatClampNeg) (v4 + (1 : Int32)) Qp) ∧ (¬ ((h 12 v3.toNatClampNeg) < (h 7 0)) → Qp (4096 : Int32))))))))))
def p_X0_chainOf (h : Mem) (v1 : Int32) (Qp : Int32 → Prop) : Prop := (∃ n7, b_X0_chainOf_7 n7 h (0 : Int32) v1 (0 : Int32) Qp)
set_option maxHeartbeats 4000000 in
set_option maxRecDepth 100000 in
theorem t_X0_chainOf_7 (E : xE) {p : Program} {l : Launch} {e : Env} {R : Room} {s : State} {m : MethodId} {args : Array Value} {below : List Frame} {meth : Method} {c : Code} (C : mC (wdX E) p s m meth c args cX0_chainOf 5 RX0 (some .int)) (hR : 0 ≤ R.frames ∧ 0 ≤ R.locals) {h : Mem} {hl : MemL} (Qp : Int32 → Prop) : ∀ (n : Nat) (v2 : Int32) (v3 : Int32) (v4 : Int32) (H : Heap) (locs : List Loc) (ls : Array Slot), mD (wdX E) h hl s H locs → lv_has ls 5 [(0, .ref (wad (wdX E) 7)), (2, .int v2), (3, .int v3), (4, .int v4)] → b_X0_chainOf_7 n h v2 v3 v4 Qp → W p l e R s m args below meth c H locs 0 0 (MQ below (mQi (wdX E) (fun r h1 hl1 => h = h1 ∧ hl = hl1 ∧ Qp r)) args s 0 0 (wA (wdX E))) (F0 m 7 ls []) := by
  have hx := C.x
  have hb := C.b
  intro n
  induction n with
  | zero => intro v2 v3 v4 H locs ls Dy lv hwp; exact hwp.elim
  | succ n ih =>
    intro v2 v3 v4 H locs ls Dy lv hwp
    simp only [b_X0_chainOf_7] at hwp
    refine lv_iload hx hb dX0_chainOf_7 (lv_at lv 3 rfl) ?_
    refine lv_bipush (v := (12 : Int32)) hx hb dX0_chainOf_9 (by decide) ?_
    refine lv_icmp_ge (tgt := 57) hx hb dX0_chainOf_11 (by decide) (fun c1 => ?_) (fun c1 => ?_)
    · have hwp := hwp.1 c1
      refine lv_sipush (v := (4096 : Int32)) hx hb dX0_chainOf_57 (by decide) ?_
      exact x_iret C Dy ⟨rfl, rfl, hwp⟩ dX0_chainOf_60
    · have hwp := hwp.2 c1
      refine lv_iload_n hx hb dX0_chainOf_14 rfl (lv_at lv 1 rfl) ?_
      refine lv_iconst (v := (1 : Int32)) hx hb dX0_chainOf_15 (by decide) ?_
      refine lv_iload_n hx hb dX0_chainOf_16 rfl (lv_at lv 2 rfl) ?_
      refine lv_ishl hx hb dX0_chainOf_17 ?_
      refine lv_ior hx hb dX0_chainOf_18 ?_
      refine lv_topi (fun x2 ex2 => ?_)
      have hwp := hwp x2 ex2
      refine lv_istore_n (lv' := [(2, .int x2), (0, .ref (wad (wdX E) 7)), (3, .int v3), (4, .int v4)]) hx hb dX0_chainOf_19 rfl lv (by decide) rfl (fun ls lv => ?_)
      refine lv_aload_n hx hb dX0_chainOf_20 rfl (lv_at lv 1 rfl) ?_
      refine gf_X0_28_7 C Dy dX0_chainOf_21 ?_
      refine lv_iload_n hx hb dX0_chainOf_24 rfl (lv_at lv 2 rfl) ?_
      obtain ⟨g3, hwp⟩ := hwp
      refine x_iald C Dy wxa_12 g3 dX0_chainOf_25 ?_
      refine lv_iconst (v := (-1 : Int32)) hx hb dX0_chainOf_26 (by decide) ?_
      refine lv_icmp_ne (tgt := 32) hx hb dX0_chainOf_27 (by decide) (fun c4 => ?_) (fun c4 => ?_)
      · have hwp := hwp.2 c4
        refine lv_aload_n hx hb dX0_chainOf_32 rfl (lv_at lv 1 rfl) ?_
        refine gf_X0_28_7 C Dy dX0_chainOf_33 ?_
        refine lv_iload_n hx hb dX0_chainOf_36 rfl (lv_at lv 2 rfl) ?_
        obtain ⟨g5, hwp⟩ := hwp
        refine x_iald C Dy wxa_12 g5 dX0_chainOf_37 ?_
        refine lv_istore_n (lv' := [(3, .int (h 12 v3.toNatClampNeg)), (2, .int x2), (0, .ref (wad (wdX E) 7)), (4, .int v4)]) hx hb dX0_chainOf_38 rfl lv (by decide) rfl (fun ls lv => ?_)
        refine lv_iload_n hx hb dX0_chainOf_39 rfl (lv_at lv 0 rfl) ?_
        refine lv_aload_n hx hb dX0_chainOf_40 rfl (lv_at lv 2 rfl) ?_
        refine gf_X0_9_7 C Dy dX0_chainOf_41 ?_
        refine lv_icmp_lt (tgt := 51) hx hb dX0_chainOf_44 (by decide) (fun c6 => ?_) (fun c6 => ?_)
        · have hwp := hwp.1 c6
          refine lv_iinc (v := (v4 + (1 : Int32))) (lv' := [(4, .int (v4 + (1 : Int32))), (3, .int (h 12 v3.toNatClampNeg)), (2, .int x2), (0, .ref (wad (wdX E) 7))]) hx hb dX0_chainOf_51 lv (k := 3) rfl rfl (by decide) rfl (fun ls lv => ?_)
          refine lv_goto (tgt := 7) hx hb dX0_chainOf_54 (by decide) ?_
          exact ih x2 (h 12 v3.toNatClampNeg) (v4 + (1 : Int32)) _ _ _ Dy (lv_sub lv [3, 2, 1, 0] rfl) hwp
        · have hwp := hwp.2 c6
          refine lv_sipush (v := (4096 : Int32)) hx hb dX0_chainOf_47 (by decide) ?_
          exact x_iret C Dy ⟨rfl, rfl, hwp⟩ dX0_chainOf_50
      · have hwp := hwp.1 c4
        refine lv_iload_n hx hb dX0_chainOf_30 rfl (lv_at lv 0 rfl) ?_
        exact x_iret C Dy ⟨rfl, rfl, hwp⟩ dX0_chainOf_31
set_option maxHeartbeats 4000000 in
set_option maxRecDepth 100000 in
theorem m_X0_chainOf (E : xE) (l : Launch) (h : Mem) (hl : MemL) (v1 : Int32) (Qp : Int32 → Prop) (hwp : p_X0_chainOf h v1 Qp) : Met l yX0_chainOf (wsU yX0_chainOf cX0_chainOf 5 (some .int)) ({ frames := 0, cells := 0, slots := 0, locals := 0 } : Room) (mPc (wdX E) [.ref (wad (wdX E) 7), .int v1] h hl) (mQi (wdX E) (fun r h1 hl1 => h = h1 ∧ hl = hl1 ∧ Qp r)) 0 0 (wA (wdX E)) := by
  refine x_met RX0 [(0, .ref (wad (wdX E) 7)), (1, .int v1)] (by decide) rfl (Nat.le_of_ble_eq_true rfl) rfl ?_
  intro p e s m args below meth c ls C Dy lv
  have hx := C.x
  have hb := C.b
  have hR : 0 ≤ ({ frames := 0, cells := 0, slots := 0, locals := 0 } : Room).frames ∧ 0 ≤ ({ frames := 0, cells := 0, slots := 0, locals := 0 } : Room).locals := ⟨Nat.le_refl _, Nat.le_refl _⟩
  unfold p_X0_chainOf at hwp
  refine lv_iconst (v := (0 : Int32)) hx hb dX0_chainOf_0 (by decide) ?_
  refine lv_istore_n (lv' := [(2, .int (0 : Int32)), (0, .ref (wad (wdX E) 7)), (1, .int v1)]) hx hb dX0_chainOf_1 rfl lv (by decide) rfl (fun ls lv => ?_)
  refine lv_iload_n hx hb dX0_chainOf_2 rfl (lv_at lv 2 rfl) ?_
  refine lv_istore_n (lv' := [(3, .int v1), (2, .int (0 : Int32)), (0, .ref (wad (wdX E) 7)), (1, .int v1)]) hx hb dX0_chainOf_3 rfl lv (by decide) rfl (fun ls lv => ?_)
  refine lv_iconst (v := (0 : Int32)) hx hb dX0_chainOf_4 (by decide) ?_
  refine lv_istore (lv' := [(4, .int (0 : Int32)), (3, .int v1), (2, .int (0 : Int32)), (0, .ref (wad (wdX E) 7)), (1, .int v1)]) hx hb dX0_chainOf_5 lv (by decide) rfl (fun ls lv => ?_)
  obtain ⟨n0, hwp⟩ := hwp
  exact t_X0_chainOf_7 E C hR Qp n0 (0 : Int32) v1 (0 : Int32) _ _ _ Dy (lv_sub lv [3, 2, 1, 0] rfl) hwp
def b_X0_rivalsOf_105 (h : Mem) (v1 : Int32) (v2 : Int32) (v3 : Int32) (K4 : Int32 → Int32 → Int32 → Prop) (Qp : Int32 → Prop) : Prop := K4 v1 v2 (v3 + (1 : Int32))
def b_X0_rivalsOf_55 (h : Mem) (v1 : Int32) (v2 : Int32) (v3 : Int32) (v4 : Int32) (w0 : Int32) (K4 : Int32 → Int32 → Int32 → Prop) (Qp : Int32 → Prop) : Prop := (vp_in v1 12 ∧ (vp_in v3 12 ∧ (∀ x10 : Int32, x10 = ((h 8 v1.toNatClampNeg) + (h 8 v3.toNatClampNeg)) → b_X0_rivalsOf_105 h v1 (if v4 = 0 then v2 else (if x10 = (2 : Int32) then (if w0 = 0 then (v2 ||| ((1 : Int32) <<< (v3 &&& 31))) else (if x10 = (1 : Int32) then (if w0 = 0 then v2 else (v2 ||| ((1 : Int32) <<< (v3 &&& 31)))) else v2)) else (if x10 = (1 : Int32) then (if w0 = 0 then v2 else (v2 ||| ((1 : Int32) <<< (v3 &&& 31)))) else v2))) v3 K4 Qp)))
def b_X0_rivalsOf_33 (h : Mem) (v1 : Int32) (v2 : Int32) (v3 : Int32) (w0 : Int32) (K4 : Int32 → Int32 → Int32 → Prop) (Qp : Int32 → Prop) : Prop := (vp_in v1 12 ∧ (vp_in v3 12 ∧ b_X0_rivalsOf_55 h v1 v2 v3 w0 (if (h 9 v1.toNatClampNeg) = (h 9 v3.toNatClampNeg) then (1 : Int32) else (0 : Int32)) K4 Qp))
def b_X0_rivalsOf_4 : Nat → Mem → Int32 → Int32 → Int32 → (Int32 → Prop) → Prop
  | 0 => fun _ _ _ _ _ => False
  | n + 1 => fun h v1 v2 v3 Qp => (((h 7 0) ≤ v3 → Qp v2) ∧ (¬ ((h 7 0) ≤ v3) → (vp_in v1 12 ∧ (vp_in v3 12 ∧ b_X0_rivalsOf_33 h v1 v2 v3 (if ((h 13 v1.toNatClampNeg) &&& (h 13 v3.toNatClampNeg)) = 0 then (0 : Int32) else (1 : Int32)) (fun v1 v2 v3 => b_X0_rivalsOf_4 n h v1 v2 v3 Qp) Qp))))
def b_X0_rivalsOf_99 (h : Mem) (v1 : Int32) (v2 : Int32) (v3 : Int32) (K4 : Int32 → Int32 → Int32 → Prop) (Qp : Int32 → Prop) : Prop := (∀ x20 : Int32, x20 = (v2 ||| ((1 : Int32) <<< (v3 &&& 31))) → b_X0_rivalsOf_105 h v1 x20 v3 K4 Qp)
def b_X0_rivalsOf_88 (h : Mem) (v1 : Int32) (v2 : Int32) (v3 : Int32) (v5 : Int32) (v6 : Int32) (K4 : Int32 → Int32 → Int32 → Prop) (Qp : Int32 → Prop) : Prop := ((v6 = (1 : Int32) → ((v5 = 0 → b_X0_rivalsOf_105 h v1 v2 v3 K4 Qp) ∧ (¬ (v5 = 0) → b_X0_rivalsOf_99 h v1 v2 v3 K4 Qp))) ∧ (¬ (v6 = (1 : Int32)) → b_X0_rivalsOf_105 h v1 v2 v3 K4 Qp))
def p_X0_rivalsOf (h : Mem) (v1 : Int32) (Qp : Int32 → Prop) : Prop := (∃ n4, b_X0_rivalsOf_4 n4 h v1 (0 : Int32) (0 : Int32) Qp)
set_option maxHeartbeats 4000000 in
set_option maxRecDepth 100000 in
theorem t_X0_rivalsOf_105 (E : xE) {p : Program} {l : Launch} {e : Env} {R : Room} {s : State} {m : MethodId} {args : Array Value} {below : List Frame} {meth : Method} {c : Code} (C : mC (wdX E) p s m meth c args cX0_rivalsOf 7 RX0 (some .int)) (hR : 0 ≤ R.frames ∧ 0 ≤ R.locals) {h : Mem} {hl : MemL} (Qp : Int32 → Prop) (K4 : Int32 → Int32 → Int32 → Prop) (hK4 : ∀ (v1 : Int32) (v2 : Int32) (v3 : Int32) (H : Heap) (locs : List Loc) (ls : Array Slot), mD (wdX E) h hl s H locs → lv_has ls 7 [(0, .ref (wad (wdX E) 7)), (1, .int v1), (2, .int v2), (3, .int v3)] → K4 v1 v2 v3 → W p l e R s m args below meth c H locs 0 0 (MQ below (mQi (wdX E) (fun r h1 hl1 => h = h1 ∧ hl = hl1 ∧ Qp r)) args s 0 0 (wA (wdX E))) (F0 m 4 ls [])) : ∀ (v1 : Int32) (v2 : Int32) (v3 : Int32) (H : Heap) (locs : List Loc) (ls : Array Slot), mD (wdX E) h hl s H locs → lv_has ls 7 [(0, .ref (wad (wdX E) 7)), (1, .int v1), (2, .int v2), (3, .int v3)] → b_X0_rivalsOf_105 h v1 v2 v3 K4 Qp → W p l e R s m args below meth c H locs 0 0 (MQ below (mQi (wdX E) (fun r h1 hl1 => h = h1 ∧ hl = hl1 ∧ Qp r)) args s 0 0 (wA (wdX E))) (F0 m 105 ls []) := by
  have hx := C.x
  have hb := C.b
  intro v1 v2 v3 H locs ls Dy lv hwp
  unfold b_X0_rivalsOf_105 at hwp
  refine lv_iinc (v := (v3 + (1 : Int32))) (lv' := [(3, .int (v3 + (1 : Int32))), (0, .ref (wad (wdX E) 7)), (1, .int v1), (2, .int v2)]) hx hb dX0_rivalsOf_105 lv (k := 3) rfl rfl (by decide) rfl (fun ls lv => ?_)
  refine lv_goto (tgt := 4) hx hb dX0_rivalsOf_108 (by decide) ?_
  exact hK4 v1 v2 (v3 + (1 : Int32)) _ _ _ Dy (lv_sub lv [1, 2, 3, 0] rfl) hwp
set_option maxHeartbeats 4000000 in
set_option maxRecDepth 100000 in
theorem t_X0_rivalsOf_55 (E : xE) {p : Program} {l : Launch} {e : Env} {R : Room} {s : State} {m : MethodId} {args : Array Value} {below : List Frame} {meth : Method} {c : Code} (C : mC (wdX E) p s m meth c args cX0_rivalsOf 7 RX0 (some .int)) (hR : 0 ≤ R.frames ∧ 0 ≤ R.locals) {h : Mem} {hl : MemL} (Qp : Int32 → Prop) (K4 : Int32 → Int32 → Int32 → Prop) (hK4 : ∀ (v1 : Int32) (v2 : Int32) (v3 : Int32) (H : Heap) (locs : List Loc) (ls : Array Slot), mD (wdX E) h hl s H locs → lv_has ls 7 [(0, .ref (wad (wdX E) 7)), (1, .int v1), (2, .int v2), (3, .int v3)] → K4 v1 v2 v3 → W p l e R s m args below meth c H locs 0 0 (MQ below (mQi (wdX E) (fun r h1 hl1 => h = h1 ∧ hl = hl1 ∧ Qp r)) args s 0 0 (wA (wdX E))) (F0 m 4 ls [])) : ∀ (v1 : Int32) (v2 : Int32) (v3 : Int32) (v4 : Int32) (w0 : Int32) (H : Heap) (locs : List Loc) (ls : Array Slot), mD (wdX E) h hl s H locs → lv_has ls 7 [(0, .ref (wad (wdX E) 7)), (1, .int v1), (2, .int v2), (3, .int v3), (4, .int v4)] → b_X0_rivalsOf_55 h v1 v2 v3 v4 w0 K4 Qp → W p l e R s m args below meth c H locs 0 0 (MQ below (mQi (wdX E) (fun r h1 hl1 => h = h1 ∧ hl = hl1 ∧ Qp r)) args s 0 0 (wA (wdX E))) (F0 m 55 ls [.int w0]) := by
  have hx := C.x
  have hb := C.b
  intro v1 v2 v3 v4 w0 H locs ls Dy lv hwp
  unfold b_X0_rivalsOf_55 at hwp
  refine lv_istore (lv' := [(5, .int w0), (0, .ref (wad (wdX E) 7)), (1, .int v1), (2, .int v2), (3, .int v3), (4, .int v4)]) hx hb dX0_rivalsOf_55 lv (by decide) rfl (fun ls lv => ?_)
  refine lv_aload_n hx hb dX0_rivalsOf_57 rfl (lv_at lv 1 rfl) ?_
  refine gf_X0_15_7 C Dy dX0_rivalsOf_58 ?_
  refine lv_iload_n hx hb dX0_rivalsOf_61 rfl (lv_at lv 2 rfl) ?_
  obtain ⟨g8, hwp⟩ := hwp
  refine x_iald C Dy wxa_8 g8 dX0_rivalsOf_62 ?_
  refine lv_aload_n hx hb dX0_rivalsOf_63 rfl (lv_at lv 1 rfl) ?_
  refine gf_X0_15_7 C Dy dX0_rivalsOf_64 ?_
  refine lv_iload_n hx hb dX0_rivalsOf_67 rfl (lv_at lv 4 rfl) ?_
  obtain ⟨g9, hwp⟩ := hwp
  refine x_iald C Dy wxa_8 g9 dX0_rivalsOf_68 ?_
  refine lv_iadd hx hb dX0_rivalsOf_69 ?_
  refine lv_topi (fun x10 ex10 => ?_)
  have hwp := hwp x10 ex10
  refine lv_istore (lv' := [(6, .int x10), (5, .int w0), (0, .ref (wad (wdX E) 7)), (1, .int v1), (2, .int v2), (3, .int v3), (4, .int v4)]) hx hb dX0_rivalsOf_70 lv (by decide) rfl (fun ls lv => ?_)
  refine lv_iload hx hb dX0_rivalsOf_72 (lv_at lv 6 rfl) ?_
  refine lv_if_eq (tgt := 105) hx hb dX0_rivalsOf_74 (by decide) (fun c11 => ?_) (fun c11 => ?_)
  · try simp only [if_pos c11] at hwp
    exact t_X0_rivalsOf_105 E C hR Qp K4 hK4 v1 v2 v3 _ _ _ Dy (lv_sub lv [2, 3, 4, 5] rfl) hwp
  · try simp only [if_neg c11] at hwp
    refine lv_iload hx hb dX0_rivalsOf_77 (lv_at lv 0 rfl) ?_
    refine lv_iconst (v := (2 : Int32)) hx hb dX0_rivalsOf_79 (by decide) ?_
    refine lv_icmp_ne (tgt := 88) hx hb dX0_rivalsOf_80 (by decide) (fun c12 => ?_) (fun c12 => ?_)
    · try simp only [if_neg c12] at hwp
      refine lv_iload hx hb dX0_rivalsOf_88 (lv_at lv 0 rfl) ?_
      refine lv_iconst (v := (1 : Int32)) hx hb dX0_rivalsOf_90 (by decide) ?_
      refine lv_icmp_ne (tgt := 105) hx hb dX0_rivalsOf_91 (by decide) (fun c13 => ?_) (fun c13 => ?_)
      · try simp only [if_neg c13] at hwp
        exact t_X0_rivalsOf_105 E C hR Qp K4 hK4 v1 v2 v3 _ _ _ Dy (lv_sub lv [2, 3, 4, 5] rfl) hwp
      · try simp only [if_pos c13] at hwp
        refine lv_iload hx hb dX0_rivalsOf_94 (lv_at lv 1 rfl) ?_
        refine lv_if_eq (tgt := 105) hx hb dX0_rivalsOf_96 (by decide) (fun c14 => ?_) (fun c14 => ?_)
        · try simp only [if_pos c14] at hwp
          exact t_X0_rivalsOf_105 E C hR Qp K4 hK4 v1 v2 v3 _ _ _ Dy (lv_sub lv [2, 3, 4, 5] rfl) hwp
        · try simp only [if_neg c14] at hwp
          refine lv_iload_n hx hb dX0_rivalsOf_99 rfl (lv_at lv 4 rfl) ?_
          refine lv_iconst (v := (1 : Int32)) hx hb dX0_rivalsOf_100 (by decide) ?_
          refine lv_iload_n hx hb dX0_rivalsOf_101 rfl (lv_at lv 5 rfl) ?_
          refine lv_ishl hx hb dX0_rivalsOf_102 ?_
          refine lv_ior hx hb dX0_rivalsOf_103 ?_
          refine lv_istore_n (lv' := [(2, .int (v2 ||| ((1 : Int32) <<< (v3 &&& 31)))), (6, .int x10), (5, .int w0), (0, .ref (wad (wdX E) 7)), (1, .int v1), (3, .int v3), (4, .int v4)]) hx hb dX0_rivalsOf_104 rfl lv (by decide) rfl (fun ls lv => ?_)
          exact t_X0_rivalsOf_105 E C hR Qp K4 hK4 v1 (v2 ||| ((1 : Int32) <<< (v3 &&& 31))) v3 _ _ _ Dy (lv_sub lv [3, 4, 0, 5] rfl) hwp
    · try simp only [if_pos c12] at hwp
      refine lv_iload hx hb dX0_rivalsOf_83 (lv_at lv 1 rfl) ?_
      refine lv_if_eq (tgt := 99) hx hb dX0_rivalsOf_85 (by decide) (fun c15 => ?_) (fun c15 => ?_)
      · try simp only [if_pos c15] at hwp
        refine lv_iload_n hx hb dX0_rivalsOf_99 rfl (lv_at lv 4 rfl) ?_
        refine lv_iconst (v := (1 : Int32)) hx hb dX0_rivalsOf_100 (by decide) ?_
        refine lv_iload_n hx hb dX0_rivalsOf_101 rfl (lv_at lv 5 rfl) ?_
        refine lv_ishl hx hb dX0_rivalsOf_102 ?_
        refine lv_ior hx hb dX0_rivalsOf_103 ?_
        refine lv_istore_n (lv' := [(2, .int (v2 ||| ((1 : Int32) <<< (v3 &&& 31)))), (6, .int x10), (5, .int w0), (0, .ref (wad (wdX E) 7)), (1, .int v1), (3, .int v3), (4, .int v4)]) hx hb dX0_rivalsOf_104 rfl lv (by decide) rfl (fun ls lv => ?_)
        exact t_X0_rivalsOf_105 E C hR Qp K4 hK4 v1 (v2 ||| ((1 : Int32) <<< (v3 &&& 31))) v3 _ _ _ Dy (lv_sub lv [3, 4, 0, 5] rfl) hwp
      · try simp only [if_neg c15] at hwp
        refine lv_iload hx hb dX0_rivalsOf_88 (lv_at lv 0 rfl) ?_
        refine lv_iconst (v := (1 : Int32)) hx hb dX0_rivalsOf_90 (by decide) ?_
        refine lv_icmp_ne (tgt := 105) hx hb dX0_rivalsOf_91 (by decide) (fun c16 => ?_) (fun c16 => ?_)
        · try simp only [if_neg c16] at hwp
          exact t_X0_rivalsOf_105 E C hR Qp K4 hK4 v1 v2 v3 _ _ _ Dy (lv_sub lv [2, 3, 4, 5] rfl) hwp
        · try simp only [if_pos c16] at hwp
          refine lv_iload hx hb dX0_rivalsOf_94 (lv_at lv 1 rfl) ?_
          refine lv_if_eq (tgt := 105) hx hb dX0_rivalsOf_96 (by decide) (fun c17 => ?_) (fun c17 => ?_)
          · try simp only [if_pos c17] at hwp
            exact absurd c17 c15
          · try simp only [if_neg c17] at hwp
            refine lv_iload_n hx hb dX0_rivalsOf_99 rfl (lv_at lv 4 rfl) ?_
            refine lv_iconst (v := (1 : Int32)) hx hb dX0_rivalsOf_100 (by decide) ?_
            refine lv_iload_n hx hb dX0_rivalsOf_101 rfl (lv_at lv 5 rfl) ?_
            refine lv_ishl hx hb dX0_rivalsOf_102 ?_
            refine lv_ior hx hb dX0_rivalsOf_103 ?_
            refine lv_istore_n (lv' := [(2, .int (v2 ||| ((1 : Int32) <<< (v3 &&& 31)))), (6, .int x10), (5, .int w0), (0, .ref (wad (wdX E) 7)), (1, .int v1), (3, .int v3), (4, .int v4)]) hx hb dX0_rivalsOf_104 rfl lv (by decide) rfl (fun ls lv => ?_)
            exact t_X0_rivalsOf_105 E C hR Qp K4 hK4 v1 (v2 ||| ((1 : Int32) <<< (v3 &&& 31))) v3 _ _ _ Dy (lv_sub lv [3, 4, 0, 5] rfl) hwp
set_option maxHeartbeats 4000000 in
set_option maxRecDepth 100000 in
theorem t_X0_rivalsOf_33 (E : xE) {p : Program} {l : Launch} {e : Env} {R : Room} {s : State} {m : MethodId} {args : Array Value} {below : List Frame} {meth : Method} {c : Code} (C : mC (wdX E) p s m meth c args cX0_rivalsOf 7 RX0 (some .int)) (hR : 0 ≤ R.frames ∧ 0 ≤ R.locals) {h : Mem} {hl : MemL} (Qp : Int32 → Prop) (K4 : Int32 → Int32 → Int32 → Prop) (hK4 : ∀ (v1 : Int32) (v2 : Int32) (v3 : Int32) (H : Heap) (locs : List Loc) (ls : Array Slot), mD (wdX E) h hl s H locs → lv_has ls 7 [(0, .ref (wad (wdX E) 7)), (1, .int v1), (2, .int v2), (3, .int v3)] → K4 v1 v2 v3 → W p l e R s m args below meth c H locs 0 0 (MQ below (mQi (wdX E) (fun r h1 hl1 => h = h1 ∧ hl = hl1 ∧ Qp r)) args s 0 0 (wA (wdX E))) (F0 m 4 ls [])) : ∀ (v1 : Int32) (v2 : Int32) (v3 : Int32) (w0 : Int32) (H : Heap) (locs : List Loc) (ls : Array Slot), mD (wdX E) h hl s H locs → lv_has ls 7 [(0, .ref (wad (wdX E) 7)), (1, .int v1), (2, .int v2), (3, .int v3)] → b_X0_rivalsOf_33 h v1 v2 v3 w0 K4 Qp → W p l e R s m args below meth c H locs 0 0 (MQ below (mQi (wdX E) (fun r h1 hl1 => h = h1 ∧ hl = hl1 ∧ Qp r)) args s 0 0 (wA (wdX E))) (F0 m 33 ls [.int w0]) := by
  have hx := C.x
  have hb := C.b
  intro v1 v2 v3 w0 H locs ls Dy lv hwp
  unfold b_X0_rivalsOf_33 at hwp
  refine lv_istore (lv' := [(4, .int w0), (0, .ref (wad (wdX E) 7)), (1, .int v1), (2, .int v2), (3, .int v3)]) hx hb dX0_rivalsOf_33 lv (by decide) rfl (fun ls lv => ?_)
  refine lv_aload_n hx hb dX0_rivalsOf_35 rfl (lv_at lv 1 rfl) ?_
  refine gf_X0_19_7 C Dy dX0_rivalsOf_36 ?_
  refine lv_iload_n hx hb dX0_rivalsOf_39 rfl (lv_at lv 2 rfl) ?_
  obtain ⟨g5, hwp⟩ := hwp
  refine x_iald C Dy wxa_9 g5 dX0_rivalsOf_40 ?_
  refine lv_aload_n hx hb dX0_rivalsOf_41 rfl (lv_at lv 1 rfl) ?_
  refine gf_X0_19_7 C Dy dX0_rivalsOf_42 ?_
  refine lv_iload_n hx hb dX0_rivalsOf_45 rfl (lv_at lv 4 rfl) ?_
  obtain ⟨g6, hwp⟩ := hwp
  refine x_iald C Dy wxa_9 g6 dX0_rivalsOf_46 ?_
  refine lv_icmp_ne (tgt := 54) hx hb dX0_rivalsOf_47 (by decide) (fun c7 => ?_) (fun c7 => ?_)
  · try simp only [if_neg c7] at hwp
    refine lv_iconst (v := (0 : Int32)) hx hb dX0_rivalsOf_54 (by decide) ?_
    exact t_X0_rivalsOf_55 E C hR Qp K4 hK4 v1 v2 v3 w0 (0 : Int32) _ _ _ Dy (lv_sub lv [1, 2, 3, 4, 0] rfl) hwp
  · try simp only [if_pos c7] at hwp
    refine lv_iconst (v := (1 : Int32)) hx hb dX0_rivalsOf_50 (by decide) ?_
    refine lv_goto (tgt := 55) hx hb dX0_rivalsOf_51 (by decide) ?_
    exact t_X0_rivalsOf_55 E C hR Qp K4 hK4 v1 v2 v3 w0 (1 : Int32) _ _ _ Dy (lv_sub lv [1, 2, 3, 4, 0] rfl) hwp
set_option maxHeartbeats 4000000 in
set_option maxRecDepth 100000 in
theorem t_X0_rivalsOf_4 (E : xE) {p : Program} {l : Launch} {e : Env} {R : Room} {s : State} {m : MethodId} {args : Array Value} {below : List Frame} {meth : Method} {c : Code} (C : mC (wdX E) p s m meth c args cX0_rivalsOf 7 RX0 (some .int)) (hR : 0 ≤ R.frames ∧ 0 ≤ R.locals) {h : Mem} {hl : MemL} (Qp : Int32 → Prop) : ∀ (n : Nat) (v1 : Int32) (v2 : Int32) (v3 : Int32) (H : Heap) (locs : List Loc) (ls : Array Slot), mD (wdX E) h hl s H locs → lv_has ls 7 [(0, .ref (wad (wdX E) 7)), (1, .int v1), (2, .int v2), (3, .int v3)] → b_X0_rivalsOf_4 n h v1 v2 v3 Qp → W p l e R s m args below meth c H locs 0 0 (MQ below (mQi (wdX E) (fun r h1 hl1 => h = h1 ∧ hl = hl1 ∧ Qp r)) args s 0 0 (wA (wdX E))) (F0 m 4 ls []) := by
  have hx := C.x
  have hb := C.b
  intro n
  induction n with
  | zero => intro v1 v2 v3 H locs ls Dy lv hwp; exact hwp.elim
  | succ n ih =>
    intro v1 v2 v3 H locs ls Dy lv hwp
    simp only [b_X0_rivalsOf_4] at hwp
    refine lv_iload_n hx hb dX0_rivalsOf_4 rfl (lv_at lv 3 rfl) ?_
    refine lv_aload_n hx hb dX0_rivalsOf_5 rfl (lv_at lv 0 rfl) ?_
    refine gf_X0_9_7 C Dy dX0_rivalsOf_6 ?_
    refine lv_icmp_ge (tgt := 111) hx hb dX0_rivalsOf_9 (by decide) (fun c1 => ?_) (fun c1 => ?_)
    · have hwp := hwp.1 c1
      refine lv_iload_n hx hb dX0_rivalsOf_111 rfl (lv_at lv 2 rfl) ?_
      exact x_iret C Dy ⟨rfl, rfl, hwp⟩ dX0_rivalsOf_112
    · have hwp := hwp.2 c1
      refine lv_aload_n hx hb dX0_rivalsOf_12 rfl (lv_at lv 0 rfl) ?_
      refine gf_X0_31_7 C Dy dX0_rivalsOf_13 ?_
      refine lv_iload_n hx hb dX0_rivalsOf_16 rfl (lv_at lv 1 rfl) ?_
      obtain ⟨g2, hwp⟩ := hwp
      refine x_iald C Dy wxa_13 g2 dX0_rivalsOf_17 ?_
      refine lv_aload_n hx hb dX0_rivalsOf_18 rfl (lv_at lv 0 rfl) ?_
      refine gf_X0_31_7 C Dy dX0_rivalsOf_19 ?_
      refine lv_iload_n hx hb dX0_rivalsOf_22 rfl (lv_at lv 3 rfl) ?_
      obtain ⟨g3, hwp⟩ := hwp
      refine x_iald C Dy wxa_13 g3 dX0_rivalsOf_23 ?_
      refine lv_iand hx hb dX0_rivalsOf_24 ?_
      refine lv_if_eq (tgt := 32) hx hb dX0_rivalsOf_25 (by decide) (fun c4 => ?_) (fun c4 => ?_)
      · try simp only [if_pos c4] at hwp
        refine lv_iconst (v := (0 : Int32)) hx hb dX0_rivalsOf_32 (by decide) ?_
        exact t_X0_rivalsOf_33 E C hR Qp (fun v1 v2 v3 => b_X0_rivalsOf_4 n h v1 v2 v3 Qp) (fun v1 v2 v3 H locs ls Dy lv hwp => ih v1 v2 v3 H locs ls Dy lv hwp) v1 v2 v3 (0 : Int32) _ _ _ Dy (lv_sub lv [0, 1, 2, 3] rfl) hwp
      · try simp only [if_neg c4] at hwp
        refine lv_iconst (v := (1 : Int32)) hx hb dX0_rivalsOf_28 (by decide) ?_
        refine lv_goto (tgt := 33) hx hb dX0_rivalsOf_29 (by decide) ?_
        exact t_X0_rivalsOf_33 E C hR Qp (fun v1 v2 v3 => b_X0_rivalsOf_4 n h v1 v2 v3 Qp) (fun v1 v2 v3 H locs ls Dy lv hwp => ih v1 v2 v3 H locs ls Dy lv hwp) v1 v2 v3 (1 : Int32) _ _ _ Dy (lv_sub lv [0, 1, 2, 3] rfl) hwp
set_option maxHeartbeats 4000000 in
set_option maxRecDepth 100000 in
theorem t_X0_rivalsOf_99 (E : xE) {p : Program} {l : Launch} {e : Env} {R : Room} {s : State} {m : MethodId} {args : Array Value} {below : List Frame} {meth : Method} {c : Code} (C : mC (wdX E) p s m meth c args cX0_rivalsOf 7 RX0 (some .int)) (hR : 0 ≤ R.frames ∧ 0 ≤ R.locals) {h : Mem} {hl : MemL} (Qp : Int32 → Prop) (K4 : Int32 → Int32 → Int32 → Prop) (hK4 : ∀ (v1 : Int32) (v2 : Int32) (v3 : Int32) (H : Heap) (locs : List Loc) (ls : Array Slot), mD (wdX E) h hl s H locs → lv_has ls 7 [(0, .ref (wad (wdX E) 7)), (1, .int v1), (2, .int v2), (3, .int v3)] → K4 v1 v2 v3 → W p l e R s m args below meth c H locs 0 0 (MQ below (mQi (wdX E) (fun r h1 hl1 => h = h1 ∧ hl = hl1 ∧ Qp r)) args s 0 0 (wA (wdX E))) (F0 m 4 ls [])) : ∀ (v1 : Int32) (v2 : Int32) (v3 : Int32) (H : Heap) (locs : List Loc) (ls : Array Slot), mD (wdX E) h hl s H locs → lv_has ls 7 [(0, .ref (wad (wdX E) 7)), (1, .int v1), (2, .int v2), (3, .int v3)] → b_X0_rivalsOf_99 h v1 v2 v3 K4 Qp → W p l e R s m args below meth c H locs 0 0 (MQ below (mQi (wdX E) (fun r h1 hl1 => h = h1 ∧ hl = hl1 ∧ Qp r)) args s 0 0 (wA (wdX E))) (F0 m 99 ls []) := by
  have hx := C.x
  have hb := C.b
  intro v1 v2 v3 H locs ls Dy lv hwp
  unfold b_X0_rivalsOf_99 at hwp
  refine lv_iload_n hx hb dX0_rivalsOf_99 rfl (lv_at lv 2 rfl) ?_
  refine lv_iconst (v := (1 : Int32)) hx hb dX0_rivalsOf_100 (by decide) ?_
  refine lv_iload_n hx hb dX0_rivalsOf_101 rfl (lv_at lv 3 rfl) ?_
  refine lv_ishl hx hb dX0_rivalsOf_102 ?_
  refine lv_ior hx hb dX0_rivalsOf_103 ?_
  refine lv_topi (fun x20 ex20 => ?_)
  have hwp := hwp x20 ex20
  refine lv_istore_n (lv' := [(2, .int x20), (0, .ref (wad (wdX E) 7)), (1, .int v1), (3, .int v3)]) hx hb dX0_rivalsOf_104 rfl lv (by decide) rfl (fun ls lv => ?_)
  exact t_X0_rivalsOf_105 E C hR Qp K4 hK4 v1 x20 v3 _ _ _ Dy (lv_sub lv [1, 2, 0, 3] rfl) hwp
set_option maxHeartbeats 4000000 in
set_option maxRecDepth 100000 in
theorem t_X0_rivalsOf_88 (E : xE) {p : Program} {l : Launch} {e : Env} {R : Room} {s : State} {m : MethodId} {args : Array Value} {below : List Frame} {meth : Method} {c : Code} (C : mC (wdX E) p s m meth c args cX0_rivalsOf 7 RX0 (some .int)) (hR : 0 ≤ R.frames ∧ 0 ≤ R.locals) {h : Mem} {hl : MemL} (Qp : Int32 → Prop) (K4 : Int32 → Int32 → Int32 → Prop) (hK4 : ∀ (v1 : Int32) (v2 : Int32) (v3 : Int32) (H : Heap) (locs : List Loc) (ls : Array Slot), mD (wdX E) h hl s H locs → lv_has ls 7 [(0, .ref (wad (wdX E) 7)), (1, .int v1), (2, .int v2), (3, .int v3)] → K4 v1 v2 v3 → W p l e R s m args below meth c H locs 0 0 (MQ below (mQi (wdX E) (fun r h1 hl1 => h = h1 ∧ hl = hl1 ∧ Qp r)) args s 0 0 (wA (wdX E))) (F0 m 4 ls [])) : ∀ (v1 : Int32) (v2 : Int32) (v3 : Int32) (v5 : Int32) (v6 : Int32) (H : Heap) (locs : List Loc) (ls : Array Slot), mD (wdX E) h hl s H locs → lv_has ls 7 [(0, .ref (wad (wdX E) 7)), (1, .int v1), (2, .int v2), (3, .int v3), (5, .int v5), (6, .int v6)] → b_X0_rivalsOf_88 h v1 v2 v3 v5 v6 K4 Qp → W p l e R s m args below meth c H locs 0 0 (MQ below (mQi (wdX E) (fun r h1 hl1 => h = h1 ∧ hl = hl1 ∧ Qp r)) args s 0 0 (wA (wdX E))) (F0 m 88 ls []) := by
  have hx := C.x
  have hb := C.b
  intro v1 v2 v3 v5 v6 H locs ls Dy lv hwp
  unfold b_X0_rivalsOf_88 at hwp
  refine lv_iload hx hb dX0_rivalsOf_88 (lv_at lv 5 rfl) ?_
  refine lv_iconst (v := (1 : Int32)) hx hb dX0_rivalsOf_90 (by decide) ?_
  refine lv_icmp_ne (tgt := 105) hx hb dX0_rivalsOf_91 (by decide) (fun c18 => ?_) (fun c18 => ?_)
  · have hwp := hwp.2 c18
    exact t_X0_rivalsOf_105 E C hR Qp K4 hK4 v1 v2 v3 _ _ _ Dy (lv_sub lv [0, 1, 2, 3] rfl) hwp
  · have hwp := hwp.1 c18
    refine lv_iload hx hb dX0_rivalsOf_94 (lv_at lv 4 rfl) ?_
    refine lv_if_eq (tgt := 105) hx hb dX0_rivalsOf_96 (by decide) (fun c19 => ?_) (fun c19 => ?_)
    · have hwp := hwp.1 c19
      exact t_X0_rivalsOf_105 E C hR Qp K4 hK4 v1 v2 v3 _ _ _ Dy (lv_sub lv [0, 1, 2, 3] rfl) hwp
    · have hwp := hwp.2 c19
      exact t_X0_rivalsOf_99 E C hR Qp K4 hK4 v1 v2 v3 _ _ _ Dy (lv_sub lv [0, 1, 2, 3] rfl) hwp
set_option maxHeartbeats 4000000 in
set_option maxRecDepth 100000 in
theorem m_X0_rivalsOf (E : xE) (l : Launch) (h : Mem) (hl : MemL) (v1 : Int32) (Qp : Int32 → Prop) (hwp : p_X0_rivalsOf h v1 Qp) : Met l yX0_rivalsOf (wsU yX0_rivalsOf cX0_rivalsOf 7 (some .int)) ({ frames := 0, cells := 0, slots := 0, locals := 0 } : Room) (mPc (wdX E) [.ref (wad (wdX E) 7), .int v1] h hl) (mQi (wdX E) (fun r h1 hl1 => h = h1 ∧ hl = hl1 ∧ Qp r)) 0 0 (wA (wdX E)) := by
  refine x_met RX0 [(0, .ref (wad (wdX E) 7)), (1, .int v1)] (by decide) rfl (Nat.le_of_ble_eq_true rfl) rfl ?_
  intro p e s m args below meth c ls C Dy lv
  have hx := C.x
  have hb := C.b
  have hR : 0 ≤ ({ frames := 0, cells := 0, slots := 0, locals := 0 } : Room).frames ∧ 0 ≤ ({ frames := 0, cells := 0, slots := 0, locals := 0 } : Room).locals := ⟨Nat.le_refl _, Nat.le_refl _⟩
  unfold p_X0_rivalsOf at hwp
  refine lv_iconst (v := (0 : Int32)) hx hb dX0_rivalsOf_0 (by decide) ?_
  refine lv_istore_n (lv' := [(2, .int (0 : Int32)), (0, .ref (wad (wdX E) 7)), (1, .int v1)]) hx hb dX0_rivalsOf_1 rfl lv (by decide) rfl (fun ls lv => ?_)
  refine lv_iconst (v := (0 : Int32)) hx hb dX0_rivalsOf_2 (by decide) ?_
  refine lv_istore_n (lv' := [(3, .int (0 : Int32)), (2, .int (0 : Int32)), (0, .ref (wad (wdX E) 7)), (1, .int v1)]) hx hb dX0_rivalsOf_3 rfl lv (by decide) rfl (fun ls lv => ?_)
  obtain ⟨n0, hwp⟩ := hwp
  exact t_X0_rivalsOf_4 E C hR Qp n0 v1 (0 : Int32) (0 : Int32) _ _ _ Dy (lv_sub lv [2, 3, 1, 0] rfl) hwp
def b_X0_layOut_206 : Nat → Mem → Int32 → (Mem → Prop) → Prop
  | 0 => fun _ _ _ => False
  | n + 1 => fun h v3 Qp => (((h 7 0) ≤ v3 → Qp h) ∧ (¬ ((h 7 0) ≤ v3) → (p_X0_chainOf h v3 (fun r34 => (vp_in v3 12 ∧ (p_X0_rivalsOf (up2 h 14 v3.toNatClampNeg r34) v3 (fun r37 => (vp_in v3 12 ∧ b_X0_layOut_206 n (up2 (up2 h 14 v3.toNatClampNeg r34) 15 v3.toNatClampNeg r37) (v3 + (1 : Int32)) Qp))))))))
def b_X0_layOut_123 : Nat → Mem → Int32 → (Mem → Prop) → Prop
  | 0 => fun _ _ _ => False
  | n + 1 => fun h v3 Qp => (((h 7 0) ≤ v3 → (∃ n206, b_X0_layOut_206 n206 h (0 : Int32) Qp)) ∧ (¬ ((h 7 0) ≤ v3) → (p_X7_part h 1 v3 (0 : Int32) (fun r15 => (vp_in v3 12 ∧ (p_X7_part (up2 h 8 v3.toNatClampNeg ((1 : Int32) - r15)) 1 v3 (1 : Int32) (fun r18 => (vp_in v3 12 ∧ (p_X7_part (up2 (up2 h 8 v3.toNatClampNeg ((1 : Int32) - r15)) 9 v3.toNatClampNeg r18) 1 v3 (2 : Int32) (fun r21 => (vp_in v3 12 ∧ (p_X7_part (up2 (up2 (up2 h 8 v3.toNatClampNeg ((1 : Int32) - r15)) 9 v3.toNatClampNeg r18) 10 v3.toNatClampNeg r21) 1 v3 (3 : Int32) (fun r24 => (vp_in v3 12 ∧ (∀ h27 : Mem, h27 = (up2 (up2 (up2 (up2 h 8 v3.toNatClampNeg ((1 : Int32) - r15)) 9 v3.toNatClampNeg r18) 10 v3.toNatClampNeg r21) 11 v3.toNatClampNeg r24) → (p_X7_part h27 1 v3 (4 : Int32) (fun r28 => (vp_in v3 12 ∧ (p_X0_layLaw (up2 h27 12 v3.toNatClampNeg r28) v3 (fun h32 => b_X0_layOut_123 n h32 (v3 + (1 : Int32)) Qp))))))))))))))))))))
def b_X0_layOut_63 : Nat → Mem → Int32 → (Mem → Prop) → Prop
  | 0 => fun _ _ _ => False
  | n + 1 => fun h v3 Qp => (((h 4 7) ≤ v3 → (∃ n123, b_X0_layOut_123 n123 h (0 : Int32) Qp)) ∧ (¬ ((h 4 7) ≤ v3) → (p_X7_part h 4 v3 (1 : Int32) (fun r4 => (p_X7_part h 4 v3 (0 : Int32) (fun r6 => (vp_in ((r4 * (6 : Int32)) + r6) 144 ∧ (p_X7_part h 4 v3 (2 : Int32) (fun r9 => (vp_in ((r4 * (6 : Int32)) + r6) 144 ∧ (∀ h12 : Mem, h12 = (up2 h 18 ((r4 * (6 : Int32)) + r6).toNatClampNeg ((h 18 ((r4 * (6 : Int32)) + r6).toNatClampNeg) + (r9 + (1 : Int32)))) → (vp_in r4 24 ∧ b_X0_layOut_63 n (up2 h12 20 r4.toNatClampNeg (1 : Int32)) (v3 + (1 : Int32)) Qp))))))))))))
def b_X0_layOut_42 : Nat → Mem → Int32 → (Mem → Prop) → Prop
  | 0 => fun _ _ _ => False
  | n + 1 => fun h v3 Qp => (((24 : Int32) ≤ v3 → (∃ n63, b_X0_layOut_63 n63 h (0 : Int32) Qp)) ∧ (¬ ((24 : Int32) ≤ v3) → (vp_in v3 24 ∧ b_X0_layOut_42 n (up2 h 20 v3.toNatClampNeg (0 : Int32)) (v3 + (1 : Int32)) Qp)))
def p_X0_layOut (h : Mem) (Qp : Mem → Prop) : Prop := (p_J7_fill (up2 h 7 0 (h 1 7)) 16 144 (0 : Int32) (fun h41 => (p_J7_fill h41 17 144 (0 : Int32) (fun h43 => (p_J7_fill h43 18 144 (0 : Int32) (fun h45 => (p_J7_fill h45 19 24 (0 : Int32) (fun h47 => (∃ n42, b_X0_layOut_42 n42 h47 (0 : Int32) Qp)))))))))
set_option maxHeartbeats 4000000 in
set_option maxRecDepth 100000 in
theorem t_X0_layOut_206 (E : xE) {p : Program} {l : Launch} {e : Env} {R : Room} {s : State} {m : MethodId} {args : Array Value} {below : List Frame} {meth : Method} {c : Code} (C : mC (wdX E) p s m meth c args cX0_layOut 5 RX0 none) (hR : 1 ≤ R.frames ∧ 26 ≤ R.locals) {hl : MemL} (Qp : Mem → Prop) : ∀ (n : Nat) (h : Mem) (v3 : Int32) (H : Heap) (locs : List Loc) (ls : Array Slot), mD (wdX E) h hl s H locs → lv_has ls 5 [(0, .ref (wad (wdX E) 7)), (3, .int v3)] → b_X0_layOut_206 n h v3 Qp → W p l e R s m args below meth c H locs 0 0 (MQ below (mQv (wdX E) (fun h1 hl1 => hl = hl1 ∧ Qp h1)) args s 0 0 (wA (wdX E))) (F0 m 206 ls []) := by
  have hx := C.x
  have hb := C.b
  intro n
  induction n with
  | zero => intro h v3 H locs ls Dy lv hwp; exact hwp.elim
  | succ n ih =>
    intro h v3 H locs ls Dy lv hwp
    simp only [b_X0_layOut_206] at hwp
    refine lv_iload_n hx hb dX0_layOut_206 rfl (lv_at lv 1 rfl) ?_
    refine lv_aload_n hx hb dX0_layOut_207 rfl (lv_at lv 0 rfl) ?_
    refine gf_X0_9_7 C Dy dX0_layOut_208 ?_
    refine lv_icmp_ge (tgt := 242) hx hb dX0_layOut_211 (by decide) (fun c33 => ?_) (fun c33 => ?_)
    · have hwp := hwp.1 c33
      exact x_vret C Dy ⟨rfl, hwp⟩ dX0_layOut_242
    · have hwp := hwp.2 c33
      refine lv_aload_n hx hb dX0_layOut_214 rfl (lv_at lv 0 rfl) ?_
      refine gf_X0_34_7 C Dy dX0_layOut_215 ?_
      refine lv_iload_n hx hb dX0_layOut_218 rfl (lv_at lv 1 rfl) ?_
      refine lv_aload_n hx hb dX0_layOut_219 rfl (lv_at lv 0 rfl) ?_
      refine lv_iload_n hx hb dX0_layOut_220 rfl (lv_at lv 1 rfl) ?_
      refine x_cont_i Dy (x_runV (As := [.int v3]) (rest := [.int v3, .ref (wad (wdX E) 14)]) C Dy (m_X0_chainOf E l _ _ v3 _ hwp) (cw_X0_75 C rfl rfl ⟨Nat.le_trans (Nat.le_of_ble_eq_true rfl) hR.1, Nat.le_trans (Nat.le_of_ble_eq_true rfl) hR.2⟩) wx_7 rfl rfl lv.1 rfl (Nat.le_of_ble_eq_true rfl) dX0_layOut_221 ⟨Nat.zero_le _, Nat.zero_le _⟩) (fun r34 h35 hl35 H locs hwp Dy => ?_)
      obtain ⟨rfl, rfl, hwp⟩ := hwp
      obtain ⟨g36, hwp⟩ := hwp
      refine x_iast C Dy wxa_14 g36 dX0_layOut_224 (fun H locs Dy => ?_)
      refine lv_aload_n hx hb dX0_layOut_225 rfl (lv_at lv 0 rfl) ?_
      refine gf_X0_37_7 C Dy dX0_layOut_226 ?_
      refine lv_iload_n hx hb dX0_layOut_229 rfl (lv_at lv 1 rfl) ?_
      refine lv_aload_n hx hb dX0_layOut_230 rfl (lv_at lv 0 rfl) ?_
      refine lv_iload_n hx hb dX0_layOut_231 rfl (lv_at lv 1 rfl) ?_
      refine x_cont_i Dy (x_runV (As := [.int v3]) (rest := [.int v3, .ref (wad (wdX E) 15)]) C Dy (m_X0_rivalsOf E l _ _ v3 _ hwp) (cw_X0_79 C rfl rfl ⟨Nat.le_trans (Nat.le_of_ble_eq_true rfl) hR.1, Nat.le_trans (Nat.le_of_ble_eq_true rfl) hR.2⟩) wx_7 rfl rfl lv.1 rfl (Nat.le_of_ble_eq_true rfl) dX0_layOut_232 ⟨Nat.zero_le _, Nat.zero_le _⟩) (fun r37 h38 hl38 H locs hwp Dy => ?_)
      obtain ⟨rfl, rfl, hwp⟩ := hwp
      obtain ⟨g39, hwp⟩ := hwp
      refine x_iast C Dy wxa_15 g39 dX0_layOut_235 (fun H locs Dy => ?_)
      refine lv_iinc (v := (v3 + (1 : Int32))) (lv' := [(3, .int (v3 + (1 : Int32))), (0, .ref (wad (wdX E) 7))]) hx hb dX0_layOut_236 lv (k := 1) rfl rfl (by decide) rfl (fun ls lv => ?_)
      refine lv_goto (tgt := 206) hx hb dX0_layOut_239 (by decide) ?_
      exact ih (up2 (up2 h 14 v3.toNatClampNeg r34) 15 v3.toNatClampNeg r37) (v3 + (1 : Int32)) _ _ _ Dy (lv_sub lv [1, 0] rfl) hwp
set_option maxHeartbeats 4000000 in
set_option maxRecDepth 100000 in
theorem t_X0_layOut_123 (E : xE) {p : Program} {l : Launch} {e : Env} {R : Room} {s : State} {m : MethodId} {args : Array Value} {below : List Frame} {meth : Method} {c : Code} (C : mC (wdX E) p s m meth c args cX0_layOut 5 RX0 none) (hR : 1 ≤ R.frames ∧ 26 ≤ R.locals) {hl : MemL} (Qp : Mem → Prop) : ∀ (n : Nat) (h : Mem) (v3 : Int32) (H : Heap) (locs : List Loc) (ls : Array Slot), mD (wdX E) h hl s H locs → lv_has ls 5 [(0, .ref (wad (wdX E) 7)), (1, .ref (wad (wdX E) 1)), (3, .int v3)] → b_X0_layOut_123 n h v3 Qp → W p l e R s m args below meth c H locs 0 0 (MQ below (mQv (wdX E) (fun h1 hl1 => hl = hl1 ∧ Qp h1)) args s 0 0 (wA (wdX E))) (F0 m 123 ls []) := by
  have hx := C.x
  have hb := C.b
  intro n
  induction n with
  | zero => intro h v3 H locs ls Dy lv hwp; exact hwp.elim
  | succ n ih =>
    intro h v3 H locs ls Dy lv hwp
    simp only [b_X0_layOut_123] at hwp
    refine lv_iload_n hx hb dX0_layOut_123 rfl (lv_at lv 2 rfl) ?_
    refine lv_aload_n hx hb dX0_layOut_124 rfl (lv_at lv 0 rfl) ?_
    refine gf_X0_9_7 C Dy dX0_layOut_125 ?_
    refine lv_icmp_ge (tgt := 204) hx hb dX0_layOut_128 (by decide) (fun c14 => ?_) (fun c14 => ?_)
    · have hwp := hwp.1 c14
      refine lv_iconst (v := (0 : Int32)) hx hb dX0_layOut_204 (by decide) ?_
      refine lv_istore_n (lv' := [(3, .int (0 : Int32)), (0, .ref (wad (wdX E) 7)), (1, .ref (wad (wdX E) 1))]) hx hb dX0_layOut_205 rfl lv (by decide) rfl (fun ls lv => ?_)
      obtain ⟨n0, hwp⟩ := hwp
      exact t_X0_layOut_206 E C hR Qp n0 h (0 : Int32) _ _ _ Dy (lv_sub lv [1, 0] rfl) hwp
    · have hwp := hwp.2 c14
      refine lv_aload_n hx hb dX0_layOut_131 rfl (lv_at lv 0 rfl) ?_
      refine gf_X0_15_7 C Dy dX0_layOut_132 ?_
      refine lv_iload_n hx hb dX0_layOut_135 rfl (lv_at lv 2 rfl) ?_
      refine lv_iconst (v := (1 : Int32)) hx hb dX0_layOut_136 (by decide) ?_
      refine lv_aload_n hx hb dX0_layOut_137 rfl (lv_at lv 1 rfl) ?_
      refine lv_iload_n hx hb dX0_layOut_138 rfl (lv_at lv 2 rfl) ?_
      refine lv_iconst (v := (0 : Int32)) hx hb dX0_layOut_139 (by decide) ?_
      refine x_cont_i Dy (x_runV (As := [.int v3, .int (0 : Int32)]) (rest := [.int (1 : Int32), .int v3, .ref (wad (wdX E) 8)]) C Dy (m_X7_part E l _ _ 1 (Or.inl rfl) v3 (0 : Int32) _ hwp) (cw_X0_67 C rfl rfl ⟨Nat.le_trans (Nat.le_of_ble_eq_true rfl) hR.1, Nat.le_trans (Nat.le_of_ble_eq_true rfl) hR.2⟩) wx_1 rfl rfl lv.1 rfl (Nat.le_of_ble_eq_true rfl) dX0_layOut_140 ⟨Nat.zero_le _, Nat.zero_le _⟩) (fun r15 h16 hl16 H locs hwp Dy => ?_)
      obtain ⟨rfl, rfl, hwp⟩ := hwp
      refine lv_isub hx hb dX0_layOut_143 ?_
      obtain ⟨g17, hwp⟩ := hwp
      refine x_iast C Dy wxa_8 g17 dX0_layOut_144 (fun H locs Dy => ?_)
      refine lv_aload_n hx hb dX0_layOut_145 rfl (lv_at lv 0 rfl) ?_
      refine gf_X0_19_7 C Dy dX0_layOut_146 ?_
      refine lv_iload_n hx hb dX0_layOut_149 rfl (lv_at lv 2 rfl) ?_
      refine lv_aload_n hx hb dX0_layOut_150 rfl (lv_at lv 1 rfl) ?_
      refine lv_iload_n hx hb dX0_layOut_151 rfl (lv_at lv 2 rfl) ?_
      refine lv_iconst (v := (1 : Int32)) hx hb dX0_layOut_152 (by decide) ?_
      refine x_cont_i Dy (x_runV (As := [.int v3, .int (1 : Int32)]) (rest := [.int v3, .ref (wad (wdX E) 9)]) C Dy (m_X7_part E l _ _ 1 (Or.inl rfl) v3 (1 : Int32) _ hwp) (cw_X0_67 C rfl rfl ⟨Nat.le_trans (Nat.le_of_ble_eq_true rfl) hR.1, Nat.le_trans (Nat.le_of_ble_eq_true rfl) hR.2⟩) wx_1 rfl rfl lv.1 rfl (Nat.le_of_ble_eq_true rfl) dX0_layOut_153 ⟨Nat.zero_le _, Nat.zero_le _⟩) (fun r18 h19 hl19 H locs hwp Dy => ?_)
      obtain ⟨rfl, rfl, hwp⟩ := hwp
      obtain ⟨g20, hwp⟩ := hwp
      refine x_iast C Dy wxa_9 g20 dX0_layOut_156 (fun H locs Dy => ?_)
      refine lv_aload_n hx hb dX0_layOut_157 rfl (lv_at lv 0 rfl) ?_
      refine gf_X0_22_7 C Dy dX0_layOut_158 ?_
      refine lv_iload_n hx hb dX0_layOut_161 rfl (lv_at lv 2 rfl) ?_
      refine lv_aload_n hx hb dX0_layOut_162 rfl (lv_at lv 1 rfl) ?_
      refine lv_iload_n hx hb dX0_layOut_163 rfl (lv_at lv 2 rfl) ?_
      refine lv_iconst (v := (2 : Int32)) hx hb dX0_layOut_164 (by decide) ?_
      refine x_cont_i Dy (x_runV (As := [.int v3, .int (2 : Int32)]) (rest := [.int v3, .ref (wad (wdX E) 10)]) C Dy (m_X7_part E l _ _ 1 (Or.inl rfl) v3 (2 : Int32) _ hwp) (cw_X0_67 C rfl rfl ⟨Nat.le_trans (Nat.le_of_ble_eq_true rfl) hR.1, Nat.le_trans (Nat.le_of_ble_eq_true rfl) hR.2⟩) wx_1 rfl rfl lv.1 rfl (Nat.le_of_ble_eq_true rfl) dX0_layOut_165 ⟨Nat.zero_le _, Nat.zero_le _⟩) (fun r21 h22 hl22 H locs hwp Dy => ?_)
      obtain ⟨rfl, rfl, hwp⟩ := hwp
      obtain ⟨g23, hwp⟩ := hwp
      refine x_iast C Dy wxa_10 g23 dX0_layOut_168 (fun H locs Dy => ?_)
      refine lv_aload_n hx hb dX0_layOut_169 rfl (lv_at lv 0 rfl) ?_
      refine gf_X0_25_7 C Dy dX0_layOut_170 ?_
      refine lv_iload_n hx hb dX0_layOut_173 rfl (lv_at lv 2 rfl) ?_
      refine lv_aload_n hx hb dX0_layOut_174 rfl (lv_at lv 1 rfl) ?_
      refine lv_iload_n hx hb dX0_layOut_175 rfl (lv_at lv 2 rfl) ?_
      refine lv_iconst (v := (3 : Int32)) hx hb dX0_layOut_176 (by decide) ?_
      refine x_cont_i Dy (x_runV (As := [.int v3, .int (3 : Int32)]) (rest := [.int v3, .ref (wad (wdX E) 11)]) C Dy (m_X7_part E l _ _ 1 (Or.inl rfl) v3 (3 : Int32) _ hwp) (cw_X0_67 C rfl rfl ⟨Nat.le_trans (Nat.le_of_ble_eq_true rfl) hR.1, Nat.le_trans (Nat.le_of_ble_eq_true rfl) hR.2⟩) wx_1 rfl rfl lv.1 rfl (Nat.le_of_ble_eq_true rfl) dX0_layOut_177 ⟨Nat.zero_le _, Nat.zero_le _⟩) (fun r24 h25 hl25 H locs hwp Dy => ?_)
      obtain ⟨rfl, rfl, hwp⟩ := hwp
      obtain ⟨g26, hwp⟩ := hwp
      refine x_iast C Dy wxa_11 g26 dX0_layOut_180 (fun H locs Dy => ?_)
      obtain ⟨h27, eh27⟩ : ∃ z : Mem, z = (up2 (up2 (up2 (up2 h 8 v3.toNatClampNeg ((1 : Int32) - r15)) 9 v3.toNatClampNeg r18) 10 v3.toNatClampNeg r21) 11 v3.toNatClampNeg r24) := ⟨_, rfl⟩
      rw [← eh27] at Dy
      have hwp := hwp h27 eh27
      refine lv_aload_n hx hb dX0_layOut_181 rfl (lv_at lv 0 rfl) ?_
      refine gf_X0_28_7 C Dy dX0_layOut_182 ?_
      refine lv_iload_n hx hb dX0_layOut_185 rfl (lv_at lv 2 rfl) ?_
      refine lv_aload_n hx hb dX0_layOut_186 rfl (lv_at lv 1 rfl) ?_
      refine lv_iload_n hx hb dX0_layOut_187 rfl (lv_at lv 2 rfl) ?_
      refine lv_iconst (v := (4 : Int32)) hx hb dX0_layOut_188 (by decide) ?_
      refine x_cont_i Dy (x_runV (As := [.int v3, .int (4 : Int32)]) (rest := [.int v3, .ref (wad (wdX E) 12)]) C Dy (m_X7_part E l _ _ 1 (Or.inl rfl) v3 (4 : Int32) _ hwp) (cw_X0_67 C rfl rfl ⟨Nat.le_trans (Nat.le_of_ble_eq_true rfl) hR.1, Nat.le_trans (Nat.le_of_ble_eq_true rfl) hR.2⟩) wx_1 rfl rfl lv.1 rfl (Nat.le_of_ble_eq_true rfl) dX0_layOut_189 ⟨Nat.zero_le _, Nat.zero_le _⟩) (fun r28 h29 hl29 H locs hwp Dy => ?_)
      obtain ⟨rfl, rfl, hwp⟩ := hwp
      obtain ⟨g30, hwp⟩ := hwp
      refine x_iast C Dy wxa_12 g30 dX0_layOut_192 (fun H locs Dy => ?_)
      refine lv_aload_n hx hb dX0_layOut_193 rfl (lv_at lv 0 rfl) ?_
      refine lv_iload_n hx hb dX0_layOut_194 rfl (lv_at lv 2 rfl) ?_
      refine x_cont_v Dy (x_runV (As := [.int v3]) (rest := []) C Dy (m_X0_layLaw E l _ _ v3 _ hwp) (cw_X0_71 C rfl rfl ⟨Nat.le_trans (Nat.le_of_ble_eq_true rfl) hR.1, Nat.le_trans (Nat.le_of_ble_eq_true rfl) hR.2⟩) wx_7 rfl rfl lv.1 rfl (Nat.le_of_ble_eq_true rfl) dX0_layOut_195 ⟨Nat.zero_le _, Nat.zero_le _⟩) (fun h32 hl32 H locs hwp Dy => ?_)
      obtain ⟨rfl, hwp⟩ := hwp
      refine lv_iinc (v := (v3 + (1 : Int32))) (lv' := [(3, .int (v3 + (1 : Int32))), (0, .ref (wad (wdX E) 7)), (1, .ref (wad (wdX E) 1))]) hx hb dX0_layOut_198 lv (k := 2) rfl rfl (by decide) rfl (fun ls lv => ?_)
      refine lv_goto (tgt := 123) hx hb dX0_layOut_201 (by decide) ?_
      exact ih h32 (v3 + (1 : Int32)) _ _ _ Dy (lv_sub lv [1, 2, 0] rfl) hwp
set_option maxHeartbeats 4000000 in
set_option maxRecDepth 100000 in
theorem t_X0_layOut_63 (E : xE) {p : Program} {l : Launch} {e : Env} {R : Room} {s : State} {m : MethodId} {args : Array Value} {below : List Frame} {meth : Method} {c : Code} (C : mC (wdX E) p s m meth c args cX0_layOut 5 RX0 none) (hR : 1 ≤ R.frames ∧ 26 ≤ R.locals) {hl : MemL} (Qp : Mem → Prop) : ∀ (n : Nat) (h : Mem) (v3 : Int32) (H : Heap) (locs : List Loc) (ls : Array Slot), mD (wdX E) h hl s H locs → lv_has ls 5 [(0, .ref (wad (wdX E) 7)), (1, .ref (wad (wdX E) 1)), (2, .ref (wad (wdX E) 4)), (3, .int v3)] → b_X0_layOut_63 n h v3 Qp → W p l e R s m args below meth c H locs 0 0 (MQ below (mQv (wdX E) (fun h1 hl1 => hl = hl1 ∧ Qp h1)) args s 0 0 (wA (wdX E))) (F0 m 63 ls []) := by
  have hx := C.x
  have hb := C.b
  intro n
  induction n with
  | zero => intro h v3 H locs ls Dy lv hwp; exact hwp.elim
  | succ n ih =>
    intro h v3 H locs ls Dy lv hwp
    simp only [b_X0_layOut_63] at hwp
    refine lv_iload_n hx hb dX0_layOut_63 rfl (lv_at lv 3 rfl) ?_
    refine lv_aload_n hx hb dX0_layOut_64 rfl (lv_at lv 2 rfl) ?_
    refine gf_X0_56_4 C Dy dX0_layOut_65 ?_
    refine lv_icmp_ge (tgt := 121) hx hb dX0_layOut_68 (by decide) (fun c3 => ?_) (fun c3 => ?_)
    · have hwp := hwp.1 c3
      refine lv_iconst (v := (0 : Int32)) hx hb dX0_layOut_121 (by decide) ?_
      refine lv_istore_n (lv' := [(3, .int (0 : Int32)), (0, .ref (wad (wdX E) 7)), (1, .ref (wad (wdX E) 1)), (2, .ref (wad (wdX E) 4))]) hx hb dX0_layOut_122 rfl lv (by decide) rfl (fun ls lv => ?_)
      obtain ⟨n0, hwp⟩ := hwp
      exact t_X0_layOut_123 E C hR Qp n0 h (0 : Int32) _ _ _ Dy (lv_sub lv [1, 2, 0] rfl) hwp
    · have hwp := hwp.2 c3
      refine lv_aload_n hx hb dX0_layOut_71 rfl (lv_at lv 2 rfl) ?_
      refine lv_iload_n hx hb dX0_layOut_72 rfl (lv_at lv 3 rfl) ?_
      refine lv_iconst (v := (1 : Int32)) hx hb dX0_layOut_73 (by decide) ?_
      refine x_cont_i Dy (x_runV (As := [.int v3, .int (1 : Int32)]) (rest := []) C Dy (m_X7_part E l _ _ 4 (Or.inr rfl) v3 (1 : Int32) _ hwp) (cw_X0_67 C rfl rfl ⟨Nat.le_trans (Nat.le_of_ble_eq_true rfl) hR.1, Nat.le_trans (Nat.le_of_ble_eq_true rfl) hR.2⟩) wx_4 rfl rfl lv.1 rfl (Nat.le_of_ble_eq_true rfl) dX0_layOut_74 ⟨Nat.zero_le _, Nat.zero_le _⟩) (fun r4 h5 hl5 H locs hwp Dy => ?_)
      obtain ⟨rfl, rfl, hwp⟩ := hwp
      refine lv_istore (lv' := [(4, .int r4), (0, .ref (wad (wdX E) 7)), (1, .ref (wad (wdX E) 1)), (2, .ref (wad (wdX E) 4)), (3, .int v3)]) hx hb dX0_layOut_77 lv (by decide) rfl (fun ls lv => ?_)
      refine lv_aload_n hx hb dX0_layOut_79 rfl (lv_at lv 1 rfl) ?_
      refine gf_X0_46_7 C Dy dX0_layOut_80 ?_
      refine lv_iload hx hb dX0_layOut_83 (lv_at lv 0 rfl) ?_
      refine lv_bipush (v := (6 : Int32)) hx hb dX0_layOut_85 (by decide) ?_
      refine lv_imul hx hb dX0_layOut_87 ?_
      refine lv_aload_n hx hb dX0_layOut_88 rfl (lv_at lv 3 rfl) ?_
      refine lv_iload_n hx hb dX0_layOut_89 rfl (lv_at lv 4 rfl) ?_
      refine lv_iconst (v := (0 : Int32)) hx hb dX0_layOut_90 (by decide) ?_
      refine x_cont_i Dy (x_runV (As := [.int v3, .int (0 : Int32)]) (rest := [.int (r4 * (6 : Int32)), .ref (wad (wdX E) 18)]) C Dy (m_X7_part E l _ _ 4 (Or.inr rfl) v3 (0 : Int32) _ hwp) (cw_X0_67 C rfl rfl ⟨Nat.le_trans (Nat.le_of_ble_eq_true rfl) hR.1, Nat.le_trans (Nat.le_of_ble_eq_true rfl) hR.2⟩) wx_4 rfl rfl lv.1 rfl (Nat.le_of_ble_eq_true rfl) dX0_layOut_91 ⟨Nat.zero_le _, Nat.zero_le _⟩) (fun r6 h7 hl7 H locs hwp Dy => ?_)
      obtain ⟨rfl, rfl, hwp⟩ := hwp
      refine lv_iadd hx hb dX0_layOut_94 ?_
      refine lv_dup2_11 hx hb dX0_layOut_95 rfl rfl ?_
      obtain ⟨g8, hwp⟩ := hwp
      refine x_iald C Dy wxa_18 g8 dX0_layOut_96 ?_
      refine lv_aload_n hx hb dX0_layOut_97 rfl (lv_at lv 3 rfl) ?_
      refine lv_iload_n hx hb dX0_layOut_98 rfl (lv_at lv 4 rfl) ?_
      refine lv_iconst (v := (2 : Int32)) hx hb dX0_layOut_99 (by decide) ?_
      refine x_cont_i Dy (x_runV (As := [.int v3, .int (2 : Int32)]) (rest := [.int (h 18 ((r4 * (6 : Int32)) + r6).toNatClampNeg), .int ((r4 * (6 : Int32)) + r6), .ref (wad (wdX E) 18)]) C Dy (m_X7_part E l _ _ 4 (Or.inr rfl) v3 (2 : Int32) _ hwp) (cw_X0_67 C rfl rfl ⟨Nat.le_trans (Nat.le_of_ble_eq_true rfl) hR.1, Nat.le_trans (Nat.le_of_ble_eq_true rfl) hR.2⟩) wx_4 rfl rfl lv.1 rfl (Nat.le_of_ble_eq_true rfl) dX0_layOut_100 ⟨Nat.zero_le _, Nat.zero_le _⟩) (fun r9 h10 hl10 H locs hwp Dy => ?_)
      obtain ⟨rfl, rfl, hwp⟩ := hwp
      refine lv_iconst (v := (1 : Int32)) hx hb dX0_layOut_103 (by decide) ?_
      refine lv_iadd hx hb dX0_layOut_104 ?_
      refine lv_iadd hx hb dX0_layOut_105 ?_
      obtain ⟨g11, hwp⟩ := hwp
      refine x_iast C Dy wxa_18 g11 dX0_layOut_106 (fun H locs Dy => ?_)
      obtain ⟨h12, eh12⟩ : ∃ z : Mem, z = (up2 h 18 ((r4 * (6 : Int32)) + r6).toNatClampNeg ((h 18 ((r4 * (6 : Int32)) + r6).toNatClampNeg) + (r9 + (1 : Int32)))) := ⟨_, rfl⟩
      rw [← eh12] at Dy
      have hwp := hwp h12 eh12
      refine lv_aload_n hx hb dX0_layOut_107 rfl (lv_at lv 1 rfl) ?_
      refine gf_X0_52_7 C Dy dX0_layOut_108 ?_
      refine lv_iload hx hb dX0_layOut_111 (lv_at lv 0 rfl) ?_
      refine lv_iconst (v := (1 : Int32)) hx hb dX0_layOut_113 (by decide) ?_
      obtain ⟨g13, hwp⟩ := hwp
      refine x_zast C Dy wxa_20 g13 rfl dX0_layOut_114 (fun H locs Dy => ?_)
      refine lv_iinc (v := (v3 + (1 : Int32))) (lv' := [(3, .int (v3 + (1 : Int32))), (4, .int r4), (0, .ref (wad (wdX E) 7)), (1, .ref (wad (wdX E) 1)), (2, .ref (wad (wdX E) 4))]) hx hb dX0_layOut_115 lv (k := 4) rfl rfl (by decide) rfl (fun ls lv => ?_)
      refine lv_goto (tgt := 63) hx hb dX0_layOut_118 (by decide) ?_
      exact ih (up2 h12 20 r4.toNatClampNeg (1 : Int32)) (v3 + (1 : Int32)) _ _ _ Dy (lv_sub lv [2, 3, 4, 0] rfl) hwp
set_option maxHeartbeats 4000000 in
set_option maxRecDepth 100000 in
theorem t_X0_layOut_42 (E : xE) {p : Program} {l : Launch} {e : Env} {R : Room} {s : State} {m : MethodId} {args : Array Value} {below : List Frame} {meth : Method} {c : Code} (C : mC (wdX E) p s m meth c args cX0_layOut 5 RX0 none) (hR : 1 ≤ R.frames ∧ 26 ≤ R.locals) {hl : MemL} (Qp : Mem → Prop) : ∀ (n : Nat) (h : Mem) (v3 : Int32) (H : Heap) (locs : List Loc) (ls : Array Slot), mD (wdX E) h hl s H locs → lv_has ls 5 [(0, .ref (wad (wdX E) 7)), (1, .ref (wad (wdX E) 1)), (2, .ref (wad (wdX E) 4)), (3, .int v3)] → b_X0_layOut_42 n h v3 Qp → W p l e R s m args below meth c H locs 0 0 (MQ below (mQv (wdX E) (fun h1 hl1 => hl = hl1 ∧ Qp h1)) args s 0 0 (wA (wdX E))) (F0 m 42 ls []) := by
  have hx := C.x
  have hb := C.b
  intro n
  induction n with
  | zero => intro h v3 H locs ls Dy lv hwp; exact hwp.elim
  | succ n ih =>
    intro h v3 H locs ls Dy lv hwp
    simp only [b_X0_layOut_42] at hwp
    refine lv_iload_n hx hb dX0_layOut_42 rfl (lv_at lv 3 rfl) ?_
    refine lv_bipush (v := (24 : Int32)) hx hb dX0_layOut_43 (by decide) ?_
    refine lv_icmp_ge (tgt := 61) hx hb dX0_layOut_45 (by decide) (fun c1 => ?_) (fun c1 => ?_)
    · have hwp := hwp.1 c1
      refine lv_iconst (v := (0 : Int32)) hx hb dX0_layOut_61 (by decide) ?_
      refine lv_istore_n (lv' := [(3, .int (0 : Int32)), (0, .ref (wad (wdX E) 7)), (1, .ref (wad (wdX E) 1)), (2, .ref (wad (wdX E) 4))]) hx hb dX0_layOut_62 rfl lv (by decide) rfl (fun ls lv => ?_)
      obtain ⟨n0, hwp⟩ := hwp
      exact t_X0_layOut_63 E C hR Qp n0 h (0 : Int32) _ _ _ Dy (lv_sub lv [1, 2, 3, 0] rfl) hwp
    · have hwp := hwp.2 c1
      refine lv_aload_n hx hb dX0_layOut_48 rfl (lv_at lv 0 rfl) ?_
      refine gf_X0_52_7 C Dy dX0_layOut_49 ?_
      refine lv_iload_n hx hb dX0_layOut_52 rfl (lv_at lv 3 rfl) ?_
      refine lv_iconst (v := (0 : Int32)) hx hb dX0_layOut_53 (by decide) ?_
      obtain ⟨g2, hwp⟩ := hwp
      refine x_zast C Dy wxa_20 g2 rfl dX0_layOut_54 (fun H locs Dy => ?_)
      refine lv_iinc (v := (v3 + (1 : Int32))) (lv' := [(3, .int (v3 + (1 : Int32))), (0, .ref (wad (wdX E) 7)), (1, .ref (wad (wdX E) 1)), (2, .ref (wad (wdX E) 4))]) hx hb dX0_layOut_55 lv (k := 3) rfl rfl (by decide) rfl (fun ls lv => ?_)
      refine lv_goto (tgt := 42) hx hb dX0_layOut_58 (by decide) ?_
      exact ih (up2 h 20 v3.toNatClampNeg (0 : Int32)) (v3 + (1 : Int32)) _ _ _ Dy (lv_sub lv [1, 2, 3, 0] rfl) hwp
set_option maxHeartbeats 4000000 in
set_option maxRecDepth 100000 in
theorem m_X0_layOut (E : xE) (l : Launch) (h : Mem) (hl : MemL) (Qp : Mem → Prop) (hwp : p_X0_layOut h Qp) : Met l yX0_layOut (wsU yX0_layOut cX0_layOut 5 none) ({ frames := 1, cells := 0, slots := 0, locals := 26 } : Room) (mPc (wdX E) [.ref (wad (wdX E) 7), .ref (wad (wdX E) 1), .ref (wad (wdX E) 4)] h hl) (mQv (wdX E) (fun h1 hl1 => hl = hl1 ∧ Qp h1)) 0 0 (wA (wdX E)) := by
  refine x_met RX0 [(0, .ref (wad (wdX E) 7)), (1, .ref (wad (wdX E) 1)), (2, .ref (wad (wdX E) 4))] (by decide) rfl (Nat.le_of_ble_eq_true rfl) rfl ?_
  intro p e s m args below meth c ls C Dy lv
  have hx := C.x
  have hb := C.b
  have hR : 1 ≤ ({ frames := 1, cells := 0, slots := 0, locals := 26 } : Room).frames ∧ 26 ≤ ({ frames := 1, cells := 0, slots := 0, locals := 26 } : Room).locals := ⟨Nat.le_refl _, Nat.le_refl _⟩
  unfold p_X0_layOut at hwp
  refine lv_aload_n hx hb dX0_layOut_0 rfl (lv_at lv 0 rfl) ?_
  refine lv_aload_n hx hb dX0_layOut_1 rfl (lv_at lv 1 rfl) ?_
  refine gf_X0_56_1 C Dy dX0_layOut_2 ?_
  refine pf_X0_9_7 C Dy dX0_layOut_5 (fun H locs Dy => ?_)
  refine lv_aload_n hx hb dX0_layOut_8 rfl (lv_at lv 0 rfl) ?_
  refine gf_X0_40_7 C Dy dX0_layOut_9 ?_
  refine lv_iconst (v := (0 : Int32)) hx hb dX0_layOut_12 (by decide) ?_
  refine x_cont_v Dy (x_runS (As := [.ref (wad (wdX E) 16), .int (0 : Int32)]) (rest := []) C Dy (m_J7_fill (wdX E) l _ _ 16 144 wxa_16 (0 : Int32) _ hwp) (cw_X0_61 C rfl rfl ⟨Nat.le_trans (Nat.le_of_ble_eq_true rfl) hR.1, Nat.le_trans (Nat.le_of_ble_eq_true rfl) hR.2⟩) rfl lv.1 rfl (Nat.le_of_ble_eq_true rfl) dX0_layOut_13 ⟨Nat.zero_le _, Nat.zero_le _⟩) (fun h41 hl41 H locs hwp Dy => ?_)
  obtain ⟨rfl, hwp⟩ := hwp
  refine lv_aload_n hx hb dX0_layOut_16 rfl (lv_at lv 0 rfl) ?_
  refine gf_X0_43_7 C Dy dX0_layOut_17 ?_
  refine lv_iconst (v := (0 : Int32)) hx hb dX0_layOut_20 (by decide) ?_
  refine x_cont_v Dy (x_runS (As := [.ref (wad (wdX E) 17), .int (0 : Int32)]) (rest := []) C Dy (m_J7_fill (wdX E) l _ _ 17 144 wxa_17 (0 : Int32) _ hwp) (cw_X0_61 C rfl rfl ⟨Nat.le_trans (Nat.le_of_ble_eq_true rfl) hR.1, Nat.le_trans (Nat.le_of_ble_eq_true rfl) hR.2⟩) rfl lv.1 rfl (Nat.le_of_ble_eq_true rfl) dX0_layOut_21 ⟨Nat.zero_le _, Nat.zero_le _⟩) (fun h43 hl43 H locs hwp Dy => ?_)
  obtain ⟨rfl, hwp⟩ := hwp
  refine lv_aload_n hx hb dX0_layOut_24 rfl (lv_at lv 0 rfl) ?_
  refine gf_X0_46_7 C Dy dX0_layOut_25 ?_
  refine lv_iconst (v := (0 : Int32)) hx hb dX0_layOut_28 (by decide) ?_
  refine x_cont_v Dy (x_runS (As := [.ref (wad (wdX E) 18), .int (0 : Int32)]) (rest := []) C Dy (m_J7_fill (wdX E) l _ _ 18 144 wxa_18 (0 : Int32) _ hwp) (cw_X0_61 C rfl rfl ⟨Nat.le_trans (Nat.le_of_ble_eq_true rfl) hR.1, Nat.le_trans (Nat.le_of_ble_eq_true rfl) hR.2⟩) rfl lv.1 rfl (Nat.le_of_ble_eq_true rfl) dX0_layOut_29 ⟨Nat.zero_le _, Nat.zero_le _⟩) (fun h45 hl45 H locs hwp Dy => ?_)
  obtain ⟨rfl, hwp⟩ := hwp
  refine lv_aload_n hx hb dX0_layOut_32 rfl (lv_at lv 0 rfl) ?_
  refine gf_X0_49_7 C Dy dX0_layOut_33 ?_
  refine lv_iconst (v := (0 : Int32)) hx hb dX0_layOut_36 (by decide) ?_
  refine x_cont_v Dy (x_runS (As := [.ref (wad (wdX E) 19), .int (0 : Int32)]) (rest := []) C Dy (m_J7_fill (wdX E) l _ _ 19 24 wxa_19 (0 : Int32) _ hwp) (cw_X0_61 C rfl rfl ⟨Nat.le_trans (Nat.le_of_ble_eq_true rfl) hR.1, Nat.le_trans (Nat.le_of_ble_eq_true rfl) hR.2⟩) rfl lv.1 rfl (Nat.le_of_ble_eq_true rfl) dX0_layOut_37 ⟨Nat.zero_le _, Nat.zero_le _⟩) (fun h47 hl47 H locs hwp Dy => ?_)
  obtain ⟨rfl, hwp⟩ := hwp
  refine lv_iconst (v := (0 : Int32)) hx hb dX0_layOut_40 (by decide) ?_
  refine lv_istore_n (lv' := [(3, .int (0 : Int32)), (0, .ref (wad (wdX E) 7)), (1, .ref (wad (wdX E) 1)), (2, .ref (wad (wdX E) 4))]) hx hb dX0_layOut_41 rfl lv (by decide) rfl (fun ls lv => ?_)
  obtain ⟨n0, hwp⟩ := hwp
  exact t_X0_layOut_42 E C hR Qp n0 h47 (0 : Int32) _ _ _ Dy (lv_sub lv [1, 2, 3, 0] rfl) hwp
def p_X0_lawPart (h : Mem) (v1 : Int32) (v2 : Int32) (Qp : Int32 → Prop) : Prop := ((v2 = (0 : Int32) → (vp_in v1 12 ∧ Qp (h 8 v1.toNatClampNeg))) ∧ (¬ (v2 = (0 : Int32)) → ((v2 = (1 : Int32) → (vp_in v1 12 ∧ Qp (h 9 v1.toNatClampNeg))) ∧ (¬ (v2 = (1 : Int32)) → ((v2 = (2 : Int32) → (vp_in v1 12 ∧ Qp (h 10 v1.toNatClampNeg))) ∧ (¬ (v2 = (2 : Int32)) → ((v2 = (3 : Int32) → (vp_in v1 12 ∧ Qp (h 11 v1.toNatClampNeg))) ∧ (¬ (v2 = (3 : Int32)) → (vp_in v1 12 ∧ Qp (h 12 v1.toNatClampNeg))))))))))
set_option maxHeartbeats 4000000 in
set_option maxRecDepth 100000 in
theorem m_X0_lawPart (E : xE) (l : Launch) (h : Mem) (hl : MemL) (v1 : Int32) (v2 : Int32) (Qp : Int32 → Prop) (hwp : p_X0_lawPart h v1 v2 Qp) : Met l yX0_lawPart (wsU yX0_lawPart cX0_lawPart 3 (some .int)) ({ frames := 0, cells := 0, slots := 0, locals := 0 } : Room) (mPc (wdX E) [.ref (wad (wdX E) 7), .int v1, .int v2] h hl) (mQi (wdX E) (fun r h1 hl1 => h = h1 ∧ hl = hl1 ∧ Qp r)) 0 0 (wA (wdX E)) := by
  refine x_met RX0 [(0, .ref (wad (wdX E) 7)), (1, .int v1), (2, .int v2)] (by decide) rfl (Nat.le_of_ble_eq_true rfl) rfl ?_
  intro p e s m args below meth c ls C Dy lv
  have hx := C.x
  have hb := C.b
  have hR : 0 ≤ ({ frames := 0, cells := 0, slots := 0, locals := 0 } : Room).frames ∧ 0 ≤ ({ frames := 0, cells := 0, slots := 0, locals := 0 } : Room).locals := ⟨Nat.le_refl _, Nat.le_refl _⟩
  unfold p_X0_lawPart at hwp
  refine lv_iload_n hx hb dX0_lawPart_0 rfl (lv_at lv 2 rfl) ?_
  by_cases c1 : v2 = (0 : Int32)
  · have hwp := hwp.1 c1
    refine lv_tableIn (off := 31) (tgt := 32) hx hb dX0_lawPart_1 (by rw [c1]; decide) (by rw [c1]; decide) (by rw [c1]; rfl) (by decide) ?_
    refine lv_aload_n hx hb dX0_lawPart_32 rfl (lv_at lv 0 rfl) ?_
    refine gf_X0_15_7 C Dy dX0_lawPart_33 ?_
    refine lv_iload_n hx hb dX0_lawPart_36 rfl (lv_at lv 1 rfl) ?_
    obtain ⟨g2, hwp⟩ := hwp
    refine x_iald C Dy wxa_8 g2 dX0_lawPart_37 ?_
    exact x_iret C Dy ⟨rfl, rfl, hwp⟩ dX0_lawPart_38
  · have hwp := hwp.2 c1
    by_cases c3 : v2 = (1 : Int32)
    · have hwp := hwp.1 c3
      refine lv_tableIn (off := 38) (tgt := 39) hx hb dX0_lawPart_1 (by rw [c3]; decide) (by rw [c3]; decide) (by rw [c3]; rfl) (by decide) ?_
      refine lv_aload_n hx hb dX0_lawPart_39 rfl (lv_at lv 0 rfl) ?_
      refine gf_X0_19_7 C Dy dX0_lawPart_40 ?_
      refine lv_iload_n hx hb dX0_lawPart_43 rfl (lv_at lv 1 rfl) ?_
      obtain ⟨g4, hwp⟩ := hwp
      refine x_iald C Dy wxa_9 g4 dX0_lawPart_44 ?_
      exact x_iret C Dy ⟨rfl, rfl, hwp⟩ dX0_lawPart_45
    · have hwp := hwp.2 c3
      by_cases c5 : v2 = (2 : Int32)
      · have hwp := hwp.1 c5
        refine lv_tableIn (off := 45) (tgt := 46) hx hb dX0_lawPart_1 (by rw [c5]; decide) (by rw [c5]; decide) (by rw [c5]; rfl) (by decide) ?_
        refine lv_aload_n hx hb dX0_lawPart_46 rfl (lv_at lv 0 rfl) ?_
        refine gf_X0_22_7 C Dy dX0_lawPart_47 ?_
        refine lv_iload_n hx hb dX0_lawPart_50 rfl (lv_at lv 1 rfl) ?_
        obtain ⟨g6, hwp⟩ := hwp
        refine x_iald C Dy wxa_10 g6 dX0_lawPart_51 ?_
        exact x_iret C Dy ⟨rfl, rfl, hwp⟩ dX0_lawPart_52
      · have hwp := hwp.2 c5
        by_cases c7 : v2 = (3 : Int32)
        · have hwp := hwp.1 c7
          refine lv_tableIn (off := 52) (tgt := 53) hx hb dX0_lawPart_1 (by rw [c7]; decide) (by rw [c7]; decide) (by rw [c7]; rfl) (by decide) ?_
          refine lv_aload_n hx hb dX0_lawPart_53 rfl (lv_at lv 0 rfl) ?_
          refine gf_X0_25_7 C Dy dX0_lawPart_54 ?_
          refine lv_iload_n hx hb dX0_lawPart_57 rfl (lv_at lv 1 rfl) ?_
          obtain ⟨g8, hwp⟩ := hwp
          refine x_iald C Dy wxa_11 g8 dX0_lawPart_58 ?_
          exact x_iret C Dy ⟨rfl, rfl, hwp⟩ dX0_lawPart_59
        · have hwp := hwp.2 c7
          have nc1 := lv_neT c1 (a := 0) (by decide)
          have nc3 := lv_neT c3 (a := 1) (by decide)
          have nc5 := lv_neT c5 (a := 2) (by decide)
          have nc7 := lv_neT c7 (a := 3) (by decide)
          refine lv_tableOut (tgt := 60) hx hb dX0_lawPart_1 (by omega) (by decide) ?_
          refine lv_aload_n hx hb dX0_lawPart_60 rfl (lv_at lv 0 rfl) ?_
          refine gf_X0_28_7 C Dy dX0_lawPart_61 ?_
          refine lv_iload_n hx hb dX0_lawPart_64 rfl (lv_at lv 1 rfl) ?_
          obtain ⟨g9, hwp⟩ := hwp
          refine x_iald C Dy wxa_12 g9 dX0_lawPart_65 ?_
          exact x_iret C Dy ⟨rfl, rfl, hwp⟩ dX0_lawPart_66
def p_X0_all (h : Mem) (Qp : Int32 → Prop) : Prop := Qp (((1 : Int32) <<< ((h 7 0) &&& 31)) - (1 : Int32))
set_option maxHeartbeats 4000000 in
set_option maxRecDepth 100000 in
theorem m_X0_all (E : xE) (l : Launch) (h : Mem) (hl : MemL) (Qp : Int32 → Prop) (hwp : p_X0_all h Qp) : Met l yX0_all (wsU yX0_all cX0_all 1 (some .int)) ({ frames := 0, cells := 0, slots := 0, locals := 0 } : Room) (mPc (wdX E) [.ref (wad (wdX E) 7)] h hl) (mQi (wdX E) (fun r h1 hl1 => h = h1 ∧ hl = hl1 ∧ Qp r)) 0 0 (wA (wdX E)) := by
  refine x_met RX0 [(0, .ref (wad (wdX E) 7))] (by decide) rfl (Nat.le_of_ble_eq_true rfl) rfl ?_
  intro p e s m args below meth c ls C Dy lv
  have hx := C.x
  have hb := C.b
  have hR : 0 ≤ ({ frames := 0, cells := 0, slots := 0, locals := 0 } : Room).frames ∧ 0 ≤ ({ frames := 0, cells := 0, slots := 0, locals := 0 } : Room).locals := ⟨Nat.le_refl _, Nat.le_refl _⟩
  unfold p_X0_all at hwp
  refine lv_iconst (v := (1 : Int32)) hx hb dX0_all_0 (by decide) ?_
  refine lv_aload_n hx hb dX0_all_1 rfl (lv_at lv 0 rfl) ?_
  refine gf_X0_9_7 C Dy dX0_all_2 ?_
  refine lv_ishl hx hb dX0_all_5 ?_
  refine lv_iconst (v := (1 : Int32)) hx hb dX0_all_6 (by decide) ?_
  refine lv_isub hx hb dX0_all_7 ?_
  exact x_iret C Dy ⟨rfl, rfl, hwp⟩ dX0_all_8
def b_X0_standing_31 (h : Mem) (v1 : Int32) (v2 : Int32) (v3 : Int32) (K4 : Int32 → Int32 → Int32 → Prop) (Qp : Int32 → Prop) : Prop := K4 v1 v2 (v3 + (1 : Int32))
def b_X0_standing_4 : Nat → Mem → Int32 → Int32 → Int32 → (Int32 → Prop) → Prop
  | 0 => fun _ _ _ _ _ => False
  | n + 1 => fun h v1 v2 v3 Qp => (((h 7 0) ≤ v3 → Qp v2) ∧ (¬ ((h 7 0) ≤ v3) → (vp_in v3 12 ∧ b_X0_standing_31 h v1 (if ((h 14 v3.toNatClampNeg) &&& (v1 ^^^ (-1 : Int32))) = 0 then (v2 ||| ((1 : Int32) <<< (v3 &&& 31))) else v2) v3 (fun v1 v2 v3 => b_X0_standing_4 n h v1 v2 v3 Qp) Qp)))
def p_X0_standing (h : Mem) (v1 : Int32) (Qp : Int32 → Prop) : Prop := (∃ n4, b_X0_standing_4 n4 h v1 (0 : Int32) (0 : Int32) Qp)
set_option maxHeartbeats 4000000 in
set_option maxRecDepth 100000 in
theorem t_X0_standing_31 (E : xE) {p : Program} {l : Launch} {e : Env} {R : Room} {s : State} {m : MethodId} {args : Array Value} {below : List Frame} {meth : Method} {c : Code} (C : mC (wdX E) p s m meth c args cX0_standing 4 RX0 (some .int)) (hR : 0 ≤ R.frames ∧ 0 ≤ R.locals) {h : Mem} {hl : MemL} (Qp : Int32 → Prop) (K4 : Int32 → Int32 → Int32 → Prop) (hK4 : ∀ (v1 : Int32) (v2 : Int32) (v3 : Int32) (H : Heap) (locs : List Loc) (ls : Array Slot), mD (wdX E) h hl s H locs → lv_has ls 4 [(0, .ref (wad (wdX E) 7)), (1, .int v1), (2, .int v2), (3, .int v3)] → K4 v1 v2 v3 → W p l e R s m args below meth c H locs 0 0 (MQ below (mQi (wdX E) (fun r h1 hl1 => h = h1 ∧ hl = hl1 ∧ Qp r)) args s 0 0 (wA (wdX E))) (F0 m 4 ls [])) : ∀ (v1 : Int32) (v2 : Int32) (v3 : Int32) (H : Heap) (locs : List Loc) (ls : Array Slot), mD (wdX E) h hl s H locs → lv_has ls 4 [(0, .ref (wad (wdX E) 7)), (1, .int v1), (2, .int v2), (3, .int v3)] → b_X0_standing_31 h v1 v2 v3 K4 Qp → W p l e R s m args below meth c H locs 0 0 (MQ below (mQi (wdX E) (fun r h1 hl1 => h = h1 ∧ hl = hl1 ∧ Qp r)) args s 0 0 (wA (wdX E))) (F0 m 31 ls []) := by
  have hx := C.x
  have hb := C.b
  intro v1 v2 v3 H locs ls Dy lv hwp
  unfold b_X0_standing_31 at hwp
  refine lv_iinc (v := (v3 + (1 : Int32))) (lv' := [(3, .int (v3 + (1 : Int32))), (0, .ref (wad (wdX E) 7)), (1, .int v1), (2, .int v2)]) hx hb dX0_standing_31 lv (k := 3) rfl rfl (by decide) rfl (fun ls lv => ?_)
  refine lv_goto (tgt := 4) hx hb dX0_standing_34 (by decide) ?_
  exact hK4 v1 v2 (v3 + (1 : Int32)) _ _ _ Dy (lv_sub lv [1, 2, 3, 0] rfl) hwp
set_option maxHeartbeats 4000000 in
set_option maxRecDepth 100000 in
theorem t_X0_standing_4 (E : xE) {p : Program} {l : Launch} {e : Env} {R : Room} {s : State} {m : MethodId} {args : Array Value} {below : List Frame} {meth : Method} {c : Code} (C : mC (wdX E) p s m meth c args cX0_standing 4 RX0 (some .int)) (hR : 0 ≤ R.frames ∧ 0 ≤ R.locals) {h : Mem} {hl : MemL} (Qp : Int32 → Prop) : ∀ (n : Nat) (v1 : Int32) (v2 : Int32) (v3 : Int32) (H : Heap) (locs : List Loc) (ls : Array Slot), mD (wdX E) h hl s H locs → lv_has ls 4 [(0, .ref (wad (wdX E) 7)), (1, .int v1), (2, .int v2), (3, .int v3)] → b_X0_standing_4 n h v1 v2 v3 Qp → W p l e R s m args below meth c H locs 0 0 (MQ below (mQi (wdX E) (fun r h1 hl1 => h = h1 ∧ hl = hl1 ∧ Qp r)) args s 0 0 (wA (wdX E))) (F0 m 4 ls []) := by
  have hx := C.x
  have hb := C.b
  intro n
  induction n with
  | zero => intro v1 v2 v3 H locs ls Dy lv hwp; exact hwp.elim
  | succ n ih =>
    intro v1 v2 v3 H locs ls Dy lv hwp
    simp only [b_X0_standing_4] at hwp
    refine lv_iload_n hx hb dX0_standing_4 rfl (lv_at lv 3 rfl) ?_
    refine lv_aload_n hx hb dX0_standing_5 rfl (lv_at lv 0 rfl) ?_
    refine gf_X0_9_7 C Dy dX0_standing_6 ?_
    refine lv_icmp_ge (tgt := 37) hx hb dX0_standing_9 (by decide) (fun c1 => ?_) (fun c1 => ?_)
    · have hwp := hwp.1 c1
      refine lv_iload_n hx hb dX0_standing_37 rfl (lv_at lv 2 rfl) ?_
      exact x_iret C Dy ⟨rfl, rfl, hwp⟩ dX0_standing_38
    · have hwp := hwp.2 c1
      refine lv_aload_n hx hb dX0_standing_12 rfl (lv_at lv 0 rfl) ?_
      refine gf_X0_34_7 C Dy dX0_standing_13 ?_
      refine lv_iload_n hx hb dX0_standing_16 rfl (lv_at lv 3 rfl) ?_
      obtain ⟨g2, hwp⟩ := hwp
      refine x_iald C Dy wxa_14 g2 dX0_standing_17 ?_
      refine lv_iload_n hx hb dX0_standing_18 rfl (lv_at lv 1 rfl) ?_
      refine lv_iconst (v := (-1 : Int32)) hx hb dX0_standing_19 (by decide) ?_
      refine lv_ixor hx hb dX0_standing_20 ?_
      refine lv_iand hx hb dX0_standing_21 ?_
      refine lv_if_ne (tgt := 31) hx hb dX0_standing_22 (by decide) (fun c3 => ?_) (fun c3 => ?_)
      · try simp only [if_neg c3] at hwp
        exact t_X0_standing_31 E C hR Qp (fun v1 v2 v3 => b_X0_standing_4 n h v1 v2 v3 Qp) (fun v1 v2 v3 H locs ls Dy lv hwp => ih v1 v2 v3 H locs ls Dy lv hwp) v1 v2 v3 _ _ _ Dy (lv_sub lv [0, 1, 2, 3] rfl) hwp
      · try simp only [if_pos c3] at hwp
        refine lv_iload_n hx hb dX0_standing_25 rfl (lv_at lv 2 rfl) ?_
        refine lv_iconst (v := (1 : Int32)) hx hb dX0_standing_26 (by decide) ?_
        refine lv_iload_n hx hb dX0_standing_27 rfl (lv_at lv 3 rfl) ?_
        refine lv_ishl hx hb dX0_standing_28 ?_
        refine lv_ior hx hb dX0_standing_29 ?_
        refine lv_istore_n (lv' := [(2, .int (v2 ||| ((1 : Int32) <<< (v3 &&& 31)))), (0, .ref (wad (wdX E) 7)), (1, .int v1), (3, .int v3)]) hx hb dX0_standing_30 rfl lv (by decide) rfl (fun ls lv => ?_)
        exact t_X0_standing_31 E C hR Qp (fun v1 v2 v3 => b_X0_standing_4 n h v1 v2 v3 Qp) (fun v1 v2 v3 H locs ls Dy lv hwp => ih v1 v2 v3 H locs ls Dy lv hwp) v1 (v2 ||| ((1 : Int32) <<< (v3 &&& 31))) v3 _ _ _ Dy (lv_sub lv [1, 2, 0, 3] rfl) hwp
set_option maxHeartbeats 4000000 in
set_option maxRecDepth 100000 in
theorem m_X0_standing (E : xE) (l : Launch) (h : Mem) (hl : MemL) (v1 : Int32) (Qp : Int32 → Prop) (hwp : p_X0_standing h v1 Qp) : Met l yX0_standing (wsU yX0_standing cX0_standing 4 (some .int)) ({ frames := 0, cells := 0, slots := 0, locals := 0 } : Room) (mPc (wdX E) [.ref (wad (wdX E) 7), .int v1] h hl) (mQi (wdX E) (fun r h1 hl1 => h = h1 ∧ hl = hl1 ∧ Qp r)) 0 0 (wA (wdX E)) := by
  refine x_met RX0 [(0, .ref (wad (wdX E) 7)), (1, .int v1)] (by decide) rfl (Nat.le_of_ble_eq_true rfl) rfl ?_
  intro p e s m args below meth c ls C Dy lv
  have hx := C.x
  have hb := C.b
  have hR : 0 ≤ ({ frames := 0, cells := 0, slots := 0, locals := 0 } : Room).frames ∧ 0 ≤ ({ frames := 0, cells := 0, slots := 0, locals := 0 } : Room).locals := ⟨Nat.le_refl _, Nat.le_refl _⟩
  unfold p_X0_standing at hwp
  refine lv_iconst (v := (0 : Int32)) hx hb dX0_standing_0 (by decide) ?_
  refine lv_istore_n (lv' := [(2, .int (0 : Int32)), (0, .ref (wad (wdX E) 7)), (1, .int v1)]) hx hb dX0_standing_1 rfl lv (by decide) rfl (fun ls lv => ?_)
  refine lv_iconst (v := (0 : Int32)) hx hb dX0_standing_2 (by decide) ?_
  refine lv_istore_n (lv' := [(3, .int (0 : Int32)), (2, .int (0 : Int32)), (0, .ref (wad (wdX E) 7)), (1, .int v1)]) hx hb dX0_standing_3 rfl lv (by decide) rfl (fun ls lv => ?_)
  obtain ⟨n0, hwp⟩ := hwp
  exact t_X0_standing_4 E C hR Qp n0 v1 (0 : Int32) (0 : Int32) _ _ _ Dy (lv_sub lv [2, 3, 1, 0] rfl) hwp
def b_X0_deedBy_114 (h : Mem) (v1 : Int32) (v3 : Int32) (v4 : Int32) (v5 : Int32) (v6 : Int32) (v7 : Int32) (K18 : Int32 → Int32 → Int32 → Int32 → Int32 → Int32 → Prop) (Qp : Int32 → Prop) : Prop := K18 v1 v3 v4 v5 v6 (v7 + (1 : Int32))
def b_X0_deedBy_45 (h : Mem) (v1 : Int32) (v3 : Int32) (v4 : Int32) (v5 : Int32) (v6 : Int32) (v7 : Int32) (w0 : Int32) (K18 : Int32 → Int32 → Int32 → Int32 → Int32 → Int32 → Prop) (Qp : Int32 → Prop) : Prop := (vp_in v7 144 ∧ (((v1 &&& (h 16 v7.toNatClampNeg)) = 0 → (vp_in v7 144 ∧ (((h 18 v7.toNatClampNeg) ≤ v5 → b_X0_deedBy_114 h v1 v3 v4 v5 v6 v7 K18 Qp) ∧ (¬ ((h 18 v7.toNatClampNeg) ≤ v5) → ((w0 = 0 → (vp_in v7 144 ∧ b_X0_deedBy_114 h v1 v3 (v7 - v6) (h 18 v7.toNatClampNeg) v6 v7 K18 Qp)) ∧ (¬ (w0 = 0) → b_X0_deedBy_114 h v1 v3 v4 v5 v6 v7 K18 Qp)))))) ∧ (¬ ((v1 &&& (h 16 v7.toNatClampNeg)) = 0) → ((w0 = 0 → ((v3 = (-1 : Int32) → b_X0_deedBy_114 h v1 (v7 - v6) v4 v5 v6 v7 K18 Qp) ∧ (¬ (v3 = (-1 : Int32)) → Qp (6 : Int32)))) ∧ (¬ (w0 = 0) → Qp (6 : Int32))))))
def b_X0_deedBy_18 : Nat → Mem → Int32 → Int32 → Int32 → Int32 → Int32 → Int32 → (Int32 → Prop) → Prop
  | 0 => fun _ _ _ _ _ _ _ _ => False
  | n + 1 => fun h v1 v3 v4 v5 v6 v7 Qp => (((v6 + (6 : Int32)) ≤ v7 → Qp (if v3 = (-1 : Int32) then v4 else v3)) ∧ (¬ ((v6 + (6 : Int32)) ≤ v7) → (vp_in v7 144 ∧ b_X0_deedBy_45 h v1 v3 v4 v5 v6 v7 (if (v1 &&& (h 17 v7.toNatClampNeg)) = 0 then (0 : Int32) else (1 : Int32)) (fun v1 v3 v4 v5 v6 v7 => b_X0_deedBy_18 n h v1 v3 v4 v5 v6 v7 Qp) Qp)))
def p_X0_deedBy (h : Mem) (v1 : Int32) (v2 : Int32) (Qp : Int32 → Prop) : Prop := (∃ n18, b_X0_deedBy_18 n18 h v1 (-1 : Int32) (-1 : Int32) (0 : Int32) (v2 * (6 : Int32)) (v2 * (6 : Int32)) Qp)
set_option maxHeartbeats 4000000 in
set_option maxRecDepth 100000 in
theorem t_X0_deedBy_114 (E : xE) {p : Program} {l : Launch} {e : Env} {R : Room} {s : State} {m : MethodId} {args : Array Value} {below : List Frame} {meth : Method} {c : Code} (C : mC (wdX E) p s m meth c args cX0_deedBy 9 RX0 (some .int)) (hR : 0 ≤ R.frames ∧ 0 ≤ R.locals) {h : Mem} {hl : MemL} (Qp : Int32 → Prop) (K18 : Int32 → Int32 → Int32 → Int32 → Int32 → Int32 → Prop) (hK18 : ∀ (v1 : Int32) (v3 : Int32) (v4 : Int32) (v5 : Int32) (v6 : Int32) (v7 : Int32) (H : Heap) (locs : List Loc) (ls : Array Slot), mD (wdX E) h hl s H locs → lv_has ls 9 [(0, .ref (wad (wdX E) 7)), (1, .int v1), (3, .int v3), (4, .int v4), (5, .int v5), (6, .int v6), (7, .int v7)] → K18 v1 v3 v4 v5 v6 v7 → W p l e R s m args below meth c H locs 0 0 (MQ below (mQi (wdX E) (fun r h1 hl1 => h = h1 ∧ hl = hl1 ∧ Qp r)) args s 0 0 (wA (wdX E))) (F0 m 18 ls [])) : ∀ (v1 : Int32) (v3 : Int32) (v4 : Int32) (v5 : Int32) (v6 : Int32) (v7 : Int32) (H : Heap) (locs : List Loc) (ls : Array Slot), mD (wdX E) h hl s H locs → lv_has ls 9 [(0, .ref (wad (wdX E) 7)), (1, .int v1), (3, .int v3), (4, .int v4), (5, .int v5), (6, .int v6), (7, .int v7)] → b_X0_deedBy_114 h v1 v3 v4 v5 v6 v7 K18 Qp → W p l e R s m args below meth c H locs 0 0 (MQ below (mQi (wdX E) (fun r h1 hl1 => h = h1 ∧ hl = hl1 ∧ Qp r)) args s 0 0 (wA (wdX E))) (F0 m 114 ls []) := by
  have hx := C.x
  have hb := C.b
  intro v1 v3 v4 v5 v6 v7 H locs ls Dy lv hwp
  unfold b_X0_deedBy_114 at hwp
  refine lv_iinc (v := (v7 + (1 : Int32))) (lv' := [(7, .int (v7 + (1 : Int32))), (0, .ref (wad (wdX E) 7)), (1, .int v1), (3, .int v3), (4, .int v4), (5, .int v5), (6, .int v6)]) hx hb dX0_deedBy_114 lv (k := 6) rfl rfl (by decide) rfl (fun ls lv => ?_)
  refine lv_goto (tgt := 18) hx hb dX0_deedBy_117 (by decide) ?_
  exact hK18 v1 v3 v4 v5 v6 (v7 + (1 : Int32)) _ _ _ Dy (lv_sub lv [1, 2, 3, 4, 5, 6, 0] rfl) hwp
set_option maxHeartbeats 4000000 in
set_option maxRecDepth 100000 in
theorem t_X0_deedBy_45 (E : xE) {p : Program} {l : Launch} {e : Env} {R : Room} {s : State} {m : MethodId} {args : Array Value} {below : List Frame} {meth : Method} {c : Code} (C : mC (wdX E) p s m meth c args cX0_deedBy 9 RX0 (some .int)) (hR : 0 ≤ R.frames ∧ 0 ≤ R.locals) {h : Mem} {hl : MemL} (Qp : Int32 → Prop) (K18 : Int32 → Int32 → Int32 → Int32 → Int32 → Int32 → Prop) (hK18 : ∀ (v1 : Int32) (v3 : Int32) (v4 : Int32) (v5 : Int32) (v6 : Int32) (v7 : Int32) (H : Heap) (locs : List Loc) (ls : Array Slot), mD (wdX E) h hl s H locs → lv_has ls 9 [(0, .ref (wad (wdX E) 7)), (1, .int v1), (3, .int v3), (4, .int v4), (5, .int v5), (6, .int v6), (7, .int v7)] → K18 v1 v3 v4 v5 v6 v7 → W p l e R s m args below meth c H locs 0 0 (MQ below (mQi (wdX E) (fun r h1 hl1 => h = h1 ∧ hl = hl1 ∧ Qp r)) args s 0 0 (wA (wdX E))) (F0 m 18 ls [])) : ∀ (v1 : Int32) (v3 : Int32) (v4 : Int32) (v5 : Int32) (v6 : Int32) (v7 : Int32) (w0 : Int32) (H : Heap) (locs : List Loc) (ls : Array Slot), mD (wdX E) h hl s H locs → lv_has ls 9 [(0, .ref (wad (wdX E) 7)), (1, .int v1), (3, .int v3), (4, .int v4), (5, .int v5), (6, .int v6), (7, .int v7)] → b_X0_deedBy_45 h v1 v3 v4 v5 v6 v7 w0 K18 Qp → W p l e R s m args below meth c H locs 0 0 (MQ below (mQi (wdX E) (fun r h1 hl1 => h = h1 ∧ hl = hl1 ∧ Qp r)) args s 0 0 (wA (wdX E))) (F0 m 45 ls [.int w0]) := by
  have hx := C.x
  have hb := C.b
  intro v1 v3 v4 v5 v6 v7 w0 H locs ls Dy lv hwp
  unfold b_X0_deedBy_45 at hwp
  refine lv_istore (lv' := [(8, .int w0), (0, .ref (wad (wdX E) 7)), (1, .int v1), (3, .int v3), (4, .int v4), (5, .int v5), (6, .int v6), (7, .int v7)]) hx hb dX0_deedBy_45 lv (by decide) rfl (fun ls lv => ?_)
  refine lv_iload_n hx hb dX0_deedBy_47 rfl (lv_at lv 2 rfl) ?_
  refine lv_aload_n hx hb dX0_deedBy_48 rfl (lv_at lv 1 rfl) ?_
  refine gf_X0_40_7 C Dy dX0_deedBy_49 ?_
  refine lv_iload hx hb dX0_deedBy_52 (lv_at lv 7 rfl) ?_
  obtain ⟨g5, hwp⟩ := hwp
  refine x_iald C Dy wxa_16 g5 dX0_deedBy_54 ?_
  refine lv_iand hx hb dX0_deedBy_55 ?_
  refine lv_if_eq (tgt := 81) hx hb dX0_deedBy_56 (by decide) (fun c6 => ?_) (fun c6 => ?_)
  · have hwp := hwp.1 c6
    refine lv_aload_n hx hb dX0_deedBy_81 rfl (lv_at lv 1 rfl) ?_
    refine gf_X0_46_7 C Dy dX0_deedBy_82 ?_
    refine lv_iload hx hb dX0_deedBy_85 (lv_at lv 7 rfl) ?_
    obtain ⟨g7, hwp⟩ := hwp
    refine x_iald C Dy wxa_18 g7 dX0_deedBy_87 ?_
    refine lv_iload hx hb dX0_deedBy_88 (lv_at lv 5 rfl) ?_
    refine lv_icmp_le (tgt := 114) hx hb dX0_deedBy_90 (by decide) (fun c8 => ?_) (fun c8 => ?_)
    · have hwp := hwp.1 c8
      exact t_X0_deedBy_114 E C hR Qp K18 hK18 v1 v3 v4 v5 v6 v7 _ _ _ Dy (lv_sub lv [1, 2, 3, 4, 5, 6, 7] rfl) hwp
    · have hwp := hwp.2 c8
      refine lv_iload hx hb dX0_deedBy_93 (lv_at lv 0 rfl) ?_
      refine lv_if_ne (tgt := 114) hx hb dX0_deedBy_95 (by decide) (fun c9 => ?_) (fun c9 => ?_)
      · have hwp := hwp.2 c9
        exact t_X0_deedBy_114 E C hR Qp K18 hK18 v1 v3 v4 v5 v6 v7 _ _ _ Dy (lv_sub lv [1, 2, 3, 4, 5, 6, 7] rfl) hwp
      · have hwp := hwp.1 c9
        refine lv_iload hx hb dX0_deedBy_98 (lv_at lv 7 rfl) ?_
        refine lv_iload hx hb dX0_deedBy_100 (lv_at lv 6 rfl) ?_
        refine lv_isub hx hb dX0_deedBy_102 ?_
        refine lv_istore (lv' := [(4, .int (v7 - v6)), (8, .int w0), (0, .ref (wad (wdX E) 7)), (1, .int v1), (3, .int v3), (5, .int v5), (6, .int v6), (7, .int v7)]) hx hb dX0_deedBy_103 lv (by decide) rfl (fun ls lv => ?_)
        refine lv_aload_n hx hb dX0_deedBy_105 rfl (lv_at lv 2 rfl) ?_
        refine gf_X0_46_7 C Dy dX0_deedBy_106 ?_
        refine lv_iload hx hb dX0_deedBy_109 (lv_at lv 7 rfl) ?_
        obtain ⟨g10, hwp⟩ := hwp
        refine x_iald C Dy wxa_18 g10 dX0_deedBy_111 ?_
        refine lv_istore (lv' := [(5, .int (h 18 v7.toNatClampNeg)), (4, .int (v7 - v6)), (8, .int w0), (0, .ref (wad (wdX E) 7)), (1, .int v1), (3, .int v3), (6, .int v6), (7, .int v7)]) hx hb dX0_deedBy_112 lv (by decide) rfl (fun ls lv => ?_)
        exact t_X0_deedBy_114 E C hR Qp K18 hK18 v1 v3 (v7 - v6) (h 18 v7.toNatClampNeg) v6 v7 _ _ _ Dy (lv_sub lv [3, 4, 5, 1, 0, 6, 7] rfl) hwp
  · have hwp := hwp.2 c6
    refine lv_iload hx hb dX0_deedBy_59 (lv_at lv 0 rfl) ?_
    refine lv_if_ne (tgt := 69) hx hb dX0_deedBy_61 (by decide) (fun c11 => ?_) (fun c11 => ?_)
    · have hwp := hwp.2 c11
      refine lv_bipush (v := (6 : Int32)) hx hb dX0_deedBy_69 (by decide) ?_
      exact x_iret C Dy ⟨rfl, rfl, hwp⟩ dX0_deedBy_71
    · have hwp := hwp.1 c11
      refine lv_iload_n hx hb dX0_deedBy_64 rfl (lv_at lv 3 rfl) ?_
      refine lv_iconst (v := (-1 : Int32)) hx hb dX0_deedBy_65 (by decide) ?_
      refine lv_icmp_eq (tgt := 72) hx hb dX0_deedBy_66 (by decide) (fun c12 => ?_) (fun c12 => ?_)
      · have hwp := hwp.1 c12
        refine lv_iload hx hb dX0_deedBy_72 (lv_at lv 7 rfl) ?_
        refine lv_iload hx hb dX0_deedBy_74 (lv_at lv 6 rfl) ?_
        refine lv_isub hx hb dX0_deedBy_76 ?_
        refine lv_istore_n (lv' := [(3, .int (v7 - v6)), (8, .int w0), (0, .ref (wad (wdX E) 7)), (1, .int v1), (4, .int v4), (5, .int v5), (6, .int v6), (7, .int v7)]) hx hb dX0_deedBy_77 rfl lv (by decide) rfl (fun ls lv => ?_)
        refine lv_goto (tgt := 114) hx hb dX0_deedBy_78 (by decide) ?_
        exact t_X0_deedBy_114 E C hR Qp K18 hK18 v1 (v7 - v6) v4 v5 v6 v7 _ _ _ Dy (lv_sub lv [2, 3, 0, 4, 5, 6, 7] rfl) hwp
      · have hwp := hwp.2 c12
        refine lv_bipush (v := (6 : Int32)) hx hb dX0_deedBy_69 (by decide) ?_
        exact x_iret C Dy ⟨rfl, rfl, hwp⟩ dX0_deedBy_71
set_option maxHeartbeats 4000000 in
set_option maxRecDepth 100000 in
theorem t_X0_deedBy_18 (E : xE) {p : Program} {l : Launch} {e : Env} {R : Room} {s : State} {m : MethodId} {args : Array Value} {below : List Frame} {meth : Method} {c : Code} (C : mC (wdX E) p s m meth c args cX0_deedBy 9 RX0 (some .int)) (hR : 0 ≤ R.frames ∧ 0 ≤ R.locals) {h : Mem} {hl : MemL} (Qp : Int32 → Prop) : ∀ (n : Nat) (v1 : Int32) (v3 : Int32) (v4 : Int32) (v5 : Int32) (v6 : Int32) (v7 : Int32) (H : Heap) (locs : List Loc) (ls : Array Slot), mD (wdX E) h hl s H locs → lv_has ls 9 [(0, .ref (wad (wdX E) 7)), (1, .int v1), (3, .int v3), (4, .int v4), (5, .int v5), (6, .int v6), (7, .int v7)] → b_X0_deedBy_18 n h v1 v3 v4 v5 v6 v7 Qp → W p l e R s m args below meth c H locs 0 0 (MQ below (mQi (wdX E) (fun r h1 hl1 => h = h1 ∧ hl = hl1 ∧ Qp r)) args s 0 0 (wA (wdX E))) (F0 m 18 ls []) := by
  have hx := C.x
  have hb := C.b
  intro n
  induction n with
  | zero => intro v1 v3 v4 v5 v6 v7 H locs ls Dy lv hwp; exact hwp.elim
  | succ n ih =>
    intro v1 v3 v4 v5 v6 v7 H locs ls Dy lv hwp
    simp only [b_X0_deedBy_18] at hwp
    refine lv_iload hx hb dX0_deedBy_18 (lv_at lv 6 rfl) ?_
    refine lv_iload hx hb dX0_deedBy_20 (lv_at lv 5 rfl) ?_
    refine lv_bipush (v := (6 : Int32)) hx hb dX0_deedBy_22 (by decide) ?_
    refine lv_iadd hx hb dX0_deedBy_24 ?_
    refine lv_icmp_ge (tgt := 120) hx hb dX0_deedBy_25 (by decide) (fun c1 => ?_) (fun c1 => ?_)
    · have hwp := hwp.1 c1
      refine lv_iload_n hx hb dX0_deedBy_120 rfl (lv_at lv 2 rfl) ?_
      refine lv_iconst (v := (-1 : Int32)) hx hb dX0_deedBy_121 (by decide) ?_
      refine lv_icmp_ne (tgt := 130) hx hb dX0_deedBy_122 (by decide) (fun c2 => ?_) (fun c2 => ?_)
      · try simp only [if_neg c2] at hwp
        refine lv_iload_n hx hb dX0_deedBy_130 rfl (lv_at lv 2 rfl) ?_
        exact x_iret C Dy ⟨rfl, rfl, hwp⟩ dX0_deedBy_131
      · try simp only [if_pos c2] at hwp
        refine lv_iload hx hb dX0_deedBy_125 (lv_at lv 3 rfl) ?_
        refine lv_goto (tgt := 131) hx hb dX0_deedBy_127 (by decide) ?_
        exact x_iret C Dy ⟨rfl, rfl, hwp⟩ dX0_deedBy_131
    · have hwp := hwp.2 c1
      refine lv_iload_n hx hb dX0_deedBy_28 rfl (lv_at lv 1 rfl) ?_
      refine lv_aload_n hx hb dX0_deedBy_29 rfl (lv_at lv 0 rfl) ?_
      refine gf_X0_43_7 C Dy dX0_deedBy_30 ?_
      refine lv_iload hx hb dX0_deedBy_33 (lv_at lv 6 rfl) ?_
      obtain ⟨g3, hwp⟩ := hwp
      refine x_iald C Dy wxa_17 g3 dX0_deedBy_35 ?_
      refine lv_iand hx hb dX0_deedBy_36 ?_
      refine lv_if_eq (tgt := 44) hx hb dX0_deedBy_37 (by decide) (fun c4 => ?_) (fun c4 => ?_)
      · try simp only [if_pos c4] at hwp
        refine lv_iconst (v := (0 : Int32)) hx hb dX0_deedBy_44 (by decide) ?_
        exact t_X0_deedBy_45 E C hR Qp (fun v1 v3 v4 v5 v6 v7 => b_X0_deedBy_18 n h v1 v3 v4 v5 v6 v7 Qp) (fun v1 v3 v4 v5 v6 v7 H locs ls Dy lv hwp => ih v1 v3 v4 v5 v6 v7 H locs ls Dy lv hwp) v1 v3 v4 v5 v6 v7 (0 : Int32) _ _ _ Dy (lv_sub lv [0, 1, 2, 3, 4, 5, 6] rfl) hwp
      · try simp only [if_neg c4] at hwp
        refine lv_iconst (v := (1 : Int32)) hx hb dX0_deedBy_40 (by decide) ?_
        refine lv_goto (tgt := 45) hx hb dX0_deedBy_41 (by decide) ?_
        exact t_X0_deedBy_45 E C hR Qp (fun v1 v3 v4 v5 v6 v7 => b_X0_deedBy_18 n h v1 v3 v4 v5 v6 v7 Qp) (fun v1 v3 v4 v5 v6 v7 H locs ls Dy lv hwp => ih v1 v3 v4 v5 v6 v7 H locs ls Dy lv hwp) v1 v3 v4 v5 v6 v7 (1 : Int32) _ _ _ Dy (lv_sub lv [0, 1, 2, 3, 4, 5, 6] rfl) hwp
set_option maxHeartbeats 4000000 in
set_option maxRecDepth 100000 in
theorem m_X0_deedBy (E : xE) (l : Launch) (h : Mem) (hl : MemL) (v1 : Int32) (v2 : Int32) (Qp : Int32 → Prop) (hwp : p_X0_deedBy h v1 v2 Qp) : Met l yX0_deedBy (wsU yX0_deedBy cX0_deedBy 9 (some .int)) ({ frames := 0, cells := 0, slots := 0, locals := 0 } : Room) (mPc (wdX E) [.ref (wad (wdX E) 7), .int v1, .int v2] h hl) (mQi (wdX E) (fun r h1 hl1 => h = h1 ∧ hl = hl1 ∧ Qp r)) 0 0 (wA (wdX E)) := by
  refine x_met RX0 [(0, .ref (wad (wdX E) 7)), (1, .int v1), (2, .int v2)] (by decide) rfl (Nat.le_of_ble_eq_true rfl) rfl ?_
  intro p e s m args below meth c ls C Dy lv
  have hx := C.x
  have hb := C.b
  have hR : 0 ≤ ({ frames := 0, cells := 0, slots := 0, locals := 0 } : Room).frames ∧ 0 ≤ ({ frames := 0, cells := 0, slots := 0, locals := 0 } : Room).locals := ⟨Nat.le_refl _, Nat.le_refl _⟩
  unfold p_X0_deedBy at hwp
  refine lv_iconst (v := (-1 : Int32)) hx hb dX0_deedBy_0 (by decide) ?_
  refine lv_istore_n (lv' := [(3, .int (-1 : Int32)), (0, .ref (wad (wdX E) 7)), (1, .int v1), (2, .int v2)]) hx hb dX0_deedBy_1 rfl lv (by decide) rfl (fun ls lv => ?_)
  refine lv_iconst (v := (-1 : Int32)) hx hb dX0_deedBy_2 (by decide) ?_
  refine lv_istore (lv' := [(4, .int (-1 : Int32)), (3, .int (-1 : Int32)), (0, .ref (wad (wdX E) 7)), (1, .int v1), (2, .int v2)]) hx hb dX0_deedBy_3 lv (by decide) rfl (fun ls lv => ?_)
  refine lv_iconst (v := (0 : Int32)) hx hb dX0_deedBy_5 (by decide) ?_
  refine lv_istore (lv' := [(5, .int (0 : Int32)), (4, .int (-1 : Int32)), (3, .int (-1 : Int32)), (0, .ref (wad (wdX E) 7)), (1, .int v1), (2, .int v2)]) hx hb dX0_deedBy_6 lv (by decide) rfl (fun ls lv => ?_)
  refine lv_iload_n hx hb dX0_deedBy_8 rfl (lv_at lv 5 rfl) ?_
  refine lv_bipush (v := (6 : Int32)) hx hb dX0_deedBy_9 (by decide) ?_
  refine lv_imul hx hb dX0_deedBy_11 ?_
  refine lv_istore (lv' := [(6, .int (v2 * (6 : Int32))), (5, .int (0 : Int32)), (4, .int (-1 : Int32)), (3, .int (-1 : Int32)), (0, .ref (wad (wdX E) 7)), (1, .int v1), (2, .int v2)]) hx hb dX0_deedBy_12 lv (by decide) rfl (fun ls lv => ?_)
  refine lv_iload hx hb dX0_deedBy_14 (lv_at lv 0 rfl) ?_
  refine lv_istore (lv' := [(7, .int (v2 * (6 : Int32))), (6, .int (v2 * (6 : Int32))), (5, .int (0 : Int32)), (4, .int (-1 : Int32)), (3, .int (-1 : Int32)), (0, .ref (wad (wdX E) 7)), (1, .int v1), (2, .int v2)]) hx hb dX0_deedBy_16 lv (by decide) rfl (fun ls lv => ?_)
  obtain ⟨n0, hwp⟩ := hwp
  exact t_X0_deedBy_18 E C hR Qp n0 v1 (-1 : Int32) (-1 : Int32) (0 : Int32) (v2 * (6 : Int32)) (v2 * (6 : Int32)) _ _ _ Dy (lv_sub lv [5, 6, 4, 3, 2, 1, 0] rfl) hwp
