def p_X3_search (h : Mem) (v2 : Int32) (Qp : Mem → Prop) : Prop := (p_X3_choose 14 (up2 (up2 (up2 h 31 0 (0 : Int32)) 31 1 (0 : Int32)) 31 2 (-1 : Int32)) v2 (0 : Int32) (0 : Int32) (fun h2 => Qp h2))
set_option maxHeartbeats 4000000 in
set_option maxRecDepth 100000 in
theorem m_X3_search (E : xE) (l : Launch) (h : Mem) (hl : MemL) (v2 : Int32) (Qp : Mem → Prop) (hwp : p_X3_search h v2 Qp) : Met l yX3_search (wsU yX3_search cX3_search 3 none) ({ frames := 17, cells := 0, slots := 0, locals := 457 } : Room) (mPc (wdX E) [.ref (wad (wdX E) 31), .ref (wad (wdX E) 7), .int v2] h hl) (mQv (wdX E) (fun h1 hl1 => hl = hl1 ∧ Qp h1)) 0 0 (wA (wdX E)) := by
  refine x_met RX3 [(0, .ref (wad (wdX E) 31)), (1, .ref (wad (wdX E) 7)), (2, .int v2)] (by decide) rfl (Nat.le_of_ble_eq_true rfl) rfl ?_
  intro p e s m args below meth c ls C Dy lv
  have hx := C.x
  have hb := C.b
  have hR : 17 ≤ ({ frames := 17, cells := 0, slots := 0, locals := 457 } : Room).frames ∧ 457 ≤ ({ frames := 17, cells := 0, slots := 0, locals := 457 } : Room).locals := ⟨Nat.le_refl _, Nat.le_refl _⟩
  unfold p_X3_search at hwp
  refine lv_aload_n hx hb dX3_search_0 rfl (lv_at lv 0 rfl) ?_
  refine lv_iconst (v := (0 : Int32)) hx hb dX3_search_1 (by decide) ?_
  refine pf_X3_9_31 C Dy dX3_search_2 (fun H locs Dy => ?_)
  refine lv_aload_n hx hb dX3_search_5 rfl (lv_at lv 0 rfl) ?_
  refine lv_iconst (v := (0 : Int32)) hx hb dX3_search_6 (by decide) ?_
  refine pf_X3_15_31 C Dy dX3_search_7 (fun H locs Dy => ?_)
  refine lv_aload_n hx hb dX3_search_10 rfl (lv_at lv 0 rfl) ?_
  refine lv_iconst (v := (-1 : Int32)) hx hb dX3_search_11 (by decide) ?_
  refine pf_X3_18_31 C Dy dX3_search_12 (fun H locs Dy => ?_)
  refine lv_aload_n hx hb dX3_search_15 rfl (lv_at lv 0 rfl) ?_
  refine lv_aload_n hx hb dX3_search_16 rfl (lv_at lv 1 rfl) ?_
  refine lv_iload_n hx hb dX3_search_17 rfl (lv_at lv 2 rfl) ?_
  refine lv_iconst (v := (0 : Int32)) hx hb dX3_search_18 (by decide) ?_
  refine lv_iconst (v := (0 : Int32)) hx hb dX3_search_19 (by decide) ?_
  refine x_cont_v Dy (x_runV (As := [.ref (wad (wdX E) 7), .int v2, .int (0 : Int32), .int (0 : Int32)]) (rest := []) C Dy (m_X3_choose E l 14 _ _ v2 (0 : Int32) (0 : Int32) _ hwp) (cw_X3_21 C rfl rfl ⟨Nat.le_trans (Nat.le_of_ble_eq_true rfl) hR.1, Nat.le_trans (Nat.le_of_ble_eq_true rfl) hR.2⟩) wx_31 rfl rfl lv.1 rfl (Nat.le_of_ble_eq_true rfl) dX3_search_20 ⟨Nat.zero_le _, Nat.zero_le _⟩) (fun h2 hl2 H locs hwp Dy => ?_)
  obtain ⟨rfl, hwp⟩ := hwp
  exact x_vret C Dy ⟨rfl, hwp⟩ dX3_search_23
def p_X4_isFull (h : Mem) (k : Nat) (Qp : Int32 → Prop) : Prop := Qp (if (h k 2) < (12 : Int32) then (0 : Int32) else (1 : Int32))
set_option maxHeartbeats 4000000 in
set_option maxRecDepth 100000 in
theorem m_X4_isFull (E : xE) (l : Launch) (h : Mem) (hl : MemL) (k : Nat) (hk : isLG k) (Qp : Int32 → Prop) (hwp : p_X4_isFull h k Qp) : Met l yX4_isFull (wsU yX4_isFull cX4_isFull 1 (some .boolean)) ({ frames := 0, cells := 0, slots := 0, locals := 0 } : Room) (mPc (wdX E) [.ref (wad (wdX E) k)] h hl) (mQz (wdX E) (fun r h1 hl1 => h = h1 ∧ hl = hl1 ∧ Qp r)) 0 0 (wA (wdX E)) := by
  refine x_met RX4 [(0, .ref (wad (wdX E) k))] (by decide) rfl (Nat.le_of_ble_eq_true rfl) rfl ?_
  intro p e s m args below meth c ls C Dy lv
  have hx := C.x
  have hb := C.b
  have hR : 0 ≤ ({ frames := 0, cells := 0, slots := 0, locals := 0 } : Room).frames ∧ 0 ≤ ({ frames := 0, cells := 0, slots := 0, locals := 0 } : Room).locals := ⟨Nat.le_refl _, Nat.le_refl _⟩
  unfold p_X4_isFull at hwp
  refine lv_aload_n hx hb dX4_isFull_0 rfl (lv_at lv 0 rfl) ?_
  refine gf_X4_18_LG hk C Dy dX4_isFull_1 ?_
  refine lv_bipush (v := (12 : Int32)) hx hb dX4_isFull_4 (by decide) ?_
  refine lv_icmp_lt (tgt := 13) hx hb dX4_isFull_6 (by decide) (fun c1 => ?_) (fun c1 => ?_)
  · try simp only [if_pos c1] at hwp
    refine lv_iconst (v := (0 : Int32)) hx hb dX4_isFull_13 (by decide) ?_
    exact x_zret C Dy z01_0 ⟨rfl, rfl, hwp⟩ dX4_isFull_14
  · try simp only [if_neg c1] at hwp
    refine lv_iconst (v := (1 : Int32)) hx hb dX4_isFull_9 (by decide) ?_
    refine lv_goto (tgt := 14) hx hb dX4_isFull_10 (by decide) ?_
    exact x_zret C Dy z01_1 ⟨rfl, rfl, hwp⟩ dX4_isFull_14
def p_X4_append (h : Mem) (k : Nat) (v1 : Int32) (v2 : Int32) (Qp : Mem → Prop) : Prop := (((12 : Int32) ≤ (h k 2) → Qp h) ∧ (¬ ((12 : Int32) ≤ (h k 2)) → (vp_in (h k 2) 12 ∧ (vp_in ((up2 h (k + 1) (h k 2).toNatClampNeg v1) k 2) 12 ∧ (∀ h4 : Mem, h4 = (up2 (up2 h (k + 1) (h k 2).toNatClampNeg v1) (k + 2) ((up2 h (k + 1) (h k 2).toNatClampNeg v1) k 2).toNatClampNeg v2) → Qp (up2 h4 k 2 ((h4 k 2) + (1 : Int32))))))))
set_option maxHeartbeats 4000000 in
set_option maxRecDepth 100000 in
theorem m_X4_append (E : xE) (l : Launch) (h : Mem) (hl : MemL) (k : Nat) (hk : isLG k) (v1 : Int32) (v2 : Int32) (Qp : Mem → Prop) (hwp : p_X4_append h k v1 v2 Qp) : Met l yX4_append (wsU yX4_append cX4_append 3 none) ({ frames := 0, cells := 0, slots := 0, locals := 0 } : Room) (mPc (wdX E) [.ref (wad (wdX E) k), .int v1, .int v2] h hl) (mQv (wdX E) (fun h1 hl1 => hl = hl1 ∧ Qp h1)) 0 0 (wA (wdX E)) := by
  refine x_met RX4 [(0, .ref (wad (wdX E) k)), (1, .int v1), (2, .int v2)] (by decide) rfl (Nat.le_of_ble_eq_true rfl) rfl ?_
  intro p e s m args below meth c ls C Dy lv
  have hx := C.x
  have hb := C.b
  have hR : 0 ≤ ({ frames := 0, cells := 0, slots := 0, locals := 0 } : Room).frames ∧ 0 ≤ ({ frames := 0, cells := 0, slots := 0, locals := 0 } : Room).locals := ⟨Nat.le_refl _, Nat.le_refl _⟩
  unfold p_X4_append at hwp
  refine lv_aload_n hx hb dX4_append_0 rfl (lv_at lv 0 rfl) ?_
  refine gf_X4_18_LG hk C Dy dX4_append_1 ?_
  refine lv_bipush (v := (12 : Int32)) hx hb dX4_append_4 (by decide) ?_
  refine lv_icmp_ge (tgt := 39) hx hb dX4_append_6 (by decide) (fun c1 => ?_) (fun c1 => ?_)
  · have hwp := hwp.1 c1
    exact x_vret C Dy ⟨rfl, hwp⟩ dX4_append_39
  · have hwp := hwp.2 c1
    refine lv_aload_n hx hb dX4_append_9 rfl (lv_at lv 0 rfl) ?_
    refine gf_X4_9_LG hk C Dy dX4_append_10 ?_
    refine lv_aload_n hx hb dX4_append_13 rfl (lv_at lv 0 rfl) ?_
    refine gf_X4_18_LG hk C Dy dX4_append_14 ?_
    refine lv_iload_n hx hb dX4_append_17 rfl (lv_at lv 1 rfl) ?_
    obtain ⟨g2, hwp⟩ := hwp
    refine x_iast C Dy (ia_LGy hk) g2 dX4_append_18 (fun H locs Dy => ?_)
    refine lv_aload_n hx hb dX4_append_19 rfl (lv_at lv 0 rfl) ?_
    refine gf_X4_15_LG hk C Dy dX4_append_20 ?_
    refine lv_aload_n hx hb dX4_append_23 rfl (lv_at lv 0 rfl) ?_
    refine gf_X4_18_LG hk C Dy dX4_append_24 ?_
    refine lv_iload_n hx hb dX4_append_27 rfl (lv_at lv 2 rfl) ?_
    obtain ⟨g3, hwp⟩ := hwp
    refine x_iast C Dy (ia_LGl hk) g3 dX4_append_28 (fun H locs Dy => ?_)
    obtain ⟨h4, eh4⟩ : ∃ z : Mem, z = (up2 (up2 h (k + 1) (h k 2).toNatClampNeg v1) (k + 2) ((up2 h (k + 1) (h k 2).toNatClampNeg v1) k 2).toNatClampNeg v2) := ⟨_, rfl⟩
    rw [← eh4] at Dy
    have hwp := hwp h4 eh4
    refine lv_aload_n hx hb dX4_append_29 rfl (lv_at lv 0 rfl) ?_
    refine lv_dup hx hb dX4_append_30 rfl ?_
    refine gf_X4_18_LG hk C Dy dX4_append_31 ?_
    refine lv_iconst (v := (1 : Int32)) hx hb dX4_append_34 (by decide) ?_
    refine lv_iadd hx hb dX4_append_35 ?_
    refine pf_X4_18_LG hk C Dy dX4_append_36 (fun H locs Dy => ?_)
    exact x_vret C Dy ⟨rfl, hwp⟩ dX4_append_39
def b_X4_has_32 (h : Mem) (k : Nat) (v1 : Int32) (v2 : Int32) (v3 : Int32) (K2 : Int32 → Int32 → Int32 → Prop) (Qp : Int32 → Prop) : Prop := K2 v1 v2 (v3 + (1 : Int32))
def b_X4_has_2 : Nat → Mem → Nat → Int32 → Int32 → Int32 → (Int32 → Prop) → Prop
  | 0 => fun _ _ _ _ _ _ => False
  | n + 1 => fun h k v1 v2 v3 Qp => (((h k 2) ≤ v3 → Qp (0 : Int32)) ∧ (¬ ((h k 2) ≤ v3) → (vp_in v3 12 ∧ (((h (k + 1) v3.toNatClampNeg) = v1 → (vp_in v3 12 ∧ (((h (k + 2) v3.toNatClampNeg) = v2 → Qp (1 : Int32)) ∧ (¬ ((h (k + 2) v3.toNatClampNeg) = v2) → b_X4_has_32 h k v1 v2 v3 (fun v1 v2 v3 => b_X4_has_2 n h k v1 v2 v3 Qp) Qp)))) ∧ (¬ ((h (k + 1) v3.toNatClampNeg) = v1) → b_X4_has_32 h k v1 v2 v3 (fun v1 v2 v3 => b_X4_has_2 n h k v1 v2 v3 Qp) Qp)))))
def p_X4_has (h : Mem) (k : Nat) (v1 : Int32) (v2 : Int32) (Qp : Int32 → Prop) : Prop := (∃ n2, b_X4_has_2 n2 h k v1 v2 (0 : Int32) Qp)
set_option maxHeartbeats 4000000 in
set_option maxRecDepth 100000 in
theorem t_X4_has_32 (E : xE) {p : Program} {l : Launch} {e : Env} {R : Room} {s : State} {m : MethodId} {args : Array Value} {below : List Frame} {meth : Method} {c : Code} (C : mC (wdX E) p s m meth c args cX4_has 4 RX4 (some .boolean)) (hR : 0 ≤ R.frames ∧ 0 ≤ R.locals) {h : Mem} {hl : MemL} (k : Nat) (hk : isLG k) (Qp : Int32 → Prop) (K2 : Int32 → Int32 → Int32 → Prop) (hK2 : ∀ (v1 : Int32) (v2 : Int32) (v3 : Int32) (H : Heap) (locs : List Loc) (ls : Array Slot), mD (wdX E) h hl s H locs → lv_has ls 4 [(0, .ref (wad (wdX E) k)), (1, .int v1), (2, .int v2), (3, .int v3)] → K2 v1 v2 v3 → W p l e R s m args below meth c H locs 0 0 (MQ below (mQz (wdX E) (fun r h1 hl1 => h = h1 ∧ hl = hl1 ∧ Qp r)) args s 0 0 (wA (wdX E))) (F0 m 2 ls [])) : ∀ (v1 : Int32) (v2 : Int32) (v3 : Int32) (H : Heap) (locs : List Loc) (ls : Array Slot), mD (wdX E) h hl s H locs → lv_has ls 4 [(0, .ref (wad (wdX E) k)), (1, .int v1), (2, .int v2), (3, .int v3)] → b_X4_has_32 h k v1 v2 v3 K2 Qp → W p l e R s m args below meth c H locs 0 0 (MQ below (mQz (wdX E) (fun r h1 hl1 => h = h1 ∧ hl = hl1 ∧ Qp r)) args s 0 0 (wA (wdX E))) (F0 m 32 ls []) := by
  have hx := C.x
  have hb := C.b
  intro v1 v2 v3 H locs ls Dy lv hwp
  unfold b_X4_has_32 at hwp
  refine lv_iinc (v := (v3 + (1 : Int32))) (lv' := [(3, .int (v3 + (1 : Int32))), (0, .ref (wad (wdX E) k)), (1, .int v1), (2, .int v2)]) hx hb dX4_has_32 lv (k := 3) rfl rfl (by decide) rfl (fun ls lv => ?_)
  refine lv_goto (tgt := 2) hx hb dX4_has_35 (by decide) ?_
  exact hK2 v1 v2 (v3 + (1 : Int32)) _ _ _ Dy (lv_sub lv [1, 2, 3, 0] rfl) hwp
set_option maxHeartbeats 4000000 in
set_option maxRecDepth 100000 in
theorem t_X4_has_2 (E : xE) {p : Program} {l : Launch} {e : Env} {R : Room} {s : State} {m : MethodId} {args : Array Value} {below : List Frame} {meth : Method} {c : Code} (C : mC (wdX E) p s m meth c args cX4_has 4 RX4 (some .boolean)) (hR : 0 ≤ R.frames ∧ 0 ≤ R.locals) {h : Mem} {hl : MemL} (k : Nat) (hk : isLG k) (Qp : Int32 → Prop) : ∀ (n : Nat) (v1 : Int32) (v2 : Int32) (v3 : Int32) (H : Heap) (locs : List Loc) (ls : Array Slot), mD (wdX E) h hl s H locs → lv_has ls 4 [(0, .ref (wad (wdX E) k)), (1, .int v1), (2, .int v2), (3, .int v3)] → b_X4_has_2 n h k v1 v2 v3 Qp → W p l e R s m args below meth c H locs 0 0 (MQ below (mQz (wdX E) (fun r h1 hl1 => h = h1 ∧ hl = hl1 ∧ Qp r)) args s 0 0 (wA (wdX E))) (F0 m 2 ls []) := by
  have hx := C.x
  have hb := C.b
  intro n
  induction n with
  | zero => intro v1 v2 v3 H locs ls Dy lv hwp; exact hwp.elim
  | succ n ih =>
    intro v1 v2 v3 H locs ls Dy lv hwp
    simp only [b_X4_has_2] at hwp
    refine lv_iload_n hx hb dX4_has_2 rfl (lv_at lv 3 rfl) ?_
    refine lv_aload_n hx hb dX4_has_3 rfl (lv_at lv 0 rfl) ?_
    refine gf_X4_18_LG hk C Dy dX4_has_4 ?_
    refine lv_icmp_ge (tgt := 38) hx hb dX4_has_7 (by decide) (fun c1 => ?_) (fun c1 => ?_)
    · have hwp := hwp.1 c1
      refine lv_iconst (v := (0 : Int32)) hx hb dX4_has_38 (by decide) ?_
      exact x_zret C Dy z01_0 ⟨rfl, rfl, hwp⟩ dX4_has_39
    · have hwp := hwp.2 c1
      refine lv_aload_n hx hb dX4_has_10 rfl (lv_at lv 0 rfl) ?_
      refine gf_X4_9_LG hk C Dy dX4_has_11 ?_
      refine lv_iload_n hx hb dX4_has_14 rfl (lv_at lv 3 rfl) ?_
      obtain ⟨g2, hwp⟩ := hwp
      refine x_iald C Dy (ia_LGy hk) g2 dX4_has_15 ?_
      refine lv_iload_n hx hb dX4_has_16 rfl (lv_at lv 1 rfl) ?_
      refine lv_icmp_ne (tgt := 32) hx hb dX4_has_17 (by decide) (fun c3 => ?_) (fun c3 => ?_)
      · have hwp := hwp.2 c3
        exact t_X4_has_32 E C hR k hk Qp (fun v1 v2 v3 => b_X4_has_2 n h k v1 v2 v3 Qp) (fun v1 v2 v3 H locs ls Dy lv hwp => ih v1 v2 v3 H locs ls Dy lv hwp) v1 v2 v3 _ _ _ Dy (lv_sub lv [0, 1, 2, 3] rfl) hwp
      · have hwp := hwp.1 c3
        refine lv_aload_n hx hb dX4_has_20 rfl (lv_at lv 0 rfl) ?_
        refine gf_X4_15_LG hk C Dy dX4_has_21 ?_
        refine lv_iload_n hx hb dX4_has_24 rfl (lv_at lv 3 rfl) ?_
        obtain ⟨g4, hwp⟩ := hwp
        refine x_iald C Dy (ia_LGl hk) g4 dX4_has_25 ?_
        refine lv_iload_n hx hb dX4_has_26 rfl (lv_at lv 2 rfl) ?_
        refine lv_icmp_ne (tgt := 32) hx hb dX4_has_27 (by decide) (fun c5 => ?_) (fun c5 => ?_)
        · have hwp := hwp.2 c5
          exact t_X4_has_32 E C hR k hk Qp (fun v1 v2 v3 => b_X4_has_2 n h k v1 v2 v3 Qp) (fun v1 v2 v3 H locs ls Dy lv hwp => ih v1 v2 v3 H locs ls Dy lv hwp) v1 v2 v3 _ _ _ Dy (lv_sub lv [0, 1, 2, 3] rfl) hwp
        · have hwp := hwp.1 c5
          refine lv_iconst (v := (1 : Int32)) hx hb dX4_has_30 (by decide) ?_
          exact x_zret C Dy z01_1 ⟨rfl, rfl, hwp⟩ dX4_has_31
set_option maxHeartbeats 4000000 in
set_option maxRecDepth 100000 in
theorem m_X4_has (E : xE) (l : Launch) (h : Mem) (hl : MemL) (k : Nat) (hk : isLG k) (v1 : Int32) (v2 : Int32) (Qp : Int32 → Prop) (hwp : p_X4_has h k v1 v2 Qp) : Met l yX4_has (wsU yX4_has cX4_has 4 (some .boolean)) ({ frames := 0, cells := 0, slots := 0, locals := 0 } : Room) (mPc (wdX E) [.ref (wad (wdX E) k), .int v1, .int v2] h hl) (mQz (wdX E) (fun r h1 hl1 => h = h1 ∧ hl = hl1 ∧ Qp r)) 0 0 (wA (wdX E)) := by
  refine x_met RX4 [(0, .ref (wad (wdX E) k)), (1, .int v1), (2, .int v2)] (by decide) rfl (Nat.le_of_ble_eq_true rfl) rfl ?_
  intro p e s m args below meth c ls C Dy lv
  have hx := C.x
  have hb := C.b
  have hR : 0 ≤ ({ frames := 0, cells := 0, slots := 0, locals := 0 } : Room).frames ∧ 0 ≤ ({ frames := 0, cells := 0, slots := 0, locals := 0 } : Room).locals := ⟨Nat.le_refl _, Nat.le_refl _⟩
  unfold p_X4_has at hwp
  refine lv_iconst (v := (0 : Int32)) hx hb dX4_has_0 (by decide) ?_
  refine lv_istore_n (lv' := [(3, .int (0 : Int32)), (0, .ref (wad (wdX E) k)), (1, .int v1), (2, .int v2)]) hx hb dX4_has_1 rfl lv (by decide) rfl (fun ls lv => ?_)
  obtain ⟨n0, hwp⟩ := hwp
  exact t_X4_has_2 E C hR k hk Qp n0 v1 v2 (0 : Int32) _ _ _ Dy (lv_sub lv [1, 2, 3, 0] rfl) hwp
def p_X6_drop (h : Mem) (k : Nat) (v1 : Int32) (Qp : Mem → Prop) : Prop := (vp_in v1 12 ∧ (∀ h2 : Mem, h2 = (up2 (up2 h (k + 1) v1.toNatClampNeg (-1 : Int32)) k 1 (((up2 h (k + 1) v1.toNatClampNeg (-1 : Int32)) k 1) &&& (((1 : Int32) <<< (v1 &&& 31)) ^^^ (-1 : Int32)))) → Qp h2))
set_option maxHeartbeats 4000000 in
set_option maxRecDepth 100000 in
theorem m_X6_drop (E : xE) (l : Launch) (h : Mem) (hl : MemL) (k : Nat) (hk : isRG k) (v1 : Int32) (Qp : Mem → Prop) (hwp : p_X6_drop h k v1 Qp) : Met l yX6_drop (wsU yX6_drop cX6_drop 2 none) ({ frames := 0, cells := 0, slots := 0, locals := 0 } : Room) (mPc (wdX E) [.ref (wad (wdX E) k), .int v1] h hl) (mQv (wdX E) (fun h1 hl1 => hl = hl1 ∧ Qp h1)) 0 0 (wA (wdX E)) := by
  refine x_met RX6 [(0, .ref (wad (wdX E) k)), (1, .int v1)] (by decide) rfl (Nat.le_of_ble_eq_true rfl) rfl ?_
  intro p e s m args below meth c ls C Dy lv
  have hx := C.x
  have hb := C.b
  have hR : 0 ≤ ({ frames := 0, cells := 0, slots := 0, locals := 0 } : Room).frames ∧ 0 ≤ ({ frames := 0, cells := 0, slots := 0, locals := 0 } : Room).locals := ⟨Nat.le_refl _, Nat.le_refl _⟩
  unfold p_X6_drop at hwp
  refine lv_aload_n hx hb dX6_drop_0 rfl (lv_at lv 0 rfl) ?_
  refine gf_X6_9_RG hk C Dy dX6_drop_1 ?_
  refine lv_iload_n hx hb dX6_drop_4 rfl (lv_at lv 1 rfl) ?_
  refine lv_iconst (v := (-1 : Int32)) hx hb dX6_drop_5 (by decide) ?_
  obtain ⟨g1, hwp⟩ := hwp
  refine x_iast C Dy (ia_RGt hk) g1 dX6_drop_6 (fun H locs Dy => ?_)
  refine lv_aload_n hx hb dX6_drop_7 rfl (lv_at lv 0 rfl) ?_
  refine lv_dup hx hb dX6_drop_8 rfl ?_
  refine gf_X6_15_RG hk C Dy dX6_drop_9 ?_
  refine lv_iconst (v := (1 : Int32)) hx hb dX6_drop_12 (by decide) ?_
  refine lv_iload_n hx hb dX6_drop_13 rfl (lv_at lv 1 rfl) ?_
  refine lv_ishl hx hb dX6_drop_14 ?_
  refine lv_iconst (v := (-1 : Int32)) hx hb dX6_drop_15 (by decide) ?_
  refine lv_ixor hx hb dX6_drop_16 ?_
  refine lv_iand hx hb dX6_drop_17 ?_
  refine pf_X6_15_RG hk C Dy dX6_drop_18 (fun H locs Dy => ?_)
  obtain ⟨h2, eh2⟩ : ∃ z : Mem, z = (up2 (up2 h (k + 1) v1.toNatClampNeg (-1 : Int32)) k 1 (((up2 h (k + 1) v1.toNatClampNeg (-1 : Int32)) k 1) &&& (((1 : Int32) <<< (v1 &&& 31)) ^^^ (-1 : Int32)))) := ⟨_, rfl⟩
  rw [← eh2] at Dy
  have hwp := hwp h2 eh2
  exact x_vret C Dy ⟨rfl, hwp⟩ dX6_drop_21
def p_X6_put (h : Mem) (k : Nat) (v1 : Int32) (v2 : Int32) (v3 : Int32) (Qp : Mem → Prop) : Prop := (vp_in v1 12 ∧ ((v3 = 0 → Qp (up2 h (k + 1) v1.toNatClampNeg v2)) ∧ (¬ (v3 = 0) → (∀ h3 : Mem, h3 = (up2 (up2 h (k + 1) v1.toNatClampNeg v2) k 1 (((up2 h (k + 1) v1.toNatClampNeg v2) k 1) ||| ((1 : Int32) <<< (v1 &&& 31)))) → Qp h3))))
set_option maxHeartbeats 4000000 in
set_option maxRecDepth 100000 in
theorem m_X6_put (E : xE) (l : Launch) (h : Mem) (hl : MemL) (k : Nat) (hk : isRG k) (v1 : Int32) (v2 : Int32) (v3 : Int32) (Qp : Mem → Prop) (hwp : p_X6_put h k v1 v2 v3 Qp) : Met l yX6_put (wsU yX6_put cX6_put 4 none) ({ frames := 0, cells := 0, slots := 0, locals := 0 } : Room) (mPc (wdX E) [.ref (wad (wdX E) k), .int v1, .int v2, .int v3] h hl) (mQv (wdX E) (fun h1 hl1 => hl = hl1 ∧ Qp h1)) 0 0 (wA (wdX E)) := by
  refine x_met RX6 [(0, .ref (wad (wdX E) k)), (1, .int v1), (2, .int v2), (3, .int v3)] (by decide) rfl (Nat.le_of_ble_eq_true rfl) rfl ?_
  intro p e s m args below meth c ls C Dy lv
  have hx := C.x
  have hb := C.b
  have hR : 0 ≤ ({ frames := 0, cells := 0, slots := 0, locals := 0 } : Room).frames ∧ 0 ≤ ({ frames := 0, cells := 0, slots := 0, locals := 0 } : Room).locals := ⟨Nat.le_refl _, Nat.le_refl _⟩
  unfold p_X6_put at hwp
  refine lv_aload_n hx hb dX6_put_0 rfl (lv_at lv 0 rfl) ?_
  refine gf_X6_9_RG hk C Dy dX6_put_1 ?_
  refine lv_iload_n hx hb dX6_put_4 rfl (lv_at lv 1 rfl) ?_
  refine lv_iload_n hx hb dX6_put_5 rfl (lv_at lv 2 rfl) ?_
  obtain ⟨g1, hwp⟩ := hwp
  refine x_iast C Dy (ia_RGt hk) g1 dX6_put_6 (fun H locs Dy => ?_)
  refine lv_iload_n hx hb dX6_put_7 rfl (lv_at lv 3 rfl) ?_
  refine lv_if_eq (tgt := 23) hx hb dX6_put_8 (by decide) (fun c2 => ?_) (fun c2 => ?_)
  · have hwp := hwp.1 c2
    exact x_vret C Dy ⟨rfl, hwp⟩ dX6_put_23
  · have hwp := hwp.2 c2
    refine lv_aload_n hx hb dX6_put_11 rfl (lv_at lv 0 rfl) ?_
    refine lv_dup hx hb dX6_put_12 rfl ?_
    refine gf_X6_15_RG hk C Dy dX6_put_13 ?_
    refine lv_iconst (v := (1 : Int32)) hx hb dX6_put_16 (by decide) ?_
    refine lv_iload_n hx hb dX6_put_17 rfl (lv_at lv 1 rfl) ?_
    refine lv_ishl hx hb dX6_put_18 ?_
    refine lv_ior hx hb dX6_put_19 ?_
    refine pf_X6_15_RG hk C Dy dX6_put_20 (fun H locs Dy => ?_)
    obtain ⟨h3, eh3⟩ : ∃ z : Mem, z = (up2 (up2 h (k + 1) v1.toNatClampNeg v2) k 1 (((up2 h (k + 1) v1.toNatClampNeg v2) k 1) ||| ((1 : Int32) <<< (v1 &&& 31)))) := ⟨_, rfl⟩
    rw [← eh3] at Dy
    have hwp := hwp h3 eh3
    exact x_vret C Dy ⟨rfl, hwp⟩ dX6_put_23
def b_X6_triedBetween_41 (h : Mem) (k : Nat) (v1 : Int32) (v2 : Int32) (v3 : Int32) (v4 : Int32) (K5 : Int32 → Int32 → Int32 → Int32 → Prop) (Qp : Int32 → Prop) : Prop := K5 v1 v2 v3 (v4 + (1 : Int32))
def b_X6_triedBetween_5 : Nat → Mem → Nat → Int32 → Int32 → Int32 → Int32 → (Int32 → Prop) → Prop
  | 0 => fun _ _ _ _ _ _ _ => False
  | n + 1 => fun h k v1 v2 v3 v4 Qp => (((12 : Int32) ≤ v4 → Qp v3) ∧ (¬ ((12 : Int32) ≤ v4) → (vp_in v4 12 ∧ (((h (k + 1) v4.toNatClampNeg) < v1 → b_X6_triedBetween_41 h k v1 v2 v3 v4 (fun v1 v2 v3 v4 => b_X6_triedBetween_5 n h k v1 v2 v3 v4 Qp) Qp) ∧ (¬ ((h (k + 1) v4.toNatClampNeg) < v1) → (vp_in v4 12 ∧ b_X6_triedBetween_41 h k v1 v2 (if v2 < (h (k + 1) v4.toNatClampNeg) then v3 else (v3 ||| ((1 : Int32) <<< (v4 &&& 31)))) v4 (fun v1 v2 v3 v4 => b_X6_triedBetween_5 n h k v1 v2 v3 v4 Qp) Qp))))))
def p_X6_triedBetween (h : Mem) (k : Nat) (v1 : Int32) (v2 : Int32) (Qp : Int32 → Prop) : Prop := (∃ n5, b_X6_triedBetween_5 n5 h k v1 v2 (0 : Int32) (0 : Int32) Qp)
set_option maxHeartbeats 4000000 in
set_option maxRecDepth 100000 in
theorem t_X6_triedBetween_41 (E : xE) {p : Program} {l : Launch} {e : Env} {R : Room} {s : State} {m : MethodId} {args : Array Value} {below : List Frame} {meth : Method} {c : Code} (C : mC (wdX E) p s m meth c args cX6_triedBetween 5 RX6 (some .int)) (hR : 0 ≤ R.frames ∧ 0 ≤ R.locals) {h : Mem} {hl : MemL} (k : Nat) (hk : isRG k) (Qp : Int32 → Prop) (K5 : Int32 → Int32 → Int32 → Int32 → Prop) (hK5 : ∀ (v1 : Int32) (v2 : Int32) (v3 : Int32) (v4 : Int32) (H : Heap) (locs : List Loc) (ls : Array Slot), mD (wdX E) h hl s H locs → lv_has ls 5 [(0, .ref (wad (wdX E) k)), (1, .int v1), (2, .int v2), (3, .int v3), (4, .int v4)] → K5 v1 v2 v3 v4 → W p l e R s m args below meth c H locs 0 0 (MQ below (mQi (wdX E) (fun r h1 hl1 => h = h1 ∧ hl = hl1 ∧ Qp r)) args s 0 0 (wA (wdX E))) (F0 m 5 ls [])) : ∀ (v1 : Int32) (v2 : Int32) (v3 : Int32) (v4 : Int32) (H : Heap) (locs : List Loc) (ls : Array Slot), mD (wdX E) h hl s H locs → lv_has ls 5 [(0, .ref (wad (wdX E) k)), (1, .int v1), (2, .int v2), (3, .int v3), (4, .int v4)] → b_X6_triedBetween_41 h k v1 v2 v3 v4 K5 Qp → W p l e R s m args below meth c H locs 0 0 (MQ below (mQi (wdX E) (fun r h1 hl1 => h = h1 ∧ hl = hl1 ∧ Qp r)) args s 0 0 (wA (wdX E))) (F0 m 41 ls []) := by
  have hx := C.x
  have hb := C.b
  intro v1 v2 v3 v4 H locs ls Dy lv hwp
  unfold b_X6_triedBetween_41 at hwp
  refine lv_iinc (v := (v4 + (1 : Int32))) (lv' := [(4, .int (v4 + (1 : Int32))), (0, .ref (wad (wdX E) k)), (1, .int v1), (2, .int v2), (3, .int v3)]) hx hb dX6_triedBetween_41 lv (k := 4) rfl rfl (by decide) rfl (fun ls lv => ?_)
  refine lv_goto (tgt := 5) hx hb dX6_triedBetween_44 (by decide) ?_
  exact hK5 v1 v2 v3 (v4 + (1 : Int32)) _ _ _ Dy (lv_sub lv [1, 2, 3, 4, 0] rfl) hwp
set_option maxHeartbeats 4000000 in
set_option maxRecDepth 100000 in
theorem t_X6_triedBetween_5 (E : xE) {p : Program} {l : Launch} {e : Env} {R : Room} {s : State} {m : MethodId} {args : Array Value} {below : List Frame} {meth : Method} {c : Code} (C : mC (wdX E) p s m meth c args cX6_triedBetween 5 RX6 (some .int)) (hR : 0 ≤ R.frames ∧ 0 ≤ R.locals) {h : Mem} {hl : MemL} (k : Nat) (hk : isRG k) (Qp : Int32 → Prop) : ∀ (n : Nat) (v1 : Int32) (v2 : Int32) (v3 : Int32) (v4 : Int32) (H : Heap) (locs : List Loc) (ls : Array Slot), mD (wdX E) h hl s H locs → lv_has ls 5 [(0, .ref (wad (wdX E) k)), (1, .int v1), (2, .int v2), (3, .int v3), (4, .int v4)] → b_X6_triedBetween_5 n h k v1 v2 v3 v4 Qp → W p l e R s m args below meth c H locs 0 0 (MQ below (mQi (wdX E) (fun r h1 hl1 => h = h1 ∧ hl = hl1 ∧ Qp r)) args s 0 0 (wA (wdX E))) (F0 m 5 ls []) := by
  have hx := C.x
  have hb := C.b
  intro n
  induction n with
  | zero => intro v1 v2 v3 v4 H locs ls Dy lv hwp; exact hwp.elim
  | succ n ih =>
    intro v1 v2 v3 v4 H locs ls Dy lv hwp
    simp only [b_X6_triedBetween_5] at hwp
    refine lv_iload hx hb dX6_triedBetween_5 (lv_at lv 4 rfl) ?_
    refine lv_bipush (v := (12 : Int32)) hx hb dX6_triedBetween_7 (by decide) ?_
    refine lv_icmp_ge (tgt := 47) hx hb dX6_triedBetween_9 (by decide) (fun c1 => ?_) (fun c1 => ?_)
    · have hwp := hwp.1 c1
      refine lv_iload_n hx hb dX6_triedBetween_47 rfl (lv_at lv 3 rfl) ?_
      exact x_iret C Dy ⟨rfl, rfl, hwp⟩ dX6_triedBetween_48
    · have hwp := hwp.2 c1
      refine lv_aload_n hx hb dX6_triedBetween_12 rfl (lv_at lv 0 rfl) ?_
      refine gf_X6_9_RG hk C Dy dX6_triedBetween_13 ?_
      refine lv_iload hx hb dX6_triedBetween_16 (lv_at lv 4 rfl) ?_
      obtain ⟨g2, hwp⟩ := hwp
      refine x_iald C Dy (ia_RGt hk) g2 dX6_triedBetween_18 ?_
      refine lv_iload_n hx hb dX6_triedBetween_19 rfl (lv_at lv 1 rfl) ?_
      refine lv_icmp_lt (tgt := 41) hx hb dX6_triedBetween_20 (by decide) (fun c3 => ?_) (fun c3 => ?_)
      · have hwp := hwp.1 c3
        exact t_X6_triedBetween_41 E C hR k hk Qp (fun v1 v2 v3 v4 => b_X6_triedBetween_5 n h k v1 v2 v3 v4 Qp) (fun v1 v2 v3 v4 H locs ls Dy lv hwp => ih v1 v2 v3 v4 H locs ls Dy lv hwp) v1 v2 v3 v4 _ _ _ Dy (lv_sub lv [0, 1, 2, 3, 4] rfl) hwp
      · have hwp := hwp.2 c3
        refine lv_aload_n hx hb dX6_triedBetween_23 rfl (lv_at lv 0 rfl) ?_
        refine gf_X6_9_RG hk C Dy dX6_triedBetween_24 ?_
        refine lv_iload hx hb dX6_triedBetween_27 (lv_at lv 4 rfl) ?_
        obtain ⟨g4, hwp⟩ := hwp
        refine x_iald C Dy (ia_RGt hk) g4 dX6_triedBetween_29 ?_
        refine lv_iload_n hx hb dX6_triedBetween_30 rfl (lv_at lv 2 rfl) ?_
        refine lv_icmp_gt (tgt := 41) hx hb dX6_triedBetween_31 (by decide) (fun c5 => ?_) (fun c5 => ?_)
        · try simp only [if_pos c5] at hwp
          exact t_X6_triedBetween_41 E C hR k hk Qp (fun v1 v2 v3 v4 => b_X6_triedBetween_5 n h k v1 v2 v3 v4 Qp) (fun v1 v2 v3 v4 H locs ls Dy lv hwp => ih v1 v2 v3 v4 H locs ls Dy lv hwp) v1 v2 v3 v4 _ _ _ Dy (lv_sub lv [0, 1, 2, 3, 4] rfl) hwp
        · try simp only [if_neg c5] at hwp
          refine lv_iload_n hx hb dX6_triedBetween_34 rfl (lv_at lv 3 rfl) ?_
          refine lv_iconst (v := (1 : Int32)) hx hb dX6_triedBetween_35 (by decide) ?_
          refine lv_iload hx hb dX6_triedBetween_36 (lv_at lv 4 rfl) ?_
          refine lv_ishl hx hb dX6_triedBetween_38 ?_
          refine lv_ior hx hb dX6_triedBetween_39 ?_
          refine lv_istore_n (lv' := [(3, .int (v3 ||| ((1 : Int32) <<< (v4 &&& 31)))), (0, .ref (wad (wdX E) k)), (1, .int v1), (2, .int v2), (4, .int v4)]) hx hb dX6_triedBetween_40 rfl lv (by decide) rfl (fun ls lv => ?_)
          exact t_X6_triedBetween_41 E C hR k hk Qp (fun v1 v2 v3 v4 => b_X6_triedBetween_5 n h k v1 v2 v3 v4 Qp) (fun v1 v2 v3 v4 H locs ls Dy lv hwp => ih v1 v2 v3 v4 H locs ls Dy lv hwp) v1 v2 (v3 ||| ((1 : Int32) <<< (v4 &&& 31))) v4 _ _ _ Dy (lv_sub lv [1, 2, 3, 0, 4] rfl) hwp
set_option maxHeartbeats 4000000 in
set_option maxRecDepth 100000 in
theorem m_X6_triedBetween (E : xE) (l : Launch) (h : Mem) (hl : MemL) (k : Nat) (hk : isRG k) (v1 : Int32) (v2 : Int32) (Qp : Int32 → Prop) (hwp : p_X6_triedBetween h k v1 v2 Qp) : Met l yX6_triedBetween (wsU yX6_triedBetween cX6_triedBetween 5 (some .int)) ({ frames := 0, cells := 0, slots := 0, locals := 0 } : Room) (mPc (wdX E) [.ref (wad (wdX E) k), .int v1, .int v2] h hl) (mQi (wdX E) (fun r h1 hl1 => h = h1 ∧ hl = hl1 ∧ Qp r)) 0 0 (wA (wdX E)) := by
  refine x_met RX6 [(0, .ref (wad (wdX E) k)), (1, .int v1), (2, .int v2)] (by decide) rfl (Nat.le_of_ble_eq_true rfl) rfl ?_
  intro p e s m args below meth c ls C Dy lv
  have hx := C.x
  have hb := C.b
  have hR : 0 ≤ ({ frames := 0, cells := 0, slots := 0, locals := 0 } : Room).frames ∧ 0 ≤ ({ frames := 0, cells := 0, slots := 0, locals := 0 } : Room).locals := ⟨Nat.le_refl _, Nat.le_refl _⟩
  unfold p_X6_triedBetween at hwp
  refine lv_iconst (v := (0 : Int32)) hx hb dX6_triedBetween_0 (by decide) ?_
  refine lv_istore_n (lv' := [(3, .int (0 : Int32)), (0, .ref (wad (wdX E) k)), (1, .int v1), (2, .int v2)]) hx hb dX6_triedBetween_1 rfl lv (by decide) rfl (fun ls lv => ?_)
  refine lv_iconst (v := (0 : Int32)) hx hb dX6_triedBetween_2 (by decide) ?_
  refine lv_istore (lv' := [(4, .int (0 : Int32)), (3, .int (0 : Int32)), (0, .ref (wad (wdX E) k)), (1, .int v1), (2, .int v2)]) hx hb dX6_triedBetween_3 lv (by decide) rfl (fun ls lv => ?_)
  obtain ⟨n0, hwp⟩ := hwp
  exact t_X6_triedBetween_5 E C hR k hk Qp n0 v1 v2 (0 : Int32) (0 : Int32) _ _ _ Dy (lv_sub lv [2, 3, 4, 1, 0] rfl) hwp
def p_X6_lasting (h : Mem) (k : Nat) (v1 : Int32) (Qp : Int32 → Prop) : Prop := (p_X6_triedBetween h k (0 : Int32) (v1 - (1 : Int32)) (fun r1 => Qp (r1 &&& ((h k 1) ^^^ (-1 : Int32)))))
set_option maxHeartbeats 4000000 in
set_option maxRecDepth 100000 in
theorem m_X6_lasting (E : xE) (l : Launch) (h : Mem) (hl : MemL) (k : Nat) (hk : isRG k) (v1 : Int32) (Qp : Int32 → Prop) (hwp : p_X6_lasting h k v1 Qp) : Met l yX6_lasting (wsU yX6_lasting cX6_lasting 2 (some .int)) ({ frames := 1, cells := 0, slots := 0, locals := 24 } : Room) (mPc (wdX E) [.ref (wad (wdX E) k), .int v1] h hl) (mQi (wdX E) (fun r h1 hl1 => h = h1 ∧ hl = hl1 ∧ Qp r)) 0 0 (wA (wdX E)) := by
  refine x_met RX6 [(0, .ref (wad (wdX E) k)), (1, .int v1)] (by decide) rfl (Nat.le_of_ble_eq_true rfl) rfl ?_
  intro p e s m args below meth c ls C Dy lv
  have hx := C.x
  have hb := C.b
  have hR : 1 ≤ ({ frames := 1, cells := 0, slots := 0, locals := 24 } : Room).frames ∧ 24 ≤ ({ frames := 1, cells := 0, slots := 0, locals := 24 } : Room).locals := ⟨Nat.le_refl _, Nat.le_refl _⟩
  unfold p_X6_lasting at hwp
  refine lv_aload_n hx hb dX6_lasting_0 rfl (lv_at lv 0 rfl) ?_
  refine lv_iconst (v := (0 : Int32)) hx hb dX6_lasting_1 (by decide) ?_
  refine lv_iload_n hx hb dX6_lasting_2 rfl (lv_at lv 1 rfl) ?_
  refine lv_iconst (v := (1 : Int32)) hx hb dX6_lasting_3 (by decide) ?_
  refine lv_isub hx hb dX6_lasting_4 ?_
  refine x_cont_i Dy (x_runV (As := [.int (0 : Int32), .int (v1 - (1 : Int32))]) (rest := []) C Dy (m_X6_triedBetween E l _ _ k hk (0 : Int32) (v1 - (1 : Int32)) _ hwp) (cw_X6_58 C rfl rfl ⟨Nat.le_trans (Nat.le_of_ble_eq_true rfl) hR.1, Nat.le_trans (Nat.le_of_ble_eq_true rfl) hR.2⟩) (wx_RG hk) rfl rfl lv.1 rfl (Nat.le_of_ble_eq_true rfl) dX6_lasting_5 ⟨Nat.zero_le _, Nat.zero_le _⟩) (fun r1 h2 hl2 H locs hwp Dy => ?_)
  obtain ⟨rfl, rfl, hwp⟩ := hwp
  refine lv_aload_n hx hb dX6_lasting_8 rfl (lv_at lv 0 rfl) ?_
  refine gf_X6_15_RG hk C Dy dX6_lasting_9 ?_
  refine lv_iconst (v := (-1 : Int32)) hx hb dX6_lasting_12 (by decide) ?_
  refine lv_ixor hx hb dX6_lasting_13 ?_
  refine lv_iand hx hb dX6_lasting_14 ?_
  exact x_iret C Dy ⟨rfl, rfl, hwp⟩ dX6_lasting_15
def p_X6_bindingKing (h : Mem) (k : Nat) (v2 : Int32) (Qp : Int32 → Prop) : Prop := (p_X6_lasting h k v2 (fun r1 => (p_X6_triedBetween h k v2 v2 (fun r3 => (p_X0_standing h (r1 ||| r3) (fun r5 => Qp r5))))))
set_option maxHeartbeats 4000000 in
set_option maxRecDepth 100000 in
theorem m_X6_bindingKing (E : xE) (l : Launch) (h : Mem) (hl : MemL) (k : Nat) (hk : isRG k) (v2 : Int32) (Qp : Int32 → Prop) (hwp : p_X6_bindingKing h k v2 Qp) : Met l yX6_bindingKing (wsU yX6_bindingKing cX6_bindingKing 3 (some .int)) ({ frames := 2, cells := 0, slots := 0, locals := 45 } : Room) (mPc (wdX E) [.ref (wad (wdX E) k), .ref (wad (wdX E) 7), .int v2] h hl) (mQi (wdX E) (fun r h1 hl1 => h = h1 ∧ hl = hl1 ∧ Qp r)) 0 0 (wA (wdX E)) := by
  refine x_met RX6 [(0, .ref (wad (wdX E) k)), (1, .ref (wad (wdX E) 7)), (2, .int v2)] (by decide) rfl (Nat.le_of_ble_eq_true rfl) rfl ?_
  intro p e s m args below meth c ls C Dy lv
  have hx := C.x
  have hb := C.b
  have hR : 2 ≤ ({ frames := 2, cells := 0, slots := 0, locals := 45 } : Room).frames ∧ 45 ≤ ({ frames := 2, cells := 0, slots := 0, locals := 45 } : Room).locals := ⟨Nat.le_refl _, Nat.le_refl _⟩
  unfold p_X6_bindingKing at hwp
  refine lv_aload_n hx hb dX6_bindingKing_0 rfl (lv_at lv 1 rfl) ?_
  refine lv_aload_n hx hb dX6_bindingKing_1 rfl (lv_at lv 0 rfl) ?_
  refine lv_iload_n hx hb dX6_bindingKing_2 rfl (lv_at lv 2 rfl) ?_
  refine x_cont_i Dy (x_runV (As := [.int v2]) (rest := [.ref (wad (wdX E) 7)]) C Dy (m_X6_lasting E l _ _ k hk v2 _ hwp) (cw_X6_55 C rfl rfl ⟨Nat.le_trans (Nat.le_of_ble_eq_true rfl) hR.1, Nat.le_trans (Nat.le_of_ble_eq_true rfl) hR.2⟩) (wx_RG hk) rfl rfl lv.1 rfl (Nat.le_of_ble_eq_true rfl) dX6_bindingKing_3 ⟨Nat.zero_le _, Nat.zero_le _⟩) (fun r1 h2 hl2 H locs hwp Dy => ?_)
  obtain ⟨rfl, rfl, hwp⟩ := hwp
  refine lv_aload_n hx hb dX6_bindingKing_6 rfl (lv_at lv 0 rfl) ?_
  refine lv_iload_n hx hb dX6_bindingKing_7 rfl (lv_at lv 2 rfl) ?_
  refine lv_iload_n hx hb dX6_bindingKing_8 rfl (lv_at lv 2 rfl) ?_
  refine x_cont_i Dy (x_runV (As := [.int v2, .int v2]) (rest := [.int r1, .ref (wad (wdX E) 7)]) C Dy (m_X6_triedBetween E l _ _ k hk v2 v2 _ hwp) (cw_X6_58 C rfl rfl ⟨Nat.le_trans (Nat.le_of_ble_eq_true rfl) hR.1, Nat.le_trans (Nat.le_of_ble_eq_true rfl) hR.2⟩) (wx_RG hk) rfl rfl lv.1 rfl (Nat.le_of_ble_eq_true rfl) dX6_bindingKing_9 ⟨Nat.zero_le _, Nat.zero_le _⟩) (fun r3 h4 hl4 H locs hwp Dy => ?_)
  obtain ⟨rfl, rfl, hwp⟩ := hwp
  refine lv_ior hx hb dX6_bindingKing_12 ?_
  refine x_cont_i Dy (x_runV (As := [.int (r1 ||| r3)]) (rest := []) C Dy (m_X0_standing E l _ _ (r1 ||| r3) _ hwp) (cw_X6_62 C rfl rfl ⟨Nat.le_trans (Nat.le_of_ble_eq_true rfl) hR.1, Nat.le_trans (Nat.le_of_ble_eq_true rfl) hR.2⟩) wx_7 rfl rfl lv.1 rfl (Nat.le_of_ble_eq_true rfl) dX6_bindingKing_13 ⟨Nat.zero_le _, Nat.zero_le _⟩) (fun r5 h6 hl6 H locs hwp Dy => ?_)
  obtain ⟨rfl, rfl, hwp⟩ := hwp
  exact x_iret C Dy ⟨rfl, rfl, hwp⟩ dX6_bindingKing_16
def b_X5_tryNext_11 (h : Mem) (v7 : Int32) (rc : Mem → Int32 → Int32 → Int32 → Int32 → (Mem → Prop) → Prop) (Qp : Mem → Prop) : Prop := ((v7 ≤ (h 32 0) → Qp h) ∧ (¬ (v7 ≤ (h 32 0)) → ((¬ (0 : Int32) < 0) ∧ (¬ (0 : Int32) < 0) ∧ (¬ (4 : Int32) < 0) ∧ (0 : Int32).toNatClampNeg + (4 : Int32).toNatClampNeg ≤ 4 ∧ (0 : Int32).toNatClampNeg + (4 : Int32).toNatClampNeg ≤ 4 ∧ (∀ h7 : Mem, h7 = (upR (up2 h 32 0 v7) 33 (va_cpy ((up2 h 32 0 v7) 34) ((up2 h 32 0 v7) 33) (0 : Int32).toNatClampNeg (0 : Int32).toNatClampNeg (4 : Int32).toNatClampNeg)) → Qp h7))))
def b_X5_tryNext_135 (h : Mem) (v4 : Int32) (v5 : Int32) (v6 : Int32) (v7 : Int32) (v8 : Int32) (K44 : Mem → Int32 → Int32 → Int32 → Int32 → Int32 → Prop) (rc : Mem → Int32 → Int32 → Int32 → Int32 → (Mem → Prop) → Prop) (Qp : Mem → Prop) : Prop := K44 h v4 v5 v6 v7 (v8 + (1 : Int32))
def b_X5_tryNext_44 : Nat → Mem → Int32 → Int32 → Int32 → Int32 → Int32 → (Mem → Int32 → Int32 → Int32 → Int32 → (Mem → Prop) → Prop) → (Mem → Prop) → Prop
  | 0 => fun _ _ _ _ _ _ _ _ => False
  | n + 1 => fun h v4 v5 v6 v7 v8 rc Qp => (((12 : Int32) ≤ v8 → Qp h) ∧ (¬ ((12 : Int32) ≤ v8) → ((((v4 >>> (v8 &&& 31)) &&& (1 : Int32)) = (1 : Int32) → (vp_in v6 4 ∧ (p_X4_has (up2 h 34 v6.toNatClampNeg v8) 24 v5 v8 (fun r11 => (p_X6_put (up2 h 34 v6.toNatClampNeg v8) 29 v8 v5 r11 (fun h14 => (p_X6_bindingKing h14 29 v5 (fun r15 => (p_X0_joyBy h14 r15 (fun r17 => (rc h14 (v4 &&& (((1 : Int32) <<< (v8 &&& 31)) ^^^ (-1 : Int32))) (v5 + (1 : Int32)) (v6 + (1 : Int32)) (v7 + r17) (fun h20 => (p_X6_drop h20 29 v8 (fun h22 => b_X5_tryNext_135 h22 v4 v5 v6 v7 v8 (fun h v4 v5 v6 v7 v8 => b_X5_tryNext_44 n h v4 v5 v6 v7 v8 rc Qp) rc Qp)))))))))))))) ∧ (¬ (((v4 >>> (v8 &&& 31)) &&& (1 : Int32)) = (1 : Int32)) → b_X5_tryNext_135 h v4 v5 v6 v7 v8 (fun h v4 v5 v6 v7 v8 => b_X5_tryNext_44 n h v4 v5 v6 v7 v8 rc Qp) rc Qp))))
def p_X5_tryNext : Nat → Mem → Int32 → Int32 → Int32 → Int32 → (Mem → Prop) → Prop
  | 0 => fun _ _ _ _ _ _ => False
  | n + 1 => fun h v4 v5 v6 v7 Qp => ((v4 = 0 → b_X5_tryNext_11 h v7 (p_X5_tryNext n) Qp) ∧ (¬ (v4 = 0) → ((v6 < (4 : Int32) → (∃ n44, b_X5_tryNext_44 n44 h v4 v5 v6 v7 (0 : Int32) (p_X5_tryNext n) Qp)) ∧ (¬ (v6 < (4 : Int32)) → b_X5_tryNext_11 h v7 (p_X5_tryNext n) Qp))))
set_option maxHeartbeats 4000000 in
set_option maxRecDepth 100000 in
theorem t_X5_tryNext_11 (E : xE) {p : Program} {l : Launch} {e : Env} {R : Room} {s : State} {m : MethodId} {args : Array Value} {below : List Frame} {meth : Method} {c : Code} (C : mC (wdX E) p s m meth c args cX5_tryNext 10 RX5 none) (hR : 3 ≤ R.frames ∧ 67 ≤ R.locals) {hl : MemL} (rc : Mem → Int32 → Int32 → Int32 → Int32 → (Mem → Prop) → Prop) {rmN : Room} (hrc : ∀ (h : Mem) (hl : MemL) (v4 : Int32) (v5 : Int32) (v6 : Int32) (v7 : Int32) (Qr : Mem → Prop), rc h v4 v5 v6 v7 Qr → Met l yX5_tryNext (wsU yX5_tryNext cX5_tryNext 10 none) rmN (mPc (wdX E) [.ref (wad (wdX E) 32), .ref (wad (wdX E) 7), .ref (wad (wdX E) 29), .ref (wad (wdX E) 24), .int v4, .int v5, .int v6, .int v7] h hl) (mQv (wdX E) (fun h1 hl1 => hl = hl1 ∧ Qr h1)) 0 0 (wA (wdX E))) (hR2 : rmN.frames + 1 ≤ R.frames ∧ 8 + (10 + 11) + rmN.locals ≤ R.locals) (hz1 : rmN.cells = 0) (hz2 : rmN.slots = 0) (Qp : Mem → Prop) : ∀ (h : Mem) (v7 : Int32) (H : Heap) (locs : List Loc) (ls : Array Slot), mD (wdX E) h hl s H locs → lv_has ls 10 [(0, .ref (wad (wdX E) 32)), (7, .int v7)] → b_X5_tryNext_11 h v7 rc Qp → W p l e R s m args below meth c H locs 0 0 (MQ below (mQv (wdX E) (fun h1 hl1 => hl = hl1 ∧ Qp h1)) args s 0 0 (wA (wdX E))) (F0 m 11 ls []) := by
  have hx := C.x
  have hb := C.b
  intro h v7 H locs ls Dy lv hwp
  unfold b_X5_tryNext_11 at hwp
  refine lv_iload hx hb dX5_tryNext_11 (lv_at lv 1 rfl) ?_
  refine lv_aload_n hx hb dX5_tryNext_13 rfl (lv_at lv 0 rfl) ?_
  refine gf_X5_9_32 C Dy dX5_tryNext_14 ?_
  refine lv_icmp_le (tgt := 40) hx hb dX5_tryNext_17 (by decide) (fun c1 => ?_) (fun c1 => ?_)
  · have hwp := hwp.1 c1
    exact x_vret C Dy ⟨rfl, hwp⟩ dX5_tryNext_40
  · have hwp := hwp.2 c1
    refine lv_aload_n hx hb dX5_tryNext_20 rfl (lv_at lv 0 rfl) ?_
    refine lv_iload hx hb dX5_tryNext_21 (lv_at lv 1 rfl) ?_
    refine pf_X5_9_32 C Dy dX5_tryNext_23 (fun H locs Dy => ?_)
    refine lv_aload_n hx hb dX5_tryNext_26 rfl (lv_at lv 0 rfl) ?_
    refine gf_X5_19_32 C Dy dX5_tryNext_27 ?_
    refine lv_iconst (v := (0 : Int32)) hx hb dX5_tryNext_30 (by decide) ?_
    refine lv_aload_n hx hb dX5_tryNext_31 rfl (lv_at lv 0 rfl) ?_
    refine gf_X5_15_32 C Dy dX5_tryNext_32 ?_
    refine lv_iconst (v := (0 : Int32)) hx hb dX5_tryNext_35 (by decide) ?_
    refine lv_iconst (v := (4 : Int32)) hx hb dX5_tryNext_36 (by decide) ?_
    obtain ⟨g2, g3, g4, g5, g6, hwp⟩ := hwp
    refine x_copy C Dy wxa_34 wxa_33 g2 g3 g4 g5 g6 k_578 k_580 k_579 k_14 (lv.1) (Nat.le_trans (Nat.le_of_ble_eq_true rfl) hR.1) (Nat.le_trans (Nat.le_of_ble_eq_true rfl) hR.2) dX5_tryNext_37 (fun H locs Dy => ?_)
    obtain ⟨h7, eh7⟩ : ∃ z : Mem, z = (upR (up2 h 32 0 v7) 33 (va_cpy ((up2 h 32 0 v7) 34) ((up2 h 32 0 v7) 33) (0 : Int32).toNatClampNeg (0 : Int32).toNatClampNeg (4 : Int32).toNatClampNeg)) := ⟨_, rfl⟩
    rw [← eh7] at Dy
    have hwp := hwp h7 eh7
    exact x_vret C Dy ⟨rfl, hwp⟩ dX5_tryNext_40
set_option maxHeartbeats 4000000 in
set_option maxRecDepth 100000 in
theorem t_X5_tryNext_135 (E : xE) {p : Program} {l : Launch} {e : Env} {R : Room} {s : State} {m : MethodId} {args : Array Value} {below : List Frame} {meth : Method} {c : Code} (C : mC (wdX E) p s m meth c args cX5_tryNext 10 RX5 none) (hR : 3 ≤ R.frames ∧ 67 ≤ R.locals) {hl : MemL} (rc : Mem → Int32 → Int32 → Int32 → Int32 → (Mem → Prop) → Prop) {rmN : Room} (hrc : ∀ (h : Mem) (hl : MemL) (v4 : Int32) (v5 : Int32) (v6 : Int32) (v7 : Int32) (Qr : Mem → Prop), rc h v4 v5 v6 v7 Qr → Met l yX5_tryNext (wsU yX5_tryNext cX5_tryNext 10 none) rmN (mPc (wdX E) [.ref (wad (wdX E) 32), .ref (wad (wdX E) 7), .ref (wad (wdX E) 29), .ref (wad (wdX E) 24), .int v4, .int v5, .int v6, .int v7] h hl) (mQv (wdX E) (fun h1 hl1 => hl = hl1 ∧ Qr h1)) 0 0 (wA (wdX E))) (hR2 : rmN.frames + 1 ≤ R.frames ∧ 8 + (10 + 11) + rmN.locals ≤ R.locals) (hz1 : rmN.cells = 0) (hz2 : rmN.slots = 0) (Qp : Mem → Prop) (K44 : Mem → Int32 → Int32 → Int32 → Int32 → Int32 → Prop) (hK44 : ∀ (h : Mem) (v4 : Int32) (v5 : Int32) (v6 : Int32) (v7 : Int32) (v8 : Int32) (H : Heap) (locs : List Loc) (ls : Array Slot), mD (wdX E) h hl s H locs → lv_has ls 10 [(0, .ref (wad (wdX E) 32)), (1, .ref (wad (wdX E) 7)), (2, .ref (wad (wdX E) 29)), (3, .ref (wad (wdX E) 24)), (4, .int v4), (5, .int v5), (6, .int v6), (7, .int v7), (8, .int v8)] → K44 h v4 v5 v6 v7 v8 → W p l e R s m args below meth c H locs 0 0 (MQ below (mQv (wdX E) (fun h1 hl1 => hl = hl1 ∧ Qp h1)) args s 0 0 (wA (wdX E))) (F0 m 44 ls [])) : ∀ (h : Mem) (v4 : Int32) (v5 : Int32) (v6 : Int32) (v7 : Int32) (v8 : Int32) (H : Heap) (locs : List Loc) (ls : Array Slot), mD (wdX E) h hl s H locs → lv_has ls 10 [(0, .ref (wad (wdX E) 32)), (1, .ref (wad (wdX E) 7)), (2, .ref (wad (wdX E) 29)), (3, .ref (wad (wdX E) 24)), (4, .int v4), (5, .int v5), (6, .int v6), (7, .int v7), (8, .int v8)] → b_X5_tryNext_135 h v4 v5 v6 v7 v8 K44 rc Qp → W p l e R s m args below meth c H locs 0 0 (MQ below (mQv (wdX E) (fun h1 hl1 => hl = hl1 ∧ Qp h1)) args s 0 0 (wA (wdX E))) (F0 m 135 ls []) := by
  have hx := C.x
  have hb := C.b
  intro h v4 v5 v6 v7 v8 H locs ls Dy lv hwp
  unfold b_X5_tryNext_135 at hwp
  refine lv_iinc (v := (v8 + (1 : Int32))) (lv' := [(8, .int (v8 + (1 : Int32))), (0, .ref (wad (wdX E) 32)), (1, .ref (wad (wdX E) 7)), (2, .ref (wad (wdX E) 29)), (3, .ref (wad (wdX E) 24)), (4, .int v4), (5, .int v5), (6, .int v6), (7, .int v7)]) hx hb dX5_tryNext_135 lv (k := 8) rfl rfl (by decide) rfl (fun ls lv => ?_)
  refine lv_goto (tgt := 44) hx hb dX5_tryNext_138 (by decide) ?_
  exact hK44 h v4 v5 v6 v7 (v8 + (1 : Int32)) _ _ _ Dy (lv_sub lv [1, 2, 3, 4, 5, 6, 7, 8, 0] rfl) hwp
set_option maxHeartbeats 4000000 in
set_option maxRecDepth 100000 in
theorem t_X5_tryNext_44 (E : xE) {p : Program} {l : Launch} {e : Env} {R : Room} {s : State} {m : MethodId} {args : Array Value} {below : List Frame} {meth : Method} {c : Code} (C : mC (wdX E) p s m meth c args cX5_tryNext 10 RX5 none) (hR : 3 ≤ R.frames ∧ 67 ≤ R.locals) {hl : MemL} (rc : Mem → Int32 → Int32 → Int32 → Int32 → (Mem → Prop) → Prop) {rmN : Room} (hrc : ∀ (h : Mem) (hl : MemL) (v4 : Int32) (v5 : Int32) (v6 : Int32) (v7 : Int32) (Qr : Mem → Prop), rc h v4 v5 v6 v7 Qr → Met l yX5_tryNext (wsU yX5_tryNext cX5_tryNext 10 none) rmN (mPc (wdX E) [.ref (wad (wdX E) 32), .ref (wad (wdX E) 7), .ref (wad (wdX E) 29), .ref (wad (wdX E) 24), .int v4, .int v5, .int v6, .int v7] h hl) (mQv (wdX E) (fun h1 hl1 => hl = hl1 ∧ Qr h1)) 0 0 (wA (wdX E))) (hR2 : rmN.frames + 1 ≤ R.frames ∧ 8 + (10 + 11) + rmN.locals ≤ R.locals) (hz1 : rmN.cells = 0) (hz2 : rmN.slots = 0) (Qp : Mem → Prop) : ∀ (n : Nat) (h : Mem) (v4 : Int32) (v5 : Int32) (v6 : Int32) (v7 : Int32) (v8 : Int32) (H : Heap) (locs : List Loc) (ls : Array Slot), mD (wdX E) h hl s H locs → lv_has ls 10 [(0, .ref (wad (wdX E) 32)), (1, .ref (wad (wdX E) 7)), (2, .ref (wad (wdX E) 29)), (3, .ref (wad (wdX E) 24)), (4, .int v4), (5, .int v5), (6, .int v6), (7, .int v7), (8, .int v8)] → b_X5_tryNext_44 n h v4 v5 v6 v7 v8 rc Qp → W p l e R s m args below meth c H locs 0 0 (MQ below (mQv (wdX E) (fun h1 hl1 => hl = hl1 ∧ Qp h1)) args s 0 0 (wA (wdX E))) (F0 m 44 ls []) := by
  have hx := C.x
  have hb := C.b
  intro n
  induction n with
  | zero => intro h v4 v5 v6 v7 v8 H locs ls Dy lv hwp; exact hwp.elim
  | succ n ih =>
    intro h v4 v5 v6 v7 v8 H locs ls Dy lv hwp
    simp only [b_X5_tryNext_44] at hwp
    refine lv_iload hx hb dX5_tryNext_44 (lv_at lv 8 rfl) ?_
    refine lv_bipush (v := (12 : Int32)) hx hb dX5_tryNext_46 (by decide) ?_
    refine lv_icmp_ge (tgt := 141) hx hb dX5_tryNext_48 (by decide) (fun c8 => ?_) (fun c8 => ?_)
    · have hwp := hwp.1 c8
      exact x_vret C Dy ⟨rfl, hwp⟩ dX5_tryNext_141
    · have hwp := hwp.2 c8
      refine lv_iload hx hb dX5_tryNext_51 (lv_at lv 4 rfl) ?_
      refine lv_iload hx hb dX5_tryNext_53 (lv_at lv 8 rfl) ?_
      refine lv_ishr hx hb dX5_tryNext_55 ?_
      refine lv_iconst (v := (1 : Int32)) hx hb dX5_tryNext_56 (by decide) ?_
      refine lv_iand hx hb dX5_tryNext_57 ?_
      refine lv_iconst (v := (1 : Int32)) hx hb dX5_tryNext_58 (by decide) ?_
      refine lv_icmp_ne (tgt := 135) hx hb dX5_tryNext_59 (by decide) (fun c9 => ?_) (fun c9 => ?_)
      · have hwp := hwp.2 c9
        exact t_X5_tryNext_135 E C hR rc hrc hR2 hz1 hz2 Qp (fun h v4 v5 v6 v7 v8 => b_X5_tryNext_44 n h v4 v5 v6 v7 v8 rc Qp) (fun h v4 v5 v6 v7 v8 H locs ls Dy lv hwp => ih h v4 v5 v6 v7 v8 H locs ls Dy lv hwp) h v4 v5 v6 v7 v8 _ _ _ Dy (lv_sub lv [0, 1, 2, 3, 4, 5, 6, 7, 8] rfl) hwp
      · have hwp := hwp.1 c9
        refine lv_aload_n hx hb dX5_tryNext_62 rfl (lv_at lv 0 rfl) ?_
        refine gf_X5_19_32 C Dy dX5_tryNext_63 ?_
        refine lv_iload hx hb dX5_tryNext_66 (lv_at lv 6 rfl) ?_
        refine lv_iload hx hb dX5_tryNext_68 (lv_at lv 8 rfl) ?_
        obtain ⟨g10, hwp⟩ := hwp
        refine x_iast C Dy wxa_34 g10 dX5_tryNext_70 (fun H locs Dy => ?_)
        refine lv_aload_n hx hb dX5_tryNext_71 rfl (lv_at lv 2 rfl) ?_
        refine lv_iload hx hb dX5_tryNext_72 (lv_at lv 8 rfl) ?_
        refine lv_iload hx hb dX5_tryNext_74 (lv_at lv 5 rfl) ?_
        refine lv_aload_n hx hb dX5_tryNext_76 rfl (lv_at lv 3 rfl) ?_
        refine lv_iload hx hb dX5_tryNext_77 (lv_at lv 5 rfl) ?_
        refine lv_iload hx hb dX5_tryNext_79 (lv_at lv 8 rfl) ?_
        refine x_cont_z Dy (x_runV (As := [.int v5, .int v8]) (rest := [.int v5, .int v8, .ref (wad (wdX E) 29)]) C Dy (m_X4_has E l _ _ 24 (Or.inr rfl) v5 v8 _ hwp) (cw_X5_38 C rfl rfl ⟨Nat.le_trans (Nat.le_of_ble_eq_true rfl) hR.1, Nat.le_trans (Nat.le_of_ble_eq_true rfl) hR.2⟩) wx_24 rfl rfl lv.1 rfl (Nat.le_of_ble_eq_true rfl) dX5_tryNext_81 ⟨Nat.zero_le _, Nat.zero_le _⟩) (fun r11 h12 hl12 H locs zr11 hwp Dy => ?_)
        obtain ⟨rfl, rfl, hwp⟩ := hwp
        refine x_cont_v Dy (x_runV (As := [.int v8, .int v5, .int r11]) (rest := []) C Dy (m_X6_put E l _ _ 29 (Or.inr rfl) v8 v5 r11 _ hwp) (cw_X5_44 C rfl rfl ⟨Nat.le_trans (Nat.le_of_ble_eq_true rfl) hR.1, Nat.le_trans (Nat.le_of_ble_eq_true rfl) hR.2⟩) wx_29 rfl rfl lv.1 rfl (Nat.le_of_ble_eq_true rfl) dX5_tryNext_84 ⟨Nat.zero_le _, Nat.zero_le _⟩) (fun h14 hl14 H locs hwp Dy => ?_)
        obtain ⟨rfl, hwp⟩ := hwp
        refine lv_aload_n hx hb dX5_tryNext_87 rfl (lv_at lv 1 rfl) ?_
        refine lv_aload_n hx hb dX5_tryNext_88 rfl (lv_at lv 2 rfl) ?_
        refine lv_aload_n hx hb dX5_tryNext_89 rfl (lv_at lv 1 rfl) ?_
        refine lv_iload hx hb dX5_tryNext_90 (lv_at lv 5 rfl) ?_
        refine x_cont_i Dy (x_runV (As := [.ref (wad (wdX E) 7), .int v5]) (rest := [.ref (wad (wdX E) 7)]) C Dy (m_X6_bindingKing E l _ _ 29 (Or.inr rfl) v5 _ hwp) (cw_X5_48 C rfl rfl ⟨Nat.le_trans (Nat.le_of_ble_eq_true rfl) hR.1, Nat.le_trans (Nat.le_of_ble_eq_true rfl) hR.2⟩) wx_29 rfl rfl lv.1 rfl (Nat.le_of_ble_eq_true rfl) dX5_tryNext_92 ⟨Nat.zero_le _, Nat.zero_le _⟩) (fun r15 h16 hl16 H locs hwp Dy => ?_)
        obtain ⟨rfl, rfl, hwp⟩ := hwp
        refine x_cont_i Dy (x_runV (As := [.int r15]) (rest := []) C Dy (m_X0_joyBy E l _ _ r15 _ hwp) (cw_X5_52 C rfl rfl ⟨Nat.le_trans (Nat.le_of_ble_eq_true rfl) hR.1, Nat.le_trans (Nat.le_of_ble_eq_true rfl) hR.2⟩) wx_7 rfl rfl lv.1 rfl (Nat.le_of_ble_eq_true rfl) dX5_tryNext_95 ⟨Nat.zero_le _, Nat.zero_le _⟩) (fun r17 h18 hl18 H locs hwp Dy => ?_)
        obtain ⟨rfl, rfl, hwp⟩ := hwp
        refine lv_istore (lv' := [(9, .int r17), (0, .ref (wad (wdX E) 32)), (1, .ref (wad (wdX E) 7)), (2, .ref (wad (wdX E) 29)), (3, .ref (wad (wdX E) 24)), (4, .int v4), (5, .int v5), (6, .int v6), (7, .int v7), (8, .int v8)]) hx hb dX5_tryNext_98 lv (by decide) rfl (fun ls lv => ?_)
        refine lv_aload_n hx hb dX5_tryNext_100 rfl (lv_at lv 1 rfl) ?_
        refine lv_aload_n hx hb dX5_tryNext_101 rfl (lv_at lv 2 rfl) ?_
        refine lv_aload_n hx hb dX5_tryNext_102 rfl (lv_at lv 3 rfl) ?_
        refine lv_aload_n hx hb dX5_tryNext_103 rfl (lv_at lv 4 rfl) ?_
        refine lv_iload hx hb dX5_tryNext_104 (lv_at lv 5 rfl) ?_
        refine lv_iconst (v := (1 : Int32)) hx hb dX5_tryNext_106 (by decide) ?_
        refine lv_iload hx hb dX5_tryNext_107 (lv_at lv 9 rfl) ?_
        refine lv_ishl hx hb dX5_tryNext_109 ?_
        refine lv_iconst (v := (-1 : Int32)) hx hb dX5_tryNext_110 (by decide) ?_
        refine lv_ixor hx hb dX5_tryNext_111 ?_
        refine lv_iand hx hb dX5_tryNext_112 ?_
        refine lv_iload hx hb dX5_tryNext_113 (lv_at lv 6 rfl) ?_
        refine lv_iconst (v := (1 : Int32)) hx hb dX5_tryNext_115 (by decide) ?_
        refine lv_iadd hx hb dX5_tryNext_116 ?_
        refine lv_iload hx hb dX5_tryNext_117 (lv_at lv 7 rfl) ?_
        refine lv_iconst (v := (1 : Int32)) hx hb dX5_tryNext_119 (by decide) ?_
        refine lv_iadd hx hb dX5_tryNext_120 ?_
        refine lv_iload hx hb dX5_tryNext_121 (lv_at lv 8 rfl) ?_
        refine lv_iload hx hb dX5_tryNext_123 (lv_at lv 0 rfl) ?_
        refine lv_iadd hx hb dX5_tryNext_125 ?_
        refine x_cont_v Dy (x_runV (As := [.ref (wad (wdX E) 7), .ref (wad (wdX E) 29), .ref (wad (wdX E) 24), .int (v4 &&& (((1 : Int32) <<< (v8 &&& 31)) ^^^ (-1 : Int32))), .int (v5 + (1 : Int32)), .int (v6 + (1 : Int32)), .int (v7 + r17)]) (rest := []) C Dy (hrc _ _ (v4 &&& (((1 : Int32) <<< (v8 &&& 31)) ^^^ (-1 : Int32))) (v5 + (1 : Int32)) (v6 + (1 : Int32)) (v7 + r17) _ hwp) (cw_X5_28 C hz1 hz2 hR2) wx_32 rfl rfl lv.1 rfl (Nat.le_of_ble_eq_true rfl) dX5_tryNext_126 ⟨Nat.zero_le _, Nat.zero_le _⟩) (fun h20 hl20 H locs hwp Dy => ?_)
        obtain ⟨rfl, hwp⟩ := hwp
        refine lv_aload_n hx hb dX5_tryNext_129 rfl (lv_at lv 3 rfl) ?_
        refine lv_iload hx hb dX5_tryNext_130 (lv_at lv 9 rfl) ?_
        refine x_cont_v Dy (x_runV (As := [.int v8]) (rest := []) C Dy (m_X6_drop E l _ _ 29 (Or.inr rfl) v8 _ hwp) (cw_X5_22 C rfl rfl ⟨Nat.le_trans (Nat.le_of_ble_eq_true rfl) hR.1, Nat.le_trans (Nat.le_of_ble_eq_true rfl) hR.2⟩) wx_29 rfl rfl lv.1 rfl (Nat.le_of_ble_eq_true rfl) dX5_tryNext_132 ⟨Nat.zero_le _, Nat.zero_le _⟩) (fun h22 hl22 H locs hwp Dy => ?_)
        obtain ⟨rfl, hwp⟩ := hwp
        exact t_X5_tryNext_135 E C hR rc hrc hR2 hz1 hz2 Qp (fun h v4 v5 v6 v7 v8 => b_X5_tryNext_44 n h v4 v5 v6 v7 v8 rc Qp) (fun h v4 v5 v6 v7 v8 H locs ls Dy lv hwp => ih h v4 v5 v6 v7 v8 H locs ls Dy lv hwp) h22 v4 v5 v6 v7 v8 _ _ _ Dy (lv_sub lv [1, 2, 3, 4, 5, 6, 7, 8, 9] rfl) hwp
set_option maxHeartbeats 4000000 in
set_option maxRecDepth 100000 in
theorem m_X5_tryNext (E : xE) (l : Launch) (n : Nat) : ∀ (h : Mem) (hl : MemL) (v4 : Int32) (v5 : Int32) (v6 : Int32) (v7 : Int32) (Qp : Mem → Prop), p_X5_tryNext n h v4 v5 v6 v7 Qp → Met l yX5_tryNext (wsU yX5_tryNext cX5_tryNext 10 none) ({ frames := 3 + n, cells := 0, slots := 0, locals := 67 + n * 29 } : Room) (mPc (wdX E) [.ref (wad (wdX E) 32), .ref (wad (wdX E) 7), .ref (wad (wdX E) 29), .ref (wad (wdX E) 24), .int v4, .int v5, .int v6, .int v7] h hl) (mQv (wdX E) (fun h1 hl1 => hl = hl1 ∧ Qp h1)) 0 0 (wA (wdX E)) := by
  induction n with
  | zero => intro h hl v4 v5 v6 v7 Qp hwp; exact hwp.elim
  | succ n ihr =>
    intro h hl v4 v5 v6 v7 Qp hwp
    refine x_met RX5 [(0, .ref (wad (wdX E) 32)), (1, .ref (wad (wdX E) 7)), (2, .ref (wad (wdX E) 29)), (3, .ref (wad (wdX E) 24)), (4, .int v4), (5, .int v5), (6, .int v6), (7, .int v7)] (by decide) rfl (Nat.le_of_ble_eq_true rfl) rfl ?_
    intro p e s m args below meth c ls C Dy lv
    have hx := C.x
    have hb := C.b
    have hR : 3 ≤ ({ frames := 3 + (n + 1), cells := 0, slots := 0, locals := 67 + (n + 1) * 29 } : Room).frames ∧ 67 ≤ ({ frames := 3 + (n + 1), cells := 0, slots := 0, locals := 67 + (n + 1) * 29 } : Room).locals := ⟨by show 3 ≤ 3 + (n + 1); omega, by show 67 ≤ 67 + (n + 1) * 29; omega⟩
    have hR2 : ({ frames := 3 + n, cells := 0, slots := 0, locals := 67 + n * 29 } : Room).frames + 1 ≤ ({ frames := 3 + (n + 1), cells := 0, slots := 0, locals := 67 + (n + 1) * 29 } : Room).frames ∧ 8 + (10 + 11) + ({ frames := 3 + n, cells := 0, slots := 0, locals := 67 + n * 29 } : Room).locals ≤ ({ frames := 3 + (n + 1), cells := 0, slots := 0, locals := 67 + (n + 1) * 29 } : Room).locals := ⟨by show 3 + n + 1 ≤ 3 + (n + 1); omega, by show 8 + (10 + 11) + (67 + n * 29) ≤ 67 + (n + 1) * 29; omega⟩
    generalize ({ frames := 3 + (n + 1), cells := 0, slots := 0, locals := 67 + (n + 1) * 29 } : Room) = R at hR hR2 ⊢
    have hrc := ihr
    have hz1 : ({ frames := 3 + n, cells := 0, slots := 0, locals := 67 + n * 29 } : Room).cells = 0 := rfl
    have hz2 : ({ frames := 3 + n, cells := 0, slots := 0, locals := 67 + n * 29 } : Room).slots = 0 := rfl
    simp only [p_X5_tryNext] at hwp
    refine lv_iload hx hb dX5_tryNext_0 (lv_at lv 4 rfl) ?_
    refine lv_if_eq (tgt := 11) hx hb dX5_tryNext_2 (by decide) (fun c23 => ?_) (fun c23 => ?_)
    · have hwp := hwp.1 c23
      exact t_X5_tryNext_11 E C hR (p_X5_tryNext n) hrc hR2 hz1 hz2 Qp h v7 _ _ _ Dy (lv_sub lv [0, 7] rfl) hwp
    · have hwp := hwp.2 c23
      refine lv_iload hx hb dX5_tryNext_5 (lv_at lv 6 rfl) ?_
      refine lv_iconst (v := (4 : Int32)) hx hb dX5_tryNext_7 (by decide) ?_
      refine lv_icmp_lt (tgt := 41) hx hb dX5_tryNext_8 (by decide) (fun c24 => ?_) (fun c24 => ?_)
      · have hwp := hwp.1 c24
        refine lv_iconst (v := (0 : Int32)) hx hb dX5_tryNext_41 (by decide) ?_
        refine lv_istore (lv' := [(8, .int (0 : Int32)), (0, .ref (wad (wdX E) 32)), (1, .ref (wad (wdX E) 7)), (2, .ref (wad (wdX E) 29)), (3, .ref (wad (wdX E) 24)), (4, .int v4), (5, .int v5), (6, .int v6), (7, .int v7)]) hx hb dX5_tryNext_42 lv (by decide) rfl (fun ls lv => ?_)
        obtain ⟨n0, hwp⟩ := hwp
        exact t_X5_tryNext_44 E C hR (p_X5_tryNext n) hrc hR2 hz1 hz2 Qp n0 h v4 v5 v6 v7 (0 : Int32) _ _ _ Dy (lv_sub lv [1, 2, 3, 4, 5, 6, 7, 8, 0] rfl) hwp
      · have hwp := hwp.2 c24
        exact t_X5_tryNext_11 E C hR (p_X5_tryNext n) hrc hR2 hz1 hz2 Qp h v7 _ _ _ Dy (lv_sub lv [0, 7] rfl) hwp
def b_X5_search_32 (h : Mem) (v4 : Int32) (v5 : Int32) (v6 : Int32) (K8 : Mem → Int32 → Int32 → Int32 → Prop) (Qp : Mem → Prop) : Prop := K8 h v4 v5 (v6 + (1 : Int32))
def b_X5_search_8 : Nat → Mem → Int32 → Int32 → Int32 → (Mem → Prop) → Prop
  | 0 => fun _ _ _ _ _ => False
  | n + 1 => fun h v4 v5 v6 Qp => (((12 : Int32) ≤ v6 → (p_X5_tryNext 6 h v4 v5 (0 : Int32) (0 : Int32) (fun h3 => Qp h3))) ∧ (¬ ((12 : Int32) ≤ v6) → ((((v4 >>> (v6 &&& 31)) &&& (1 : Int32)) = (1 : Int32) → (p_X6_drop h 29 v6 (fun h6 => b_X5_search_32 h6 v4 v5 v6 (fun h v4 v5 v6 => b_X5_search_8 n h v4 v5 v6 Qp) Qp))) ∧ (¬ (((v4 >>> (v6 &&& 31)) &&& (1 : Int32)) = (1 : Int32)) → b_X5_search_32 h v4 v5 v6 (fun h v4 v5 v6 => b_X5_search_8 n h v4 v5 v6 Qp) Qp))))
def p_X5_search (h : Mem) (v4 : Int32) (v5 : Int32) (Qp : Mem → Prop) : Prop := (∃ n8, b_X5_search_8 n8 (up2 h 32 0 (-1 : Int32)) v4 v5 (0 : Int32) Qp)
set_option maxHeartbeats 4000000 in
set_option maxRecDepth 100000 in
theorem t_X5_search_32 (E : xE) {p : Program} {l : Launch} {e : Env} {R : Room} {s : State} {m : MethodId} {args : Array Value} {below : List Frame} {meth : Method} {c : Code} (C : mC (wdX E) p s m meth c args cX5_search 7 RX5 none) (hR : 10 ≤ R.frames ∧ 270 ≤ R.locals) {hl : MemL} (Qp : Mem → Prop) (K8 : Mem → Int32 → Int32 → Int32 → Prop) (hK8 : ∀ (h : Mem) (v4 : Int32) (v5 : Int32) (v6 : Int32) (H : Heap) (locs : List Loc) (ls : Array Slot), mD (wdX E) h hl s H locs → lv_has ls 7 [(0, .ref (wad (wdX E) 32)), (1, .ref (wad (wdX E) 7)), (2, .ref (wad (wdX E) 29)), (3, .ref (wad (wdX E) 24)), (4, .int v4), (5, .int v5), (6, .int v6)] → K8 h v4 v5 v6 → W p l e R s m args below meth c H locs 0 0 (MQ below (mQv (wdX E) (fun h1 hl1 => hl = hl1 ∧ Qp h1)) args s 0 0 (wA (wdX E))) (F0 m 8 ls [])) : ∀ (h : Mem) (v4 : Int32) (v5 : Int32) (v6 : Int32) (H : Heap) (locs : List Loc) (ls : Array Slot), mD (wdX E) h hl s H locs → lv_has ls 7 [(0, .ref (wad (wdX E) 32)), (1, .ref (wad (wdX E) 7)), (2, .ref (wad (wdX E) 29)), (3, .ref (wad (wdX E) 24)), (4, .int v4), (5, .int v5), (6, .int v6)] → b_X5_search_32 h v4 v5 v6 K8 Qp → W p l e R s m args below meth c H locs 0 0 (MQ below (mQv (wdX E) (fun h1 hl1 => hl = hl1 ∧ Qp h1)) args s 0 0 (wA (wdX E))) (F0 m 32 ls []) := by
  have hx := C.x
  have hb := C.b
  intro h v4 v5 v6 H locs ls Dy lv hwp
  unfold b_X5_search_32 at hwp
  refine lv_iinc (v := (v6 + (1 : Int32))) (lv' := [(6, .int (v6 + (1 : Int32))), (0, .ref (wad (wdX E) 32)), (1, .ref (wad (wdX E) 7)), (2, .ref (wad (wdX E) 29)), (3, .ref (wad (wdX E) 24)), (4, .int v4), (5, .int v5)]) hx hb dX5_search_32 lv (k := 6) rfl rfl (by decide) rfl (fun ls lv => ?_)
  refine lv_goto (tgt := 8) hx hb dX5_search_35 (by decide) ?_
  exact hK8 h v4 v5 (v6 + (1 : Int32)) _ _ _ Dy (lv_sub lv [1, 2, 3, 4, 5, 6, 0] rfl) hwp
set_option maxHeartbeats 4000000 in
set_option maxRecDepth 100000 in
theorem t_X5_search_8 (E : xE) {p : Program} {l : Launch} {e : Env} {R : Room} {s : State} {m : MethodId} {args : Array Value} {below : List Frame} {meth : Method} {c : Code} (C : mC (wdX E) p s m meth c args cX5_search 7 RX5 none) (hR : 10 ≤ R.frames ∧ 270 ≤ R.locals) {hl : MemL} (Qp : Mem → Prop) : ∀ (n : Nat) (h : Mem) (v4 : Int32) (v5 : Int32) (v6 : Int32) (H : Heap) (locs : List Loc) (ls : Array Slot), mD (wdX E) h hl s H locs → lv_has ls 7 [(0, .ref (wad (wdX E) 32)), (1, .ref (wad (wdX E) 7)), (2, .ref (wad (wdX E) 29)), (3, .ref (wad (wdX E) 24)), (4, .int v4), (5, .int v5), (6, .int v6)] → b_X5_search_8 n h v4 v5 v6 Qp → W p l e R s m args below meth c H locs 0 0 (MQ below (mQv (wdX E) (fun h1 hl1 => hl = hl1 ∧ Qp h1)) args s 0 0 (wA (wdX E))) (F0 m 8 ls []) := by
  have hx := C.x
  have hb := C.b
  intro n
  induction n with
  | zero => intro h v4 v5 v6 H locs ls Dy lv hwp; exact hwp.elim
  | succ n ih =>
    intro h v4 v5 v6 H locs ls Dy lv hwp
    simp only [b_X5_search_8] at hwp
    refine lv_iload hx hb dX5_search_8 (lv_at lv 6 rfl) ?_
    refine lv_bipush (v := (12 : Int32)) hx hb dX5_search_10 (by decide) ?_
    refine lv_icmp_ge (tgt := 38) hx hb dX5_search_12 (by decide) (fun c1 => ?_) (fun c1 => ?_)
    · have hwp := hwp.1 c1
      refine lv_aload_n hx hb dX5_search_38 rfl (lv_at lv 0 rfl) ?_
      refine lv_aload_n hx hb dX5_search_39 rfl (lv_at lv 1 rfl) ?_
      refine lv_aload_n hx hb dX5_search_40 rfl (lv_at lv 2 rfl) ?_
      refine lv_aload_n hx hb dX5_search_41 rfl (lv_at lv 3 rfl) ?_
      refine lv_iload hx hb dX5_search_42 (lv_at lv 4 rfl) ?_
      refine lv_iload hx hb dX5_search_44 (lv_at lv 5 rfl) ?_
      refine lv_iconst (v := (0 : Int32)) hx hb dX5_search_46 (by decide) ?_
      refine lv_iconst (v := (0 : Int32)) hx hb dX5_search_47 (by decide) ?_
      refine x_cont_v Dy (x_runV (As := [.ref (wad (wdX E) 7), .ref (wad (wdX E) 29), .ref (wad (wdX E) 24), .int v4, .int v5, .int (0 : Int32), .int (0 : Int32)]) (rest := []) C Dy (m_X5_tryNext E l 6 _ _ v4 v5 (0 : Int32) (0 : Int32) _ hwp) (cw_X5_28 C rfl rfl ⟨Nat.le_trans (Nat.le_of_ble_eq_true rfl) hR.1, Nat.le_trans (Nat.le_of_ble_eq_true rfl) hR.2⟩) wx_32 rfl rfl lv.1 rfl (Nat.le_of_ble_eq_true rfl) dX5_search_48 ⟨Nat.zero_le _, Nat.zero_le _⟩) (fun h3 hl3 H locs hwp Dy => ?_)
      obtain ⟨rfl, hwp⟩ := hwp
      exact x_vret C Dy ⟨rfl, hwp⟩ dX5_search_51
    · have hwp := hwp.2 c1
      refine lv_iload hx hb dX5_search_15 (lv_at lv 4 rfl) ?_
      refine lv_iload hx hb dX5_search_17 (lv_at lv 6 rfl) ?_
      refine lv_ishr hx hb dX5_search_19 ?_
      refine lv_iconst (v := (1 : Int32)) hx hb dX5_search_20 (by decide) ?_
      refine lv_iand hx hb dX5_search_21 ?_
      refine lv_iconst (v := (1 : Int32)) hx hb dX5_search_22 (by decide) ?_
      refine lv_icmp_ne (tgt := 32) hx hb dX5_search_23 (by decide) (fun c4 => ?_) (fun c4 => ?_)
      · have hwp := hwp.2 c4
        exact t_X5_search_32 E C hR Qp (fun h v4 v5 v6 => b_X5_search_8 n h v4 v5 v6 Qp) (fun h v4 v5 v6 H locs ls Dy lv hwp => ih h v4 v5 v6 H locs ls Dy lv hwp) h v4 v5 v6 _ _ _ Dy (lv_sub lv [0, 1, 2, 3, 4, 5, 6] rfl) hwp
      · have hwp := hwp.1 c4
        refine lv_aload_n hx hb dX5_search_26 rfl (lv_at lv 2 rfl) ?_
        refine lv_iload hx hb dX5_search_27 (lv_at lv 6 rfl) ?_
        refine x_cont_v Dy (x_runV (As := [.int v6]) (rest := []) C Dy (m_X6_drop E l _ _ 29 (Or.inr rfl) v6 _ hwp) (cw_X5_22 C rfl rfl ⟨Nat.le_trans (Nat.le_of_ble_eq_true rfl) hR.1, Nat.le_trans (Nat.le_of_ble_eq_true rfl) hR.2⟩) wx_29 rfl rfl lv.1 rfl (Nat.le_of_ble_eq_true rfl) dX5_search_29 ⟨Nat.zero_le _, Nat.zero_le _⟩) (fun h6 hl6 H locs hwp Dy => ?_)
        obtain ⟨rfl, hwp⟩ := hwp
        exact t_X5_search_32 E C hR Qp (fun h v4 v5 v6 => b_X5_search_8 n h v4 v5 v6 Qp) (fun h v4 v5 v6 H locs ls Dy lv hwp => ih h v4 v5 v6 H locs ls Dy lv hwp) h6 v4 v5 v6 _ _ _ Dy (lv_sub lv [0, 1, 2, 3, 4, 5, 6] rfl) hwp
set_option maxHeartbeats 4000000 in
set_option maxRecDepth 100000 in
theorem m_X5_search (E : xE) (l : Launch) (h : Mem) (hl : MemL) (v4 : Int32) (v5 : Int32) (Qp : Mem → Prop) (hwp : p_X5_search h v4 v5 Qp) : Met l yX5_search (wsU yX5_search cX5_search 7 none) ({ frames := 10, cells := 0, slots := 0, locals := 270 } : Room) (mPc (wdX E) [.ref (wad (wdX E) 32), .ref (wad (wdX E) 7), .ref (wad (wdX E) 29), .ref (wad (wdX E) 24), .int v4, .int v5] h hl) (mQv (wdX E) (fun h1 hl1 => hl = hl1 ∧ Qp h1)) 0 0 (wA (wdX E)) := by
  refine x_met RX5 [(0, .ref (wad (wdX E) 32)), (1, .ref (wad (wdX E) 7)), (2, .ref (wad (wdX E) 29)), (3, .ref (wad (wdX E) 24)), (4, .int v4), (5, .int v5)] (by decide) rfl (Nat.le_of_ble_eq_true rfl) rfl ?_
  intro p e s m args below meth c ls C Dy lv
  have hx := C.x
  have hb := C.b
  have hR : 10 ≤ ({ frames := 10, cells := 0, slots := 0, locals := 270 } : Room).frames ∧ 270 ≤ ({ frames := 10, cells := 0, slots := 0, locals := 270 } : Room).locals := ⟨Nat.le_refl _, Nat.le_refl _⟩
  unfold p_X5_search at hwp
  refine lv_aload_n hx hb dX5_search_0 rfl (lv_at lv 0 rfl) ?_
  refine lv_iconst (v := (-1 : Int32)) hx hb dX5_search_1 (by decide) ?_
  refine pf_X5_9_32 C Dy dX5_search_2 (fun H locs Dy => ?_)
  refine lv_iconst (v := (0 : Int32)) hx hb dX5_search_5 (by decide) ?_
  refine lv_istore (lv' := [(6, .int (0 : Int32)), (0, .ref (wad (wdX E) 32)), (1, .ref (wad (wdX E) 7)), (2, .ref (wad (wdX E) 29)), (3, .ref (wad (wdX E) 24)), (4, .int v4), (5, .int v5)]) hx hb dX5_search_6 lv (by decide) rfl (fun ls lv => ?_)
  obtain ⟨n0, hwp⟩ := hwp
  exact t_X5_search_8 E C hR Qp n0 (up2 h 32 0 (-1 : Int32)) v4 v5 (0 : Int32) _ _ _ Dy (lv_sub lv [1, 2, 3, 4, 5, 6, 0] rfl) hwp
def p_X6_begin (h : Mem) (k : Nat) (Qp : Mem → Prop) : Prop := (p_J7_fill h (k + 1) 12 (-1 : Int32) (fun h2 => Qp (up2 h2 k 1 (0 : Int32))))
set_option maxHeartbeats 4000000 in
set_option maxRecDepth 100000 in
theorem m_X6_begin (E : xE) (l : Launch) (h : Mem) (hl : MemL) (k : Nat) (hk : isRG k) (Qp : Mem → Prop) (hwp : p_X6_begin h k Qp) : Met l yX6_begin (wsU yX6_begin cX6_begin 1 none) ({ frames := 1, cells := 0, slots := 0, locals := 23 } : Room) (mPc (wdX E) [.ref (wad (wdX E) k)] h hl) (mQv (wdX E) (fun h1 hl1 => hl = hl1 ∧ Qp h1)) 0 0 (wA (wdX E)) := by
  refine x_met RX6 [(0, .ref (wad (wdX E) k))] (by decide) rfl (Nat.le_of_ble_eq_true rfl) rfl ?_
  intro p e s m args below meth c ls C Dy lv
  have hx := C.x
  have hb := C.b
  have hR : 1 ≤ ({ frames := 1, cells := 0, slots := 0, locals := 23 } : Room).frames ∧ 23 ≤ ({ frames := 1, cells := 0, slots := 0, locals := 23 } : Room).locals := ⟨Nat.le_refl _, Nat.le_refl _⟩
  unfold p_X6_begin at hwp
  refine lv_aload_n hx hb dX6_begin_0 rfl (lv_at lv 0 rfl) ?_
  refine gf_X6_9_RG hk C Dy dX6_begin_1 ?_
  refine lv_iconst (v := (-1 : Int32)) hx hb dX6_begin_4 (by decide) ?_
  refine x_cont_v Dy (x_runS (As := [.ref (wad (wdX E) (k + 1)), .int (-1 : Int32)]) (rest := []) C Dy (m_J7_fill (wdX E) l _ _ (k + 1) 12 (ia_RGt hk) (-1 : Int32) _ hwp) (cw_X6_22 C rfl rfl ⟨Nat.le_trans (Nat.le_of_ble_eq_true rfl) hR.1, Nat.le_trans (Nat.le_of_ble_eq_true rfl) hR.2⟩) rfl lv.1 rfl (Nat.le_of_ble_eq_true rfl) dX6_begin_5 ⟨Nat.zero_le _, Nat.zero_le _⟩) (fun h2 hl2 H locs hwp Dy => ?_)
  obtain ⟨rfl, hwp⟩ := hwp
  refine lv_aload_n hx hb dX6_begin_8 rfl (lv_at lv 0 rfl) ?_
  refine lv_iconst (v := (0 : Int32)) hx hb dX6_begin_9 (by decide) ?_
  refine pf_X6_15_RG hk C Dy dX6_begin_10 (fun H locs Dy => ?_)
  exact x_vret C Dy ⟨rfl, hwp⟩ dX6_begin_13
def b_X6_retell_57 (h : Mem) (k : Nat) (v3 : Int32) (K6 : Mem → Int32 → Prop) (Qp : Mem → Prop) : Prop := K6 h (v3 + (1 : Int32))
def b_X6_retell_6 : Nat → Mem → Nat → Int32 → (Mem → Prop) → Prop
  | 0 => fun _ _ _ _ => False
  | n + 1 => fun h k v3 Qp => (((h 21 2) ≤ v3 → Qp h) ∧ (¬ ((h 21 2) ≤ v3) → (vp_in v3 12 ∧ (vp_in (h 23 v3.toNatClampNeg) 12 ∧ (((h (k + 1) (h 23 v3.toNatClampNeg).toNatClampNeg) = (-1 : Int32) → (vp_in v3 12 ∧ (vp_in v3 12 ∧ (p_X4_has h 24 (h 22 v3.toNatClampNeg) (h 23 v3.toNatClampNeg) (fun r7 => (p_X6_put h k (h 23 v3.toNatClampNeg) (h 22 v3.toNatClampNeg) r7 (fun h10 => b_X6_retell_57 h10 k v3 (fun h v3 => b_X6_retell_6 n h k v3 Qp) Qp))))))) ∧ (¬ ((h (k + 1) (h 23 v3.toNatClampNeg).toNatClampNeg) = (-1 : Int32)) → b_X6_retell_57 h k v3 (fun h v3 => b_X6_retell_6 n h k v3 Qp) Qp))))))
def p_X6_retell (h : Mem) (k : Nat) (Qp : Mem → Prop) : Prop := (p_X6_begin h k (fun h12 => (∃ n6, b_X6_retell_6 n6 h12 k (0 : Int32) Qp)))
set_option maxHeartbeats 4000000 in
set_option maxRecDepth 100000 in
theorem t_X6_retell_57 (E : xE) {p : Program} {l : Launch} {e : Env} {R : Room} {s : State} {m : MethodId} {args : Array Value} {below : List Frame} {meth : Method} {c : Code} (C : mC (wdX E) p s m meth c args cX6_retell 5 RX6 none) (hR : 2 ≤ R.frames ∧ 43 ≤ R.locals) {hl : MemL} (k : Nat) (hk : isRG k) (Qp : Mem → Prop) (K6 : Mem → Int32 → Prop) (hK6 : ∀ (h : Mem) (v3 : Int32) (H : Heap) (locs : List Loc) (ls : Array Slot), mD (wdX E) h hl s H locs → lv_has ls 5 [(0, .ref (wad (wdX E) k)), (1, .ref (wad (wdX E) 21)), (2, .ref (wad (wdX E) 24)), (3, .int v3)] → K6 h v3 → W p l e R s m args below meth c H locs 0 0 (MQ below (mQv (wdX E) (fun h1 hl1 => hl = hl1 ∧ Qp h1)) args s 0 0 (wA (wdX E))) (F0 m 6 ls [])) : ∀ (h : Mem) (v3 : Int32) (H : Heap) (locs : List Loc) (ls : Array Slot), mD (wdX E) h hl s H locs → lv_has ls 5 [(0, .ref (wad (wdX E) k)), (1, .ref (wad (wdX E) 21)), (2, .ref (wad (wdX E) 24)), (3, .int v3)] → b_X6_retell_57 h k v3 K6 Qp → W p l e R s m args below meth c H locs 0 0 (MQ below (mQv (wdX E) (fun h1 hl1 => hl = hl1 ∧ Qp h1)) args s 0 0 (wA (wdX E))) (F0 m 57 ls []) := by
  have hx := C.x
  have hb := C.b
  intro h v3 H locs ls Dy lv hwp
  unfold b_X6_retell_57 at hwp
  refine lv_iinc (v := (v3 + (1 : Int32))) (lv' := [(3, .int (v3 + (1 : Int32))), (0, .ref (wad (wdX E) k)), (1, .ref (wad (wdX E) 21)), (2, .ref (wad (wdX E) 24))]) hx hb dX6_retell_57 lv (k := 3) rfl rfl (by decide) rfl (fun ls lv => ?_)
  refine lv_goto (tgt := 6) hx hb dX6_retell_60 (by decide) ?_
  exact hK6 h (v3 + (1 : Int32)) _ _ _ Dy (lv_sub lv [1, 2, 3, 0] rfl) hwp
set_option maxHeartbeats 4000000 in
set_option maxRecDepth 100000 in
theorem t_X6_retell_6 (E : xE) {p : Program} {l : Launch} {e : Env} {R : Room} {s : State} {m : MethodId} {args : Array Value} {below : List Frame} {meth : Method} {c : Code} (C : mC (wdX E) p s m meth c args cX6_retell 5 RX6 none) (hR : 2 ≤ R.frames ∧ 43 ≤ R.locals) {hl : MemL} (k : Nat) (hk : isRG k) (Qp : Mem → Prop) : ∀ (n : Nat) (h : Mem) (v3 : Int32) (H : Heap) (locs : List Loc) (ls : Array Slot), mD (wdX E) h hl s H locs → lv_has ls 5 [(0, .ref (wad (wdX E) k)), (1, .ref (wad (wdX E) 21)), (2, .ref (wad (wdX E) 24)), (3, .int v3)] → b_X6_retell_6 n h k v3 Qp → W p l e R s m args below meth c H locs 0 0 (MQ below (mQv (wdX E) (fun h1 hl1 => hl = hl1 ∧ Qp h1)) args s 0 0 (wA (wdX E))) (F0 m 6 ls []) := by
  have hx := C.x
  have hb := C.b
  intro n
  induction n with
  | zero => intro h v3 H locs ls Dy lv hwp; exact hwp.elim
  | succ n ih =>
    intro h v3 H locs ls Dy lv hwp
    simp only [b_X6_retell_6] at hwp
    refine lv_iload_n hx hb dX6_retell_6 rfl (lv_at lv 3 rfl) ?_
    refine lv_aload_n hx hb dX6_retell_7 rfl (lv_at lv 1 rfl) ?_
    refine gf_X6_31_21 C Dy dX6_retell_8 ?_
    refine lv_icmp_ge (tgt := 63) hx hb dX6_retell_11 (by decide) (fun c1 => ?_) (fun c1 => ?_)
    · have hwp := hwp.1 c1
      exact x_vret C Dy ⟨rfl, hwp⟩ dX6_retell_63
    · have hwp := hwp.2 c1
      refine lv_aload_n hx hb dX6_retell_14 rfl (lv_at lv 1 rfl) ?_
      refine gf_X6_36_21 C Dy dX6_retell_15 ?_
      refine lv_iload_n hx hb dX6_retell_18 rfl (lv_at lv 3 rfl) ?_
      obtain ⟨g2, hwp⟩ := hwp
      refine x_iald C Dy wxa_23 g2 dX6_retell_19 ?_
      refine lv_istore (lv' := [(4, .int (h 23 v3.toNatClampNeg)), (0, .ref (wad (wdX E) k)), (1, .ref (wad (wdX E) 21)), (2, .ref (wad (wdX E) 24)), (3, .int v3)]) hx hb dX6_retell_20 lv (by decide) rfl (fun ls lv => ?_)
      refine lv_aload_n hx hb dX6_retell_22 rfl (lv_at lv 1 rfl) ?_
      refine gf_X6_9_RG hk C Dy dX6_retell_23 ?_
      refine lv_iload hx hb dX6_retell_26 (lv_at lv 0 rfl) ?_
      obtain ⟨g3, hwp⟩ := hwp
      refine x_iald C Dy (ia_RGt hk) g3 dX6_retell_28 ?_
      refine lv_iconst (v := (-1 : Int32)) hx hb dX6_retell_29 (by decide) ?_
      refine lv_icmp_ne (tgt := 57) hx hb dX6_retell_30 (by decide) (fun c4 => ?_) (fun c4 => ?_)
      · have hwp := hwp.2 c4
        exact t_X6_retell_57 E C hR k hk Qp (fun h v3 => b_X6_retell_6 n h k v3 Qp) (fun h v3 H locs ls Dy lv hwp => ih h v3 H locs ls Dy lv hwp) h v3 _ _ _ Dy (lv_sub lv [1, 2, 3, 4] rfl) hwp
      · have hwp := hwp.1 c4
        refine lv_aload_n hx hb dX6_retell_33 rfl (lv_at lv 1 rfl) ?_
        refine lv_iload hx hb dX6_retell_34 (lv_at lv 0 rfl) ?_
        refine lv_aload_n hx hb dX6_retell_36 rfl (lv_at lv 2 rfl) ?_
        refine gf_X6_39_21 C Dy dX6_retell_37 ?_
        refine lv_iload_n hx hb dX6_retell_40 rfl (lv_at lv 4 rfl) ?_
        obtain ⟨g5, hwp⟩ := hwp
        refine x_iald C Dy wxa_22 g5 dX6_retell_41 ?_
        refine lv_aload_n hx hb dX6_retell_42 rfl (lv_at lv 3 rfl) ?_
        refine lv_aload_n hx hb dX6_retell_43 rfl (lv_at lv 2 rfl) ?_
        refine gf_X6_39_21 C Dy dX6_retell_44 ?_
        refine lv_iload_n hx hb dX6_retell_47 rfl (lv_at lv 4 rfl) ?_
        obtain ⟨g6, hwp⟩ := hwp
        refine x_iald C Dy wxa_22 g6 dX6_retell_48 ?_
        refine lv_iload hx hb dX6_retell_49 (lv_at lv 0 rfl) ?_
        refine x_cont_z Dy (x_runV (As := [.int (h 22 v3.toNatClampNeg), .int (h 23 v3.toNatClampNeg)]) (rest := [.int (h 22 v3.toNatClampNeg), .int (h 23 v3.toNatClampNeg), .ref (wad (wdX E) k)]) C Dy (m_X4_has E l _ _ 24 (Or.inr rfl) (h 22 v3.toNatClampNeg) (h 23 v3.toNatClampNeg) _ hwp) (cw_X6_42 C rfl rfl ⟨Nat.le_trans (Nat.le_of_ble_eq_true rfl) hR.1, Nat.le_trans (Nat.le_of_ble_eq_true rfl) hR.2⟩) wx_24 rfl rfl lv.1 rfl (Nat.le_of_ble_eq_true rfl) dX6_retell_51 ⟨Nat.zero_le _, Nat.zero_le _⟩) (fun r7 h8 hl8 H locs zr7 hwp Dy => ?_)
        obtain ⟨rfl, rfl, hwp⟩ := hwp
        refine x_cont_v Dy (x_runV (As := [.int (h 23 v3.toNatClampNeg), .int (h 22 v3.toNatClampNeg), .int r7]) (rest := []) C Dy (m_X6_put E l _ _ k hk (h 23 v3.toNatClampNeg) (h 22 v3.toNatClampNeg) r7 _ hwp) (cw_X6_46 C rfl rfl ⟨Nat.le_trans (Nat.le_of_ble_eq_true rfl) hR.1, Nat.le_trans (Nat.le_of_ble_eq_true rfl) hR.2⟩) (wx_RG hk) rfl rfl lv.1 rfl (Nat.le_of_ble_eq_true rfl) dX6_retell_54 ⟨Nat.zero_le _, Nat.zero_le _⟩) (fun h10 hl10 H locs hwp Dy => ?_)
        obtain ⟨rfl, hwp⟩ := hwp
        exact t_X6_retell_57 E C hR k hk Qp (fun h v3 => b_X6_retell_6 n h k v3 Qp) (fun h v3 H locs ls Dy lv hwp => ih h v3 H locs ls Dy lv hwp) h10 v3 _ _ _ Dy (lv_sub lv [1, 2, 3, 4] rfl) hwp
set_option maxHeartbeats 4000000 in
set_option maxRecDepth 100000 in
theorem m_X6_retell (E : xE) (l : Launch) (h : Mem) (hl : MemL) (k : Nat) (hk : isRG k) (Qp : Mem → Prop) (hwp : p_X6_retell h k Qp) : Met l yX6_retell (wsU yX6_retell cX6_retell 5 none) ({ frames := 2, cells := 0, slots := 0, locals := 43 } : Room) (mPc (wdX E) [.ref (wad (wdX E) k), .ref (wad (wdX E) 21), .ref (wad (wdX E) 24)] h hl) (mQv (wdX E) (fun h1 hl1 => hl = hl1 ∧ Qp h1)) 0 0 (wA (wdX E)) := by
  refine x_met RX6 [(0, .ref (wad (wdX E) k)), (1, .ref (wad (wdX E) 21)), (2, .ref (wad (wdX E) 24))] (by decide) rfl (Nat.le_of_ble_eq_true rfl) rfl ?_
  intro p e s m args below meth c ls C Dy lv
  have hx := C.x
  have hb := C.b
  have hR : 2 ≤ ({ frames := 2, cells := 0, slots := 0, locals := 43 } : Room).frames ∧ 43 ≤ ({ frames := 2, cells := 0, slots := 0, locals := 43 } : Room).locals := ⟨Nat.le_refl _, Nat.le_refl _⟩
  unfold p_X6_retell at hwp
  refine lv_aload_n hx hb dX6_retell_0 rfl (lv_at lv 0 rfl) ?_
  refine x_cont_v Dy (x_runV (As := []) (rest := []) C Dy (m_X6_begin E l _ _ k hk _ hwp) (cw_X6_28 C rfl rfl ⟨Nat.le_trans (Nat.le_of_ble_eq_true rfl) hR.1, Nat.le_trans (Nat.le_of_ble_eq_true rfl) hR.2⟩) (wx_RG hk) rfl rfl lv.1 rfl (Nat.le_of_ble_eq_true rfl) dX6_retell_1 ⟨Nat.zero_le _, Nat.zero_le _⟩) (fun h12 hl12 H locs hwp Dy => ?_)
  obtain ⟨rfl, hwp⟩ := hwp
  refine lv_iconst (v := (0 : Int32)) hx hb dX6_retell_4 (by decide) ?_
  refine lv_istore_n (lv' := [(3, .int (0 : Int32)), (0, .ref (wad (wdX E) k)), (1, .ref (wad (wdX E) 21)), (2, .ref (wad (wdX E) 24))]) hx hb dX6_retell_5 rfl lv (by decide) rfl (fun ls lv => ?_)
  obtain ⟨n0, hwp⟩ := hwp
  exact t_X6_retell_6 E C hR k hk Qp n0 h12 (0 : Int32) _ _ _ Dy (lv_sub lv [1, 2, 3, 0] rfl) hwp
def p_X6_lot (h : Mem) (k : Nat) (v1 : Int32) (Qp : Int32 → Mem → Prop) : Prop := ((v1 ≤ 0 → Qp (0 : Int32) (up2 h k 2 (((1103515245 : Int32) * (h k 2)) + (12345 : Int32)))) ∧ (¬ (v1 ≤ 0) → ((¬ v1 = 0) ∧ Qp (((((up2 h k 2 (((1103515245 : Int32) * (h k 2)) + (12345 : Int32))) k 2).toUInt32 >>> ((16 : Int32).toUInt32 &&& Int32.toUInt32 31)).toInt32) - ((((up2 h k 2 (((1103515245 : Int32) * (h k 2)) + (12345 : Int32))) k 2).toUInt32 >>> ((16 : Int32).toUInt32 &&& Int32.toUInt32 31)).toInt32) / v1 * v1) (up2 h k 2 (((1103515245 : Int32) * (h k 2)) + (12345 : Int32))))))
set_option maxHeartbeats 4000000 in
set_option maxRecDepth 100000 in
theorem m_X6_lot (E : xE) (l : Launch) (h : Mem) (hl : MemL) (k : Nat) (hk : isRG k) (v1 : Int32) (Qp : Int32 → Mem → Prop) (hwp : p_X6_lot h k v1 Qp) : Met l yX6_lot (wsU yX6_lot cX6_lot 2 (some .int)) ({ frames := 0, cells := 0, slots := 0, locals := 0 } : Room) (mPc (wdX E) [.ref (wad (wdX E) k), .int v1] h hl) (mQi (wdX E) (fun r h1 hl1 => hl = hl1 ∧ Qp r h1)) 0 0 (wA (wdX E)) := by
  refine x_met RX6 [(0, .ref (wad (wdX E) k)), (1, .int v1)] (by decide) rfl (Nat.le_of_ble_eq_true rfl) rfl ?_
  intro p e s m args below meth c ls C Dy lv
  have hx := C.x
  have hb := C.b
  have hR : 0 ≤ ({ frames := 0, cells := 0, slots := 0, locals := 0 } : Room).frames ∧ 0 ≤ ({ frames := 0, cells := 0, slots := 0, locals := 0 } : Room).locals := ⟨Nat.le_refl _, Nat.le_refl _⟩
  unfold p_X6_lot at hwp
  refine lv_aload_n hx hb dX6_lot_0 rfl (lv_at lv 0 rfl) ?_
  refine lv_ldc hx hb C.ow (C.ts _ k_725) dX6_lot_1 ?_
  refine lv_aload_n hx hb dX6_lot_3 rfl (lv_at lv 0 rfl) ?_
  refine gf_X6_19_RG hk C Dy dX6_lot_4 ?_
  refine lv_imul hx hb dX6_lot_7 ?_
  refine lv_sipush (v := (12345 : Int32)) hx hb dX6_lot_8 (by decide) ?_
  refine lv_iadd hx hb dX6_lot_11 ?_
  refine pf_X6_19_RG hk C Dy dX6_lot_12 (fun H locs Dy => ?_)
  refine lv_iload_n hx hb dX6_lot_15 rfl (lv_at lv 1 rfl) ?_
  refine lv_if_le (tgt := 31) hx hb dX6_lot_16 (by decide) (fun c1 => ?_) (fun c1 => ?_)
  · have hwp := hwp.1 c1
    refine lv_iconst (v := (0 : Int32)) hx hb dX6_lot_31 (by decide) ?_
    exact x_iret C Dy ⟨rfl, hwp⟩ dX6_lot_32
  · have hwp := hwp.2 c1
    refine lv_aload_n hx hb dX6_lot_19 rfl (lv_at lv 0 rfl) ?_
    refine gf_X6_19_RG hk C Dy dX6_lot_20 ?_
    refine lv_bipush (v := (16 : Int32)) hx hb dX6_lot_23 (by decide) ?_
    refine lv_iushr hx hb dX6_lot_25 rfl ?_
    refine lv_iload_n hx hb dX6_lot_26 rfl (lv_at lv 1 rfl) ?_
    obtain ⟨g2, hwp⟩ := hwp
    refine lv_irem hx hb dX6_lot_27 g2 ?_
    refine lv_goto (tgt := 32) hx hb dX6_lot_28 (by decide) ?_
    exact x_iret C Dy ⟨rfl, hwp⟩ dX6_lot_32
def b_X6_draw_61 (h : Mem) (k : Nat) (v2 : Int32) (v3 : Int32) (v4 : Int32) (K12 : Mem → Int32 → Int32 → Int32 → Prop) (Qp : Mem → Prop) : Prop := K12 h v2 v3 (v4 + (1 : Int32))
def b_X6_draw_38 (h : Mem) (k : Nat) (v2 : Int32) (v3 : Int32) (v4 : Int32) (v5 : Int32) (w0 : Int32) (K12 : Mem → Int32 → Int32 → Int32 → Prop) (Qp : Mem → Prop) : Prop := (vp_in v5 12 ∧ (((h (k + 1) v5.toNatClampNeg) = (-1 : Int32) → (p_X6_put h k v5 v4 w0 (fun h10 => b_X6_draw_61 h10 k v2 v3 v4 K12 Qp))) ∧ (¬ ((h (k + 1) v5.toNatClampNeg) = (-1 : Int32)) → b_X6_draw_61 h k v2 v3 v4 K12 Qp)))
def b_X6_draw_12 : Nat → Mem → Nat → Int32 → Int32 → Int32 → (Mem → Prop) → Prop
  | 0 => fun _ _ _ _ _ _ => False
  | n + 1 => fun h k v2 v3 v4 Qp => ((v2 ≤ v4 → Qp h) ∧ (¬ (v2 ≤ v4) → (p_X6_lot h k v3 (fun r2 h3 => (p_X6_lot h3 k (4 : Int32) (fun r4 h5 => b_X6_draw_38 h5 k v2 v3 v4 r2 (if r4 = 0 then (1 : Int32) else (0 : Int32)) (fun h v2 v3 v4 => b_X6_draw_12 n h k v2 v3 v4 Qp) Qp))))))
def p_X6_draw (h : Mem) (k : Nat) (v1 : Int32) (v2 : Int32) (v3 : Int32) (Qp : Mem → Prop) : Prop := (p_X6_begin h k (fun h12 => (∃ n12, b_X6_draw_12 n12 (up2 h12 k 2 v1) k v2 v3 (0 : Int32) Qp)))
set_option maxHeartbeats 4000000 in
set_option maxRecDepth 100000 in
theorem t_X6_draw_61 (E : xE) {p : Program} {l : Launch} {e : Env} {R : Room} {s : State} {m : MethodId} {args : Array Value} {below : List Frame} {meth : Method} {c : Code} (C : mC (wdX E) p s m meth c args cX6_draw 7 RX6 none) (hR : 2 ≤ R.frames ∧ 43 ≤ R.locals) {hl : MemL} (k : Nat) (hk : isRG k) (Qp : Mem → Prop) (K12 : Mem → Int32 → Int32 → Int32 → Prop) (hK12 : ∀ (h : Mem) (v2 : Int32) (v3 : Int32) (v4 : Int32) (H : Heap) (locs : List Loc) (ls : Array Slot), mD (wdX E) h hl s H locs → lv_has ls 7 [(0, .ref (wad (wdX E) k)), (2, .int v2), (3, .int v3), (4, .int v4)] → K12 h v2 v3 v4 → W p l e R s m args below meth c H locs 0 0 (MQ below (mQv (wdX E) (fun h1 hl1 => hl = hl1 ∧ Qp h1)) args s 0 0 (wA (wdX E))) (F0 m 12 ls [])) : ∀ (h : Mem) (v2 : Int32) (v3 : Int32) (v4 : Int32) (H : Heap) (locs : List Loc) (ls : Array Slot), mD (wdX E) h hl s H locs → lv_has ls 7 [(0, .ref (wad (wdX E) k)), (2, .int v2), (3, .int v3), (4, .int v4)] → b_X6_draw_61 h k v2 v3 v4 K12 Qp → W p l e R s m args below meth c H locs 0 0 (MQ below (mQv (wdX E) (fun h1 hl1 => hl = hl1 ∧ Qp h1)) args s 0 0 (wA (wdX E))) (F0 m 61 ls []) := by
  have hx := C.x
  have hb := C.b
  intro h v2 v3 v4 H locs ls Dy lv hwp
  unfold b_X6_draw_61 at hwp
  refine lv_iinc (v := (v4 + (1 : Int32))) (lv' := [(4, .int (v4 + (1 : Int32))), (0, .ref (wad (wdX E) k)), (2, .int v2), (3, .int v3)]) hx hb dX6_draw_61 lv (k := 3) rfl rfl (by decide) rfl (fun ls lv => ?_)
  refine lv_goto (tgt := 12) hx hb dX6_draw_64 (by decide) ?_
  exact hK12 h v2 v3 (v4 + (1 : Int32)) _ _ _ Dy (lv_sub lv [1, 2, 3, 0] rfl) hwp
set_option maxHeartbeats 4000000 in
set_option maxRecDepth 100000 in
theorem t_X6_draw_38 (E : xE) {p : Program} {l : Launch} {e : Env} {R : Room} {s : State} {m : MethodId} {args : Array Value} {below : List Frame} {meth : Method} {c : Code} (C : mC (wdX E) p s m meth c args cX6_draw 7 RX6 none) (hR : 2 ≤ R.frames ∧ 43 ≤ R.locals) {hl : MemL} (k : Nat) (hk : isRG k) (Qp : Mem → Prop) (K12 : Mem → Int32 → Int32 → Int32 → Prop) (hK12 : ∀ (h : Mem) (v2 : Int32) (v3 : Int32) (v4 : Int32) (H : Heap) (locs : List Loc) (ls : Array Slot), mD (wdX E) h hl s H locs → lv_has ls 7 [(0, .ref (wad (wdX E) k)), (2, .int v2), (3, .int v3), (4, .int v4)] → K12 h v2 v3 v4 → W p l e R s m args below meth c H locs 0 0 (MQ below (mQv (wdX E) (fun h1 hl1 => hl = hl1 ∧ Qp h1)) args s 0 0 (wA (wdX E))) (F0 m 12 ls [])) : ∀ (h : Mem) (v2 : Int32) (v3 : Int32) (v4 : Int32) (v5 : Int32) (w0 : Int32) (H : Heap) (locs : List Loc) (ls : Array Slot), mD (wdX E) h hl s H locs → lv_has ls 7 [(0, .ref (wad (wdX E) k)), (2, .int v2), (3, .int v3), (4, .int v4), (5, .int v5)] → b_X6_draw_38 h k v2 v3 v4 v5 w0 K12 Qp → W p l e R s m args below meth c H locs 0 0 (MQ below (mQv (wdX E) (fun h1 hl1 => hl = hl1 ∧ Qp h1)) args s 0 0 (wA (wdX E))) (F0 m 38 ls [.int w0]) := by
  have hx := C.x
  have hb := C.b
  intro h v2 v3 v4 v5 w0 H locs ls Dy lv hwp
  unfold b_X6_draw_38 at hwp
  refine lv_istore (lv' := [(6, .int w0), (0, .ref (wad (wdX E) k)), (2, .int v2), (3, .int v3), (4, .int v4), (5, .int v5)]) hx hb dX6_draw_38 lv (by decide) rfl (fun ls lv => ?_)
  refine lv_aload_n hx hb dX6_draw_40 rfl (lv_at lv 1 rfl) ?_
  refine gf_X6_9_RG hk C Dy dX6_draw_41 ?_
  refine lv_iload hx hb dX6_draw_44 (lv_at lv 5 rfl) ?_
  obtain ⟨g7, hwp⟩ := hwp
  refine x_iald C Dy (ia_RGt hk) g7 dX6_draw_46 ?_
  refine lv_iconst (v := (-1 : Int32)) hx hb dX6_draw_47 (by decide) ?_
  refine lv_icmp_ne (tgt := 61) hx hb dX6_draw_48 (by decide) (fun c8 => ?_) (fun c8 => ?_)
  · have hwp := hwp.2 c8
    exact t_X6_draw_61 E C hR k hk Qp K12 hK12 h v2 v3 v4 _ _ _ Dy (lv_sub lv [1, 2, 3, 4] rfl) hwp
  · have hwp := hwp.1 c8
    refine lv_aload_n hx hb dX6_draw_51 rfl (lv_at lv 1 rfl) ?_
    refine lv_iload hx hb dX6_draw_52 (lv_at lv 5 rfl) ?_
    refine lv_iload hx hb dX6_draw_54 (lv_at lv 4 rfl) ?_
    refine lv_iload hx hb dX6_draw_56 (lv_at lv 0 rfl) ?_
    refine x_cont_v Dy (x_runV (As := [.int v5, .int v4, .int w0]) (rest := []) C Dy (m_X6_put E l _ _ k hk v5 v4 w0 _ hwp) (cw_X6_46 C rfl rfl ⟨Nat.le_trans (Nat.le_of_ble_eq_true rfl) hR.1, Nat.le_trans (Nat.le_of_ble_eq_true rfl) hR.2⟩) (wx_RG hk) rfl rfl lv.1 rfl (Nat.le_of_ble_eq_true rfl) dX6_draw_58 ⟨Nat.zero_le _, Nat.zero_le _⟩) (fun h10 hl10 H locs hwp Dy => ?_)
    obtain ⟨rfl, hwp⟩ := hwp
    exact t_X6_draw_61 E C hR k hk Qp K12 hK12 h10 v2 v3 v4 _ _ _ Dy (lv_sub lv [1, 2, 3, 4] rfl) hwp
set_option maxHeartbeats 4000000 in
set_option maxRecDepth 100000 in
theorem t_X6_draw_12 (E : xE) {p : Program} {l : Launch} {e : Env} {R : Room} {s : State} {m : MethodId} {args : Array Value} {below : List Frame} {meth : Method} {c : Code} (C : mC (wdX E) p s m meth c args cX6_draw 7 RX6 none) (hR : 2 ≤ R.frames ∧ 43 ≤ R.locals) {hl : MemL} (k : Nat) (hk : isRG k) (Qp : Mem → Prop) : ∀ (n : Nat) (h : Mem) (v2 : Int32) (v3 : Int32) (v4 : Int32) (H : Heap) (locs : List Loc) (ls : Array Slot), mD (wdX E) h hl s H locs → lv_has ls 7 [(0, .ref (wad (wdX E) k)), (2, .int v2), (3, .int v3), (4, .int v4)] → b_X6_draw_12 n h k v2 v3 v4 Qp → W p l e R s m args below meth c H locs 0 0 (MQ below (mQv (wdX E) (fun h1 hl1 => hl = hl1 ∧ Qp h1)) args s 0 0 (wA (wdX E))) (F0 m 12 ls []) := by
  have hx := C.x
  have hb := C.b
  intro n
  induction n with
  | zero => intro h v2 v3 v4 H locs ls Dy lv hwp; exact hwp.elim
  | succ n ih =>
    intro h v2 v3 v4 H locs ls Dy lv hwp
    simp only [b_X6_draw_12] at hwp
    refine lv_iload hx hb dX6_draw_12 (lv_at lv 3 rfl) ?_
    refine lv_iload_n hx hb dX6_draw_14 rfl (lv_at lv 1 rfl) ?_
    refine lv_icmp_ge (tgt := 67) hx hb dX6_draw_15 (by decide) (fun c1 => ?_) (fun c1 => ?_)
    · have hwp := hwp.1 c1
      exact x_vret C Dy ⟨rfl, hwp⟩ dX6_draw_67
    · have hwp := hwp.2 c1
      refine lv_aload_n hx hb dX6_draw_18 rfl (lv_at lv 0 rfl) ?_
      refine lv_iload_n hx hb dX6_draw_19 rfl (lv_at lv 2 rfl) ?_
      refine x_cont_i Dy (x_runV (As := [.int v3]) (rest := []) C Dy (m_X6_lot E l _ _ k hk v3 _ hwp) (cw_X6_50 C rfl rfl ⟨Nat.le_trans (Nat.le_of_ble_eq_true rfl) hR.1, Nat.le_trans (Nat.le_of_ble_eq_true rfl) hR.2⟩) (wx_RG hk) rfl rfl lv.1 rfl (Nat.le_of_ble_eq_true rfl) dX6_draw_20 ⟨Nat.zero_le _, Nat.zero_le _⟩) (fun r2 h3 hl3 H locs hwp Dy => ?_)
      obtain ⟨rfl, hwp⟩ := hwp
      refine lv_istore (lv' := [(5, .int r2), (0, .ref (wad (wdX E) k)), (2, .int v2), (3, .int v3), (4, .int v4)]) hx hb dX6_draw_23 lv (by decide) rfl (fun ls lv => ?_)
      refine lv_aload_n hx hb dX6_draw_25 rfl (lv_at lv 1 rfl) ?_
      refine lv_iconst (v := (4 : Int32)) hx hb dX6_draw_26 (by decide) ?_
      refine x_cont_i Dy (x_runV (As := [.int (4 : Int32)]) (rest := []) C Dy (m_X6_lot E l _ _ k hk (4 : Int32) _ hwp) (cw_X6_50 C rfl rfl ⟨Nat.le_trans (Nat.le_of_ble_eq_true rfl) hR.1, Nat.le_trans (Nat.le_of_ble_eq_true rfl) hR.2⟩) (wx_RG hk) rfl rfl lv.1 rfl (Nat.le_of_ble_eq_true rfl) dX6_draw_27 ⟨Nat.zero_le _, Nat.zero_le _⟩) (fun r4 h5 hl5 H locs hwp Dy => ?_)
      obtain ⟨rfl, hwp⟩ := hwp
      refine lv_if_ne (tgt := 37) hx hb dX6_draw_30 (by decide) (fun c6 => ?_) (fun c6 => ?_)
      · try simp only [if_neg c6] at hwp
        refine lv_iconst (v := (0 : Int32)) hx hb dX6_draw_37 (by decide) ?_
        exact t_X6_draw_38 E C hR k hk Qp (fun h v2 v3 v4 => b_X6_draw_12 n h k v2 v3 v4 Qp) (fun h v2 v3 v4 H locs ls Dy lv hwp => ih h v2 v3 v4 H locs ls Dy lv hwp) h5 v2 v3 v4 r2 (0 : Int32) _ _ _ Dy (lv_sub lv [1, 2, 3, 4, 0] rfl) hwp
      · try simp only [if_pos c6] at hwp
        refine lv_iconst (v := (1 : Int32)) hx hb dX6_draw_33 (by decide) ?_
        refine lv_goto (tgt := 38) hx hb dX6_draw_34 (by decide) ?_
        exact t_X6_draw_38 E C hR k hk Qp (fun h v2 v3 v4 => b_X6_draw_12 n h k v2 v3 v4 Qp) (fun h v2 v3 v4 H locs ls Dy lv hwp => ih h v2 v3 v4 H locs ls Dy lv hwp) h5 v2 v3 v4 r2 (1 : Int32) _ _ _ Dy (lv_sub lv [1, 2, 3, 4, 0] rfl) hwp
set_option maxHeartbeats 4000000 in
set_option maxRecDepth 100000 in
theorem m_X6_draw (E : xE) (l : Launch) (h : Mem) (hl : MemL) (k : Nat) (hk : isRG k) (v1 : Int32) (v2 : Int32) (v3 : Int32) (Qp : Mem → Prop) (hwp : p_X6_draw h k v1 v2 v3 Qp) : Met l yX6_draw (wsU yX6_draw cX6_draw 7 none) ({ frames := 2, cells := 0, slots := 0, locals := 43 } : Room) (mPc (wdX E) [.ref (wad (wdX E) k), .int v1, .int v2, .int v3] h hl) (mQv (wdX E) (fun h1 hl1 => hl = hl1 ∧ Qp h1)) 0 0 (wA (wdX E)) := by
  refine x_met RX6 [(0, .ref (wad (wdX E) k)), (1, .int v1), (2, .int v2), (3, .int v3)] (by decide) rfl (Nat.le_of_ble_eq_true rfl) rfl ?_
  intro p e s m args below meth c ls C Dy lv
  have hx := C.x
  have hb := C.b
  have hR : 2 ≤ ({ frames := 2, cells := 0, slots := 0, locals := 43 } : Room).frames ∧ 43 ≤ ({ frames := 2, cells := 0, slots := 0, locals := 43 } : Room).locals := ⟨Nat.le_refl _, Nat.le_refl _⟩
  unfold p_X6_draw at hwp
  refine lv_aload_n hx hb dX6_draw_0 rfl (lv_at lv 0 rfl) ?_
  refine x_cont_v Dy (x_runV (As := []) (rest := []) C Dy (m_X6_begin E l _ _ k hk _ hwp) (cw_X6_28 C rfl rfl ⟨Nat.le_trans (Nat.le_of_ble_eq_true rfl) hR.1, Nat.le_trans (Nat.le_of_ble_eq_true rfl) hR.2⟩) (wx_RG hk) rfl rfl lv.1 rfl (Nat.le_of_ble_eq_true rfl) dX6_draw_1 ⟨Nat.zero_le _, Nat.zero_le _⟩) (fun h12 hl12 H locs hwp Dy => ?_)
  obtain ⟨rfl, hwp⟩ := hwp
  refine lv_aload_n hx hb dX6_draw_4 rfl (lv_at lv 0 rfl) ?_
  refine lv_iload_n hx hb dX6_draw_5 rfl (lv_at lv 1 rfl) ?_
  refine pf_X6_19_RG hk C Dy dX6_draw_6 (fun H locs Dy => ?_)
  refine lv_iconst (v := (0 : Int32)) hx hb dX6_draw_9 (by decide) ?_
  refine lv_istore (lv' := [(4, .int (0 : Int32)), (0, .ref (wad (wdX E) k)), (1, .int v1), (2, .int v2), (3, .int v3)]) hx hb dX6_draw_10 lv (by decide) rfl (fun ls lv => ?_)
  obtain ⟨n0, hwp⟩ := hwp
  exact t_X6_draw_12 E C hR k hk Qp n0 (up2 h12 k 2 v1) v2 v3 (0 : Int32) _ _ _ Dy (lv_sub lv [1, 3, 4, 0] rfl) hwp
def p_X6_bindingOthers (h : Mem) (k : Nat) (v2 : Int32) (Qp : Int32 → Prop) : Prop := (p_X6_lasting h k v2 (fun r1 => (p_X0_standing h r1 (fun r3 => Qp r3))))
set_option maxHeartbeats 4000000 in
set_option maxRecDepth 100000 in
theorem m_X6_bindingOthers (E : xE) (l : Launch) (h : Mem) (hl : MemL) (k : Nat) (hk : isRG k) (v2 : Int32) (Qp : Int32 → Prop) (hwp : p_X6_bindingOthers h k v2 Qp) : Met l yX6_bindingOthers (wsU yX6_bindingOthers cX6_bindingOthers 3 (some .int)) ({ frames := 2, cells := 0, slots := 0, locals := 45 } : Room) (mPc (wdX E) [.ref (wad (wdX E) k), .ref (wad (wdX E) 7), .int v2] h hl) (mQi (wdX E) (fun r h1 hl1 => h = h1 ∧ hl = hl1 ∧ Qp r)) 0 0 (wA (wdX E)) := by
  refine x_met RX6 [(0, .ref (wad (wdX E) k)), (1, .ref (wad (wdX E) 7)), (2, .int v2)] (by decide) rfl (Nat.le_of_ble_eq_true rfl) rfl ?_
  intro p e s m args below meth c ls C Dy lv
  have hx := C.x
  have hb := C.b
  have hR : 2 ≤ ({ frames := 2, cells := 0, slots := 0, locals := 45 } : Room).frames ∧ 45 ≤ ({ frames := 2, cells := 0, slots := 0, locals := 45 } : Room).locals := ⟨Nat.le_refl _, Nat.le_refl _⟩
  unfold p_X6_bindingOthers at hwp
  refine lv_aload_n hx hb dX6_bindingOthers_0 rfl (lv_at lv 1 rfl) ?_
  refine lv_aload_n hx hb dX6_bindingOthers_1 rfl (lv_at lv 0 rfl) ?_
  refine lv_iload_n hx hb dX6_bindingOthers_2 rfl (lv_at lv 2 rfl) ?_
  refine x_cont_i Dy (x_runV (As := [.int v2]) (rest := [.ref (wad (wdX E) 7)]) C Dy (m_X6_lasting E l _ _ k hk v2 _ hwp) (cw_X6_55 C rfl rfl ⟨Nat.le_trans (Nat.le_of_ble_eq_true rfl) hR.1, Nat.le_trans (Nat.le_of_ble_eq_true rfl) hR.2⟩) (wx_RG hk) rfl rfl lv.1 rfl (Nat.le_of_ble_eq_true rfl) dX6_bindingOthers_3 ⟨Nat.zero_le _, Nat.zero_le _⟩) (fun r1 h2 hl2 H locs hwp Dy => ?_)
  obtain ⟨rfl, rfl, hwp⟩ := hwp
  refine x_cont_i Dy (x_runV (As := [.int r1]) (rest := []) C Dy (m_X0_standing E l _ _ r1 _ hwp) (cw_X6_62 C rfl rfl ⟨Nat.le_trans (Nat.le_of_ble_eq_true rfl) hR.1, Nat.le_trans (Nat.le_of_ble_eq_true rfl) hR.2⟩) wx_7 rfl rfl lv.1 rfl (Nat.le_of_ble_eq_true rfl) dX6_bindingOthers_6 ⟨Nat.zero_le _, Nat.zero_le _⟩) (fun r3 h4 hl4 H locs hwp Dy => ?_)
  obtain ⟨rfl, rfl, hwp⟩ := hwp
  exact x_iret C Dy ⟨rfl, rfl, hwp⟩ dX6_bindingOthers_9
def p_X6_lapsedBy (h : Mem) (k : Nat) (v2 : Int32) (Qp : Int32 → Prop) : Prop := (p_X6_triedBetween h k (0 : Int32) v2 (fun r1 => (p_X0_all h (fun r3 => Qp (((h k 1) &&& r1) &&& r3)))))
set_option maxHeartbeats 4000000 in
set_option maxRecDepth 100000 in
theorem m_X6_lapsedBy (E : xE) (l : Launch) (h : Mem) (hl : MemL) (k : Nat) (hk : isRG k) (v2 : Int32) (Qp : Int32 → Prop) (hwp : p_X6_lapsedBy h k v2 Qp) : Met l yX6_lapsedBy (wsU yX6_lapsedBy cX6_lapsedBy 3 (some .int)) ({ frames := 1, cells := 0, slots := 0, locals := 24 } : Room) (mPc (wdX E) [.ref (wad (wdX E) k), .ref (wad (wdX E) 7), .int v2] h hl) (mQi (wdX E) (fun r h1 hl1 => h = h1 ∧ hl = hl1 ∧ Qp r)) 0 0 (wA (wdX E)) := by
  refine x_met RX6 [(0, .ref (wad (wdX E) k)), (1, .ref (wad (wdX E) 7)), (2, .int v2)] (by decide) rfl (Nat.le_of_ble_eq_true rfl) rfl ?_
  intro p e s m args below meth c ls C Dy lv
  have hx := C.x
  have hb := C.b
  have hR : 1 ≤ ({ frames := 1, cells := 0, slots := 0, locals := 24 } : Room).frames ∧ 24 ≤ ({ frames := 1, cells := 0, slots := 0, locals := 24 } : Room).locals := ⟨Nat.le_refl _, Nat.le_refl _⟩
  unfold p_X6_lapsedBy at hwp
  refine lv_aload_n hx hb dX6_lapsedBy_0 rfl (lv_at lv 0 rfl) ?_
  refine gf_X6_15_RG hk C Dy dX6_lapsedBy_1 ?_
  refine lv_aload_n hx hb dX6_lapsedBy_4 rfl (lv_at lv 0 rfl) ?_
  refine lv_iconst (v := (0 : Int32)) hx hb dX6_lapsedBy_5 (by decide) ?_
  refine lv_iload_n hx hb dX6_lapsedBy_6 rfl (lv_at lv 2 rfl) ?_
  refine x_cont_i Dy (x_runV (As := [.int (0 : Int32), .int v2]) (rest := [.int (h k 1)]) C Dy (m_X6_triedBetween E l _ _ k hk (0 : Int32) v2 _ hwp) (cw_X6_58 C rfl rfl ⟨Nat.le_trans (Nat.le_of_ble_eq_true rfl) hR.1, Nat.le_trans (Nat.le_of_ble_eq_true rfl) hR.2⟩) (wx_RG hk) rfl rfl lv.1 rfl (Nat.le_of_ble_eq_true rfl) dX6_lapsedBy_7 ⟨Nat.zero_le _, Nat.zero_le _⟩) (fun r1 h2 hl2 H locs hwp Dy => ?_)
  obtain ⟨rfl, rfl, hwp⟩ := hwp
  refine lv_iand hx hb dX6_lapsedBy_10 ?_
  refine lv_aload_n hx hb dX6_lapsedBy_11 rfl (lv_at lv 1 rfl) ?_
  refine x_cont_i Dy (x_runV (As := []) (rest := [.int ((h k 1) &&& r1)]) C Dy (m_X0_all E l _ _ _ hwp) (cw_X6_67 C rfl rfl ⟨Nat.le_trans (Nat.le_of_ble_eq_true rfl) hR.1, Nat.le_trans (Nat.le_of_ble_eq_true rfl) hR.2⟩) wx_7 rfl rfl lv.1 rfl (Nat.le_of_ble_eq_true rfl) dX6_lapsedBy_12 ⟨Nat.zero_le _, Nat.zero_le _⟩) (fun r3 h4 hl4 H locs hwp Dy => ?_)
  obtain ⟨rfl, rfl, hwp⟩ := hwp
  refine lv_iand hx hb dX6_lapsedBy_15 ?_
  exact x_iret C Dy ⟨rfl, rfl, hwp⟩ dX6_lapsedBy_16
def p_X7_isFull (h : Mem) (k : Nat) (Qp : Int32 → Prop) : Prop := Qp (if (h k 6) < (Int32.ofNat (lenB k)) then (0 : Int32) else (1 : Int32))
set_option maxHeartbeats 4000000 in
set_option maxRecDepth 100000 in
theorem m_X7_isFull (E : xE) (l : Launch) (h : Mem) (hl : MemL) (k : Nat) (hk : isSC k) (Qp : Int32 → Prop) (hwp : p_X7_isFull h k Qp) : Met l yX7_isFull (wsU yX7_isFull cX7_isFull 1 (some .boolean)) ({ frames := 0, cells := 0, slots := 0, locals := 0 } : Room) (mPc (wdX E) [.ref (wad (wdX E) k)] h hl) (mQz (wdX E) (fun r h1 hl1 => h = h1 ∧ hl = hl1 ∧ Qp r)) 0 0 (wA (wdX E)) := by
  refine x_met RX7 [(0, .ref (wad (wdX E) k))] (by decide) rfl (Nat.le_of_ble_eq_true rfl) rfl ?_
  intro p e s m args below meth c ls C Dy lv
  have hx := C.x
  have hb := C.b
  have hR : 0 ≤ ({ frames := 0, cells := 0, slots := 0, locals := 0 } : Room).frames ∧ 0 ≤ ({ frames := 0, cells := 0, slots := 0, locals := 0 } : Room).locals := ⟨Nat.le_refl _, Nat.le_refl _⟩
  unfold p_X7_isFull at hwp
  refine lv_aload_n hx hb dX7_isFull_0 rfl (lv_at lv 0 rfl) ?_
  refine gf_X7_9_SC hk C Dy dX7_isFull_1 ?_
  refine lv_aload_n hx hb dX7_isFull_4 rfl (lv_at lv 0 rfl) ?_
  refine gf_X7_34_SC hk C Dy dX7_isFull_5 ?_
  refine x_alen C Dy (ia_SCb hk) rfl dX7_isFull_8 ?_
  refine lv_icmp_lt (tgt := 16) hx hb dX7_isFull_9 (by decide) (fun c1 => ?_) (fun c1 => ?_)
  · try simp only [if_pos c1] at hwp
    refine lv_iconst (v := (0 : Int32)) hx hb dX7_isFull_16 (by decide) ?_
    exact x_zret C Dy z01_0 ⟨rfl, rfl, hwp⟩ dX7_isFull_17
  · try simp only [if_neg c1] at hwp
    refine lv_iconst (v := (1 : Int32)) hx hb dX7_isFull_12 (by decide) ?_
    refine lv_goto (tgt := 17) hx hb dX7_isFull_13 (by decide) ?_
    exact x_zret C Dy z01_1 ⟨rfl, rfl, hwp⟩ dX7_isFull_17
def p_X7_append (h : Mem) (k : Nat) (v1 : Int32) (Qp : Mem → Prop) : Prop := (((Int32.ofNat (lenB k)) ≤ (h k 6) → Qp h) ∧ (¬ ((Int32.ofNat (lenB k)) ≤ (h k 6)) → (vp_in (h k 6) (lenB k) ∧ (∀ h3 : Mem, h3 = (up2 (up2 h (k + 1) (h k 6).toNatClampNeg v1) k 6 (((up2 h (k + 1) (h k 6).toNatClampNeg v1) k 6) + (1 : Int32))) → Qp h3))))
set_option maxHeartbeats 4000000 in
set_option maxRecDepth 100000 in
theorem m_X7_append (E : xE) (l : Launch) (h : Mem) (hl : MemL) (k : Nat) (hk : isSC k) (v1 : Int32) (Qp : Mem → Prop) (hwp : p_X7_append h k v1 Qp) : Met l yX7_append (wsU yX7_append cX7_append 2 none) ({ frames := 0, cells := 0, slots := 0, locals := 0 } : Room) (mPc (wdX E) [.ref (wad (wdX E) k), .int v1] h hl) (mQv (wdX E) (fun h1 hl1 => hl = hl1 ∧ Qp h1)) 0 0 (wA (wdX E)) := by
  refine x_met RX7 [(0, .ref (wad (wdX E) k)), (1, .int v1)] (by decide) rfl (Nat.le_of_ble_eq_true rfl) rfl ?_
  intro p e s m args below meth c ls C Dy lv
  have hx := C.x
  have hb := C.b
  have hR : 0 ≤ ({ frames := 0, cells := 0, slots := 0, locals := 0 } : Room).frames ∧ 0 ≤ ({ frames := 0, cells := 0, slots := 0, locals := 0 } : Room).locals := ⟨Nat.le_refl _, Nat.le_refl _⟩
  unfold p_X7_append at hwp
  refine lv_aload_n hx hb dX7_append_0 rfl (lv_at lv 0 rfl) ?_
  refine gf_X7_9_SC hk C Dy dX7_append_1 ?_
  refine lv_aload_n hx hb dX7_append_4 rfl (lv_at lv 0 rfl) ?_
  refine gf_X7_34_SC hk C Dy dX7_append_5 ?_
  refine x_alen C Dy (ia_SCb hk) rfl dX7_append_8 ?_
  refine lv_icmp_ge (tgt := 32) hx hb dX7_append_9 (by decide) (fun c1 => ?_) (fun c1 => ?_)
  · have hwp := hwp.1 c1
    exact x_vret C Dy ⟨rfl, hwp⟩ dX7_append_32
  · have hwp := hwp.2 c1
    refine lv_aload_n hx hb dX7_append_12 rfl (lv_at lv 0 rfl) ?_
    refine gf_X7_34_SC hk C Dy dX7_append_13 ?_
    refine lv_aload_n hx hb dX7_append_16 rfl (lv_at lv 0 rfl) ?_
    refine gf_X7_9_SC hk C Dy dX7_append_17 ?_
    refine lv_iload_n hx hb dX7_append_20 rfl (lv_at lv 1 rfl) ?_
    obtain ⟨g2, hwp⟩ := hwp
    refine x_iast C Dy (ia_SCb hk) g2 dX7_append_21 (fun H locs Dy => ?_)
    refine lv_aload_n hx hb dX7_append_22 rfl (lv_at lv 0 rfl) ?_
    refine lv_dup hx hb dX7_append_23 rfl ?_
    refine gf_X7_9_SC hk C Dy dX7_append_24 ?_
    refine lv_iconst (v := (1 : Int32)) hx hb dX7_append_27 (by decide) ?_
    refine lv_iadd hx hb dX7_append_28 ?_
    refine pf_X7_9_SC hk C Dy dX7_append_29 (fun H locs Dy => ?_)
    obtain ⟨h3, eh3⟩ : ∃ z : Mem, z = (up2 (up2 h (k + 1) (h k 6).toNatClampNeg v1) k 6 (((up2 h (k + 1) (h k 6).toNatClampNeg v1) k 6) + (1 : Int32))) := ⟨_, rfl⟩
    rw [← eh3] at Dy
    have hwp := hwp h3 eh3
    exact x_vret C Dy ⟨rfl, hwp⟩ dX7_append_32
def p_X7_shorten (h : Mem) (k : Nat) (v1 : Int32) (Qp : Mem → Prop) : Prop := Qp (up2 h k 6 v1)
set_option maxHeartbeats 4000000 in
set_option maxRecDepth 100000 in
theorem m_X7_shorten (E : xE) (l : Launch) (h : Mem) (hl : MemL) (k : Nat) (hk : isSC k) (v1 : Int32) (Qp : Mem → Prop) (hwp : p_X7_shorten h k v1 Qp) : Met l yX7_shorten (wsU yX7_shorten cX7_shorten 2 none) ({ frames := 0, cells := 0, slots := 0, locals := 0 } : Room) (mPc (wdX E) [.ref (wad (wdX E) k), .int v1] h hl) (mQv (wdX E) (fun h1 hl1 => hl = hl1 ∧ Qp h1)) 0 0 (wA (wdX E)) := by
  refine x_met RX7 [(0, .ref (wad (wdX E) k)), (1, .int v1)] (by decide) rfl (Nat.le_of_ble_eq_true rfl) rfl ?_
  intro p e s m args below meth c ls C Dy lv
  have hx := C.x
  have hb := C.b
  have hR : 0 ≤ ({ frames := 0, cells := 0, slots := 0, locals := 0 } : Room).frames ∧ 0 ≤ ({ frames := 0, cells := 0, slots := 0, locals := 0 } : Room).locals := ⟨Nat.le_refl _, Nat.le_refl _⟩
  unfold p_X7_shorten at hwp
  refine lv_aload_n hx hb dX7_shorten_0 rfl (lv_at lv 0 rfl) ?_
  refine lv_iload_n hx hb dX7_shorten_1 rfl (lv_at lv 1 rfl) ?_
  refine pf_X7_9_SC hk C Dy dX7_shorten_2 (fun H locs Dy => ?_)
  exact x_vret C Dy ⟨rfl, hwp⟩ dX7_shorten_5
