/-! STEPS: texts, trials, breaches, what is seen -/
theorem one_y {P1 : (Int32 → Prop) → Prop} {j n : Nat} {B D : Prop} (h1 : dec P1 (nI j) n) (hj : j < n) (hD : D) : P1 (fun r => ((r = 0 → B) ∧ (¬ (r = 0) → D))) := one h1 (fun e => absurd rfl (e j hj)) (fun _ _ _ => hD)
theorem one_n {P1 : (Int32 → Prop) → Prop} {v : Int32} {n : Nat} {B D : Prop} (h1 : dec P1 v n) (e : ∀ j, j < n → v ≠ nI j) (hB : B) : P1 (fun r => ((r = 0 → B) ∧ (¬ (r = 0) → D))) := one h1 (fun _ => hB) (fun j hj e1 => absurd e1 (e j hj))
theorem two_y {P1 P2 : (Int32 → Prop) → Prop} {j k n m : Nat} {B D : Prop} (h1 : dec P1 (nI j) n) (h2 : dec P2 (nI k) m) (hj : j < n) (hk : k < m) (hD : D) : P1 (fun r => ((r = 0 → B) ∧ (¬ (r = 0) → P2 (fun r' => ((r' = 0 → B) ∧ (¬ (r' = 0) → D)))))) := one_y h1 hj (one_y h2 hk hD)
theorem two_n {P1 P2 : (Int32 → Prop) → Prop} {v1 v2 : Int32} {n m : Nat} {B D : Prop} (h1 : dec P1 v1 n) (h2 : dec P2 v2 m) (e : (∀ j, j < n → v1 ≠ nI j) ∨ ∀ j, j < m → v2 ≠ nI j) (hB : B) : P1 (fun r => ((r = 0 → B) ∧ (¬ (r = 0) → P2 (fun r' => ((r' = 0 → B) ∧ (¬ (r' = 0) → D)))))) :=
  two h1 h2 (fun _ => hB) (fun j k hj hk e1 e2 => e.elim (fun e => absurd e1 (e j hj)) (fun e => absurd e2 (e k hk)))
theorem sc_tk {t : Nat} (ht : t < 2) : (if nI t = (0 : Int32) then 1 else 4) = tk t := by
  obtain rfl | rfl : t = 0 ∨ t = 1 := by omega
  · rfl
  · rfl
theorem Rel_text {x x' y y' : Mem} {xl : MemL} {n0 n1 m0 m1 : Nat} {t b s : LG} (h : Rel x xl y) (hX : RX n0 n1 t b s x) (hY : RY (x 2) n0 (x 5) n1 t b s y) (fx : ∀ k, k ≠ 0 → k ≠ 1 → k ≠ 2 → k ≠ 4 → k ≠ 5 → x' k = x k) (f1 : ∀ j, j ≠ 6 → x' 1 j = x 1 j) (f4 : ∀ j, j ≠ 6 → x' 4 j = x 4 j) (f0 : x' 0 12 = 1) (f13 : x' 0 13 = x 0 13) (l0 : x' 1 6 = nI m0) (h0 : m0 ≤ 71) (l1 : x' 4 6 = nI m1) (h1 : m1 ≤ 47) (fy : ∀ k, k ≠ 5 → k ≠ 6 → y' k = y k) (T0 : TX 0 m0 (x' 2) y') (T1 : TX 1 m1 (x' 5) y') : Rel x' xl y' := by
  obtain ⟨a1, a2, ⟨a3, a4, a5⟩, a6, a7, a8⟩ := hX
  obtain ⟨-, -, b3, b4, b5⟩ := hY
  have f : ∀ k, 20 < k → x' k = x k := fun k hk => fx k (by omega) (by omega) (by omega) (by omega) (by omega)
  refine ⟨⟨m0, m1, t, b, s, ⟨?_, ⟨l0, h0, l1, h1⟩, ⟨a3.f (f 21 (by omega)) (f 22 (by omega)) (f 23 (by omega)), a4.f (f 24 (by omega)) (f 25 (by omega)) (f 26 (by omega)), a5.f (f 27 (by omega)) (f 28 (by omega))⟩, a6.f (by rw [f 35 (by omega)]) (f 36 (by omega)) (f 37 (by omega)), ?_, fun z => absurd (f0.symm.trans z) (by decide)⟩, T0, T1, ?_, ?_, ?_⟩, h.2.1.q (fun k hk => f k (by omega)) (fy 1 (by omega) (by omega)) (fy 2 (by omega) (by omega)) (fy 3 (by omega) (by omega)), ?_⟩
  · rw [f1 2 (by omega), f1 3 (by omega), f4 2 (by omega), f4 3 (by omega)]; exact a1
  · rw [f 39 (by omega)]; exact a7
  · unfold ML; rw [fy 0 (by omega) (by omega), fy 10 (by omega) (by omega)]; exact b3
  · unfold ML; rw [fy 0 (by omega) (by omega), fy 11 (by omega) (by omega)]; exact b4
  · unfold SY; rw [fy 0 (by omega) (by omega), fy 17 (by omega) (by omega)]; exact b5
  · rw [f13, fy 0 (by omega) (by omega)]; exact h.2.2
section Tell
variable {x y : Mem} {Qp : Int32 → Mem → Prop} {t n k : Nat} {bs : Nat → Int32}
theorem X_typeF (ht : t < 2) (hk : k < 256) (h6 : x (tk t) 6 = nI n) (hn : lenB (tk t) ≤ n) (hn2 : n < 100) (hQ : Qp (-4 : Int32) x) : p_X9_type x (nI t) (nI k) Qp := by
  unfold p_X9_type
  refine two_y (d_within 2 (by omega)) (d_within 256 (by omega)) ht hk ?_
  unfold p_X9_scriptOf p_X7_isFull
  rw [sc_tk ht]
  show ((if x (tk t) 6 < Int32.ofNat (lenB (tk t)) then (0 : Int32) else (1 : Int32)) = 0 → _) ∧ _
  rw [h6, if_neg (show ¬ nI n < Int32.ofNat (lenB (tk t)) from nI_nlt hn (by omega))]
  exact ⟨fun z => absurd z (by decide), fun _ => hQ⟩
theorem X_typeY (ht : t < 2) (hk : k < 256) (h6 : x (tk t) 6 = nI n) (hn : n < lenB (tk t)) (hn2 : lenB (tk t) < 100) (hQ : Qp (nI (n + 1)) (up2 (up2 (up2 x (tk t + 1) n (nI k)) (tk t) 6 (nI (n + 1))) 0 12 (1 : Int32))) : p_X9_type x (nI t) (nI k) Qp := by
  have h0 : tk t ≠ 0 := by unfold tk; split <;> omega
  unfold p_X9_type
  refine two_y (d_within 2 (by omega)) (d_within 256 (by omega)) ht hk ?_
  unfold p_X9_scriptOf p_X7_isFull
  rw [sc_tk ht]
  show ((if x (tk t) 6 < Int32.ofNat (lenB (tk t)) then (0 : Int32) else (1 : Int32)) = 0 → _) ∧ _
  rw [h6, if_pos (show nI n < Int32.ofNat (lenB (tk t)) from nI_lt hn (by omega))]
  refine ⟨fun _ => ?_, fun z => absurd rfl z⟩
  unfold p_X7_append
  rw [h6]
  refine ⟨fun z => absurd z (nI_ge hn (by omega)), fun _ => ⟨vp_in_nI hn (by omega), fun g e => ?_⟩⟩
  rw [nI_clamp (by omega), up2_other _ _ _ (show tk t ≠ tk t + 1 by omega), h6, nI_1] at e
  subst e
  rw [up2_other _ _ _ h0, up2_row _ (tk t) 6 (tk t) 6, if_pos ⟨rfl, rfl⟩]
  exact hQ
theorem M_typeF (ht : t < 2) (hk : k < 256) (hT : TX t n bs y) (hn : n = lenB (tk t)) (hQ : Qp (-4 : Int32) y) : p_X10_type y (nI t) (nI k) Qp := by
  unfold p_X10_type
  refine two_y d_two (d_in (hi := 255) 256 (by omega) (by decide)) ht hk ⟨vp_in_nI ht (by omega), ?_⟩
  unfold b_X10_type_39
  rw [nI_clamp (by omega), hT.1, hn]
  have e : nI (lenB (tk t)) = (if nI t = (0 : Int32) then (71 : Int32) else (47 : Int32)) := by
    obtain rfl | rfl : t = 0 ∨ t = 1 := by omega
    · rfl
    · rfl
  exact ⟨fun _ => hQ, fun z => absurd e z⟩
theorem M_typeY (ht : t < 2) (hk : k < 256) (hT : TX t n bs y) (hn : n < lenB (tk t)) (hQ : Qp (nI (n + 1)) (up2 (up2 y 5 (72 * t + n) (nI k)) 6 t (nI (n + 1)))) : p_X10_type y (nI t) (nI k) Qp := by
  have hn71 := hT.2.1
  unfold p_X10_type
  refine two_y d_two (d_in (hi := 255) 256 (by omega) (by decide)) ht hk ⟨vp_in_nI ht (by omega), ?_⟩
  unfold b_X10_type_39
  have e : (if nI t = (0 : Int32) then (71 : Int32) else (47 : Int32)) = nI (lenB (tk t)) := by
    obtain rfl | rfl : t = 0 ∨ t = 1 := by omega
    · rfl
    · rfl
  have hl : lenB (tk t) < 100 := by
    obtain rfl | rfl : t = 0 ∨ t = 1 := by omega
    · decide
    · decide
  have hin : vp_in (nI t) 2 := vp_in_nI ht (by omega)
  rw [e, nI_clamp (show t < 2 ^ 31 by omega), hT.1, show (72 : Int32) = nI 72 from rfl, pk_mul, nI_add, nI_clamp (by omega)]
  refine ⟨fun z => absurd ((nI_eq (by omega) (by omega)).mp z) (by omega), fun _ => ⟨hin, vp_in_nI (by omega) (by omega), hin, hin, fun g e => ?_⟩⟩
  rw [up2_other _ _ _ (show 6 ≠ 5 by omega), hT.1, nI_1] at e
  subst e
  refine ⟨hin, ?_⟩
  rw [up2_row _ 6 t 6 t, if_pos ⟨rfl, rfl⟩]
  exact hQ
theorem X_wipeY (ht : t < 2) (h6 : x (tk t) 6 = nI n) (hQ : Qp (nI n) (up2 (up2 x (tk t) 6 (0 : Int32)) 0 12 (1 : Int32))) : p_X9_wipe x (nI t) Qp := by
  unfold p_X9_wipe
  refine one_y (d_within 2 (by omega)) ht ?_
  unfold p_X9_scriptOf p_X7_shorten
  rw [sc_tk ht]
  show Qp (x (tk t) 6) _
  rw [h6]
  exact hQ
theorem M_wipeY (ht : t < 2) (hT : TX t n bs y) (hQ : Qp (nI n) (up2 y 6 t (0 : Int32))) : p_X10_wipe y (nI t) Qp := by
  unfold p_X10_wipe
  have hin : vp_in (nI t) 2 := vp_in_nI ht (by omega)
  refine one_y d_two ht ⟨hin, hin, ?_⟩
  rw [nI_clamp (by omega), hT.1]
  exact hQ
theorem X_undoF (ht : t < 2) (h6 : x (tk t) 6 = nI 0) (hQ : Qp (-3 : Int32) x) : p_X9_undo x (nI t) Qp := by
  unfold p_X9_undo
  refine one_y (d_within 2 (by omega)) ht ?_
  unfold p_X9_scriptOf
  rw [sc_tk ht]
  show (x (tk t) 6 = 0 → _) ∧ _
  rw [h6]
  exact ⟨fun _ => hQ, fun z => absurd rfl z⟩
theorem X_undoY (ht : t < 2) (h6 : x (tk t) 6 = nI (n + 1)) (hn : n < 100) (hQ : Qp (nI n) (up2 (up2 x (tk t) 6 (nI n)) 0 12 (1 : Int32))) : p_X9_undo x (nI t) Qp := by
  have h0 : tk t ≠ 0 := by unfold tk; split <;> omega
  unfold p_X9_undo
  refine one_y (d_within 2 (by omega)) ht ?_
  unfold p_X9_scriptOf p_X7_shorten
  rw [sc_tk ht]
  show (x (tk t) 6 = 0 → _) ∧ (_ → Qp ((up2 (up2 x (tk t) 6 (x (tk t) 6 - 1)) 0 12 (1 : Int32)) (tk t) 6) (up2 (up2 x (tk t) 6 (x (tk t) 6 - 1)) 0 12 (1 : Int32)))
  rw [h6, nI_pred, up2_other _ _ _ h0, up2_row _ (tk t) 6 (tk t) 6, if_pos ⟨rfl, rfl⟩]
  exact ⟨fun z => absurd z (nI_ne0 (by omega) (by omega)), fun _ => hQ⟩
theorem M_undoF (ht : t < 2) (hT : TX t 0 bs y) (hQ : Qp (-3 : Int32) y) : p_X10_undo y (nI t) Qp := by
  unfold p_X10_undo
  have hin : vp_in (nI t) 2 := vp_in_nI ht (by omega)
  refine one_y d_two ht ⟨hin, ?_⟩
  rw [nI_clamp (by omega), hT.1]
  exact ⟨fun _ => hQ, fun z => absurd rfl z⟩
theorem M_undoY (ht : t < 2) (hT : TX t (n + 1) bs y) (hQ : Qp (nI n) (up2 y 6 t (nI n))) : p_X10_undo y (nI t) Qp := by
  have := hT.2.1
  unfold p_X10_undo
  have hin : vp_in (nI t) 2 := vp_in_nI ht (by omega)
  refine one_y d_two ht ⟨hin, ?_⟩
  rw [nI_clamp (by omega), hT.1, nI_pred, up2_row _ 6 t 6 t, if_pos ⟨rfl, rfl⟩]
  exact ⟨fun z => absurd z (nI_ne0 (by omega) (by omega)), fun _ => ⟨hin, hin, hin, hQ⟩⟩
end Tell
theorem st_type : s_type Rel := by
  intro x xl y h v1 v2
  obtain ⟨n0, n1, t, b, s, hX, hY⟩ := h.1
  by_cases hv : (∃ j, j < 2 ∧ v1 = nI j) ∧ ∃ k, k < 256 ∧ v2 = nI k
  · obtain ⟨⟨j, hj, e1⟩, k, hk, e2⟩ := hv
    subst e1 e2
    have l0 := hX.2.1.2.1
    have l1 := hX.2.1.2.2.2
    obtain rfl | rfl : j = 0 ∨ j = 1 := by omega
    · by_cases hf : n0 < 71
      · refine X_typeY (n := n0) hj hk hX.2.1.1 hf (by decide) (M_typeY hj hk hY.1 hf ⟨rfl, ?_⟩)
        refine Rel_text (m0 := n0 + 1) (m1 := n1) h hX hY (fun k a0 a1 a2 a4 a5 => by rw [up2_other _ _ _ a0, up2_other (k := tk 0) _ _ _ a1, up2_other (k := tk 0 + 1) _ _ _ a2]) (fun j hj => by rw [up2_other _ _ _ (by omega), up2_row, if_neg (fun z => hj z.2), up2_other _ _ _ (by decide)]) (fun j hj => by rw [up2_other _ _ _ (by omega), up2_other _ _ _ (by decide), up2_other _ _ _ (by decide)]) (by rw [up2_row, if_pos ⟨rfl, rfl⟩]) (by rw [up2_row, if_neg (by omega), up2_other _ _ _ (by decide), up2_other _ _ _ (by decide)]) (by rw [up2_other _ _ _ (by omega), up2_row, if_pos ⟨rfl, rfl⟩]) (by omega) (by rw [up2_other _ _ _ (by omega), up2_other _ _ _ (by decide), up2_other _ _ _ (by decide)]; exact hX.2.1.2.2.1) l1 (fun k a5 a6 => by rw [up2_other _ _ _ a6, up2_other _ _ _ a5]) ⟨by rw [up2_row, if_pos ⟨rfl, rfl⟩], by omega, fun a ha => ?_⟩ ⟨?_, by omega, fun a ha => ?_⟩
        · rw [up2_other _ _ _ (show 5 ≠ 6 by omega), up2_other _ _ _ (show 2 ≠ 0 by omega), up2_other _ _ _ (show 2 ≠ tk 0 by decide), up2_row y, up2_row x]
          by_cases q : a = n0
          · rw [if_pos ⟨rfl, by omega⟩, if_pos ⟨rfl, q⟩]
          · rw [if_neg (show ¬ (5 = 5 ∧ 72 * 0 + a = 72 * 0 + n0) by omega), if_neg (fun z => q z.2)]; exact hY.1.2.2 a (by omega)
        · rw [up2_row, if_neg (by omega), up2_other _ _ _ (by omega)]; exact hY.2.1.1
        · rw [up2_other _ _ _ (show 5 ≠ 6 by omega), up2_other _ _ _ (show 5 ≠ 0 by omega), up2_other _ _ _ (show 5 ≠ tk 0 by decide), up2_other _ _ _ (show 5 ≠ tk 0 + 1 by decide), up2_row y, if_neg (show ¬ (5 = 5 ∧ 72 * 1 + a = 72 * 0 + n0) by omega)]; exact hY.2.1.2.2 a ha
      · exact X_typeF (n := n0) hj hk hX.2.1.1 (show 71 ≤ n0 by omega) (by omega) (M_typeF hj hk hY.1 (show n0 = 71 by omega) ⟨rfl, h⟩)
    · by_cases hf : n1 < 47
      · refine X_typeY (n := n1) hj hk hX.2.1.2.2.1 hf (by decide) (M_typeY hj hk hY.2.1 hf ⟨rfl, ?_⟩)
        refine Rel_text (m0 := n0) (m1 := n1 + 1) h hX hY (fun k a0 a1 a2 a4 a5 => by rw [up2_other _ _ _ a0, up2_other (k := tk 1) _ _ _ a4, up2_other (k := tk 1 + 1) _ _ _ a5]) (fun j hj => by rw [up2_other _ _ _ (by omega), up2_other _ _ _ (by decide), up2_other _ _ _ (by decide)]) (fun j hj => by rw [up2_other _ _ _ (by omega), up2_row, if_neg (fun z => hj z.2), up2_other _ _ _ (by decide)]) (by rw [up2_row, if_pos ⟨rfl, rfl⟩]) (by rw [up2_row, if_neg (by omega), up2_other _ _ _ (by decide), up2_other _ _ _ (by decide)]) (by rw [up2_other _ _ _ (by omega), up2_other _ _ _ (by decide), up2_other _ _ _ (by decide)]; exact hX.2.1.1) l0 (by rw [up2_other _ _ _ (by omega), up2_row, if_pos ⟨rfl, rfl⟩]) (by omega) (fun k a5 a6 => by rw [up2_other _ _ _ a6, up2_other _ _ _ a5]) ⟨?_, by omega, fun a ha => ?_⟩ ⟨by rw [up2_row, if_pos ⟨rfl, rfl⟩], by omega, fun a ha => ?_⟩
        · rw [up2_row, if_neg (by omega), up2_other _ _ _ (by omega)]; exact hY.1.1
        · rw [up2_other _ _ _ (show 5 ≠ 6 by omega), up2_other _ _ _ (show 2 ≠ 0 by omega), up2_other _ _ _ (show 2 ≠ tk 1 by decide), up2_other _ _ _ (show 2 ≠ tk 1 + 1 by decide), up2_row y, if_neg (show ¬ (5 = 5 ∧ 72 * 0 + a = 72 * 1 + n1) by omega)]; exact hY.1.2.2 a ha
        · rw [up2_other _ _ _ (show 5 ≠ 6 by omega), up2_other _ _ _ (show 5 ≠ 0 by omega), up2_other _ _ _ (show 5 ≠ tk 1 by decide), up2_row y, up2_row x]
          by_cases q : a = n1
          · rw [if_pos ⟨rfl, by omega⟩, if_pos ⟨rfl, q⟩]
          · rw [if_neg (show ¬ (5 = 5 ∧ 72 * 1 + a = 72 * 1 + n1) by omega), if_neg (fun z => q z.2)]; exact hY.2.1.2.2 a (by omega)
      · exact X_typeF (n := n1) hj hk hX.2.1.2.2.1 (show 47 ≤ n1 by omega) (by omega) (M_typeF hj hk hY.2.1 (show n1 = 47 by omega) ⟨rfl, h⟩)
  · have e : (∀ j, j < 2 → v1 ≠ nI j) ∨ ∀ j, j < 256 → v2 ≠ nI j := by
      by_cases q : ∃ j, j < 2 ∧ v1 = nI j
      · right; exact fun k hk ek => hv ⟨q, k, hk, ek⟩
      · left; exact fun j hj ej => q ⟨j, hj, ej⟩
    unfold p_X9_type
    refine two_n (d_within 2 (by omega)) (d_within 256 (by omega)) e ?_
    unfold p_X10_type
    exact two_n d_two (d_in (hi := 255) 256 (by omega) (by decide)) e ⟨rfl, h⟩
theorem st_wipe : s_wipe Rel := by
  intro x xl y h v1
  obtain ⟨n0, n1, t, b, s, hX, hY⟩ := h.1
  by_cases hv : ∃ j, j < 2 ∧ v1 = nI j
  · obtain ⟨j, hj, e1⟩ := hv
    subst e1
    have l0 := hX.2.1.2.1
    have l1 := hX.2.1.2.2.2
    obtain rfl | rfl : j = 0 ∨ j = 1 := by omega
    · refine X_wipeY (n := n0) hj hX.2.1.1 (M_wipeY hj hY.1 ⟨rfl, ?_⟩)
      refine Rel_text (m0 := 0) (m1 := n1) h hX hY (fun k a0 a1 a2 a4 a5 => by rw [up2_other _ _ _ a0, up2_other (k := tk 0) _ _ _ a1]) (fun j hj => by rw [up2_other _ _ _ (by omega), up2_row, if_neg (fun z => hj z.2)]) (fun j hj => by rw [up2_other _ _ _ (by omega), up2_other _ _ _ (by decide)]) (by rw [up2_row, if_pos ⟨rfl, rfl⟩]) (by rw [up2_row, if_neg (by omega), up2_other _ _ _ (by decide)]) (by rw [up2_other _ _ _ (by omega), up2_row, if_pos ⟨rfl, rfl⟩]; rfl) (by omega) (by rw [up2_other _ _ _ (by omega), up2_other _ _ _ (by decide)]; exact hX.2.1.2.2.1) l1 (fun k a5 a6 => by rw [up2_other _ _ _ a6]) ⟨by rw [up2_row, if_pos ⟨rfl, rfl⟩]; rfl, by omega, fun a ha => absurd ha (by omega)⟩ ⟨?_, by omega, fun a ha => ?_⟩
      · rw [up2_row, if_neg (by omega)]; exact hY.2.1.1
      · rw [up2_other _ _ _ (by omega), up2_other _ _ _ (by omega), up2_other _ _ _ (by decide)]; exact hY.2.1.2.2 a ha
    · refine X_wipeY (n := n1) hj hX.2.1.2.2.1 (M_wipeY hj hY.2.1 ⟨rfl, ?_⟩)
      refine Rel_text (m0 := n0) (m1 := 0) h hX hY (fun k a0 a1 a2 a4 a5 => by rw [up2_other _ _ _ a0, up2_other (k := tk 1) _ _ _ a4]) (fun j hj => by rw [up2_other _ _ _ (by omega), up2_other _ _ _ (by decide)]) (fun j hj => by rw [up2_other _ _ _ (by omega), up2_row, if_neg (fun z => hj z.2)]) (by rw [up2_row, if_pos ⟨rfl, rfl⟩]) (by rw [up2_row, if_neg (by omega), up2_other _ _ _ (by decide)]) (by rw [up2_other _ _ _ (by omega), up2_other _ _ _ (by decide)]; exact hX.2.1.1) l0 (by rw [up2_other _ _ _ (by omega), up2_row, if_pos ⟨rfl, rfl⟩]; rfl) (by omega) (fun k a5 a6 => by rw [up2_other _ _ _ a6]) ⟨?_, by omega, fun a ha => ?_⟩ ⟨by rw [up2_row, if_pos ⟨rfl, rfl⟩]; rfl, by omega, fun a ha => absurd ha (by omega)⟩
      · rw [up2_row, if_neg (by omega)]; exact hY.1.1
      · rw [up2_other _ _ _ (by omega), up2_other _ _ _ (by omega), up2_other _ _ _ (by decide)]; exact hY.1.2.2 a ha
  · have e : ∀ j, j < 2 → v1 ≠ nI j := fun j hj ej => hv ⟨j, hj, ej⟩
    unfold p_X9_wipe
    refine one_n (d_within 2 (by omega)) e ?_
    unfold p_X10_wipe
    exact one_n d_two e ⟨rfl, h⟩
theorem st_undo : s_undo Rel := by
  intro x xl y h v1
  obtain ⟨n0, n1, t, b, s, hX, hY⟩ := h.1
  by_cases hv : ∃ j, j < 2 ∧ v1 = nI j
  · obtain ⟨j, hj, e1⟩ := hv
    subst e1
    have l0 := hX.2.1.2.1
    have l1 := hX.2.1.2.2.2
    obtain rfl | rfl : j = 0 ∨ j = 1 := by omega
    · cases n0 with
      | zero => exact X_undoF hj hX.2.1.1 (M_undoF hj hY.1 ⟨rfl, h⟩)
      | succ n =>
        refine X_undoY (n := n) hj hX.2.1.1 (by omega) (M_undoY hj hY.1 ⟨rfl, ?_⟩)
        refine Rel_text (m0 := n) (m1 := n1) h hX hY (fun k a0 a1 a2 a4 a5 => by rw [up2_other _ _ _ a0, up2_other (k := tk 0) _ _ _ a1]) (fun j hj => by rw [up2_other _ _ _ (by omega), up2_row, if_neg (fun z => hj z.2)]) (fun j hj => by rw [up2_other _ _ _ (by omega), up2_other _ _ _ (by decide)]) (by rw [up2_row, if_pos ⟨rfl, rfl⟩]) (by rw [up2_row, if_neg (by omega), up2_other _ _ _ (by decide)]) (by rw [up2_other _ _ _ (by omega), up2_row, if_pos ⟨rfl, rfl⟩]) (by omega) (by rw [up2_other _ _ _ (by omega), up2_other _ _ _ (by decide)]; exact hX.2.1.2.2.1) l1 (fun k a5 a6 => by rw [up2_other _ _ _ a6]) ⟨by rw [up2_row, if_pos ⟨rfl, rfl⟩], by omega, fun a ha => ?_⟩ ⟨?_, by omega, fun a ha => ?_⟩
        · rw [up2_other _ _ _ (by omega), up2_other _ _ _ (by omega), up2_other _ _ _ (by decide)]; exact hY.1.2.2 a (by omega)
        · rw [up2_row, if_neg (by omega)]; exact hY.2.1.1
        · rw [up2_other _ _ _ (by omega), up2_other _ _ _ (by omega), up2_other _ _ _ (by decide)]; exact hY.2.1.2.2 a ha
    · cases n1 with
      | zero => exact X_undoF hj hX.2.1.2.2.1 (M_undoF hj hY.2.1 ⟨rfl, h⟩)
      | succ n =>
        refine X_undoY (n := n) hj hX.2.1.2.2.1 (by omega) (M_undoY hj hY.2.1 ⟨rfl, ?_⟩)
        refine Rel_text (m0 := n0) (m1 := n) h hX hY (fun k a0 a1 a2 a4 a5 => by rw [up2_other _ _ _ a0, up2_other (k := tk 1) _ _ _ a4]) (fun j hj => by rw [up2_other _ _ _ (by omega), up2_other _ _ _ (by decide)]) (fun j hj => by rw [up2_other _ _ _ (by omega), up2_row, if_neg (fun z => hj z.2)]) (by rw [up2_row, if_pos ⟨rfl, rfl⟩]) (by rw [up2_row, if_neg (by omega), up2_other _ _ _ (by decide)]) (by rw [up2_other _ _ _ (by omega), up2_other _ _ _ (by decide)]; exact hX.2.1.1) l0 (by rw [up2_other _ _ _ (by omega), up2_row, if_pos ⟨rfl, rfl⟩]) (by omega) (fun k a5 a6 => by rw [up2_other _ _ _ a6]) ⟨?_, by omega, fun a ha => ?_⟩ ⟨by rw [up2_row, if_pos ⟨rfl, rfl⟩], by omega, fun a ha => ?_⟩
        · rw [up2_row, if_neg (by omega)]; exact hY.1.1
        · rw [up2_other _ _ _ (by omega), up2_other _ _ _ (by omega), up2_other _ _ _ (by decide)]; exact hY.1.2.2 a ha
        · rw [up2_other _ _ _ (by omega), up2_other _ _ _ (by omega), up2_other _ _ _ (by decide)]; exact hY.2.1.2.2 a (by omega)
  · have e : ∀ j, j < 2 → v1 ≠ nI j := fun j hj ej => hv ⟨j, hj, ej⟩
    unfold p_X9_undo
    refine one_n (d_within 2 (by omega)) e ?_
    unfold p_X10_undo
    exact one_n d_two e ⟨rfl, h⟩
