/-! STEPS: sheets -/
theorem Rel_find {x y : Mem} {xl : MemL} (h : Rel x xl y) (v : Int32) : Rel (up2 x 0 13 v) xl (up2 y 0 4 v) := by
  obtain ⟨n0, n1, t, b, s, hX, hY⟩ := h.1
  have ex : ∀ k, k ≠ 0 → up2 x 0 13 v k = x k := fun k hk => up2_other _ _ _ hk
  have ey : ∀ k, k ≠ 0 → up2 y 0 4 v k = y k := fun k hk => up2_other _ _ _ hk
  have ey0 : ∀ j, j ≠ 4 → up2 y 0 4 v 0 j = y 0 j := fun j hj => by rw [up2_row, if_neg (fun z => hj z.2)]
  refine ⟨⟨n0, n1, t, b, s, hX.f ⟨fun k h0 _ => ex k h0, by rw [up2_row, if_neg (by omega)]⟩, ?_⟩, h.2.1.q (fun k hk => ex k (by omega)) (ey 1 (by omega)) (ey 2 (by omega)) (ey 3 (by omega)), by rw [up2_row, if_pos ⟨rfl, rfl⟩, up2_row, if_pos ⟨rfl, rfl⟩]⟩
  rw [ex 2 (by omega), ex 5 (by omega)]
  refine ⟨?_, ?_, hY.2.2.1.keep (ey 10 (by omega)) (ey0 11 (by omega)), hY.2.2.2.1.keep (ey 11 (by omega)) (ey0 13 (by omega)), ?_⟩
  · unfold TX; rw [ey 6 (by omega), ey 5 (by omega)]; exact hY.1
  · unfold TX; rw [ey 6 (by omega), ey 5 (by omega)]; exact hY.2.1
  · unfold SY; rw [ey0 21 (by omega), ey 17 (by omega)]; exact hY.2.2.2.2
theorem Rel_sheet {x x' y y' : Mem} {xl : MemL} (h : Rel x xl y) (fx : ∀ k, k ≤ 46 → x' k = x k) (fy : ∀ k, k ≠ 1 → k ≠ 2 → k ≠ 3 → k ≠ 4 → y' k = y k) (hs : SHR x' y') : Rel x' xl y' := by
  obtain ⟨n0, n1, t, b, s, hX, hY⟩ := h.1
  have e : ∀ k, 4 < k ∨ k = 0 → y' k = y k := fun k hk => fy k (by omega) (by omega) (by omega) (by omega)
  refine ⟨⟨n0, n1, t, b, s, hX.f ⟨fun k h0 _ => fx k (by omega), by rw [fx 0 (by omega)]⟩, ?_⟩, hs, by rw [fx 0 (by omega), e 0 (by omega)]; exact h.2.2⟩
  rw [fx 2 (by omega), fx 5 (by omega)]
  refine ⟨?_, ?_, hY.2.2.1.keep (e 10 (by omega)) (by rw [e 0 (by omega)]), hY.2.2.2.1.keep (e 11 (by omega)) (by rw [e 0 (by omega)]), ?_⟩
  · unfold TX; rw [e 6 (by omega), e 5 (by omega)]; exact hY.1
  · unfold TX; rw [e 6 (by omega), e 5 (by omega)]; exact hY.2.1
  · unfold SY; rw [e 0 (by omega), e 17 (by omega)]; exact hY.2.2.2.2
/-- one sheet changes -/
theorem SHR.up {x x' y y' : Mem} {q : Nat} (h : SHR x y) (fx : ∀ k, k ≠ 47 + 2 * q → k ≠ 47 + 2 * q + 1 → x' k = x k) (f1 : ∀ p, p ≠ q → y' 1 p = y 1 p ∧ y' 2 p = y 2 p) (f3 : ∀ a, a < 60 * q ∨ 60 * q + 60 ≤ a → y' 3 a = y 3 a) (hq : (x' (47 + 2 * q) 2 = (-1 : Int32) ∧ y' 1 q = (-1 : Int32)) ∨ ∃ f n, f < 3 ∧ n ≤ 60 ∧ x' (47 + 2 * q) 1 = nI f ∧ y' 1 q = nI f ∧ x' (47 + 2 * q) 2 = nI n ∧ y' 2 q = nI n ∧ ∀ i, i < n → x' (47 + 2 * q + 1) i = y' 3 (60 * q + i)) : SHR x' y' := by
  intro p hp
  by_cases e : p = q
  · subst e; exact hq
  · rw [fx (47 + 2 * p) (by omega) (by omega), fx (47 + 2 * p + 1) (by omega) (by omega), (f1 p e).1, (f1 p e).2]
    rcases h p hp with a | ⟨f, n, a1, a2, a3, a4, a5, a6, a7⟩
    · exact Or.inl a
    · refine Or.inr ⟨f, n, a1, a2, a3, a4, a5, a6, fun i hi => ?_⟩
      rw [f3 (60 * p + i) (by omega)]
      exact a7 i hi
section Sheets
variable {x y : Mem} {Qp : Int32 → Mem → Prop} {q f n : Nat} {v1 v2 v3 v4 v5 : Int32}
theorem X_lost {Qp : Int32 → Prop} {k : Nat} (h : x k 2 = (-1 : Int32)) (hQ : Qp 1) : p_X8_isLost x k Qp := by
  unfold p_X8_isLost; rw [if_pos h]; exact hQ
theorem X_nlost {Qp : Int32 → Prop} {k : Nat} (h : x k 2 = nI n) (hn : n ≤ 60) (hQ : Qp 0) : p_X8_isLost x k Qp := by
  unfold p_X8_isLost; rw [if_neg (by rw [h]; exact m1_ne (by omega))]; exact hQ
theorem q_eq (hq : q < 4) : 47 + 2 * (nI q).toNatClampNeg = 47 + 2 * q := by rw [nI_clamp (by omega)]
theorem M_sheet_loop {y0 : Mem} (hq : q < 4) (hn : n ≤ 60) (hQ : ∀ y', (∀ k, k ≠ 3 → y' k = y0 k) → (∀ a, a < 60 * q ∨ 60 * q + 60 ≤ a → y' 3 a = y0 3 a) → (∀ i, i < n → y' 3 (60 * q + i) = 0) → Qp (nI n) y') : ∀ (r i : Nat) (y : Mem), i + r = n → (∀ k, k ≠ 3 → y k = y0 k) → (∀ a, a < 60 * q ∨ 60 * q + 60 ≤ a → y 3 a = y0 3 a) → (∀ j, j < i → y 3 (60 * q + j) = 0) → b_X10_sheet_55 (r + 1) y (nI q) (nI n) (nI i) Qp := by
  intro r
  induction r with
  | zero =>
    intro i y hi h1 h2 h3
    have : i = n := by omega
    subst this
    rw [b_X10_sheet_55]; dsimp only
    exact ⟨fun _ => hQ y h1 h2 h3, fun z => absurd (nI_le (Nat.le_refl _) (by omega)) z⟩
  | succ r ih =>
    intro i y hi h1 h2 h3
    rw [b_X10_sheet_55]; dsimp only
    rw [show (60 : Int32) = nI 60 from rfl, pk_mul, nI_add, nI_1, nI_clamp (by omega)]
    refine ⟨fun z => absurd z (nI_ge (by omega) (by omega)), fun _ => ⟨vp_in_nI (by omega) (by omega), ih (i + 1) _ (by omega) (fun k hk => by rw [up2_other _ _ _ hk]; exact h1 k hk) (fun a ha => by rw [up2_row, if_neg (by omega)]; exact h2 a ha) (fun j hj => ?_)⟩⟩
    rw [up2_row]
    by_cases e : j = i
    · rw [if_pos ⟨rfl, by omega⟩]
    · rw [if_neg (by omega)]; exact h3 j (by omega)
end Sheets
theorem st_sheet : s_sheet Rel := by
  intro x xl y h v1 v2 v3
  unfold p_X9_sheet
  rcases two_c v1 v2 4 3 with ⟨q, f, hq, hf, e1, e2⟩ | e
  · subst e1 e2
    refine two_y (d_within 4 (by omega)) (d_within 3 (by omega)) hq hf ?_
    have hin : vp_in (nI q) 4 := vp_in_nI hq (by omega)
    refine ⟨fun z => ⟨fun z2 => ?_, fun z2 => ?_⟩, fun z => ?_⟩
    · obtain ⟨n, hn, e⟩ := nI_of (Int32.not_lt.mpr z2)
      subst e
      rw [show (60 : Int32) = nI 60 from rfl, nI_leI hn (by omega)] at z
      refine ⟨hin, fun k ek => ?_⟩
      rw [q_eq hq] at ek
      subst ek
      refine fill_spec (by omega) ?_
      unfold p_X10_sheet
      refine two_y d_sheet (d_in (hi := 2) 3 (by omega) (by decide)) hq hf ⟨fun _ => ⟨fun _ => ⟨hin, hin, ?_⟩, fun w => absurd z2 w⟩, fun w => absurd (nI_le z (by omega)) w⟩
      rw [nI_clamp (by omega)]
      refine ⟨n + 1, M_sheet_loop hq z (fun y' g1 g2 g3 => ⟨rfl, ?_⟩) n 0 _ (by omega) (fun _ _ => rfl) (fun _ _ => rfl) (fun j hj => absurd hj (Nat.not_lt_zero j))⟩
      have fx : ∀ k, k ≠ 47 + 2 * q → k ≠ 47 + 2 * q + 1 → upR (up2 (up2 x (47 + 2 * q) 1 (nI f)) (47 + 2 * q) 2 (nI n)) (47 + 2 * q + 1) (fillR ((up2 (up2 x (47 + 2 * q) 1 (nI f)) (47 + 2 * q) 2 (nI n)) (47 + 2 * q + 1)) 60 0) k = x k := fun k a1 a2 => by rw [upR_other _ _ a2, up2_other _ _ _ a1, up2_other _ _ _ a1]
      refine Rel_sheet h (fun k hk => fx k (by omega) (by omega)) (fun k a1 a2 a3 _ => by rw [g1 k a3, up2_other _ _ _ a2, up2_other _ _ _ a1]) (h.2.1.up (q := q) fx (fun p hp => ⟨by rw [g1 1 (by omega), up2_other _ _ _ (by omega), up2_row, if_neg (by omega)], by rw [g1 2 (by omega), up2_row, if_neg (by omega), up2_other _ _ _ (by omega)]⟩) (fun a ha => by rw [g2 a ha, up2_other _ _ _ (by omega), up2_other _ _ _ (by omega)]) (Or.inr ⟨f, n, hf, z, ?_, ?_, ?_, ?_, fun i hi => ?_⟩))
      · rw [upR_other _ _ (by omega), up2_row, if_neg (by omega), up2_row, if_pos ⟨rfl, rfl⟩]
      · rw [g1 1 (by omega), up2_other _ _ _ (by omega), up2_row, if_pos ⟨rfl, rfl⟩]
      · rw [upR_other _ _ (by omega), up2_row, if_pos ⟨rfl, rfl⟩]
      · rw [g1 2 (by omega), up2_row, if_pos ⟨rfl, rfl⟩]
      · rw [upR_self, g3 i hi]; unfold fillR; rw [if_pos (by omega)]
    · unfold p_X9_find p_X10_sheet
      exact two_y d_sheet (d_in (hi := 2) 3 (by omega) (by decide)) hq hf ⟨fun _ => ⟨fun w => absurd w z2, fun _ => ⟨rfl, Rel_find h 5⟩⟩, fun w => absurd z w⟩
    · unfold p_X10_sheet
      exact two_y d_sheet (d_in (hi := 2) 3 (by omega) (by decide)) hq hf ⟨fun w => absurd w z, fun _ => ⟨rfl, h⟩⟩
  · refine two_n (d_within 4 (by omega)) (d_within 3 (by omega)) e ?_
    unfold p_X10_sheet
    exact two_n d_sheet (d_in (hi := 2) 3 (by omega) (by decide)) e ⟨rfl, h⟩
theorem nf_m1 : ¬ (0 : Int32) ≤ (-1 : Int32) := by decide
theorem st_lose : s_lose Rel := by
  intro x xl y h v1
  unfold p_X9_lose
  rcases one_c v1 4 with ⟨q, hq, e1⟩ | e
  · subst e1
    have hin : vp_in (nI q) 4 := vp_in_nI hq (by omega)
    refine one_y (d_within 4 (by omega)) hq ⟨hin, fun k ek => ?_⟩
    rw [q_eq hq] at ek
    subst ek
    rcases h.2.1 q hq with ⟨a1, a2⟩ | ⟨f, n, a1, a2, a3, a4, a5, a6, a7⟩
    · refine X_lost a1 ⟨fun z => absurd z (by decide), fun _ => ?_⟩
      unfold p_X9_find p_X10_lose
      refine one_y d_sheet hq ⟨hin, ?_⟩
      rw [nI_clamp (by omega), a2]
      exact ⟨fun z => absurd z nf_m1, fun _ => ⟨rfl, Rel_find h 1⟩⟩
    · refine X_nlost a5 a2 ⟨fun _ => ?_, fun z => absurd rfl z⟩
      unfold p_X10_lose
      refine one_y d_sheet hq ⟨hin, ?_⟩
      rw [nI_clamp (by omega), a4, a5, up2_other _ _ _ (show 2 ≠ 1 by omega), a6]
      refine ⟨fun _ => ⟨hin, hin, rfl, ?_⟩, fun z => absurd (nI_pos' (by omega)) z⟩
      exact Rel_sheet h (fun k hk => up2_other _ _ _ (by omega)) (fun k b1 b2 b3 b4 => up2_other _ _ _ b1) (h.2.1.up (q := q) (fun k b1 b2 => up2_other _ _ _ b1) (fun p hp => ⟨by rw [up2_row, if_neg (by omega)], by rw [up2_other _ _ _ (by omega)]⟩) (fun a ha => by rw [up2_other _ _ _ (by omega)]) (Or.inl ⟨by rw [up2_row, if_pos ⟨rfl, rfl⟩], by rw [up2_row, if_pos ⟨rfl, rfl⟩]⟩))
  · refine one_n (d_within 4 (by omega)) e ?_
    unfold p_X10_lose
    exact one_n d_sheet e ⟨rfl, h⟩
/-! items -/
section Items
variable {x y : Mem} {Qp : Int32 → Mem → Prop} {q f f' n : Nat} {v1 v2 v3 : Int32}
theorem X_itemB (e : (∀ j, j < 4 → v1 ≠ nI j) ∨ ∀ j, j < 3 → v2 ≠ nI j) (hQ : Qp (-2 : Int32) x) : p_X9_refusalOfItem x v1 v2 v3 Qp := by
  unfold p_X9_refusalOfItem
  exact two_n (d_within 4 (by omega)) (d_within 3 (by omega)) e hQ
theorem X_item1 (hq : q < 4) (hf : f < 3) (hl : x (47 + 2 * q) 2 = (-1 : Int32)) (hQ : Qp ((-10 : Int32) - 1) (up2 x 0 13 1)) : p_X9_refusalOfItem x (nI q) (nI f) v3 Qp := by
  unfold p_X9_refusalOfItem
  refine two_y (d_within 4 (by omega)) (d_within 3 (by omega)) hq hf ⟨vp_in_nI hq (by omega), fun k ek => ?_⟩
  rw [q_eq hq] at ek
  subst ek
  exact X_lost hl ⟨fun z => absurd z (by decide), fun _ => hQ⟩
theorem X_item3 (hq : q < 4) (hf : f < 3) (hf' : f' < 3) (hne : f' ≠ f) (h1 : x (47 + 2 * q) 1 = nI f') (h2 : x (47 + 2 * q) 2 = nI n) (hn : n ≤ 60) (hQ : Qp ((-10 : Int32) - 3) (up2 x 0 13 3)) : p_X9_refusalOfItem x (nI q) (nI f) v3 Qp := by
  unfold p_X9_refusalOfItem
  refine two_y (d_within 4 (by omega)) (d_within 3 (by omega)) hq hf ⟨vp_in_nI hq (by omega), fun k ek => ?_⟩
  rw [q_eq hq] at ek
  subst ek
  refine X_nlost h2 hn ⟨fun _ => ?_, fun z => absurd rfl z⟩
  rw [h1]
  exact ⟨fun z => absurd ((nI_eq (by omega) (by omega)).mp z) hne, fun _ => hQ⟩
theorem X_item2 (hq : q < 4) (hf : f < 3) (h1 : x (47 + 2 * q) 1 = nI f) (h2 : x (47 + 2 * q) 2 = nI n) (hn : n ≤ 60) (e : ∀ j, j < n → v3 ≠ nI j) (hQ : Qp ((-10 : Int32) - 2) (up2 x 0 13 2)) : p_X9_refusalOfItem x (nI q) (nI f) v3 Qp := by
  unfold p_X9_refusalOfItem
  refine two_y (d_within 4 (by omega)) (d_within 3 (by omega)) hq hf ⟨vp_in_nI hq (by omega), fun k ek => ?_⟩
  rw [q_eq hq] at ek
  subst ek
  refine X_nlost h2 hn ⟨fun _ => ?_, fun z => absurd rfl z⟩
  rw [h1, h2]
  exact ⟨fun _ => one_n (d_within n (by omega)) e hQ, fun z => absurd rfl z⟩
theorem X_item0 {i : Nat} (hq : q < 4) (hf : f < 3) (h1 : x (47 + 2 * q) 1 = nI f) (h2 : x (47 + 2 * q) 2 = nI n) (hn : n ≤ 60) (hi : i < n) (hQ : Qp 0 x) : p_X9_refusalOfItem x (nI q) (nI f) (nI i) Qp := by
  unfold p_X9_refusalOfItem
  refine two_y (d_within 4 (by omega)) (d_within 3 (by omega)) hq hf ⟨vp_in_nI hq (by omega), fun k ek => ?_⟩
  rw [q_eq hq] at ek
  subst ek
  refine X_nlost h2 hn ⟨fun _ => ?_, fun z => absurd rfl z⟩
  rw [h1, h2]
  exact ⟨fun _ => one_y (d_within n (by omega)) hi hQ, fun z => absurd rfl z⟩
theorem M_lacks1 (hq : q < 4) (h1 : y 1 q = (-1 : Int32)) (hQ : Qp ((-10 : Int32) - 1) (up2 y 0 4 1)) : p_X10_lacks y (nI q) v2 v3 Qp := by
  unfold p_X10_lacks
  rw [nI_clamp (by omega), h1]
  exact ⟨vp_in_nI hq (by omega), fun z => absurd z nf_m1, fun _ => hQ⟩
theorem M_lacks3 (hq : q < 4) (hf : f < 3) (hf' : f' < 3) (hne : f' ≠ f) (h1 : y 1 q = nI f') (hQ : Qp ((-10 : Int32) - 3) (up2 y 0 4 3)) : p_X10_lacks y (nI q) (nI f) v3 Qp := by
  unfold p_X10_lacks
  rw [nI_clamp (by omega), h1]
  exact ⟨vp_in_nI hq (by omega), fun _ => ⟨vp_in_nI hq (by omega), fun z => absurd ((nI_eq (by omega) (by omega)).mp z) hne, fun _ => hQ⟩, fun z => absurd (nI_pos' (by omega)) z⟩
theorem M_lacks2 (hq : q < 4) (hf : f < 3) (h1 : y 1 q = nI f) (h2 : y 2 q = nI n) (hn : n ≤ 60) (e : ∀ j, j < n → v3 ≠ nI j) (hQ : Qp ((-10 : Int32) - 2) (up2 y 0 4 2)) : p_X10_lacks y (nI q) (nI f) v3 Qp := by
  unfold p_X10_lacks
  rw [nI_clamp (by omega), h1, h2]
  exact ⟨vp_in_nI hq (by omega), fun _ => ⟨vp_in_nI hq (by omega), fun _ => ⟨vp_in_nI hq (by omega), one_n (d_in (hi := nI n - 1) n (by omega) (pk_sub_toInt (b := 1) (by omega) (by omega))) e hQ⟩, fun z => absurd rfl z⟩, fun z => absurd (nI_pos' (by omega)) z⟩
theorem M_lacks0 {i : Nat} (hq : q < 4) (hf : f < 3) (h1 : y 1 q = nI f) (h2 : y 2 q = nI n) (hn : n ≤ 60) (hi : i < n) (hQ : Qp 0 y) : p_X10_lacks y (nI q) (nI f) (nI i) Qp := by
  unfold p_X10_lacks
  rw [nI_clamp (by omega), h1, h2]
  exact ⟨vp_in_nI hq (by omega), fun _ => ⟨vp_in_nI hq (by omega), fun _ => ⟨vp_in_nI hq (by omega), one_y (d_in (hi := nI n - 1) n (by omega) (pk_sub_toInt (b := 1) (by omega) (by omega))) hi hQ⟩, fun z => absurd rfl z⟩, fun z => absurd (nI_pos' (by omega)) z⟩
end Items
def cutF (f : Nat) (v : Int32) : Int32 := if f = 0 then v.toInt8.toInt32 else if f = 1 then v.toInt16.toInt32 else v
theorem X_putS {x : Mem} {k i n f : Nat} {v : Int32} {Qp : Mem → Prop} (hf : f < 3) (h1 : x k 1 = nI f) (h2 : x k 2 = nI n) (hn : n ≤ 60) (hi : i < n) (hQ : Qp (up2 x (k + 1) i (cutF f v))) : p_X8_put x k (nI i) v Qp := by
  have hin : vp_in (nI i) 60 := vp_in_nI (by omega) (by omega)
  unfold p_X8_put
  rw [h1, h2, nI_clamp (by omega)]
  unfold cutF at hQ
  refine ⟨fun z => absurd z (nI_pos (by omega)), fun _ => ⟨fun _ w ew => ?_, fun z => absurd (nI_lt hi (by omega)) z⟩⟩
  subst ew
  refine ⟨fun z => ⟨hin, ?_⟩, fun z => ⟨fun z2 => ⟨hin, ?_⟩, fun z2 => ⟨hin, ?_⟩⟩⟩
  · rw [if_pos ((nI_eq0 (by omega)).mp z)] at hQ; exact hQ
  · rw [if_neg (fun w => z ((nI_eq0 (by omega)).mpr w)), if_pos ((nI_eq (b := 1) (by omega) (by omega)).mp z2)] at hQ; exact hQ
  · rw [if_neg (fun w => z ((nI_eq0 (by omega)).mpr w)), if_neg (fun w => z2 ((nI_eq (b := 1) (by omega) (by omega)).mpr w))] at hQ; exact hQ
theorem M_cut {f : Nat} {v : Int32} {Qp : Int32 → Prop} (hf : f < 3) (hQ : Qp (cutF f v)) : p_X10_cut (nI f) v Qp := by
  unfold p_X10_cut
  unfold cutF at hQ
  by_cases a : f = 0
  · rw [if_pos a] at hQ; rw [if_pos ((nI_eq0 (by omega)).mpr a)]; exact hQ
  · rw [if_neg a] at hQ; rw [if_neg (fun w => a ((nI_eq0 (by omega)).mp w))]
    by_cases a1 : f = 1
    · rw [if_pos a1] at hQ; rw [if_pos (show nI f = (1 : Int32) from (nI_eq (b := 1) (by omega) (by omega)).mpr a1)]; exact hQ
    · rw [if_neg a1] at hQ; rw [if_neg (show ¬ nI f = (1 : Int32) from fun w => a1 ((nI_eq (b := 1) (by omega) (by omega)).mp w))]; exact hQ
/-- item i of a sheet becomes the same on both sides -/
theorem Rel_item {x y : Mem} {xl : MemL} {q f n i : Nat} {v : Int32} (h : Rel x xl y) (hq : q < 4) (hf : f < 3) (hn : n ≤ 60) (hi : i < n) (a3 : x (47 + 2 * q) 1 = nI f) (a4 : y 1 q = nI f) (a5 : x (47 + 2 * q) 2 = nI n) (a6 : y 2 q = nI n) (a7 : ∀ i, i < n → x (47 + 2 * q + 1) i = y 3 (60 * q + i)) : Rel (up2 x (47 + 2 * q + 1) i v) xl (up2 y 3 (60 * q + i) v) := by
  refine Rel_sheet h (fun k hk => up2_other _ _ _ (by omega)) (fun k b1 b2 b3 b4 => up2_other _ _ _ b3) (h.2.1.up (q := q) (fun k b1 b2 => up2_other _ _ _ b2) (fun p hp => ⟨by rw [up2_other _ _ _ (by omega)], by rw [up2_other _ _ _ (by omega)]⟩) (fun a ha => by rw [up2_row, if_neg (by omega)]) (Or.inr ⟨f, n, hf, hn, ?_, ?_, ?_, ?_, fun j hj => ?_⟩))
  · rw [up2_other _ _ _ (by omega)]; exact a3
  · rw [up2_other _ _ _ (by omega)]; exact a4
  · rw [up2_other _ _ _ (by omega)]; exact a5
  · rw [up2_other _ _ _ (by omega)]; exact a6
  · rw [up2_row, up2_row]
    by_cases e : j = i
    · rw [if_pos ⟨rfl, e⟩, if_pos ⟨rfl, by omega⟩]
    · rw [if_neg (fun z => e z.2), if_neg (by omega)]; exact a7 j hj
theorem st_lay : s_lay Rel := by
  intro x xl y h v1 v2 v3 v4
  unfold p_X9_lay
  rcases two_c v1 v2 4 3 with ⟨q, f, hq, hf, e1, e2⟩ | e
  · subst e1 e2
    have hin : vp_in (nI q) 4 := vp_in_nI hq (by omega)
    have go : ∀ {K : Int32 → Mem → Prop} {Q : Int32 → Mem → Prop}, p_X10_lacks y (nI q) (nI f) v3 K → (K = fun r7 h8 => ((r7 = 0 → (p_X10_cut (nI f) v4 (fun r10 => (vp_in (((60 : Int32) * (nI q)) + v3) 240 ∧ Q (1 : Int32) (up2 h8 3 (((60 : Int32) * (nI q)) + v3).toNatClampNeg r10))))) ∧ (¬ (r7 = 0) → Q r7 h8))) → p_X10_lay y (nI q) (nI f) v3 v4 Q := fun {K Q} hK eK => by
      subst eK
      unfold p_X10_lay
      exact two_y d_sheet (d_in (hi := 2) 3 (by omega) (by decide)) hq hf hK
    rcases h.2.1 q hq with ⟨a1, a2⟩ | ⟨f', n, a1, a2, a3, a4, a5, a6, a7⟩
    · exact X_item1 hq hf a1 ⟨fun z => absurd z (by decide), fun _ => go (M_lacks1 hq a2 ⟨fun z => absurd z (by decide), fun _ => ⟨rfl, Rel_find h 1⟩⟩) rfl⟩
    · by_cases hne : f' = f
      · subst hne
        rcases one_c v3 n with ⟨i, hi, e3⟩ | e3
        · subst e3
          refine X_item0 hq hf a3 a5 a2 hi ⟨fun _ => ⟨hin, fun k ek => ?_⟩, fun z => absurd rfl z⟩
          rw [q_eq hq] at ek
          subst ek
          refine X_putS hf a3 a5 a2 hi (go (M_lacks0 hq hf a4 a6 a2 hi ⟨fun _ => M_cut hf ?_, fun z => absurd rfl z⟩) rfl)
          rw [show (60 : Int32) = nI 60 from rfl, pk_mul, nI_add, nI_clamp (by omega)]
          exact ⟨vp_in_nI (by omega) (by omega), rfl, Rel_item h hq hf a2 hi a3 a4 a5 a6 a7⟩
        · exact X_item2 hq hf a3 a5 a2 e3 ⟨fun z => absurd z (by decide), fun _ => go (M_lacks2 hq hf a4 a6 a2 e3 ⟨fun z => absurd z (by decide), fun _ => ⟨rfl, Rel_find h 2⟩⟩) rfl⟩
      · exact X_item3 hq hf a1 hne a3 a5 a2 ⟨fun z => absurd z (by decide), fun _ => go (M_lacks3 hq hf a1 hne a4 ⟨fun z => absurd z (by decide), fun _ => ⟨rfl, Rel_find h 3⟩⟩) rfl⟩
  · refine X_itemB e ⟨fun z => absurd z (by decide), fun _ => ?_⟩
    unfold p_X10_lay
    exact two_n d_sheet (d_in (hi := 2) 3 (by omega) (by decide)) e ⟨rfl, h⟩
theorem st_get : s_get Rel := by
  intro x xl y h v1 v2 v3
  unfold p_X9_get
  rcases two_c v1 v2 4 3 with ⟨q, f, hq, hf, e1, e2⟩ | e
  · subst e1 e2
    have hin : vp_in (nI q) 4 := vp_in_nI hq (by omega)
    have go : ∀ {K : Int32 → Mem → Prop} {Q : Int32 → Mem → Prop}, p_X10_lacks y (nI q) (nI f) v3 K → (K = fun r7 h8 => ((r7 = 0 → (vp_in (((60 : Int32) * (nI q)) + v3) 240 ∧ Q (h8 3 (((60 : Int32) * (nI q)) + v3).toNatClampNeg) h8)) ∧ (¬ (r7 = 0) → Q (-2147483648 : Int32) h8))) → p_X10_get y (nI q) (nI f) v3 Q := fun {K Q} hK eK => by
      subst eK
      unfold p_X10_get
      exact two_y d_sheet (d_in (hi := 2) 3 (by omega) (by decide)) hq hf hK
    rcases h.2.1 q hq with ⟨a1, a2⟩ | ⟨f', n, a1, a2, a3, a4, a5, a6, a7⟩
    · exact X_item1 hq hf a1 ⟨fun z => absurd z (by decide), fun _ => go (M_lacks1 hq a2 ⟨fun z => absurd z (by decide), fun _ => ⟨rfl, Rel_find h 1⟩⟩) rfl⟩
    · by_cases hne : f' = f
      · subst hne
        rcases one_c v3 n with ⟨i, hi, e3⟩ | e3
        · subst e3
          refine X_item0 hq hf a3 a5 a2 hi ⟨fun _ => ⟨hin, fun k ek => ⟨vp_in_nI (by omega) (by omega), ?_⟩⟩, fun z => absurd rfl z⟩
          rw [q_eq hq] at ek
          subst ek
          refine go (M_lacks0 hq hf a4 a6 a2 hi ⟨fun _ => ?_, fun z => absurd rfl z⟩) rfl
          rw [show (60 : Int32) = nI 60 from rfl, pk_mul, nI_add, nI_clamp (by omega), nI_clamp (by omega)]
          exact ⟨vp_in_nI (by omega) (by omega), a7 i hi, h⟩
        · exact X_item2 hq hf a3 a5 a2 e3 ⟨fun z => absurd z (by decide), fun _ => go (M_lacks2 hq hf a4 a6 a2 e3 ⟨fun z => absurd z (by decide), fun _ => ⟨rfl, Rel_find h 2⟩⟩) rfl⟩
      · exact X_item3 hq hf a1 hne a3 a5 a2 ⟨fun z => absurd z (by decide), fun _ => go (M_lacks3 hq hf a1 hne a4 ⟨fun z => absurd z (by decide), fun _ => ⟨rfl, Rel_find h 3⟩⟩) rfl⟩
  · refine X_itemB e ⟨fun z => absurd z (by decide), fun _ => ?_⟩
    unfold p_X10_get
    exact two_n d_sheet (d_in (hi := 2) 3 (by omega) (by decide)) e ⟨rfl, h⟩
theorem st_read : s_read Rel := by
  intro x xl y h v1
  obtain ⟨n0, n1, t, b, s, hX, hY⟩ := h.1
  unfold p_X9_read
  rcases one_c v1 4 with ⟨q, hq, e1⟩ | e
  · subst e1
    have hin : vp_in (nI q) 4 := vp_in_nI hq (by omega)
    refine one_y (d_within 4 (by omega)) hq ⟨hin, fun k ek => ?_⟩
    rw [q_eq hq] at ek
    subst ek
    rcases h.2.1 q hq with ⟨a1, a2⟩ | ⟨f, n, a1, a2, a3, a4, a5, a6, a7⟩
    · refine X_lost a1 ⟨fun z => absurd z (by decide), fun _ => ?_⟩
      unfold p_X9_find p_X10_read
      refine one_y d_sheet hq ⟨hin, ?_⟩
      rw [nI_clamp (by omega), a2]
      exact ⟨fun z => absurd z nf_m1, fun _ => ⟨rfl, Rel_find h 1⟩⟩
    · refine X_nlost a5 a2 ⟨fun _ => ⟨n / 2 + 1, ?_⟩, fun z => absurd rfl z⟩
      refine X_read_loop (by omega) a5 a2 (n / 2) 0 s x (by omega) (by omega) hX (FX.rf x) fun g hR hF => ?_
      unfold p_X10_read
      refine one_y d_sheet hq ⟨hin, ?_⟩
      rw [nI_clamp (by omega), a4]
      refine ⟨fun _ => ⟨n / 2 + 2, ?_⟩, fun z => absurd (nI_pos' (by omega)) z⟩
      exact M_read_loop hq a6 a2 (fun i hi => (a7 i hi).symm) (n / 2) 0 s y (by omega) (by omega) hX.2.2.2.1.1 hY.2.2.2.2 (FrS.rf y) fun y' hs f => ⟨rfl, h.s hY hR hF f hs⟩
  · refine one_n (d_within 4 (by omega)) e ?_
    unfold p_X10_read
    exact one_n d_sheet e ⟨rfl, h⟩
