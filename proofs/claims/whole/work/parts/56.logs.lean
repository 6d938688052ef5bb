/-! STEPS: trials, breaches, what is seen -/
def snoc (g : LG) (a c : Nat) : LG := (g.1 + 1, fun i => if i = g.1 then a else g.2.1 i, fun i => if i = g.1 then c else g.2.2 i)
def init (g : LG) : LG := (g.1 - 1, g.2.1, g.2.2)
theorem snoc_ok {g : LG} {a c : Nat} (h : gok g) (hn : g.1 < 12) (ha : a < 30) (hc : c < 12) : gok (snoc g a c) := by
  refine ⟨by show g.1 + 1 ≤ 12; omega, fun i hi => ?_⟩
  show (if i = g.1 then a else g.2.1 i) < 30 ∧ (if i = g.1 then c else g.2.2 i) < 12
  have hi' : i < g.1 + 1 := hi
  by_cases e : i = g.1
  · rw [if_pos e, if_pos e]; exact ⟨ha, hc⟩
  · rw [if_neg e, if_neg e]; exact h.2 i (by omega)
theorem init_ok {g : LG} (h : gok g) : gok (init g) := ⟨by have := h.1; show g.1 - 1 ≤ 12; omega, fun i hi => h.2 i (by have : i < g.1 - 1 := hi; omega)⟩
theorem Rel_log {x x' y y' : Mem} {xl : MemL} {n0 n1 : Nat} {t b s t' b' : LG} (h : Rel x xl y) (hX : RX n0 n1 t b s x) (hY : RY (x 2) n0 (x 5) n1 t b s y) (fx : ∀ k, k < 21 ∨ 28 < k → x' k = x k) (ht : XL 21 t' x') (hb : XL 24 b' x') (hr : XR (RT t') (LT t' b') x' 27) (fy : ∀ k, k ≠ 0 → k ≠ 10 → k ≠ 11 → y' k = y k) (f0 : ∀ j, j ≠ 11 → j ≠ 13 → y' 0 j = y 0 j) (mt : ML 10 11 t' y') (mb : ML 11 13 b' y') : Rel x' xl y' := by
  obtain ⟨a1, a2, ⟨a3, a4, a5⟩, a6, a7, a8⟩ := hX
  obtain ⟨b1, b2, b3, b4, b5⟩ := hY
  refine ⟨⟨n0, n1, t', b', s, ⟨?_, ?_, ⟨ht, hb, hr⟩, a6.f (by rw [fx 35 (by omega)]) (fx 36 (by omega)) (fx 37 (by omega)), ?_, ?_⟩, ?_, ?_, mt, mb, ?_⟩, h.2.1.q (fun k hk => fx k (by omega)) (fy 1 (by omega) (by omega) (by omega)) (fy 2 (by omega) (by omega) (by omega)) (fy 3 (by omega) (by omega) (by omega)), ?_⟩
  · rw [fx 1 (by omega), fx 4 (by omega)]; exact a1
  · rw [fx 1 (by omega), fx 4 (by omega)]; exact a2
  · rw [fx 39 (by omega)]; exact a7
  · rw [fx 0 (by omega), fx 2 (by omega), fx 5 (by omega), fx 35 (by omega)]
    intro z
    exact ⟨(a8 z).1.f (fun k _ hk => fx k (by omega)), fun w => ((a8 z).2 w).f (fx 35 (by omega)) (fx 38 (by omega))⟩
  · unfold TX; rw [fx 2 (by omega), fy 6 (by omega) (by omega) (by omega), fy 5 (by omega) (by omega) (by omega)]; exact b1
  · unfold TX; rw [fx 5 (by omega), fy 6 (by omega) (by omega) (by omega), fy 5 (by omega) (by omega) (by omega)]; exact b2
  · unfold SY; rw [f0 21 (by omega) (by omega), fy 17 (by omega) (by omega) (by omega)]; exact b5
  · rw [fx 0 (by omega), f0 4 (by omega) (by omega)]; exact h.2.2
theorem X_log_put {x : Mem} {k j l : Nat} {g : LG} {Qp : Mem → Prop} (hL : XL k g x) (hn : g.1 < 12) (hj : j < 30) (hl : l < 12) (hQ : ∀ x', (∀ c, c ≠ k → c ≠ k + 1 → c ≠ k + 2 → x' c = x c) → XL k (snoc g j l) x' → Qp x') : p_X4_append x k (nI j) (nI l) Qp := by
  unfold p_X4_append
  rw [hL.2.1]
  refine ⟨fun z => absurd z (nI_ge (a := g.1) (b := 12) hn (by omega)), fun _ => ⟨vp_in_nI hn (by omega), ?_⟩⟩
  rw [up2_other _ _ _ (show k ≠ k + 1 by omega), hL.2.1, nI_clamp (by omega)]
  refine ⟨vp_in_nI hn (by omega), fun h4 e => ?_⟩
  have e2 : h4 k 2 = nI g.1 := by
    rw [e, up2_other _ _ _ (show k ≠ k + 2 by omega), up2_other _ _ _ (show k ≠ k + 1 by omega)]; exact hL.2.1
  rw [e2, nI_1]
  refine hQ _ (fun c h1 h2 h3 => ?_) ⟨snoc_ok hL.1 hn hj hl, ?_, fun i hi => ?_⟩
  · rw [up2_other _ _ _ h1, e, up2_other _ _ _ h3, up2_other _ _ _ h2]
  · rw [up2_row, if_pos ⟨rfl, rfl⟩]; rfl
  · have hi' : i < g.1 + 1 := hi
    show _ = nI (if i = g.1 then j else g.2.1 i) ∧ _ = nI (if i = g.1 then l else g.2.2 i)
    rw [up2_other _ _ _ (show k + 1 ≠ k by omega), up2_other _ _ _ (show k + 2 ≠ k by omega), e, up2_other _ _ _ (show k + 1 ≠ k + 2 by omega), up2_row, up2_row, up2_other _ _ _ (show k + 2 ≠ k + 1 by omega)]
    by_cases q : i = g.1
    · rw [if_pos ⟨rfl, q⟩, if_pos q, if_pos ⟨rfl, q⟩, if_pos q]; exact ⟨rfl, rfl⟩
    · rw [if_neg (fun z => q z.2), if_neg q, if_neg (fun z => q z.2), if_neg q]; exact hL.2.2 i (by omega)
section Logs
variable {x y : Mem} {Qp : Int32 → Mem → Prop} {j l k : Nat}
theorem X_tellF {g : LG} (hL : XL k g x) (hn : g.1 = 12) (hj : j < 30) (hl : l < 12) (hQ : Qp (-4 : Int32) x) : p_X9_tell x k (nI j) (nI l) Qp := by
  unfold p_X9_tell
  refine two_y (d_within 30 (by omega)) (d_within 12 (by omega)) hj hl ?_
  unfold p_X4_isFull
  rw [hL.2.1, hn, if_neg (by decide)]
  exact ⟨fun z => absurd z (by decide), fun _ => hQ⟩
theorem X_tellY {g : LG} (hL : XL k g x) (hn : g.1 < 12) (hj : j < 30) (hl : l < 12) (hQ : p_X4_append x k (nI j) (nI l) (fun h11 => p_X6_retell h11 27 (fun h13 => Qp (h13 k 2) h13))) : p_X9_tell x k (nI j) (nI l) Qp := by
  unfold p_X9_tell
  refine two_y (d_within 30 (by omega)) (d_within 12 (by omega)) hj hl ?_
  unfold p_X4_isFull
  rw [hL.2.1, if_pos (show nI g.1 < (12 : Int32) from nI_lt (b := 12) hn (by omega))]
  exact ⟨fun _ => hQ, fun z => absurd rfl z⟩
theorem M_logF {kc kf : Nat} {g : LG} (hL : ML kc kf g y) (hn : g.1 = 12) : y 0 kf = (12 : Int32) := by rw [hL.2.1, hn]; rfl
theorem M_logN {kc kf : Nat} {g : LG} (hL : ML kc kf g y) (hn : g.1 < 12) : ¬ y 0 kf = (12 : Int32) := by
  rw [hL.2.1, show (12 : Int32) = nI 12 from rfl, nI_eq (by omega) (by omega)]; omega
theorem M_log_put {kc kf : Nat} {g : LG} (hL : ML kc kf g y) (hc : kc ≠ 0) (hn : g.1 < 12) (hj : j < 30) (hl : l < 12) (hQ : ∀ y', (∀ c, c ≠ 0 → c ≠ kc → y' c = y c) → (∀ i, i ≠ kf → y' 0 i = y 0 i) → ML kc kf (snoc g j l) y' → Qp (nI (g.1 + 1)) y') : (vp_in ((2 : Int32) * (y 0 kf)) 24 ∧ (vp_in (((2 : Int32) * ((up2 y kc ((2 : Int32) * (y 0 kf)).toNatClampNeg (nI j)) 0 kf)) + (1 : Int32)) 24 ∧ (∀ h10 : Mem, h10 = (up2 (up2 y kc ((2 : Int32) * (y 0 kf)).toNatClampNeg (nI j)) kc (((2 : Int32) * ((up2 y kc ((2 : Int32) * (y 0 kf)).toNatClampNeg (nI j)) 0 kf)) + (1 : Int32)).toNatClampNeg (nI l)) → Qp ((up2 h10 0 kf ((h10 0 kf) + (1 : Int32))) 0 kf) (up2 h10 0 kf ((h10 0 kf) + (1 : Int32)))))) := by
  rw [up2_other _ _ _ (fun z => hc z.symm), hL.2.1, show (2 : Int32) = nI 2 from rfl, pk_mul, nI_1, nI_clamp (by omega), nI_clamp (by omega)]
  refine ⟨vp_in_nI (by omega) (by omega), vp_in_nI (by omega) (by omega), fun h10 e => ?_⟩
  have e2 : h10 0 kf = nI g.1 := by
    rw [e, up2_other _ _ _ (fun z => hc z.symm), up2_other _ _ _ (fun z => hc z.symm)]; exact hL.2.1
  rw [e2, nI_1, up2_row _ 0 kf 0 kf, if_pos ⟨rfl, rfl⟩]
  refine hQ _ (fun c h1 h2 => ?_) (fun i hi => ?_) ⟨snoc_ok hL.1 hn hj hl, ?_, fun i hi => ?_⟩
  · rw [up2_other _ _ _ h1, e, up2_other _ _ _ h2, up2_other _ _ _ h2]
  · rw [up2_row, if_neg (fun z => hi z.2), e, up2_other _ _ _ (fun z => hc z.symm), up2_other _ _ _ (fun z => hc z.symm)]
  · rw [up2_row, if_pos ⟨rfl, rfl⟩]; rfl
  · have hi' : i < g.1 + 1 := hi
    show _ = nI (if i = g.1 then j else g.2.1 i) ∧ _ = nI (if i = g.1 then l else g.2.2 i)
    rw [up2_other _ _ _ hc, e, up2_row, up2_row, up2_row, up2_row]
    by_cases q : i = g.1
    · subst q
      rw [if_neg (by omega), if_pos ⟨rfl, rfl⟩, if_pos rfl, if_pos ⟨rfl, rfl⟩, if_pos rfl]; exact ⟨rfl, rfl⟩
    · rw [if_neg (by omega), if_neg (by omega), if_neg q, if_neg (by omega), if_neg (by omega), if_neg q]; exact hL.2.2 i (by omega)
end Logs
theorem two_c (v1 v2 : Int32) (n m : Nat) : (∃ j k, j < n ∧ k < m ∧ v1 = nI j ∧ v2 = nI k) ∨ ((∀ j, j < n → v1 ≠ nI j) ∨ ∀ j, j < m → v2 ≠ nI j) := by
  by_cases q : ∃ j, j < n ∧ v1 = nI j
  · by_cases q2 : ∃ j, j < m ∧ v2 = nI j
    · obtain ⟨j, hj, e⟩ := q
      obtain ⟨k, hk, e2⟩ := q2
      exact Or.inl ⟨j, k, hj, hk, e, e2⟩
    · exact Or.inr (Or.inr fun j hj ej => q2 ⟨j, hj, ej⟩)
  · exact Or.inr (Or.inl fun j hj ej => q ⟨j, hj, ej⟩)
theorem one_c (v1 : Int32) (n : Nat) : (∃ j, j < n ∧ v1 = nI j) ∨ ∀ j, j < n → v1 ≠ nI j := by
  by_cases q : ∃ j, j < n ∧ v1 = nI j
  · exact Or.inl q
  · exact Or.inr fun j hj ej => q ⟨j, hj, ej⟩
theorem ML.keep {kc kf : Nat} {g : LG} {y y' : Mem} (h : ML kc kf g y) (h1 : y' kc = y kc) (h2 : y' 0 kf = y 0 kf) : ML kc kf g y' := by
  unfold ML; rw [h1, h2]; exact h
theorem st_trial : s_trial Rel := by
  intro x xl y h v1 v2
  obtain ⟨n0, n1, t, b, s, hX, hY⟩ := h.1
  have ht := hX.2.2.1.1
  have hb := hX.2.2.1.2.1
  unfold p_X9_trial
  rcases two_c v1 v2 30 12 with ⟨j, k, hj, hk, e1, e2⟩ | e
  · subst e1 e2
    by_cases hf : t.1 = 12
    · refine X_tellF ht hf hj hk ?_
      unfold p_X10_trial
      exact two_y d_year (d_in (hi := 11) 12 (by omega) (by decide)) hj hk ⟨fun _ => ⟨rfl, h⟩, fun z => absurd (M_logF hY.2.2.1 hf) z⟩
    · have hn : t.1 < 12 := by have := ht.1.1; omega
      refine X_tellY ht hn hj hk (X_log_put ht hn hj hk fun x1 f1 L1 => X_retell (t := snoc t j k) (b := b) (Or.inl rfl) L1 (hb.f (f1 24 (by omega) (by omega) (by omega)) (f1 25 (by omega) (by omega) (by omega)) (f1 26 (by omega) (by omega) (by omega))) fun x2 f2 R2 => ?_)
      have L2 : XL 21 (snoc t j k) x2 := L1.f (f2.1 21 (by omega) (by omega)) (f2.1 22 (by omega) (by omega)) (f2.1 23 (by omega) (by omega))
      rw [L2.2.1]
      unfold p_X10_trial
      refine two_y d_year (d_in (hi := 11) 12 (by omega) (by decide)) hj hk ⟨fun z => absurd z (M_logN hY.2.2.1 hn), fun _ => M_log_put (Qp := fun r2 y1 => nI (snoc t j k).1 = r2 ∧ Rel x2 xl y1) hY.2.2.1 (by omega) hn hj hk fun y1 g1 g2 ML1 => ⟨rfl, ?_⟩⟩
      refine Rel_log h hX hY (fun k hk => (f2.1 k (by omega) (by omega)).trans (f1 k (by omega) (by omega) (by omega))) L2 (hb.f ((f2.1 24 (by omega) (by omega)).trans (f1 24 (by omega) (by omega) (by omega))) ((f2.1 25 (by omega) (by omega)).trans (f1 25 (by omega) (by omega) (by omega))) ((f2.1 26 (by omega) (by omega)).trans (f1 26 (by omega) (by omega) (by omega)))) R2 (fun k a0 a1 a2 => g1 k a0 a1) (fun j a1 a2 => g2 j a1) ML1 (hY.2.2.2.1.keep (g1 11 (by omega) (by omega)) (g2 13 (by omega)))
  · unfold p_X9_tell
    refine two_n (d_within 30 (by omega)) (d_within 12 (by omega)) e ?_
    unfold p_X10_trial
    exact two_n d_year (d_in (hi := 11) 12 (by omega) (by decide)) e ⟨rfl, h⟩
theorem st_breach : s_breach Rel := by
  intro x xl y h v1 v2
  obtain ⟨n0, n1, t, b, s, hX, hY⟩ := h.1
  have ht := hX.2.2.1.1
  have hb := hX.2.2.1.2.1
  unfold p_X9_breach
  rcases two_c v1 v2 30 12 with ⟨j, k, hj, hk, e1, e2⟩ | e
  · subst e1 e2
    by_cases hf : b.1 = 12
    · refine X_tellF hb hf hj hk ?_
      unfold p_X10_breach
      exact two_y d_year (d_in (hi := 11) 12 (by omega) (by decide)) hj hk ⟨fun _ => ⟨rfl, h⟩, fun z => absurd (M_logF hY.2.2.2.1 hf) z⟩
    · have hn : b.1 < 12 := by have := hb.1.1; omega
      refine X_tellY hb hn hj hk (X_log_put hb hn hj hk fun x1 f1 L1 => X_retell (t := t) (b := snoc b j k) (Or.inl rfl) (ht.f (f1 21 (by omega) (by omega) (by omega)) (f1 22 (by omega) (by omega) (by omega)) (f1 23 (by omega) (by omega) (by omega))) L1 fun x2 f2 R2 => ?_)
      have L2 : XL 24 (snoc b j k) x2 := L1.f (f2.1 24 (by omega) (by omega)) (f2.1 25 (by omega) (by omega)) (f2.1 26 (by omega) (by omega))
      rw [L2.2.1]
      unfold p_X10_breach
      refine two_y d_year (d_in (hi := 11) 12 (by omega) (by decide)) hj hk ⟨fun z => absurd z (M_logN hY.2.2.2.1 hn), fun _ => M_log_put (Qp := fun r2 y1 => nI (snoc b j k).1 = r2 ∧ Rel x2 xl y1) hY.2.2.2.1 (by omega) hn hj hk fun y1 g1 g2 ML1 => ⟨rfl, ?_⟩⟩
      refine Rel_log h hX hY (fun k hk => (f2.1 k (by omega) (by omega)).trans (f1 k (by omega) (by omega) (by omega))) (ht.f ((f2.1 21 (by omega) (by omega)).trans (f1 21 (by omega) (by omega) (by omega))) ((f2.1 22 (by omega) (by omega)).trans (f1 22 (by omega) (by omega) (by omega))) ((f2.1 23 (by omega) (by omega)).trans (f1 23 (by omega) (by omega) (by omega)))) L2 R2 (fun k a0 a1 a2 => g1 k a0 a2) (fun j a1 a2 => g2 j a2) (hY.2.2.1.keep (g1 10 (by omega) (by omega)) (g2 11 (by omega))) ML1
  · unfold p_X9_tell
    refine two_n (d_within 30 (by omega)) (d_within 12 (by omega)) e ?_
    unfold p_X10_breach
    exact two_n d_year (d_in (hi := 11) 12 (by omega) (by decide)) e ⟨rfl, h⟩
theorem XL.init {k n : Nat} {g : LG} {x x' : Mem} (h : XL k g x) (hn : g.1 = n + 1) (h0 : x' k 2 = nI n) (h1 : x' (k + 1) = x (k + 1)) (h2 : x' (k + 2) = x (k + 2)) : XL k (init g) x' := by
  refine ⟨init_ok h.1, ?_, fun i hi => ?_⟩
  · rw [h0]; show nI n = nI (g.1 - 1); rw [hn]; rfl
  · rw [h1, h2]; exact h.2.2 i (by have : i < g.1 - 1 := hi; omega)
theorem ML.init {kc kf n : Nat} {g : LG} {y y' : Mem} (h : ML kc kf g y) (hn : g.1 = n + 1) (h0 : y' 0 kf = nI n) (h1 : y' kc = y kc) : ML kc kf (init g) y' := by
  refine ⟨init_ok h.1, ?_, fun i hi => ?_⟩
  · rw [h0]; show nI n = nI (g.1 - 1); rw [hn]; rfl
  · rw [h1]; exact h.2.2 i (by have : i < g.1 - 1 := hi; omega)
theorem st_back : s_back Rel := by
  intro x xl y h v1
  obtain ⟨n0, n1, t, b, s, hX, hY⟩ := h.1
  have ht := hX.2.2.1.1
  have hb := hX.2.2.1.2.1
  have mt := hY.2.2.1
  have mb := hY.2.2.2.1
  have t12 := ht.1.1
  have b12 := hb.1.1
  unfold p_X9_back
  rcases one_c v1 2 with ⟨j, hj, e1⟩ | e
  · subst e1
    refine one_y (d_within 2 (by omega)) hj ?_
    unfold b_X9_back_26
    obtain rfl | rfl : j = 0 ∨ j = 1 := by omega
    · rw [if_pos (show nI 0 = (0 : Int32) from rfl), ht.2.1]
      refine ⟨fun z => ?_, fun z => ?_⟩
      · unfold p_X10_back
        refine one_y d_two hj ?_
        unfold b_X10_back_25
        rw [if_pos (show nI 0 = (0 : Int32) from rfl), mt.2.1]
        exact ⟨fun _ => ⟨rfl, h⟩, fun w => absurd z w⟩
      · obtain ⟨n, hn⟩ : ∃ n, t.1 = n + 1 := ⟨t.1 - 1, by have : t.1 ≠ 0 := fun w => z (by rw [w]; rfl); omega⟩
        rw [hn, nI_pred]
        refine X_retell (t := init t) (b := b) (Or.inl rfl) (ht.init hn (by rw [up2_row, if_pos ⟨rfl, rfl⟩]) (up2_other _ _ _ (by omega)) (up2_other _ _ _ (by omega))) (hb.f (up2_other _ _ _ (by omega)) (up2_other _ _ _ (by omega)) (up2_other _ _ _ (by omega))) fun x2 f2 R2 => ?_
        rw [f2.1 21 (by omega) (by omega), up2_row, if_pos ⟨rfl, rfl⟩]
        unfold p_X10_back
        refine one_y d_two hj ?_
        unfold b_X10_back_25 b_X10_back_47
        rw [if_pos (show nI 0 = (0 : Int32) from rfl), if_pos (show nI 0 = (0 : Int32) from rfl), mt.2.1, hn, nI_pred]
        refine ⟨fun w => absurd w (nI_ne0 (by omega) (by omega)), fun _ => ⟨rfl, ?_⟩⟩
        have y11 : (up2 (up2 y 0 11 (nI n)) 0 13 ((up2 y 0 11 (nI n)) 0 13 - nI 0)) 0 11 = nI n := by rw [up2_row, if_neg (by omega), up2_row, if_pos ⟨rfl, rfl⟩]
        have y13 : (up2 (up2 y 0 11 (nI n)) 0 13 ((up2 y 0 11 (nI n)) 0 13 - nI 0)) 0 13 = y 0 13 := by rw [up2_row, if_pos ⟨rfl, rfl⟩, up2_row, if_neg (by omega), mb.2.1, pk_sub (by omega)]; rfl
        refine Rel_log (t' := init t) (b' := b) h hX hY (fun k hk => (f2.1 k (by omega) (by omega)).trans (up2_other _ _ _ (by omega))) (ht.init hn (by rw [f2.1 21 (by omega) (by omega), up2_row, if_pos ⟨rfl, rfl⟩]) ((f2.1 22 (by omega) (by omega)).trans (up2_other _ _ _ (by omega))) ((f2.1 23 (by omega) (by omega)).trans (up2_other _ _ _ (by omega)))) (hb.f ((f2.1 24 (by omega) (by omega)).trans (up2_other _ _ _ (by omega))) ((f2.1 25 (by omega) (by omega)).trans (up2_other _ _ _ (by omega))) ((f2.1 26 (by omega) (by omega)).trans (up2_other _ _ _ (by omega)))) R2 (fun k a0 a1 a2 => by rw [up2_other _ _ _ a0, up2_other _ _ _ a0]) (fun j a1 a2 => by rw [up2_row, if_neg (fun z => a2 z.2), up2_row, if_neg (fun z => a1 z.2)]) (mt.init hn y11 (by rw [up2_other _ _ _ (by omega), up2_other _ _ _ (by omega)])) (mb.keep (by rw [up2_other _ _ _ (by omega), up2_other _ _ _ (by omega)]) y13)
    · rw [if_neg (show ¬ nI 1 = (0 : Int32) by decide), hb.2.1]
      refine ⟨fun z => ?_, fun z => ?_⟩
      · unfold p_X10_back
        refine one_y d_two hj ?_
        unfold b_X10_back_25
        rw [if_neg (show ¬ nI 1 = (0 : Int32) by decide), mb.2.1]
        exact ⟨fun _ => ⟨rfl, h⟩, fun w => absurd z w⟩
      · obtain ⟨n, hn⟩ : ∃ n, b.1 = n + 1 := ⟨b.1 - 1, by have : b.1 ≠ 0 := fun w => z (by rw [w]; rfl); omega⟩
        rw [hn, nI_pred]
        refine X_retell (t := t) (b := init b) (Or.inl rfl) (ht.f (up2_other _ _ _ (by omega)) (up2_other _ _ _ (by omega)) (up2_other _ _ _ (by omega))) (hb.init hn (by rw [up2_row, if_pos ⟨rfl, rfl⟩]) (up2_other _ _ _ (by omega)) (up2_other _ _ _ (by omega))) fun x2 f2 R2 => ?_
        rw [f2.1 24 (by omega) (by omega), up2_row, if_pos ⟨rfl, rfl⟩]
        unfold p_X10_back
        refine one_y d_two hj ?_
        unfold b_X10_back_25 b_X10_back_47
        rw [if_neg (show ¬ nI 1 = (0 : Int32) by decide), if_neg (show ¬ nI 1 = (0 : Int32) by decide), mb.2.1, hn, nI_pred]
        refine ⟨fun w => absurd w (nI_ne0 (by omega) (by omega)), fun _ => ⟨rfl, ?_⟩⟩
        have y11 : (up2 (up2 y 0 11 (y 0 11 - 0)) 0 13 ((up2 y 0 11 (y 0 11 - 0)) 0 13 - nI 1)) 0 11 = y 0 11 := by rw [up2_row, if_neg (by omega), up2_row, if_pos ⟨rfl, rfl⟩, mt.2.1, show (0 : Int32) = nI 0 from rfl, pk_sub (by omega)]; rfl
        have y13 : (up2 (up2 y 0 11 (y 0 11 - 0)) 0 13 ((up2 y 0 11 (y 0 11 - 0)) 0 13 - nI 1)) 0 13 = nI n := by rw [up2_row, if_pos ⟨rfl, rfl⟩, up2_row, if_neg (by omega), mb.2.1, hn]; exact nI_pred n
        refine Rel_log (t' := t) (b' := init b) h hX hY (fun k hk => (f2.1 k (by omega) (by omega)).trans (up2_other _ _ _ (by omega))) (ht.f ((f2.1 21 (by omega) (by omega)).trans (up2_other _ _ _ (by omega))) ((f2.1 22 (by omega) (by omega)).trans (up2_other _ _ _ (by omega))) ((f2.1 23 (by omega) (by omega)).trans (up2_other _ _ _ (by omega)))) (hb.init hn (by rw [f2.1 24 (by omega) (by omega), up2_row, if_pos ⟨rfl, rfl⟩]) ((f2.1 25 (by omega) (by omega)).trans (up2_other _ _ _ (by omega))) ((f2.1 26 (by omega) (by omega)).trans (up2_other _ _ _ (by omega)))) R2 (fun k a0 a1 a2 => by rw [up2_other _ _ _ a0, up2_other _ _ _ a0]) (fun j a1 a2 => by rw [up2_row, if_neg (fun z => a2 z.2), up2_row, if_neg (fun z => a1 z.2)]) (mt.keep (by rw [up2_other _ _ _ (by omega), up2_other _ _ _ (by omega)]) y11) (mb.init hn y13 (by rw [up2_other _ _ _ (by omega), up2_other _ _ _ (by omega)]))
  · refine one_n (d_within 2 (by omega)) e ?_
    unfold p_X10_back
    exact one_n d_two e ⟨rfl, h⟩
