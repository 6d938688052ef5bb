/-! STEPS: what is seen, what is forgotten, what is read from a sheet -/
def okS (s : LG) (v1 v2 : Int32) : Bool := ran v1 24 && (rad v2 6 && decide (s.1 < 8))
def nwS (s : LG) (v1 v2 : Int32) : LG := if okS s v1 v2 = true then snoc s v1.toNatClampNeg (v2 + 1).toNatClampNeg else s
def aSe (s : LG) (v1 v2 : Int32) : Int32 := if (ran v1 24 && rad v2 6) = true then (if s.1 < 8 then nI (s.1 + 1) else -4) else -2
def FrS (y y' : Mem) : Prop := (∀ k, k ≠ 0 → k ≠ 17 → y' k = y k) ∧ ∀ j, j ≠ 21 → y' 0 j = y 0 j
theorem FrS.rf (y : Mem) : FrS y y := ⟨fun _ _ _ => rfl, fun _ _ => rfl⟩
theorem FrS.tr {y y' y2 : Mem} (a : FrS y y') (b : FrS y' y2) : FrS y y2 := ⟨fun k h1 h2 => (b.1 k h1 h2).trans (a.1 k h1 h2), fun j h1 => (b.2 j h1).trans (a.2 j h1)⟩
theorem RY.s {b0 b1 : Nat → Int32} {n0 n1 : Nat} {t b s s' : LG} {y y' : Mem} (h : RY b0 n0 b1 n1 t b s y) (f : FrS y y') (hs : SY s' y') : RY b0 n0 b1 n1 t b s' y' := by
  refine ⟨?_, ?_, h.2.2.1.keep (f.1 10 (by omega) (by omega)) (f.2 11 (by omega)), h.2.2.2.1.keep (f.1 11 (by omega) (by omega)) (f.2 13 (by omega)), hs⟩
  · unfold TX; rw [f.1 6 (by omega) (by omega), f.1 5 (by omega) (by omega)]; exact h.1
  · unfold TX; rw [f.1 6 (by omega) (by omega), f.1 5 (by omega) (by omega)]; exact h.2.1
theorem Rel.m {x g y y' : Mem} {xl xl' : MemL} {n0 n1 : Nat} {t b s : LG} (h : Rel x xl y) (hX : RX n0 n1 t b s g) (hY : RY (x 2) n0 (x 5) n1 t b s y') (hF : FX x g) (h1 : y' 1 = y 1) (h2 : y' 2 = y 2) (h3 : y' 3 = y 3) (h4 : y' 0 4 = y 0 4) : Rel g xl' y' := by
  refine ⟨⟨n0, n1, t, b, s, hX, ?_⟩, h.2.1.q hF.2.2.2 h1 h2 h3, ?_⟩
  · rw [hF.1, hF.2.1]; exact hY
  · rw [hF.2.2.1, h4]; exact h.2.2
theorem Rel.s {x g y y' : Mem} {xl xl' : MemL} {n0 n1 : Nat} {t b s s' : LG} (h : Rel x xl y) (hY : RY (x 2) n0 (x 5) n1 t b s y) (hX : RX n0 n1 t b s' g) (hF : FX x g) (f : FrS y y') (hs : SY s' y') : Rel g xl' y' :=
  h.m hX (hY.s f hs) hF (f.1 1 (by omega) (by omega)) (f.1 2 (by omega) (by omega)) (f.1 3 (by omega) (by omega)) (f.2 4 (by omega))
/-- another row of what was seen: the program's cells 35 (2, 3), 36, 37 -/
theorem RX.s {n0 n1 : Nat} {t b s s' : LG} {x g : Mem} (h : RX n0 n1 t b s x) (f : ∀ k, k ≠ 35 → k ≠ 36 → k ≠ 37 → g k = x k) (hs : SX s' g) (h3 : g 35 3 = 1) : RX n0 n1 t b s' g := by
  obtain ⟨a1, a2, ⟨a3, a4, a5⟩, a6, a7, a8⟩ := h
  have e : ∀ k, k < 35 → g k = x k := fun k hk => f k (by omega) (by omega) (by omega)
  refine ⟨?_, ?_, ⟨a3.f (e 21 (by omega)) (e 22 (by omega)) (e 23 (by omega)), a4.f (e 24 (by omega)) (e 25 (by omega)) (e 26 (by omega)), a5.f (e 27 (by omega)) (e 28 (by omega))⟩, hs, ?_, ?_⟩
  · rw [e 1 (by omega), e 4 (by omega)]; exact a1
  · rw [e 1 (by omega), e 4 (by omega)]; exact a2
  · rw [f 39 (by omega) (by omega) (by omega)]; exact a7
  · rw [e 0 (by omega), e 2 (by omega), e 5 (by omega)]
    exact fun z => ⟨(a8 z).1.f (fun k _ hk => e k (by omega)), fun w => absurd (h3.symm.trans w) (by decide)⟩
theorem FX.s {x g : Mem} (f : ∀ k, k ≠ 35 → k ≠ 36 → k ≠ 37 → g k = x k) : FX x g := ⟨f 2 (by omega) (by omega) (by omega), f 5 (by omega) (by omega) (by omega), by rw [f 0 (by omega) (by omega) (by omega)], fun k hk => f k (by omega) (by omega) (by omega)⟩
theorem sok_snoc {s : LG} {j w : Nat} (h : sok s) (hn : s.1 < 8) (hj : j < 24) (hw : w ≤ 6) : sok (snoc s j w) := by
  refine ⟨by show s.1 + 1 ≤ 8; omega, fun i hi => ?_⟩
  show (if i = s.1 then j else s.2.1 i) < 24 ∧ (if i = s.1 then w else s.2.2 i) ≤ 6
  have hi' : i < s.1 + 1 := hi
  by_cases e : i = s.1
  · rw [if_pos e, if_pos e]; exact ⟨hj, hw⟩
  · rw [if_neg e, if_neg e]; exact h.2 i (by omega)
theorem okS_y {s : LG} {j w : Nat} (hj : j < 24) (hw : w ≤ 6) (hn : s.1 < 8) : okS s (nI j) (dI w) = true ∧ nwS s (nI j) (dI w) = snoc s j w ∧ aSe s (nI j) (dI w) = nI (s.1 + 1) := by
  have e : okS s (nI j) (dI w) = true := by
    unfold okS
    rw [ran_y hj (by omega), rad_y hw (by omega), decide_eq_true hn]; rfl
  refine ⟨e, ?_, ?_⟩
  · unfold nwS
    rw [if_pos e, dI_1, nI_clamp (by omega), nI_clamp (by omega)]
  · unfold aSe
    rw [ran_y hj (by omega), rad_y hw (by omega), if_pos (show (true && true) = true from rfl), if_pos hn]
theorem okS_f {s : LG} {j w : Nat} (hj : j < 24) (hw : w ≤ 6) (hn : ¬ s.1 < 8) : okS s (nI j) (dI w) = false ∧ nwS s (nI j) (dI w) = s ∧ aSe s (nI j) (dI w) = -4 := by
  have e : okS s (nI j) (dI w) = false := by
    unfold okS
    rw [decide_eq_false hn, Bool.and_false, Bool.and_false]
  refine ⟨e, ?_, ?_⟩
  · unfold nwS
    rw [e]; rfl
  · unfold aSe
    rw [ran_y hj (by omega), rad_y hw (by omega), if_pos (show (true && true) = true from rfl), if_neg hn]
theorem okS_n {s : LG} {v1 v2 : Int32} (h : ran v1 24 = false ∨ rad v2 6 = false) : okS s v1 v2 = false ∧ nwS s v1 v2 = s ∧ aSe s v1 v2 = -2 := by
  have e : okS s v1 v2 = false ∧ (ran v1 24 && rad v2 6) = false := by
    unfold okS
    rcases h with h | h
    · rw [h]; exact ⟨rfl, rfl⟩
    · rw [h, Bool.false_and, Bool.and_false]; exact ⟨rfl, rfl⟩
  refine ⟨e.1, ?_, ?_⟩
  · unfold nwS
    rw [e.1]; rfl
  · unfold aSe
    rw [e.2]; rfl
section Seen
variable {n0 n1 : Nat} {b0 b1 : Nat → Int32} {t b s : LG} {x y : Mem} {v1 v2 : Int32} {Qp : Int32 → Mem → Prop}
theorem X_seen (hR : RX n0 n1 t b s x) (hQ : ∀ g, RX n0 n1 t b (nwS s v1 v2) g → FX x g → Qp (aSe s v1 v2) g) : p_X9_seen x v1 v2 Qp := by
  have bad : (ran v1 24 = false ∨ rad v2 6 = false) → Qp (-2 : Int32) x := fun e => by
    obtain ⟨-, e1, e2⟩ := okS_n (s := s) e
    rw [e1, e2] at hQ
    exact hQ x hR (FX.rf x)
  have hs := hR.2.2.2.1
  have h8 := hs.1.1
  unfold p_X9_seen
  refine one (d_within 24 (by omega)) (fun e => bad (Or.inl (ran_n e))) (fun j hj e1 => oneD d_deedX (fun e => bad (Or.inr (rad_n e))) (fun w hw e2 => ?_))
  subst e1 e2
  unfold p_X2_isFull
  rw [hs.2.1]
  by_cases hn : s.1 < 8
  · obtain ⟨-, e1, e2⟩ := okS_y hj hw hn
    rw [e1, e2] at hQ
    rw [if_pos (show nI s.1 < (8 : Int32) from nI_lt (b := 8) hn (by omega))]
    refine ⟨fun _ => ?_, fun z => absurd rfl z⟩
    unfold p_X2_append
    rw [hs.2.1]
    refine ⟨fun z => absurd z (nI_ge (a := s.1) (b := 8) hn (by omega)), fun _ => ⟨vp_in_nI hn (by omega), ?_⟩⟩
    rw [up2_other _ _ _ (show 35 ≠ 36 by omega), hs.2.1, nI_clamp (by omega)]
    refine ⟨vp_in_nI hn (by omega), fun h4 e => ?_⟩
    rw [up2_other _ _ _ (show 35 ≠ 37 by omega), up2_other _ _ _ (show 35 ≠ 36 by omega), hs.2.1, nI_1] at e
    have f : ∀ k, k ≠ 35 → k ≠ 36 → k ≠ 37 → up2 h4 35 3 (1 : Int32) k = x k := fun k a1 a2 a3 => by
      rw [up2_other _ _ _ a1, e, up2_other _ _ _ a1, up2_other _ _ _ a3, up2_other _ _ _ a2]
    have g2 : up2 h4 35 3 (1 : Int32) 35 2 = nI (s.1 + 1) := by rw [up2_row, if_neg (by omega), e, up2_row, if_pos ⟨rfl, rfl⟩]
    have hS : SX (snoc s j w) (up2 h4 35 3 (1 : Int32)) := by
      refine ⟨sok_snoc hs.1 hn hj hw, g2, fun i hi => ?_⟩
      have hi' : i < s.1 + 1 := hi
      show _ = nI (if i = s.1 then j else s.2.1 i) ∧ _ = dI (if i = s.1 then w else s.2.2 i)
      rw [up2_other _ _ _ (show 36 ≠ 35 by omega), up2_other _ _ _ (show 37 ≠ 35 by omega), e, up2_other _ _ _ (show 36 ≠ 35 by omega), up2_other _ _ _ (show 37 ≠ 35 by omega), up2_other _ _ _ (show 36 ≠ 37 by omega), up2_row, up2_row, up2_other _ _ _ (show 37 ≠ 36 by omega)]
      by_cases q : i = s.1
      · rw [if_pos ⟨rfl, q⟩, if_pos q, if_pos ⟨rfl, q⟩, if_pos q]; exact ⟨rfl, rfl⟩
      · rw [if_neg (fun z => q z.2), if_neg q, if_neg (fun z => q z.2), if_neg q]; exact hs.2.2 i (by omega)
    show Qp (up2 h4 35 3 (1 : Int32) 35 2) _
    rw [g2]
    exact hQ _ (hR.s f hS (by rw [up2_row, if_pos ⟨rfl, rfl⟩])) (FX.s f)
  · obtain ⟨-, e1, e2⟩ := okS_f hj hw hn
    rw [e1, e2] at hQ
    rw [if_neg (show ¬ nI s.1 < (8 : Int32) from nI_nlt (b := 8) (by omega) (by omega))]
    exact ⟨fun z => absurd z (by decide), fun _ => hQ x hR (FX.rf x)⟩
theorem M_seen (hs0 : sok s) (hR : SY s y) (hQ : ∀ y', FrS y y' → SY (nwS s v1 v2) y' → Qp (aSe s v1 v2) y') : p_X10_seen y v1 v2 Qp := by
  have bad : (ran v1 24 = false ∨ rad v2 6 = false) → Qp (-2 : Int32) y := fun e => by
    obtain ⟨-, e1, e2⟩ := okS_n (s := s) e
    rw [e1, e2] at hQ
    exact hQ y (FrS.rf y) hR
  have h8 := hs0.1
  unfold p_X10_seen
  refine one d_hour (fun e => bad (Or.inl (ran_n e))) (fun j hj e1 => oneD (d_deedM (hi := 5) 6 (by omega) (by decide)) (fun e => bad (Or.inr (rad_n e))) (fun w hw e2 => ?_))
  subst e1 e2
  rw [up2_other _ _ _ (show 0 ≠ 17 by omega), hR.1]
  by_cases hn : s.1 < 8
  · obtain ⟨-, e1, e2⟩ := okS_y hj hw hn
    rw [e1, e2] at hQ
    refine ⟨fun z => absurd ((nI_eq (b := 8) (by omega) (by omega)).mp z) (by omega), fun _ => ?_⟩
    rw [show (2 : Int32) = nI 2 from rfl, pk_mul, nI_1, nI_clamp (by omega), nI_clamp (by omega)]
    refine ⟨vp_in_nI (by omega) (by omega), vp_in_nI (by omega) (by omega), fun h10 e => ?_⟩
    have e3 : h10 0 21 = nI s.1 := by rw [e, up2_other _ _ _ (show 0 ≠ 17 by omega), up2_other _ _ _ (show 0 ≠ 17 by omega)]; exact hR.1
    rw [e3, nI_1, up2_row _ 0 21 0 21, if_pos ⟨rfl, rfl⟩]
    refine hQ _ ⟨fun k a1 a2 => by rw [up2_other _ _ _ a1, e, up2_other _ _ _ a2, up2_other _ _ _ a2], fun i hi => by rw [up2_row, if_neg (fun z => hi z.2), e, up2_other _ _ _ (show 0 ≠ 17 by omega), up2_other _ _ _ (show 0 ≠ 17 by omega)]⟩ ⟨by rw [up2_row, if_pos ⟨rfl, rfl⟩]; rfl, fun i hi => ?_⟩
    have hi' : i < s.1 + 1 := hi
    show _ = nI (if i = s.1 then j else s.2.1 i) ∧ _ = dI (if i = s.1 then w else s.2.2 i)
    rw [up2_other _ _ _ (show 17 ≠ 0 by omega), e, up2_row, up2_row, up2_row, up2_row]
    by_cases q : i = s.1
    · subst q
      rw [if_neg (by omega), if_pos ⟨rfl, rfl⟩, if_pos rfl, if_pos ⟨rfl, rfl⟩, if_pos rfl]; exact ⟨rfl, rfl⟩
    · rw [if_neg (by omega), if_neg (by omega), if_neg q, if_neg (by omega), if_neg (by omega), if_neg q]; exact hR.2 i (by omega)
  · obtain ⟨-, e1, e2⟩ := okS_f hj hw hn
    rw [e1, e2] at hQ
    refine ⟨fun _ => hQ y (FrS.rf y) hR, fun z => absurd (show nI s.1 = (8 : Int32) by rw [show s.1 = 8 by omega]; rfl) z⟩
theorem st_seen : s_seen Rel := by
  intro x xl y h v1 v2
  obtain ⟨n0, n1, t, b, s, hX, hY⟩ := h.1
  exact X_seen hX fun g h1 h2 => M_seen hX.2.2.2.1.1 hY.2.2.2.2 fun y' f hs => ⟨rfl, h.s hY h1 h2 f hs⟩
theorem st_forget : s_forget Rel := by
  intro x xl y h
  obtain ⟨n0, n1, t, b, s, hX, hY⟩ := h.1
  have hs := hX.2.2.2.1
  unfold p_X9_forget p_X2_clear p_X10_forget
  rw [hs.2.1, hY.2.2.2.2.1]
  have f : ∀ k, k ≠ 35 → k ≠ 36 → k ≠ 37 → up2 (up2 x 35 2 (0 : Int32)) 35 3 (1 : Int32) k = x k := fun k a1 _ _ => by rw [up2_other _ _ _ a1, up2_other _ _ _ a1]
  refine ⟨rfl, h.s (s' := (0, s.2)) hY (hX.s f ⟨⟨Nat.zero_le _, fun i hi => absurd hi (Nat.not_lt_zero i)⟩, by rw [up2_row, if_neg (by omega), up2_row, if_pos ⟨rfl, rfl⟩]; rfl, fun i hi => absurd hi (Nat.not_lt_zero i)⟩ (by rw [up2_row, if_pos ⟨rfl, rfl⟩])) (FX.s f) ⟨fun k a0 _ => up2_other _ _ _ a0, fun j hj => by rw [up2_row, if_neg (fun z => hj z.2)]⟩ ⟨by rw [up2_row, if_pos ⟨rfl, rfl⟩]; rfl, fun i hi => absurd hi (Nat.not_lt_zero i)⟩⟩
end Seen
/-- items, two for each: how many, what is seen then -/
def rdF (its : Nat → Int32) : Nat → Nat → LG → Nat × LG
  | 0, m, s => (m, s)
  | r + 1, m, s => if okS s (its (2 * m)) (its (2 * m + 1)) = true then rdF its r (m + 1) (nwS s (its (2 * m)) (its (2 * m + 1))) else (m, s)
theorem aSe_pos {s : LG} {v1 v2 : Int32} (h : sok s) : (okS s v1 v2 = true → 0 ≤ aSe s v1 v2 ∧ sok (nwS s v1 v2)) ∧ (okS s v1 v2 = false → ¬ 0 ≤ aSe s v1 v2 ∧ nwS s v1 v2 = s) := by
  have h8 := h.1
  rcases one_c v1 24 with ⟨j, hj, e1⟩ | e
  · by_cases q : ∃ w, w ≤ 6 ∧ v2 = dI w
    · obtain ⟨w, hw, e2⟩ := q
      subst e1 e2
      by_cases hn : s.1 < 8
      · obtain ⟨a0, a1, a2⟩ := okS_y hj hw hn
        rw [a0, a1, a2]
        exact ⟨fun _ => ⟨nI_pos' (by omega), sok_snoc h hn hj hw⟩, fun z => absurd z (by decide)⟩
      · obtain ⟨a0, a1, a2⟩ := okS_f hj hw hn
        rw [a0, a1, a2]
        exact ⟨fun z => absurd z (by decide), fun _ => ⟨by decide, rfl⟩⟩
    · obtain ⟨a0, a1, a2⟩ := okS_n (s := s) (v1 := v1) (v2 := v2) (Or.inr (rad_n fun w hw e => q ⟨w, hw, e⟩))
      rw [a0, a1, a2]
      exact ⟨fun z => absurd z (by decide), fun _ => ⟨by decide, rfl⟩⟩
  · obtain ⟨a0, a1, a2⟩ := okS_n (s := s) (v1 := v1) (v2 := v2) (Or.inl (ran_n e))
    rw [a0, a1, a2]
    exact ⟨fun z => absurd z (by decide), fun _ => ⟨by decide, rfl⟩⟩
section Read
variable {n0 n1 : Nat} {b0 b1 : Nat → Int32} {t b : LG} {Qp : Int32 → Mem → Prop}
theorem X_read_loop {x0 : Mem} {k2 sz : Nat} (hk : 46 < k2) (h2 : x0 k2 2 = nI sz) (hz : sz ≤ 60) : ∀ (r m : Nat) (s : LG) (g : Mem), 2 * (m + r) ≤ sz → sz < 2 * (m + r) + 2 → RX n0 n1 t b s g → FX x0 g → (∀ g', RX n0 n1 t b (rdF (x0 (k2 + 1)) r m s).2 g' → FX x0 g' → Qp (nI (rdF (x0 (k2 + 1)) r m s).1) g') → b_X9_read_36 (r + 1) g k2 (nI m) (nI (2 * m)) Qp := by
  intro r
  induction r with
  | zero =>
    intro m s g h3 h4 hR hF hQ
    rw [b_X9_read_36]; dsimp only
    rw [hF.2.2.2 k2 hk, h2, nI_1]
    exact ⟨fun _ => hQ g hR hF, fun z => absurd (nI_le (by omega) (by omega)) z⟩
  | succ r ih =>
    intro m s g h3 h4 hR hF hQ
    rw [b_X9_read_36]; dsimp only
    rw [hF.2.2.2 k2 hk, hF.2.2.2 (k2 + 1) (by omega), h2, nI_1, nI_clamp (by omega), nI_clamp (by omega)]
    refine ⟨fun z => absurd z (nI_ge (by omega) (by omega)), fun _ => ⟨vp_in_nI (by omega) (by omega), vp_in_nI (by omega) (by omega), X_seen hR fun g' hR' hF' => ?_⟩⟩
    obtain ⟨p1, p2⟩ := aSe_pos (v1 := x0 (k2 + 1) (2 * m)) (v2 := x0 (k2 + 1) (2 * m + 1)) hR.2.2.2.1.1
    rw [rdF] at hQ
    cases ho : okS s (x0 (k2 + 1) (2 * m)) (x0 (k2 + 1) (2 * m + 1)) with
    | true =>
      rw [if_pos ho] at hQ
      refine ⟨fun _ => ?_, fun z => absurd (p1 ho).1 z⟩
      rw [nI_1, show (2 : Int32) = nI 2 from rfl, nI_add]
      exact ih (m + 1) _ g' (by omega) (by omega) hR' (hF.tr hF') hQ
    | false =>
      rw [if_neg (by rw [ho]; decide)] at hQ
      refine ⟨fun z => absurd z (p2 ho).1, fun _ => ?_⟩
      rw [(p2 ho).2] at hR'
      exact hQ g' hR' (hF.tr hF')
theorem M_read_loop {y0 : Mem} {q sz : Nat} {its : Nat → Int32} (hq : q < 4) (h2 : y0 2 q = nI sz) (hz : sz ≤ 60) (hi : ∀ i, i < sz → y0 3 (60 * q + i) = its i) : ∀ (r m : Nat) (s : LG) (y : Mem), 2 * (m + r) ≤ sz → sz < 2 * (m + r) + 2 → sok s → SY s y → FrS y0 y → (∀ y', SY (rdF its r m s).2 y' → FrS y0 y' → Qp (nI (rdF its r m s).1) y') → b_X10_read_29 (r + 2) y (nI q) (nI m) (1 : Int32) Qp := by
  intro r
  induction r with
  | zero =>
    intro m s y h3 h4 hs hY hF hQ
    rw [b_X10_read_29]; dsimp only
    rw [nI_clamp (by omega), hF.1 2 (by omega) (by omega), h2, show (2 : Int32) = nI 2 from rfl, pk_mul, nI_add]
    refine ⟨fun z => absurd z (by decide), fun _ => ⟨vp_in_nI hq (by omega), fun _ => hQ y hY hF, fun z => absurd (nI_lt (by omega) (by omega)) z⟩⟩
  | succ r ih =>
    intro m s y h3 h4 hs hY hF hQ
    rw [b_X10_read_29]; dsimp only
    rw [nI_clamp (show q < 2 ^ 31 by omega), hF.1 2 (by omega) (by omega), hF.1 3 (by omega) (by omega), h2, show (2 : Int32) = nI 2 from rfl, show (60 : Int32) = nI 60 from rfl, pk_mul, pk_mul, nI_add, nI_add, nI_1, nI_clamp (by omega), nI_clamp (by omega), hi (2 * m) (by omega), show 60 * q + 2 * m + 1 = 60 * q + (2 * m + 1) by omega, hi (2 * m + 1) (by omega)]
    refine ⟨fun z => absurd z (by decide), fun _ => ⟨vp_in_nI hq (by omega), fun z => absurd z (nI_nlt (by omega) (by omega)), fun _ => ⟨vp_in_nI (by omega) (by omega), vp_in_nI (by omega) (by omega), M_seen hs hY fun y' hF' hY' => ?_⟩⟩⟩
    obtain ⟨p1, p2⟩ := aSe_pos (v1 := its (2 * m)) (v2 := its (2 * m + 1)) hs
    rw [rdF] at hQ
    unfold b_X10_read_87 b_X10_read_98
    cases ho : okS s (its (2 * m)) (its (2 * m + 1)) with
    | true =>
      rw [if_pos ho] at hQ
      rw [if_neg (Int32.not_lt.mpr (p1 ho).1), if_neg (show ¬ (1 : Int32) = 0 by decide), nI_1]
      exact ih (m + 1) _ y' (by omega) (by omega) (p1 ho).2 hY' (hF.tr hF') hQ
    | false =>
      rw [if_neg (by rw [ho]; decide)] at hQ
      rw [if_pos (Int32.not_le.mp (p2 ho).1), if_pos rfl, show (0 : Int32) = nI 0 from rfl, nI_add]
      rw [(p2 ho).2] at hY'
      rw [b_X10_read_29]; dsimp only
      exact ⟨fun _ => hQ y' hY' (hF.tr hF'), fun z => absurd rfl z⟩
end Read
