/-! STEPS: years by lot, counts, laws, wants, faults -/
section Ask2
variable {n0 n1 : Nat} {b0 b1 : Nat → Int32} {t b s : LG} {x y : Mem} {v1 v2 v3 v4 : Int32} {Qp : Int32 → Mem → Prop}
def drB (c : CD) (s : Int32) (yr k : Nat) : Nat := bindsN c (drN s (kl c) yr).2.1 (drN s (kl c) yr).2.2 29 k
def aYr (c : CD) (v1 v2 v3 : Int32) : Int32 := if kl c ≠ 0 ∧ v2 ≠ 0 ∧ (ran v2 31 && ran v3 2) = true then (if v3.toNatClampNeg = 0 then nI (pop 12 (drB c v1 v2.toNatClampNeg 1)) else nI (joyN c (drB c v1 v2.toNatClampNeg 0))) else -2
theorem aYr_y {c : CD} {j k : Nat} (hc : kl c ≠ 0) (h0 : j ≠ 0) (hj : j < 31) (hk : k < 2) : aYr c v1 (nI j) (nI k) = if k = 0 then nI (pop 12 (drB c v1 j 1)) else nI (joyN c (drB c v1 j 0)) := by
  unfold aYr
  rw [ran_y hj (by omega), ran_y hk (by omega), if_pos ⟨hc, fun e => h0 ((nI_eq0 (by omega)).mp e), rfl⟩, nI_clamp (by omega), nI_clamp (by omega)]
theorem aYr_n {c : CD} (h : kl c = 0 ∨ v2 = 0 ∨ ran v2 31 = false ∨ ran v3 2 = false) : aYr c v1 v2 v3 = -2 := by
  unfold aYr
  refine if_neg fun z => ?_
  rcases h with h | h | h | h
  · exact z.1 h
  · exact z.2.1 h
  · have := z.2.2; rw [h] at this; cases this
  · have := z.2.2; rw [h, Bool.and_false] at this; cases this
theorem X_years (hR : RX n0 n1 t b s x) (hQ : ∀ g, RX n0 n1 t b s g → FX x g → Qp (aYr (cdOf (x 2) n0 (x 5) n1) v1 v2 v3) g) : p_X9_years x v1 v2 v3 Qp := by
  refine X_refresh hR fun g h1 h2 h3 h4 => ?_
  have hk12 := h3.1.1.1.1
  have bad : (kl (cdOf (x 2) n0 (x 5) n1) = 0 ∨ v2 = 0 ∨ ran v2 31 = false ∨ ran v3 2 = false) → Qp (-2 : Int32) g := fun e => by
    have := hQ g h1 h2
    rw [aYr_n e] at this; exact this
  rw [h3.1.1.2.1]
  have r1 : v2 < (1 : Int32) → v2 = 0 ∨ ran v2 31 = false := fun z => by
    by_cases q : ∃ j, j < 31 ∧ v2 = nI j
    · obtain ⟨j, hj, e⟩ := q
      left
      rw [e, show (1 : Int32) = nI 1 from rfl, nI_ltI (by omega) (by omega)] at z
      rw [e, show j = 0 by omega]; rfl
    · right; exact ran_n fun j hj e => q ⟨j, hj, e⟩
  have r2 : (30 : Int32) < v2 → ran v2 31 = false := fun z => ran_n fun j hj e => by
    rw [e, show (30 : Int32) = nI 30 from rfl, nI_ltI (by omega) (by omega)] at z
    omega
  refine ⟨fun z => bad (Or.inl ((nI_eq0 (by omega)).mp z)), fun z => ⟨fun z1 => bad (Or.inr (by rcases r1 z1 with q | q; exact Or.inl q; exact Or.inr (Or.inl q))), fun z1 => ⟨fun z2 => bad (Or.inr (Or.inr (Or.inl (r2 z2)))), fun z2 => one (d_within 2 (by omega)) (fun e => bad (Or.inr (Or.inr (Or.inr (ran_n e))))) (fun k hk e => ?_)⟩⟩⟩
  subst e
  have hn : kl (cdOf (x 2) n0 (x 5) n1) ≠ 0 := fun w => z ((nI_eq0 (by omega)).mpr w)
  obtain ⟨j, hj, e⟩ : ∃ j, j < 31 ∧ v2 = nI j := by
    have p0 : ¬ v2 < 0 := fun w => z1 (Int32.lt_of_lt_of_le w (by decide))
    obtain ⟨j, hj, e⟩ := nI_of p0
    refine ⟨j, ?_, e⟩
    rw [e, show (30 : Int32) = nI 30 from rfl, nI_ltI (by omega) (by omega)] at z2
    omega
  subst e
  have hj0 : j ≠ 0 := fun w => z1 (by rw [w]; decide)
  rw [aYr_y hn hj0 hj hk] at hQ
  unfold drB at hQ
  refine X_draw (s := v1) (by omega) hk12 (by omega) fun g' hf hXR => ?_
  have hXC := h3.1.f (fun k a1 a2 => hf k (by omega) (by omega))
  have f1 : Fr1 g g' := ⟨fun k _ hk => hf k (by omega) (by omega), by rw [hf 0 (by omega) (by omega)]⟩
  have f2 : FX g g' := ⟨hf 2 (by omega) (by omega), hf 5 (by omega) (by omega), by rw [hf 0 (by omega) (by omega)], fun k hk => hf k (by omega) (by omega)⟩
  have hQ := hQ g' (h1.f f1) (h2.tr f2)
  refine ⟨fun z3 => X_bindingOthers (year := 29) hXC hXR (by omega) (X_bitCount (bindsN_lt h3.1.1.1 _ _ _ _) ?_), fun z3 => X_bindingKing (year := 29) hXC hXR (by omega) (X_joyBy hXC (bindsN_lt h3.1.1.1 _ _ _ _) ?_)⟩
  · rw [if_pos ((nI_eq0 (by omega)).mp z3)] at hQ; exact hQ
  · rw [if_neg (fun w => z3 ((nI_eq0 (by omega)).mpr w))] at hQ; exact hQ
theorem M_years (hR : RY b0 n0 b1 n1 t b s y) (hQ : ∀ y', FrQ y y' → Qp (aYr (cdOf b0 n0 b1 n1) v1 v2 v3) y') : p_X10_years y v1 v2 v3 Qp := by
  refine Y_find hR fun y' f hM hRM => ?_
  have hk12 := hM.1.1
  have bad : (kl (cdOf b0 n0 b1 n1) = 0 ∨ v2 = 0 ∨ ran v2 31 = false ∨ ran v3 2 = false) → Qp (-2 : Int32) y' := fun e => by
    have := hQ y' f
    rw [aYr_n e] at this; exact this
  refine M_in32 (lo := 1) (hi := 30) ?_
  by_cases q : (1 : Int32) ≤ v2 ∧ v2 ≤ (30 : Int32)
  · rw [decide_eq_true q.1, decide_eq_true q.2]
    refine ⟨fun z => absurd z (by decide), fun _ => one d_two (fun e => bad (Or.inr (Or.inr (Or.inr (ran_n e))))) (fun k hk e => ?_)⟩
    subst e
    obtain ⟨j, hj, e⟩ : ∃ j, j < 31 ∧ v2 = nI j := by
      have p0 : ¬ v2 < 0 := fun w => absurd (Int32.lt_of_lt_of_le w (by decide)) (Int32.not_lt.mpr q.1)
      obtain ⟨j, hj, e⟩ := nI_of p0
      refine ⟨j, ?_, e⟩
      have q2 := q.2
      rw [e, show (30 : Int32) = nI 30 from rfl, nI_leI (by omega) (by omega)] at q2
      omega
    subst e
    have hj0 : j ≠ 0 := fun w => by rw [w] at q; exact absurd q.1 (by decide)
    rw [show (0 : Int32).toNatClampNeg = 0 by decide, hM.2.1]
    refine ⟨vp_in_nI (n := 0) (by omega) (by omega), fun z => bad (Or.inl ?_), fun z => ?_⟩
    · have := (nI_leI (a := kl (cdOf b0 n0 b1 n1)) (b := 0) (by omega) (by omega)).mp z
      omega
    · have hn : kl (cdOf b0 n0 b1 n1) ≠ 0 := fun w => z (by rw [w]; decide)
      have hR' := hR.q f
      refine M_yearsOf hR'.1 hR'.2.1 hR'.2.2.1 hR'.2.2.2.1 hM (by omega) (by omega) hk fun y2 f2 => ?_
      have := hQ y2 (f.tr f2)
      rw [aYr_y hn hj0 hj hk] at this
      exact this
  · have a3 : (decide ((1 : Int32) ≤ v2) && decide (v2 ≤ (30 : Int32))) = false := by
      rw [Bool.eq_false_iff]
      intro z
      simp only [Bool.and_eq_true, decide_eq_true_eq] at z
      exact q z
    rw [a3]
    refine ⟨fun _ => bad ?_, fun z => absurd rfl z⟩
    by_cases w : ∃ j, j < 31 ∧ v2 = nI j
    · obtain ⟨j, hj, e⟩ := w
      by_cases j0 : j = 0
      · right; left; rw [e, j0]; rfl
      · refine absurd ⟨?_, ?_⟩ q
        · rw [e]; exact nI_le (a := 1) (b := j) (by omega) (by omega)
        · rw [e]; exact nI_le (a := j) (b := 30) (by omega) (by omega)
    · exact Or.inr (Or.inr (Or.inl (ran_n fun j hj e => w ⟨j, hj, e⟩)))
theorem st_years : s_years Rel := by
  intro x xl y h v1 v2 v3
  obtain ⟨n0, n1, t, b, s, hX, hY⟩ := h.1
  exact X_years hX fun g h1 h2 => M_years hY fun y' f => ⟨rfl, h.q hY h1 h2 f⟩
/-! counts -/
def aCt (c : CD) (R : Nat → Nat) (la : Nat → Bool) (n0 n1 nt nb ns : Nat) (fd v : Int32) : Int32 := if v = (0 : Int32) then nI (kl c) else if v = (1 : Int32) then nI (kw c) else if v = (2 : Int32) then nI n0 else if v = (3 : Int32) then nI n1 else if v = (4 : Int32) then nI nt else if v = (5 : Int32) then nI nb else if v = (6 : Int32) then nI ns else if v = (7 : Int32) then nI (pop 12 (bindsN c R la 29 1)) else if v = (8 : Int32) then fd else -2
theorem X_count (hR : RX n0 n1 t b s x) (hQ : ∀ g, RX n0 n1 t b s g → FX x g → Qp (aCt (cdOf (x 2) n0 (x 5) n1) (RT t) (LT t b) n0 n1 t.1 b.1 s.1 (x 0 13) v1) g) : p_X9_count x v1 Qp := by
  refine X_refresh hR fun g h1 h2 h3 h4 => ?_
  have hQ := hQ g h1 h2
  rw [h3.1.1.2.1, h3.2.1.2.2.1, h1.2.1.1, h1.2.1.2.2.1, h1.2.2.1.1.2.1, h1.2.2.1.2.1.2.1, h1.2.2.2.1.2.1, h2.2.2.1]
  unfold aCt at hQ
  refine ⟨fun z => by rw [if_pos z] at hQ; exact hQ, fun z0 => ?_⟩
  rw [if_neg z0] at hQ
  refine ⟨fun z => by rw [if_pos z] at hQ; exact hQ, fun z1 => ?_⟩
  rw [if_neg z1] at hQ
  refine ⟨fun z => by rw [if_pos z] at hQ; exact hQ, fun z2 => ?_⟩
  rw [if_neg z2] at hQ
  refine ⟨fun z => by rw [if_pos z] at hQ; exact hQ, fun z3 => ?_⟩
  rw [if_neg z3] at hQ
  refine ⟨fun z => by rw [if_pos z] at hQ; exact hQ, fun z4 => ?_⟩
  rw [if_neg z4] at hQ
  refine ⟨fun z => by rw [if_pos z] at hQ; exact hQ, fun z5 => ?_⟩
  rw [if_neg z5] at hQ
  refine ⟨fun z => by rw [if_pos z] at hQ; exact hQ, fun z6 => ?_⟩
  rw [if_neg z6] at hQ
  refine ⟨fun z => ?_, fun z7 => ?_⟩
  · rw [if_pos z] at hQ
    exact X_bindingOthers (year := 29) h3.1 h1.2.2.1.2.2 (by omega) (X_bitCount (bindsN_lt h3.1.1.1 _ _ _ _) hQ)
  rw [if_neg z7] at hQ
  refine ⟨fun z => by rw [if_pos z] at hQ; exact hQ, fun z8 => ?_⟩
  rw [if_neg z8] at hQ
  exact hQ
theorem M_count (hR : RY b0 n0 b1 n1 t b s y) (hQ : ∀ y', FrQ y y' → Qp (aCt (cdOf b0 n0 b1 n1) (RT t) (LT t b) n0 n1 t.1 b.1 s.1 (y 0 4) v1) y') : p_X10_count y v1 Qp := by
  refine Y_find hR fun y' f hM hRM => ?_
  have hQ := hQ y' f
  have hR' := hR.q f
  unfold b_X10_count_56 b_X10_count_63
  rw [hR'.2.2.1.2.1, hR'.2.2.2.1.2.1, hR'.2.2.2.2.1, f.2.1]
  unfold aCt at hQ
  refine ⟨fun z => ?_, fun z0 => ?_⟩
  · rw [if_pos z] at hQ
    rw [z, show (0 : Int32).toNatClampNeg = 0 by decide, hM.2.1]
    exact ⟨vp_in_nI (n := 0) (by omega) (by omega), hQ⟩
  rw [if_neg z0] at hQ
  refine ⟨fun z => ?_, fun z1 => ?_⟩
  · rw [if_pos z] at hQ
    rw [z, show (1 : Int32).toNatClampNeg = 1 by decide, hM.2.2.1]
    exact ⟨vp_in_nI (n := 1) (by omega) (by omega), hQ⟩
  rw [if_neg z1] at hQ
  refine ⟨fun z => ?_, fun z2 => ?_⟩
  · rw [if_pos z] at hQ
    rw [z, show ((2 : Int32) - (2 : Int32)) = nI 0 by decide, nI_clamp (by omega), hR'.1.1]
    exact ⟨vp_in_nI (n := 0) (by omega) (by omega), hQ⟩
  rw [if_neg z2] at hQ
  refine ⟨fun z => ?_, fun z3 => ?_⟩
  · rw [if_pos z] at hQ
    rw [z, show ((3 : Int32) - (2 : Int32)) = nI 1 by decide, nI_clamp (by omega), hR'.2.1.1]
    exact ⟨vp_in_nI (n := 1) (by omega) (by omega), hQ⟩
  rw [if_neg z3] at hQ
  refine ⟨fun z => by rw [if_pos z] at hQ; exact hQ, fun z4 => ?_⟩
  rw [if_neg z4] at hQ
  refine ⟨fun z => by rw [if_pos z] at hQ; exact hQ, fun z5 => ?_⟩
  rw [if_neg z5] at hQ
  refine ⟨fun z => by rw [if_pos z] at hQ; exact hQ, fun z6 => ?_⟩
  rw [if_neg z6] at hQ
  refine ⟨fun z => ?_, fun z7 => ?_⟩
  · rw [if_pos z] at hQ
    exact M_bindsOf (year := 29) (what := 1) hM hRM (by omega) (by omega) (M_ones (bindsN_lt hM.1 _ _ _ _) hQ)
  rw [if_neg z7] at hQ
  refine ⟨fun z => by rw [if_pos z] at hQ; exact hQ, fun z8 => ?_⟩
  rw [if_neg z8] at hQ
  exact hQ
theorem st_count : s_count Rel := by
  intro x xl y h v1
  obtain ⟨n0, n1, t, b, s, hX, hY⟩ := h.1
  exact X_count hX fun g h1 h2 => M_count hY fun y' f => ⟨by rw [h.2.2], h.q hY h1 h2 f⟩
/-! laws, wants, faults -/
def fLa (c : CD) (l k : Nat) : Int32 := if k = 4 then dI (dl c l 4) else nI (dl c l k)
theorem X_law (hR : RX n0 n1 t b s x) (hQ : ∀ g, RX n0 n1 t b s g → FX x g → Qp (a2 (kl (cdOf (x 2) n0 (x 5) n1)) 5 (fLa (cdOf (x 2) n0 (x 5) n1)) v1 v2) g) : p_X9_law x v1 v2 Qp := by
  refine X_refresh hR fun g h1 h2 h3 h4 => ?_
  have hk12 := h3.1.1.1.1
  have hQ := hQ g h1 h2
  rw [h3.1.1.2.1]
  refine two (d_within (kl (cdOf (x 2) n0 (x 5) n1)) (by omega)) (d_within 5 (by omega)) (fun e => ?_) (fun j k hj hk e1 e2 => ?_)
  · rw [a2_n _ e] at hQ; exact hQ
  · subst e1 e2
    rw [a2_y _ hj hk (by omega) (by omega)] at hQ
    exact X_lawPart h3.1 hj hk hQ
theorem M_law (hR : RY b0 n0 b1 n1 t b s y) (hQ : ∀ y', FrQ y y' → Qp (a2 (kl (cdOf b0 n0 b1 n1)) 5 (fLa (cdOf b0 n0 b1 n1)) v1 v2) y') : p_X10_law y v1 v2 Qp := by
  refine Y_reads hR fun y' f hM => ?_
  have hk12 := hM.1.1
  have hQ := hQ y' f
  refine two (d_isLaw hM) (d_in (hi := 4) 5 (by omega) (by decide)) (fun e => ?_) (fun j k hj hk e1 e2 => ?_)
  · rw [a2_n _ e] at hQ; exact hQ
  · subst e1 e2
    rw [a2_y _ hj hk (by omega) (by omega)] at hQ
    obtain ⟨a0, a1, a2, a3, a4⟩ := hM.2.2.2.1 j hj
    rw [show (5 : Int32) = nI 5 from rfl, pk_mul, nI_add, nI_clamp (by omega)]
    refine ⟨vp_in_nI (by omega) (by omega), ?_⟩
    unfold fLa at hQ
    have e : y' 8 (5 * j + k) = if k = 4 then dI (dl (cdOf b0 n0 b1 n1) j 4) else nI (dl (cdOf b0 n0 b1 n1) j k) := by
      obtain rfl | rfl | rfl | rfl | rfl : k = 0 ∨ k = 1 ∨ k = 2 ∨ k = 3 ∨ k = 4 := by omega
      · exact a0
      · exact a1
      · exact a2
      · exact a3
      · exact a4
    rw [e]; exact hQ
theorem st_law : s_law Rel := by
  intro x xl y h v1 v2
  obtain ⟨n0, n1, t, b, s, hX, hY⟩ := h.1
  exact X_law hX fun g h1 h2 => M_law hY fun y' f => ⟨rfl, h.q hY h1 h2 f⟩
def fWa (c : CD) (l k : Nat) : Int32 := nI (dw c l k)
theorem X_want (hR : RX n0 n1 t b s x) (hQ : ∀ g, RX n0 n1 t b s g → FX x g → Qp (a2 (kw (cdOf (x 2) n0 (x 5) n1)) 3 (fWa (cdOf (x 2) n0 (x 5) n1)) v1 v2) g) : p_X9_want x v1 v2 Qp := by
  refine X_refresh hR fun g h1 h2 h3 h4 => ?_
  have hk12 := h3.1.1.1.2.1
  have hQ := hQ g h1 h2
  rw [h3.2.1.2.2.1]
  refine two (d_within (kw (cdOf (x 2) n0 (x 5) n1)) (by omega)) (d_within 3 (by omega)) (fun e => ?_) (fun j k hj hk e1 e2 => ?_)
  · rw [a2_n _ e] at hQ; exact hQ
  · subst e1 e2
    rw [a2_y _ hj hk (by omega) (by omega)] at hQ
    obtain ⟨c0, c1, c2⟩ := h3.2.1.2.2.2.2 j hj
    refine part4 (by omega) hk ?_
    unfold fWa at hQ
    obtain rfl | rfl | rfl : k = 0 ∨ k = 1 ∨ k = 2 := by omega
    · rw [if_neg (by decide), show j * 3 + 0 = j * 3 from rfl, c0]; exact hQ
    · rw [if_neg (by decide), c1]; exact hQ
    · rw [if_pos (by decide), c2, dI_1]; exact hQ
theorem M_want (hR : RY b0 n0 b1 n1 t b s y) (hQ : ∀ y', FrQ y y' → Qp (a2 (kw (cdOf b0 n0 b1 n1)) 3 (fWa (cdOf b0 n0 b1 n1)) v1 v2) y') : p_X10_want y v1 v2 Qp := by
  refine Y_reads hR fun y' f hM => ?_
  have hk12 := hM.1.2.1
  have hQ := hQ y' f
  rw [show (1 : Int32).toNatClampNeg = 1 by decide, hM.2.2.1]
  refine ⟨vp_in_nI (n := 1) (by omega) (by omega), ?_⟩
  refine two (d_in (hi := nI (kw (cdOf b0 n0 b1 n1)) - 1) (kw (cdOf b0 n0 b1 n1)) (by omega) (pk_sub_toInt (b := 1) (by omega) (by omega))) (d_in (hi := 2) 3 (by omega) (by decide)) (fun e => ?_) (fun j k hj hk e1 e2 => ?_)
  · rw [a2_n _ e] at hQ; exact hQ
  · subst e1 e2
    rw [a2_y _ hj hk (by omega) (by omega)] at hQ
    obtain ⟨a0, a1, a2⟩ := hM.2.2.2.2 j hj
    rw [show (3 : Int32) = nI 3 from rfl, pk_mul, nI_add, nI_clamp (by omega)]
    refine ⟨vp_in_nI (by omega) (by omega), ?_⟩
    unfold fWa at hQ
    have e : y' 9 (3 * j + k) = nI (dw (cdOf b0 n0 b1 n1) j k) := by
      obtain rfl | rfl | rfl : k = 0 ∨ k = 1 ∨ k = 2 := by omega
      · exact a0
      · exact a1
      · exact a2
    rw [e]; exact hQ
theorem st_want : s_want Rel := by
  intro x xl y h v1 v2
  obtain ⟨n0, n1, t, b, s, hX, hY⟩ := h.1
  exact X_want hX fun g h1 h2 => M_want hY fun y' f => ⟨rfl, h.q hY h1 h2 f⟩
def aFa (b0 : Nat → Int32) (n0 : Nat) (b1 : Nat → Int32) (n1 : Nat) (v : Int32) : Int32 := if v = 0 then dI (prF 1 b0 n0).1 else if v = 1 then dI (prF 4 b1 n1).1 else -2
theorem aFa_n {v : Int32} (h : ∀ j, j < 2 → v ≠ nI j) : aFa b0 n0 b1 n1 v = -2 := by
  unfold aFa
  rw [if_neg (show ¬ v = 0 from h 0 (by omega)), if_neg (show ¬ v = 1 from h 1 (by omega))]
theorem FrM.q {t : Nat} {y y' : Mem} (ht : t < 2) (h : FrM t y y') : FrQ y y' := by
  have e : tac t = 8 ∨ tac t = 9 := by
    obtain rfl | rfl : t = 0 ∨ t = 1 := by omega
    · left; rfl
    · right; rfl
  exact ⟨fun k h1 h2 => h.1 k h2 (by omega) (by omega), h.2.1 4 (by omega), h.2.1 11 (by omega), h.2.1 13 (by omega), h.2.1 21 (by omega)⟩
theorem X_fault (hR : RX n0 n1 t b s x) (hQ : ∀ g, RX n0 n1 t b s g → FX x g → Qp (aFa (x 2) n0 (x 5) n1 v1) g) : p_X9_fault x v1 Qp := by
  unfold p_X9_fault
  refine one (d_within 2 (by omega)) (fun e => ?_) (fun j hj e => ?_)
  · have := hQ x hR (FX.rf x)
    rw [aFa_n e] at this; exact this
  · refine X_refresh hR fun g h1 h2 h3 h4 => ?_
    have hQ := hQ g h1 h2
    subst e
    unfold p_X9_scriptOf
    obtain rfl | rfl : j = 0 ∨ j = 1 := by omega
    · rw [if_pos (show nI 0 = (0 : Int32) from rfl)]
      show Qp (g 1 8) g
      rw [h3.2.2.1]; exact hQ
    · rw [if_neg (by decide)]
      show Qp (g 4 8) g
      rw [h3.2.2.2]; exact hQ
theorem M_fault (hR : RY b0 n0 b1 n1 t b s y) (hQ : ∀ y', FrQ y y' → Qp (aFa b0 n0 b1 n1 v1) y') : p_X10_fault y v1 Qp := by
  unfold p_X10_fault
  refine one d_two (fun e => ?_) (fun j hj e => ?_)
  · have := hQ y (FrQ.rf y)
    rw [aFa_n e] at this; exact this
  · subst e
    obtain rfl | rfl : j = 0 ∨ j = 1 := by omega
    · exact M_readsText (t := 0) (by omega) hR.1 fun y' f _ => hQ y' (f.q (by omega))
    · exact M_readsText (t := 1) (by omega) hR.2.1 fun y' f _ => hQ y' (f.q (by omega))
theorem st_fault : s_fault Rel := by
  intro x xl y h v1
  obtain ⟨n0, n1, t, b, s, hX, hY⟩ := h.1
  exact X_fault hX fun g h1 h2 => M_fault hY fun y' f => ⟨rfl, h.q hY h1 h2 f⟩
end Ask2
