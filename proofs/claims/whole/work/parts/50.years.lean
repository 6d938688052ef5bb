/-! PURE: years drawn by lot -/
def lotS (s : Int32) : Int32 := (1103515245 : Int32) * s + (12345 : Int32)
def lotQ (s : Int32) : Nat := (lotS s).toBitVec.toNat / 2 ^ 16
theorem lotQ_lt (s : Int32) : lotQ s < 65536 := by
  have : (lotS s).toBitVec.toNat < 2 ^ 32 := (lotS s).toBitVec.isLt
  unfold lotQ
  omega
theorem lot_sh (s : Int32) : ((lotS s).toUInt32 >>> ((16 : Int32).toUInt32 &&& Int32.toUInt32 31)).toInt32 = nI (lotQ s) := by
  refine i32_ext ?_
  rw [pk_ushr (lotS s) 16 16 (by decide), pk_tn (by have := lotQ_lt s; omega)]
  rfl
theorem X_lot {h : Mem} {k n : Nat} {Qp : Int32 → Mem → Prop} (hn : 0 < n) (hn2 : n < 100) (hQ : Qp (nI (lotQ (h k 2) % n)) (up2 h k 2 (lotS (h k 2)))) : p_X6_lot h k (nI n) Qp := by
  have := lotQ_lt (h k 2)
  refine ⟨fun z => absurd z (nI_nle hn (by omega)), fun _ => ⟨nI_ne0 hn (by omega), ?_⟩⟩
  have e : (up2 h k 2 ((1103515245 : Int32) * h k 2 + (12345 : Int32))) k 2 = lotS (h k 2) := by rw [up2_row, if_pos ⟨rfl, rfl⟩]; rfl
  rw [e, lot_sh, pk_rem (by omega) hn (by omega)]
  exact hQ
theorem M_lot {h : Mem} {n : Nat} {Qp : Int32 → Mem → Prop} (hn : 0 < n) (hn2 : n < 100) (hQ : Qp (nI (lotQ (h 0 24) % n)) (up2 h 0 24 (lotS (h 0 24)))) : p_X10_lot h (nI n) Qp := by
  have := lotQ_lt (h 0 24)
  refine ⟨nI_ne0 hn (by omega), ?_⟩
  have e : (up2 h 0 24 ((1103515245 : Int32) * h 0 24 + (12345 : Int32))) 0 24 = lotS (h 0 24) := by rw [up2_row, if_pos ⟨rfl, rfl⟩]; rfl
  rw [e, lot_sh, pk_rem (by omega) hn (by omega)]
  exact hQ
/-- seed, years of trial + 1 and lapses after so many years -/
def drN (s : Int32) (n : Nat) : Nat → Int32 × (Nat → Nat) × (Nat → Bool)
  | 0 => (s, fun _ => 0, fun _ => false)
  | i + 1 =>
    let d := drN s n i
    let l := lotQ d.1 % n
    let z := decide (lotQ (lotS d.1) % 4 = 0)
    (lotS (lotS d.1), if d.2.1 l = 0 then (fun a => if a = l then i + 1 else d.2.1 a) else d.2.1, if d.2.1 l = 0 then (fun a => d.2.2 a || (z && decide (a = l))) else d.2.2)
theorem dr_la (s : Int32) (n : Nat) : ∀ i l, (drN s n i).2.1 l = 0 → (drN s n i).2.2 l = false := by
  intro i
  induction i with
  | zero => intro l _; rfl
  | succ i ih =>
    intro l h
    rw [drN] at h ⊢
    dsimp only at h ⊢
    by_cases q : (drN s n i).2.1 (lotQ (drN s n i).1 % n) = 0
    · rw [if_pos q] at h ⊢
      by_cases e : l = lotQ (drN s n i).1 % n
      · rw [if_pos e] at h; omega
      · rw [if_neg e] at h
        rw [ih l h]; simp [e]
    · rw [if_neg q] at h ⊢
      exact ih l h
theorem X_draw_loop {h0 : Mem} {s : Int32} {k n yr : Nat} {Qp : Mem → Prop} (hn : 0 < n) (hn2 : n ≤ 12) (hy : yr ≤ 30) (hQ : ∀ g, (∀ c, c ≠ k → c ≠ k + 1 → g c = h0 c) → XR (drN s n yr).2.1 (drN s n yr).2.2 g k → Qp g) : ∀ r i : Nat, ∀ g, i + r = yr → (∀ c, c ≠ k → c ≠ k + 1 → g c = h0 c) → XR (drN s n i).2.1 (drN s n i).2.2 g k → g k 2 = (drN s n i).1 → b_X6_draw_12 (r + 1) g k (nI yr) (nI n) (nI i) Qp := by
  intro r
  induction r with
  | zero =>
    intro i g hi hf hR hs
    have : i = yr := by omega
    subst this
    rw [b_X6_draw_12]; dsimp only
    exact ⟨fun _ => hQ g hf hR, fun z => absurd (nI_le (Nat.le_refl _) (by omega)) z⟩
  | succ r ih =>
    intro i g hi hf hR hs
    rw [b_X6_draw_12]; dsimp only
    refine ⟨fun z => absurd z (nI_ge (by omega) (by omega)), fun _ => X_lot hn (by omega) (X_lot (n := 4) (by omega) (by omega) ?_)⟩
    have hl : lotQ (g k 2) % n < 12 := Nat.lt_of_lt_of_le (Nat.mod_lt _ hn) hn2
    rw [show (up2 g k 2 (lotS (g k 2))) k 2 = lotS (g k 2) by rw [up2_row, if_pos ⟨rfl, rfl⟩], hs]
    rw [hs] at hl
    have hR2 : XR (drN s n i).2.1 (drN s n i).2.2 (up2 (up2 g k 2 (lotS (drN s n i).1)) k 2 (lotS (lotS (drN s n i).1))) k := by
      refine ⟨hR.1, fun l hl => ?_, ?_⟩
      · rw [up2_other _ _ _ (by omega), up2_other _ _ _ (by omega)]; exact hR.2.1 l hl
      · rw [up2_row, if_neg (by omega), up2_row, if_neg (by omega)]; exact hR.2.2
    have hf2 : ∀ c, c ≠ k → c ≠ k + 1 → (up2 (up2 g k 2 (lotS (drN s n i).1)) k 2 (lotS (lotS (drN s n i).1))) c = h0 c := fun c h1 h2 => by
      rw [up2_other _ _ _ h1, up2_other _ _ _ h1]; exact hf c h1 h2
    have hs2 : (up2 (up2 g k 2 (lotS (drN s n i).1)) k 2 (lotS (lotS (drN s n i).1))) k 2 = lotS (lotS (drN s n i).1) := by rw [up2_row, if_pos ⟨rfl, rfl⟩]
    generalize up2 (up2 g k 2 (lotS (drN s n i).1)) k 2 (lotS (lotS (drN s n i).1)) = g2 at hR2 hf2 hs2 ⊢
    have hz : (if nI (lotQ (lotS (drN s n i).1) % 4) = (0 : Int32) then (1 : Int32) else (0 : Int32)) = b2 (decide (lotQ (lotS (drN s n i).1) % 4 = 0)) := by
      by_cases q : lotQ (lotS (drN s n i).1) % 4 = 0
      · rw [if_pos ((nI_eq0 (by omega)).mpr q), decide_eq_true q]; rfl
      · rw [if_neg (fun w => q ((nI_eq0 (by omega)).mp w)), decide_eq_false q]; rfl
    have e3 := hR2.2.1 _ hl
    have r30 := hR2.1 _ hl
    unfold b_X6_draw_38 b_X6_draw_61
    rw [hz, nI_clamp (by omega), e3]
    have hr : ∀ g3, (∀ c, c ≠ k → c ≠ k + 1 → g3 c = h0 c) → XR (drN s n (i + 1)).2.1 (drN s n (i + 1)).2.2 g3 k → g3 k 2 = lotS (lotS (drN s n i).1) → b_X6_draw_12 (r + 1) g3 k (nI yr) (nI n) (nI i + 1) Qp := fun g3 a1 a2 a3 => by
      rw [nI_1]; exact ih (i + 1) g3 (by omega) a1 a2 a3
    rw [drN] at hr
    dsimp only at hr
    refine ⟨vp_in_nI hl (by omega), fun z => X_put hR2 hl (by omega) fun g3 f3 R3 => hr g3 ?_ ?_ ?_, fun z => hr g2 hf2 ?_ hs2⟩
    · exact fun c h1 h2 => (f3.1 c h1 h2).trans (hf2 c h1 h2)
    · have z := (dI_m1 (by omega)).mp z
      rw [if_pos z, if_pos z]; exact R3
    · exact (f3.2 2 (by omega)).trans hs2
    · have z : ¬ (drN s n i).2.1 (lotQ (drN s n i).1 % n) = 0 := fun w => z ((dI_m1 (by omega)).mpr w)
      rw [if_neg z, if_neg z]; exact hR2
theorem X_draw {h : Mem} {s : Int32} {k n yr : Nat} {Qp : Mem → Prop} (hn : 0 < n) (hn2 : n ≤ 12) (hy : yr ≤ 30) (hQ : ∀ g, (∀ c, c ≠ k → c ≠ k + 1 → g c = h c) → XR (drN s n yr).2.1 (drN s n yr).2.2 g k → Qp g) : p_X6_draw h k s (nI yr) (nI n) Qp := by
  refine X_begin fun g hf hR => ⟨yr + 1, X_draw_loop (h0 := h) (s := s) hn hn2 hy hQ yr 0 _ (by omega) (fun c h1 h2 => ?_) ⟨hR.1, fun l hl => ?_, ?_⟩ ?_⟩
  · rw [up2_other _ _ _ h1]; exact hf.1 c h1 h2
  · rw [up2_other _ _ _ (by omega)]; exact hR.2.1 l hl
  · rw [up2_row, if_neg (by omega)]; exact hR.2.2
  · rw [up2_row, if_pos ⟨rfl, rfl⟩]; rfl
