/-! PURE: years drawn by lot, by the reference -/
def FrY (y y' : Mem) : Prop := (∀ k, k ≠ 0 → k ≠ 12 → k ≠ 13 → y' k = y k) ∧ ∀ j, j ≠ 24 → y' 0 j = y 0 j
theorem FrY.q {y y' : Mem} (h : FrY y y') : FrQ y y' := ⟨fun k h1 h2 => h.1 k h2 (by omega) (by omega), h.2 4 (by omega), h.2 11 (by omega), h.2 13 (by omega), h.2 21 (by omega)⟩
theorem FrY.s {y y' : Mem} (h : FrY y y') (v : Int32) : FrY y (up2 y' 0 24 v) := ⟨fun k h1 h2 h3 => by rw [up2_other _ _ _ h1]; exact h.1 k h1 h2 h3, fun j hj => by rw [up2_row, if_neg (fun z => hj z.2)]; exact h.2 j hj⟩
theorem FrY.p {y y' : Mem} (h : FrY y y') (l : Nat) (v w : Int32) : FrY y (up2 (up2 y' 12 l v) 13 l w) := ⟨fun k h1 h2 h3 => by rw [up2_other _ _ _ h3, up2_other _ _ _ h2]; exact h.1 k h1 h2 h3, fun j hj => by rw [up2_other _ _ _ (by omega), up2_other _ _ _ (by omega)]; exact h.2 j hj⟩
theorem M_y40 {n0 n1 : Nat} {b0 b1 : Nat → Int32} {t b : LG} {y0 : Mem} {s : Int32} {yr v : Nat} {Qp : Int32 → Mem → Prop} (h0 : TX 0 n0 b0 y0) (h1 : TX 1 n1 b1 y0) (ht : ML 10 11 t y0) (hb : ML 11 13 b y0) (hM : MC (cdOf b0 n0 b1 n1) y0) (hn : 0 < kl (cdOf b0 n0 b1 n1)) (hy : yr ≤ 30) (hv : v < 2) (hQ : ∀ y', FrQ y0 y' → Qp (if v = 0 then nI (pop 12 (bindsN (cdOf b0 n0 b1 n1) (drN s (kl (cdOf b0 n0 b1 n1)) yr).2.1 (drN s (kl (cdOf b0 n0 b1 n1)) yr).2.2 29 1)) else nI (joyN (cdOf b0 n0 b1 n1) (bindsN (cdOf b0 n0 b1 n1) (drN s (kl (cdOf b0 n0 b1 n1)) yr).2.1 (drN s (kl (cdOf b0 n0 b1 n1)) yr).2.2 29 0))) y') : ∀ r i : Nat, ∀ y, i + r = yr → FrY y0 y → y 0 24 = (drN s (kl (cdOf b0 n0 b1 n1)) i).1 → RM (drN s (kl (cdOf b0 n0 b1 n1)) i).2.1 (drN s (kl (cdOf b0 n0 b1 n1)) i).2.2 y → b_X10_yearsOf_40 (r + 1) y (nI yr) (nI v) (nI i) Qp := by
  have hk12 := hM.1.1
  generalize hcc : cdOf b0 n0 b1 n1 = c at *
  intro r
  induction r with
  | zero =>
    intro i y hi hf hs hR
    have : i = yr := by omega
    subst this
    have hMy : MC c y := hM.f ⟨hf.1 7 (by omega) (by omega) (by omega), hf.1 8 (by omega) (by omega) (by omega), hf.1 9 (by omega) (by omega) (by omega)⟩
    have fin : ∀ w, (∀ y', FrQ y0 y' → Qp w y') → b_X10_yearsOf_136 y w Qp := fun w hw => M_find (h0.q hf.q) (h1.q hf.q) (ht.q hf.q (by omega)) (hb.q hf.q (by omega)) fun y' f' _ _ => hw y' (hf.q.tr f')
    rw [b_X10_yearsOf_40]; dsimp only
    refine ⟨fun _ => ⟨fun z => ?_, fun z => ?_⟩, fun z => absurd (nI_le (Nat.le_refl _) (by omega)) z⟩
    · have z := (nI_eq0 (by omega)).mp z
      refine M_bindsOf (year := 29) (what := 1) hMy hR (by omega) (by omega) (M_ones (bindsN_lt hM.1 _ _ _ _) (fin _ fun y' f' => ?_))
      have := hQ y' f'
      rw [if_pos z] at this
      exact this
    · have z : ¬ v = 0 := fun w => z ((nI_eq0 (by omega)).mpr w)
      refine M_bindsOf (year := 29) (what := 0) hMy hR (by omega) (by omega) (M_joyBy hMy (bindsN_lt hM.1 _ _ _ _) (fin _ fun y' f' => ?_))
      have := hQ y' f'
      rw [if_neg z] at this
      exact this
  | succ r ih =>
    intro i y hi hf hs hR
    rw [b_X10_yearsOf_40]; dsimp only
    rw [show (0 : Int32).toNatClampNeg = 0 by decide, hf.1 7 (by omega) (by omega) (by omega), hM.2.1]
    refine ⟨fun z => absurd z (nI_ge (by omega) (by omega)), fun _ => ⟨vp_in_nI (n := 0) (by omega) (by omega), M_lot hn (by omega) (M_lot (n := 4) (by omega) (by omega) ?_)⟩⟩
    rw [show (up2 y 0 24 (lotS (y 0 24))) 0 24 = lotS (y 0 24) by rw [up2_row, if_pos ⟨rfl, rfl⟩], hs]
    have hl : lotQ (drN s (kl c) i).1 % kl c < 12 := Nat.lt_of_lt_of_le (Nat.mod_lt _ hn) hk12
    have hR2 : RM (drN s (kl c) i).2.1 (drN s (kl c) i).2.2 (up2 (up2 y 0 24 (lotS (drN s (kl c) i).1)) 0 24 (lotS (lotS (drN s (kl c) i).1))) := by
      refine ⟨hR.1, fun l hl => ?_⟩
      rw [up2_other _ _ _ (by omega), up2_other _ _ _ (by omega), up2_other _ _ _ (by omega), up2_other _ _ _ (by omega)]; exact hR.2 l hl
    have hf2 : FrY y0 (up2 (up2 y 0 24 (lotS (drN s (kl c) i).1)) 0 24 (lotS (lotS (drN s (kl c) i).1))) := (hf.s _).s _
    have hs2 : (up2 (up2 y 0 24 (lotS (drN s (kl c) i).1)) 0 24 (lotS (lotS (drN s (kl c) i).1))) 0 24 = lotS (lotS (drN s (kl c) i).1) := by rw [up2_row, if_pos ⟨rfl, rfl⟩]
    generalize up2 (up2 y 0 24 (lotS (drN s (kl c) i).1)) 0 24 (lotS (lotS (drN s (kl c) i).1)) = g2 at hR2 hf2 hs2 ⊢
    have hz : (if nI (lotQ (lotS (drN s (kl c) i).1) % 4) = (0 : Int32) then (1 : Int32) else (0 : Int32)) = b2 (decide (lotQ (lotS (drN s (kl c) i).1) % 4 = 0)) := by
      by_cases q : lotQ (lotS (drN s (kl c) i).1) % 4 = 0
      · rw [if_pos ((nI_eq0 (by omega)).mpr q), decide_eq_true q]; rfl
      · rw [if_neg (fun w => q ((nI_eq0 (by omega)).mp w)), decide_eq_false q]; rfl
    have e3 := (hR2.2 _ hl).1
    have r30 := hR2.1 _ hl
    have hla := dr_la s (kl c) i (lotQ (drN s (kl c) i).1 % kl c)
    unfold b_X10_yearsOf_71 b_X10_yearsOf_102
    rw [hz, nI_clamp (by omega), e3]
    have hr : ∀ g3, FrY y0 g3 → RM (drN s (kl c) (i + 1)).2.1 (drN s (kl c) (i + 1)).2.2 g3 → g3 0 24 = lotS (lotS (drN s (kl c) i).1) → b_X10_yearsOf_40 (r + 1) g3 (nI yr) (nI v) (nI i + 1) Qp := fun g3 a1 a2 a3 => by
      rw [nI_1]; exact ih (i + 1) g3 (by omega) a1 a3 a2
    rw [drN] at hr
    dsimp only at hr
    have hin : vp_in (nI (lotQ (drN s (kl c) i).1 % kl c)) 12 := vp_in_nI hl (by omega)
    refine ⟨hin, fun z => ⟨hin, hin, hr _ (hf2.p _ _ _) ?_ ?_⟩, fun z => hr g2 hf2 ?_ hs2⟩
    · have z := (dI_m1 (by omega)).mp z
      have hla := hla z
      rw [if_pos z, if_pos z]
      refine ⟨fun a ha => ?_, fun a ha => ?_⟩
      · have := hR2.1 a ha
        show (if a = lotQ (drN s (kl c) i).1 % kl c then i + 1 else (drN s (kl c) i).2.1 a) ≤ 30
        split <;> omega
      · show _ = dI (if a = lotQ (drN s (kl c) i).1 % kl c then i + 1 else (drN s (kl c) i).2.1 a) ∧ _ = b2 ((drN s (kl c) i).2.2 a || (decide (lotQ (lotS (drN s (kl c) i).1) % 4 = 0) && decide (a = lotQ (drN s (kl c) i).1 % kl c)))
        rw [up2_other _ _ _ (show 12 ≠ 13 by omega), up2_row, up2_row]
        by_cases q : a = lotQ (drN s (kl c) i).1 % kl c
        · rw [if_pos ⟨rfl, q⟩, if_pos q, if_pos ⟨rfl, q⟩, dI_s, q, hla]
          simp
        · rw [if_neg (fun w => q w.2), if_neg q, if_neg (fun w => q w.2), up2_other _ _ _ (show 13 ≠ 12 by omega)]
          have := hR2.2 a ha
          simpa [q] using this
    · rw [up2_other _ _ _ (by omega), up2_other _ _ _ (by omega)]; exact hs2
    · have z : ¬ (drN s (kl c) i).2.1 (lotQ (drN s (kl c) i).1 % kl c) = 0 := fun w => z ((dI_m1 (by omega)).mpr w)
      rw [if_neg z, if_neg z]; exact hR2
theorem M_y8 {n0 n1 : Nat} {b0 b1 : Nat → Int32} {t b : LG} {y0 : Mem} {s : Int32} {yr v : Nat} {Qp : Int32 → Mem → Prop} (h0 : TX 0 n0 b0 y0) (h1 : TX 1 n1 b1 y0) (ht : ML 10 11 t y0) (hb : ML 11 13 b y0) (hM : MC (cdOf b0 n0 b1 n1) y0) (hn : 0 < kl (cdOf b0 n0 b1 n1)) (hy : yr ≤ 30) (hv : v < 2) (hQ : ∀ y', FrQ y0 y' → Qp (if v = 0 then nI (pop 12 (bindsN (cdOf b0 n0 b1 n1) (drN s (kl (cdOf b0 n0 b1 n1)) yr).2.1 (drN s (kl (cdOf b0 n0 b1 n1)) yr).2.2 29 1)) else nI (joyN (cdOf b0 n0 b1 n1) (bindsN (cdOf b0 n0 b1 n1) (drN s (kl (cdOf b0 n0 b1 n1)) yr).2.1 (drN s (kl (cdOf b0 n0 b1 n1)) yr).2.2 29 0))) y') : ∀ r i : Nat, ∀ y, i + r = 12 → FrY y0 y → y 0 24 = s → (∀ l, l < i → y 12 l = dI 0 ∧ y 13 l = b2 false) → b_X10_yearsOf_8 (r + 1) y (nI yr) (nI v) (nI i) Qp := by
  intro r
  induction r with
  | zero =>
    intro i y hi hf hs hR
    have : i = 12 := by omega
    subst this
    rw [b_X10_yearsOf_8]; dsimp only
    exact ⟨fun _ => ⟨yr + 1, M_y40 h0 h1 ht hb hM hn hy hv hQ yr 0 y (by omega) hf hs ⟨fun _ _ => Nat.zero_le _, hR⟩⟩, fun z => absurd (nI_le (a := 12) (b := 12) (by omega) (by omega)) z⟩
  | succ r ih =>
    intro i y hi hf hs hR
    rw [b_X10_yearsOf_8]; dsimp only
    have hin : vp_in (nI i) 12 := vp_in_nI (by omega) (by omega)
    refine ⟨fun z => absurd z (nI_ge (a := i) (b := 12) (by omega) (by omega)), fun _ => ⟨hin, hin, ?_⟩⟩
    rw [nI_clamp (by omega), nI_1]
    refine ih (i + 1) _ (by omega) (hf.p _ _ _) ?_ (fun l hl => ?_)
    · rw [up2_other _ _ _ (by omega), up2_other _ _ _ (by omega)]; exact hs
    · rw [up2_other _ _ _ (show 12 ≠ 13 by omega), up2_row, up2_row]
      by_cases q : l = i
      · rw [if_pos ⟨rfl, q⟩, if_pos ⟨rfl, q⟩]; exact ⟨rfl, rfl⟩
      · rw [if_neg (fun w => q w.2), if_neg (fun w => q w.2), up2_other _ _ _ (show 13 ≠ 12 by omega)]
        exact hR l (by omega)
theorem M_yearsOf {n0 n1 : Nat} {b0 b1 : Nat → Int32} {t b : LG} {y0 : Mem} {s : Int32} {yr v : Nat} {Qp : Int32 → Mem → Prop} (h0 : TX 0 n0 b0 y0) (h1 : TX 1 n1 b1 y0) (ht : ML 10 11 t y0) (hb : ML 11 13 b y0) (hM : MC (cdOf b0 n0 b1 n1) y0) (hn : 0 < kl (cdOf b0 n0 b1 n1)) (hy : yr ≤ 30) (hv : v < 2) (hQ : ∀ y', FrQ y0 y' → Qp (if v = 0 then nI (pop 12 (bindsN (cdOf b0 n0 b1 n1) (drN s (kl (cdOf b0 n0 b1 n1)) yr).2.1 (drN s (kl (cdOf b0 n0 b1 n1)) yr).2.2 29 1)) else nI (joyN (cdOf b0 n0 b1 n1) (bindsN (cdOf b0 n0 b1 n1) (drN s (kl (cdOf b0 n0 b1 n1)) yr).2.1 (drN s (kl (cdOf b0 n0 b1 n1)) yr).2.2 29 0))) y') : p_X10_yearsOf y0 s (nI yr) (nI v) Qp :=
  ⟨13, M_y8 h0 h1 ht hb hM hn hy hv hQ 12 0 _ rfl ((show FrY y0 y0 from ⟨fun _ _ _ _ => rfl, fun _ _ => rfl⟩).s s) (by rw [up2_row, if_pos ⟨rfl, rfl⟩]) (fun l hl => absurd hl (Nat.not_lt_zero _))⟩
