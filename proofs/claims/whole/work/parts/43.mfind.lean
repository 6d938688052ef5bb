/-! PURE: trials and breaches, by the reference -/
def bB (b : LG) (R l n : Nat) : Bool := decide (R ≠ 0) && hB b (R - 1) l n
theorem bB_s (b : LG) (R l n : Nat) : bB b R l (n + 1) = (bB b R l n || (decide (R = b.2.1 n + 1) && decide (b.2.2 n = l))) := by
  unfold bB
  rw [hB]
  by_cases h : R = 0
  · subst h; simp
  · obtain ⟨r, hr⟩ : ∃ r, R = r + 1 := ⟨R - 1, by omega⟩
    subst hr
    have : decide (b.2.1 n = r) = decide (r + 1 = b.2.1 n + 1) := decide_eq_decide.mpr (by omega)
    simp [this]
theorem b2_or (a b : Bool) : b2 a ||| b2 b = b2 (a || b) := by cases a <;> cases b <;> decide
def FrB (l : Nat) (y y' : Mem) : Prop := ∀ k j, ¬ (k = 13 ∧ j = l) → y' k j = y k j
theorem M_breaks_loop {b : LG} {y0 : Mem} {R l : Nat} {Qp : Mem → Prop} (hb : ML 11 13 b y0) (hl : l < 12) (hR : R ≤ 30) (h12 : y0 12 l = dI R) (hQ : ∀ y, FrB l y0 y → y 13 l = b2 (bB b R l b.1) → Qp y) : ∀ r i : Nat, ∀ y, i + r = b.1 → FrB l y0 y → y 13 l = b2 (bB b R l i) → b_X10_breaks_9 (r + 1) y (nI l) (nI i) Qp := by
  have hb12 := hb.1.1
  intro r
  induction r with
  | zero =>
    intro i y hi hf hv
    have : i = b.1 := by omega
    subst this
    rw [b_X10_breaks_9]; dsimp only
    rw [hf 0 13 (by omega), hb.2.1]
    exact ⟨fun _ => hQ y hf hv, fun z => absurd (nI_le (Nat.le_refl _) (by omega)) z⟩
  | succ r ih =>
    intro i y hi hf hv
    obtain ⟨e1, e2⟩ := hb.2.2 i (by omega)
    obtain ⟨o1, o2⟩ := hb.1.2 i (by omega)
    have hin : vp_in (nI l) 12 := vp_in_nI hl (by omega)
    rw [b_X10_breaks_9]; dsimp only
    unfold b_X10_breaks_59 b_X10_breaks_60
    rw [show (2 : Int32) = nI 2 from rfl, pk_mul, nI_1, nI_1, nI_clamp (by omega), nI_clamp (by omega), nI_clamp (by omega), hf 0 13 (by omega), hb.2.1, hf 11 _ (by omega), hf 11 _ (by omega), hf 12 _ (by omega), e1, e2, h12, hv, nI_eq (by omega) (by omega), ← dI_s (b.2.1 i), dI_inj (by omega) (by omega)]
    have go : ∀ q : Bool, q = (decide (R = b.2.1 i + 1) && decide (b.2.2 i = l)) → b_X10_breaks_9 (r + 1) (up2 y 13 l (b2 (bB b R l i) ||| b2 q)) (nI l) (nI (i + 1)) Qp := by
      intro q eq
      refine ih (i + 1) _ (by omega) (fun k j hkj => ?_) ?_
      · rw [up2_row, if_neg hkj]; exact hf k j hkj
      · rw [up2_row, if_pos ⟨rfl, rfl⟩, b2_or, bB_s, eq]
    refine ⟨fun z => absurd z (nI_ge (by omega) (by omega)), fun _ => ⟨hin, vp_in_nI (by omega) (by omega), fun z => ⟨vp_in_nI (by omega) (by omega), hin, fun z2 => ⟨hin, ?_⟩, fun z2 => ⟨hin, ?_⟩⟩, fun z => ⟨hin, ?_⟩⟩⟩
    · exact go true (by simp [z, z2])
    · exact go false (by simp [show ¬ R = b.2.1 i + 1 from fun w => z2 w.symm])
    · exact go false (by simp [z])
theorem M_breaks {b : LG} {y0 : Mem} {R l : Nat} {Qp : Mem → Prop} (hb : ML 11 13 b y0) (hl : l < 12) (hR : R ≤ 30) (h12 : y0 12 l = dI R) (hQ : ∀ y, FrB l y0 y → y 13 l = b2 (bB b R l b.1) → Qp y) : p_X10_breaks y0 (nI l) Qp := by
  refine ⟨vp_in_nI hl (by omega), b.1 + 1, ?_⟩
  rw [nI_clamp (by omega)]
  refine M_breaks_loop hb hl hR h12 hQ b.1 0 _ (by omega) (fun k j hkj => by rw [up2_row, if_neg hkj]) ?_
  rw [up2_row, if_pos ⟨rfl, rfl⟩]
  unfold bB hB
  simp [b2]
def FrF (y y' : Mem) : Prop := ∀ k, k ≠ 12 → k ≠ 13 → y' k = y k
theorem ML.fr {kc kf : Nat} {g : LG} {y y' : Mem} (hL : ML kc kf g y) (hf : FrF y y') (hk : kc ≠ 12 ∧ kc ≠ 13) : ML kc kf g y' := by
  refine ⟨hL.1, ?_, fun i hi => ?_⟩
  · rw [hf 0 (by omega) (by omega)]; exact hL.2.1
  · rw [hf kc hk.1 hk.2]; exact hL.2.2 i hi
def FI (t b : LG) (y0 : Mem) (l : Nat) (y : Mem) : Prop := FrF y0 y ∧ ∀ a, a < l → y 12 a = dI (RT t a) ∧ y 13 a = b2 (LT t b a)
theorem M_find_in {t b : LG} {y0 : Mem} {l : Nat} {K : Mem → Int32 → Prop} {Qp : Mem → Prop} (ht : ML 10 11 t y0) (hb : ML 11 13 b y0) (hl : l < 12) (hQ : ∀ y, FI t b y0 (l + 1) y → K y (nI (l + 1))) : ∀ i w : Nat, ∀ y, i ≤ t.1 → w ≤ 30 → FI t b y0 l y → y 12 l = dI w → (if rT t l i ≠ 0 then rT t l i else w) = RT t l → b_X10_find_26 (i + 1) y (nI l) (dI i) K Qp := by
  have t12 := ht.1.1
  have r30 : RT t l ≤ 30 := rT_le ht.1 l t.1 (Nat.le_refl _)
  intro i
  induction i with
  | zero =>
    intro w y hi hw hI hv he
    rw [b_X10_find_26]; dsimp only
    refine ⟨fun _ => ?_, fun z => absurd (show dI 0 < 0 by decide) z⟩
    rw [rT, if_neg (fun z => z rfl)] at he
    subst he
    refine M_breaks (hb.fr hI.1 (by omega)) hl hw hv fun y' hf h13 => ?_
    rw [nI_1]
    refine hQ y' ⟨fun k h1 h2 => ?_, fun a ha => ?_⟩
    · rw [← hI.1 k h1 h2]; funext j; exact hf k j (by omega)
    · by_cases e : a = l
      · subst e
        exact ⟨by rw [hf 12 a (by omega)]; exact hv, h13⟩
      · rw [hf 12 a (by omega), hf 13 a (by omega)]; exact hI.2 a (by omega)
  | succ i ih =>
    intro w y hi hw hI hv he
    have ht' := ht.fr hI.1 (by omega)
    obtain ⟨e1, e2⟩ := ht'.2.2 i (by omega)
    obtain ⟨o1, o2⟩ := ht.1.2 i (by omega)
    have hin : vp_in (nI l) 12 := vp_in_nI hl (by omega)
    rw [b_X10_find_26]; dsimp only
    unfold b_X10_find_66
    have em : nI i + (-1 : Int32) = dI i := (Int32.sub_eq_add_neg _ _).symm
    rw [dI_s, show (2 : Int32) = nI 2 from rfl, pk_mul, nI_1 (2 * i), nI_clamp (by omega), nI_clamp (by omega), nI_clamp (by omega), e1, e2, hv, nI_eq (by omega) (by omega), em]
    have go : ∀ v : Nat, v ≤ 30 → v = (if t.2.2 i = l then t.2.1 i + 1 else w) → b_X10_find_26 (i + 1) (up2 y 12 l (dI v)) (nI l) (dI i) K Qp := by
      intro v hv30 ev
      refine ih v _ (by omega) hv30 ⟨fun k h1 h2 => ?_, fun a ha => ?_⟩ ?_ ?_
      · rw [up2_other _ _ _ h1]; exact hI.1 k h1 h2
      · rw [up2_row, if_neg (by omega), up2_other _ _ _ (by omega)]; exact hI.2 a ha
      · rw [up2_row, if_pos ⟨rfl, rfl⟩]
      · rw [← he, rT, ev]
        by_cases q : rT t l i ≠ 0
        · rw [if_pos q, if_pos q, if_pos q]
        · rw [if_neg q, if_neg q]
          by_cases q2 : t.2.2 i = l
          · rw [if_pos q2, if_pos q2, if_pos (by omega)]
          · rw [if_neg q2, if_neg q2, if_neg (fun z => z rfl)]
    refine ⟨fun z => absurd z (nI_pos (by omega)), fun _ => ⟨vp_in_nI (by omega) (by omega), fun z => ⟨vp_in_nI (by omega) (by omega), hin, ?_⟩, fun z => ⟨hin, hin, ?_⟩⟩⟩
    · rw [← dI_s]
      exact go _ (by omega) (by rw [if_pos z])
    · exact go w hw (by rw [if_neg z])
theorem M_find_loop {t b : LG} {y0 : Mem} {Qp : Mem → Prop} (ht : ML 10 11 t y0) (hb : ML 11 13 b y0) (hQ : ∀ y, FI t b y0 12 y → Qp y) : ∀ r l : Nat, ∀ y, l + r = 12 → FI t b y0 l y → b_X10_find_6 (r + 1) y (nI l) Qp := by
  have t12 := ht.1.1
  intro r
  induction r with
  | zero =>
    intro l y hl hI
    have : l = 12 := by omega
    subst this
    rw [b_X10_find_6]; dsimp only
    exact ⟨fun _ => hQ y hI, fun z => absurd (nI_le (a := 12) (b := 12) (by omega) (by omega)) z⟩
  | succ r ih =>
    intro l y hl hI
    rw [b_X10_find_6]; dsimp only
    refine ⟨fun z => absurd z (nI_ge (a := l) (b := 12) (by omega) (by omega)), fun _ => ⟨vp_in_nI (by omega) (by omega), fun x3 e3 => ⟨t.1 + 1, ?_⟩⟩⟩
    subst e3
    rw [nI_clamp (by omega), up2_other _ _ _ (by omega), (ht.fr hI.1 (by omega)).2.1]
    refine M_find_in ht hb (by omega) (fun y' hI' => ih (l + 1) y' (by omega) hI') t.1 0 _ (Nat.le_refl _) (by omega) ⟨fun k h1 h2 => ?_, fun a ha => ?_⟩ ?_ ?_
    · rw [up2_other _ _ _ h1]; exact hI.1 k h1 h2
    · rw [up2_row, if_neg (by omega), up2_other _ _ _ (by omega)]; exact hI.2 a ha
    · rw [up2_row, if_pos ⟨rfl, rfl⟩]; rfl
    · show (if rT t l t.1 ≠ 0 then rT t l t.1 else 0) = rT t l t.1
      by_cases q : rT t l t.1 ≠ 0
      · rw [if_pos q]
      · rw [if_neg q]; omega
/-- what the reference may change as it finds out: nothing that is told -/
def FrQ (y y' : Mem) : Prop := (∀ k, (k < 4 ∨ k = 5 ∨ k = 6 ∨ k = 10 ∨ k = 11 ∨ k = 17) → k ≠ 0 → y' k = y k) ∧ y' 0 4 = y 0 4 ∧ y' 0 11 = y 0 11 ∧ y' 0 13 = y 0 13 ∧ y' 0 21 = y 0 21
theorem FrQ.rf (y : Mem) : FrQ y y := ⟨fun _ _ _ => rfl, rfl, rfl, rfl, rfl⟩
theorem FrQ.tr {y y' y'' : Mem} (a : FrQ y y') (b : FrQ y' y'') : FrQ y y'' := ⟨fun k h1 h2 => (b.1 k h1 h2).trans (a.1 k h1 h2), b.2.1.trans a.2.1, b.2.2.1.trans a.2.2.1, b.2.2.2.1.trans a.2.2.2.1, b.2.2.2.2.trans a.2.2.2.2⟩
theorem FrR.q {y y' : Mem} (h : FrR y y') : FrQ y y' := ⟨fun k h1 h2 => h.1 k (by omega) (by omega) (by omega) (by omega), h.2 4 (by omega), h.2 11 (by omega), h.2 13 (by omega), h.2 21 (by omega)⟩
theorem FrF.q {y y' : Mem} (h : FrF y y') : FrQ y y' := ⟨fun k h1 h2 => h k (by omega) (by omega), by rw [h 0 (by omega) (by omega)], by rw [h 0 (by omega) (by omega)], by rw [h 0 (by omega) (by omega)], by rw [h 0 (by omega) (by omega)]⟩
theorem ML.q {kc kf : Nat} {g : LG} {y y' : Mem} (hL : ML kc kf g y) (hf : FrQ y y') (hk : kc = 10 ∧ kf = 11 ∨ kc = 11 ∧ kf = 13) : ML kc kf g y' := by
  refine ⟨hL.1, ?_, fun i hi => ?_⟩
  · rcases hk with ⟨-, e⟩ | ⟨-, e⟩
    · subst e; rw [hf.2.2.1]; exact hL.2.1
    · subst e; rw [hf.2.2.2.1]; exact hL.2.1
  · rw [hf.1 kc (by omega) (by omega)]; exact hL.2.2 i hi
theorem TX.q {t n : Nat} {bs : Nat → Int32} {y y' : Mem} (hT : TX t n bs y) (hf : FrQ y y') : TX t n bs y' := by
  unfold TX
  rw [hf.1 6 (by omega) (by omega), hf.1 5 (by omega) (by omega)]; exact hT
theorem MC.f {c : CD} {y y' : Mem} (hM : MC c y) (hf : y' 7 = y 7 ∧ y' 8 = y 8 ∧ y' 9 = y 9) : MC c y' := by
  unfold MC
  rw [hf.1, hf.2.1, hf.2.2]; exact hM
theorem M_find {n0 n1 : Nat} {b0 b1 : Nat → Int32} {t b : LG} {y : Mem} {Qp : Mem → Prop} (h0 : TX 0 n0 b0 y) (h1 : TX 1 n1 b1 y) (ht : ML 10 11 t y) (hb : ML 11 13 b y) (hQ : ∀ y', FrQ y y' → MC (cdOf b0 n0 b1 n1) y' → RM (RT t) (LT t b) y' → Qp y') : p_X10_find y Qp := by
  refine M_reads h0 h1 fun y1 f1 c1 => ⟨13, M_find_loop (t := t) (b := b) (ht.q f1.q (by omega)) (hb.q f1.q (by omega)) (fun y2 I2 => hQ y2 (f1.q.tr I2.1.q) (c1.f ⟨I2.1 7 (by omega) (by omega), I2.1 8 (by omega) (by omega), I2.1 9 (by omega) (by omega)⟩) ⟨fun l _ => rT_le ht.1 l t.1 (Nat.le_refl _), I2.2⟩) 12 0 y1 rfl ⟨fun _ _ _ => rfl, fun a ha => absurd ha (Nat.not_lt_zero _)⟩⟩
