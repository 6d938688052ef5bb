/-! PURE: the most laws, by the reference -/
def FrJ (y y' : Mem) : Prop := (∀ k, k ≠ 0 → y' k = y k) ∧ ∀ j, j ≠ 17 → y' 0 j = y 0 j
theorem FrJ.up {y y' : Mem} (h : FrJ y y') (v : Int32) : FrJ y (up2 y' 0 17 v) := ⟨fun k hk => by rw [up2_other _ _ _ hk]; exact h.1 k hk, fun j hj => by rw [up2_row, if_neg (fun z => hj z.2)]; exact h.2 j hj⟩
theorem FrJ.q {y y' : Mem} (h : FrJ y y') : FrQ y y' := ⟨fun k _ h2 => h.1 k h2, h.2 4 (by omega), h.2 11 (by omega), h.2 13 (by omega), h.2 21 (by omega)⟩
theorem ext0 {c : CD} {set m : Nat} : ExtP c set 0 m ↔ m < 4096 ∧ sd m set = 0 ∧ clN c m = 0 := by
  rw [sd0_iff]
  constructor
  · rintro ⟨h1, -, h3, h4⟩
    refine ⟨h1, fun i hi => ?_, h4⟩
    rcases h3 i hi with q | q
    · simp at q
    · exact q
  · rintro ⟨h1, h2, h3⟩
    exact ⟨h1, fun i hi => by simp at hi, fun i hi => Or.inr (h2 i hi), h3⟩
def bestU (c : CD) (set i b : Nat) : Prop := ExtP c set 0 b ∧ b < i ∧ ∀ m, m < i → ExtP c set 0 m → m = b ∨ better c b m
theorem bestU_no {c : CD} {set i b : Nat} (h : bestU c set i b) (hn : ExtP c set 0 i → better c b i) : bestU c set (i + 1) b := by
  refine ⟨h.1, by have := h.2.1; omega, fun m hm he => ?_⟩
  by_cases e : m = i
  · subst e; exact Or.inr (hn he)
  · exact h.2.2 m (by omega) he
theorem bestU_yes {c : CD} {set i b : Nat} (h : bestU c set i b) (he : ExtP c set 0 i) (hn : better c i b) : bestU c set (i + 1) i := by
  refine ⟨he, by omega, fun m hm hm2 => ?_⟩
  by_cases e : m = i
  · exact Or.inl e
  · right
    rcases h.2.2 m (by omega) hm2 with q | q
    · rw [q]; exact hn
    · exact better_tr hn q
theorem M_keep_loop {c : CD} {y0 : Mem} {set : Nat} {Qp : Int32 → Mem → Prop} (hM : MC c y0) (hs : set < 2 ^ kl c) (hQ : ∀ y b, FrJ y0 y → isBest c set b → y 0 17 = nI (joyN c b) → Qp (nI b) y) : ∀ r i b : Nat, ∀ y, i + r = 2 ^ kl c → bestU c set i b → FrJ y0 y → y 0 17 = nI (joyN c b) → b_X10_keepOf_21 (r + 1) y (nI set) (nI b) (nI i) Qp := by
  have hc := hM.1
  have hk12 := hc.1
  have hp : 2 ^ kl c ≤ 4096 := Nat.pow_le_pow_right (n := 2) (by omega) hk12
  intro r
  induction r with
  | zero =>
    intro i b y hi hb hf hj
    have : i = 2 ^ kl c := by omega
    subst this
    rw [b_X10_keepOf_21]; dsimp only
    rw [show (0 : Int32).toNatClampNeg = 0 by decide, hf.1 7 (by omega), hM.2.1, shl1 (by omega)]
    refine ⟨vp_in_nI (n := 0) (by omega) (by omega), fun _ => hQ y b hf ⟨hb.1, fun m hm => hb.2.2 m ?_ hm⟩ hj, fun h => absurd (nI_le (Nat.le_refl _) (by omega)) h⟩
    refine lt_of_bits fun j hq => ?_
    rw [Bool.eq_false_iff]
    intro z
    have := lt_kl hs (sd0_iff.mp (ext0.mp hm).2.1 j z)
    omega
  | succ r ih =>
    intro i b y hi hb hf hj
    have hMy : MC c y := hM.f ⟨hf.1 7 (by omega), hf.1 8 (by omega), hf.1 9 (by omega)⟩
    have hbi := hb.2.1
    have p1 := pop_le 12 i
    have p2 := pop_le 12 b
    have j1 := joyN_le hc i
    have j2 := joyN_le hc b
    rw [b_X10_keepOf_21]; dsimp only
    unfold b_X10_keepOf_99 b_X10_keepOf_112 b_X10_keepOf_128 b_X10_keepOf_131
    rw [show (0 : Int32).toNatClampNeg = 0 by decide, hf.1 7 (by omega), hM.2.1, shl1 (by omega), nI_sd (by omega) (by omega), nI_1, nI_eq0 (show sd i set < 2 ^ 31 from Nat.lt_trans (sd_lt (n := 12) (by omega)) (by omega)), hj]
    have no : (ExtP c set 0 i → better c b i) → b_X10_keepOf_21 (r + 1) y (nI set) (nI b) (nI (i + 1)) Qp := fun h => ih (i + 1) b y (by omega) (bestU_no hb h) hf hj
    refine ⟨vp_in_nI (n := 0) (by omega) (by omega), fun z => absurd z (nI_ge (by omega) (by omega)), fun _ => ⟨fun hsub => ?_, fun hsub => no (fun h => absurd (ext0.mp h).2.1 hsub)⟩⟩
    refine M_ones (by omega) (M_ones (by omega) ⟨fun z => no (fun _ => Or.inl ?_), fun z => M_clashBy hMy (by omega) ⟨fun w => M_joyBy hMy (by omega) (M_ones (by omega) (M_ones (by omega) ?_)), fun w => no (fun h => ?_)⟩⟩)
    · rw [Int32.lt_iff_toInt_lt, nI_toInt (by omega), nI_toInt (by omega)] at z
      omega
    · have hcl : clN c i = 0 := (dI_m1 (by have := fF_le (fun h => decide (doesN c i h = 7)) 24 0; unfold clN; omega)).mp w
      have he : ExtP c set 0 i := ext0.mpr ⟨by omega, hsub, hcl⟩
      have hz : pop 12 b ≤ pop 12 i := by
        rcases Nat.lt_or_ge (pop 12 i) (pop 12 b) with q | q
        · exact absurd (nI_lt q (by omega)) z
        · exact q
      have c1 : nI (pop 12 b) < nI (pop 12 i) ↔ pop 12 b < pop 12 i := by rw [Int32.lt_iff_toInt_lt, nI_toInt (by omega), nI_toInt (by omega)]; omega
      have c2 : nI (joyN c i) ≤ nI (joyN c b) ↔ joyN c i ≤ joyN c b := nI_leI (by omega) (by omega)
      have yes : better c i b → b_X10_keepOf_21 (r + 1) (up2 y 0 17 (nI (joyN c i))) (nI set) (nI i) (nI (i + 1)) Qp := fun h => ih (i + 1) i _ (by omega) (bestU_yes hb he h) (hf.up _) (by rw [up2_row, if_pos ⟨rfl, rfl⟩])
      have nos : better c b i → b_X10_keepOf_21 (r + 1) (up2 y 0 17 (nI (joyN c b))) (nI set) (nI b) (nI (i + 1)) Qp := fun h => ih (i + 1) b _ (by omega) (bestU_no hb (fun _ => h)) (hf.up _) (by rw [up2_row, if_pos ⟨rfl, rfl⟩])
      by_cases q1 : pop 12 b < pop 12 i
      · rw [if_pos (c1.mpr q1), if_neg (show ¬ (1 : Int32) = 0 by decide), if_neg (show ¬ (1 : Int32) = 0 by decide)]
        exact yes (Or.inl q1)
      · rw [if_neg (fun t => q1 (c1.mp t))]
        by_cases q2 : joyN c i ≤ joyN c b
        · rw [if_pos (c2.mpr q2), if_pos rfl, if_pos rfl]
          refine nos ?_
          unfold better; omega
        · rw [if_neg (fun t => q2 (c2.mp t)), if_neg (show ¬ (1 : Int32) = 0 by decide), if_neg (show ¬ (1 : Int32) = 0 by decide)]
          refine yes ?_
          unfold better; omega
    · refine absurd ((dI_m1 ?_).mpr (ext0.mp h).2.2) w
      have := fF_le (fun h => decide (doesN c i h = 7)) 24 0
      unfold clN; omega
theorem M_keepOf {c : CD} {R : Nat → Nat} {la : Nat → Bool} {y : Mem} {year : Nat} {Qp : Int32 → Mem → Prop} (hM : MC c y) (hR : RM R la y) (hy : year < 30) (hQ : ∀ y' b, FrJ y y' → isBest c (bindsN c R la year 0) b → y' 0 17 = nI (joyN c b) → Qp (nI b) y') : p_X10_keepOf y (nI year) Qp := by
  have hp := Nat.two_pow_pos (kl c)
  refine M_bindsOf (what := 0) hM hR hy (by omega) (M_joyBy (set := 0) hM (by omega) ⟨2 ^ kl c - 1 + 1, ?_⟩)
  refine M_keep_loop hM (mk_lt _ _) hQ (2 ^ kl c - 1) 1 0 _ (by omega) ⟨ext0.mpr ⟨by omega, by unfold sd; simp, (cl0_iff hM.1).mpr fun a b _ _ h _ => by simp at h⟩, by omega, fun m hm _ => Or.inl (by omega)⟩ ((show FrJ y y from ⟨fun _ _ => rfl, fun _ _ => rfl⟩).up _) (by rw [up2_row, if_pos ⟨rfl, rfl⟩])
