/-! PURE: clashes are pairs of rivals; quarrels -/
theorem cl_64 : ∀ A, A < 64 → ∀ F, F < 64 → decide (oLoop (fun d => A.testBit d) (fun d => F.testBit d) 6 0 0 = 7) = ((List.range 6).any (fun d => (List.range 6).any (fun e => A.testBit d && (A.testBit e && decide (d ≠ e)))) || (List.range 6).any (fun d => A.testBit d && F.testBit d)) := by decide +kernel
theorem dLoop_no7 (f : Nat → Bool) (l : Nat → Nat) : ∀ r d li mo, d + r = 6 → li ≤ 6 → dLoop (fun _ => false) f l r d 0 li mo ≤ 6 := by
  intro r
  induction r with
  | zero => intro d li mo _ h; unfold dLoop; simpa using h
  | succ r ih =>
    intro d li mo hd h
    unfold dLoop
    rw [if_neg (by simp)]
    split
    · exact ih _ _ _ (by omega) (by omega)
    · exact ih _ _ _ (by omega) h
theorem oB_iff {c : CD} {set h d : Nat} : oB c set h d = true ↔ ∃ l, l < kl c ∧ set.testBit l = true ∧ cov c l h = true ∧ dl c l 0 = 1 ∧ dl c l 1 = d := by
  unfold oB om
  rw [decide_eq_true_iff, and_ne0]
  constructor
  · rintro ⟨l, h1, h2⟩
    rw [mk_bit] at h2
    simp only [Bool.and_eq_true, decide_eq_true_eq] at h2
    exact ⟨l, h2.1, h1, h2.2.2, h2.2.1.1, h2.2.1.2⟩
  · rintro ⟨l, h1, h2, h3, h4, h5⟩
    exact ⟨l, h2, by rw [mk_bit]; simp [h1, h3, h4, h5]⟩
theorem fB_iff {c : CD} {set h d : Nat} : fB c set h d = true ↔ ∃ l, l < kl c ∧ set.testBit l = true ∧ cov c l h = true ∧ dl c l 0 = 0 ∧ dl c l 1 = d := by
  unfold fB bm
  rw [decide_eq_true_iff, and_ne0]
  constructor
  · rintro ⟨l, h1, h2⟩
    rw [mk_bit] at h2
    simp only [Bool.and_eq_true, decide_eq_true_eq] at h2
    exact ⟨l, h2.1, h1, h2.2.2, h2.2.1.1, h2.2.1.2⟩
  · rintro ⟨l, h1, h2, h3, h4, h5⟩
    exact ⟨l, h2, by rw [mk_bit]; simp [h1, h3, h4, h5]⟩
theorem does7_b {c : CD} {set h : Nat} : doesN c set h = 7 ↔ (∃ d e, d < 6 ∧ e < 6 ∧ d ≠ e ∧ oB c set h d = true ∧ oB c set h e = true) ∨ ∃ d, d < 6 ∧ oB c set h d = true ∧ fB c set h d = true := by
  have e1 : oLoop (oB c set h) (fB c set h) 6 0 0 = oLoop (fun d => (mk 6 (oB c set h)).testBit d) (fun d => (mk 6 (fB c set h)).testBit d) 6 0 0 := oLoop_congr 6 0 0 fun e _ he => by
    rw [mk_bit, mk_bit]; simp [show e < 6 by omega]
  have e2 := cl_64 (mk 6 (oB c set h)) (mk_lt 6 _) (mk 6 (fB c set h)) (mk_lt 6 _)
  rw [← e1] at e2
  have e3 : doesN c set h = 7 ↔ oLoop (oB c set h) (fB c set h) 6 0 0 = 7 := by
    have := dLoop_o (oB c set h) (fB c set h) (lk c h) 6 0 0 0 0
    unfold doesN
    by_cases q : oLoop (oB c set h) (fB c set h) 6 0 0 = 0
    · rw [this.2 q, q]
      have := dLoop_no7 (fB c set h) (lk c h) 6 0 0 0 rfl (by omega)
      omega
    · rw [this.1 q]
  rw [e3, ← decide_eq_true_iff (p := oLoop (oB c set h) (fB c set h) 6 0 0 = 7), e2, Bool.or_eq_true, List.any_eq_true, List.any_eq_true]
  constructor
  · rintro (⟨d, hd, h1⟩ | ⟨d, hd, h1⟩)
    · rw [List.any_eq_true] at h1
      obtain ⟨e, he, h1⟩ := h1
      rw [List.mem_range] at hd he
      rw [mk_bit, mk_bit] at h1
      simp only [hd, he, decide_true, Bool.true_and, Bool.and_eq_true, decide_eq_true_eq] at h1
      exact Or.inl ⟨d, e, hd, he, h1.2.2, h1.1, h1.2.1⟩
    · rw [List.mem_range] at hd
      rw [mk_bit, mk_bit] at h1
      simp only [hd, decide_true, Bool.true_and, Bool.and_eq_true] at h1
      exact Or.inr ⟨d, hd, h1.1, h1.2⟩
  · rintro (⟨d, e, hd, he, hn, h1, h2⟩ | ⟨d, hd, h1, h2⟩)
    · exact Or.inl ⟨d, List.mem_range.mpr hd, List.any_eq_true.mpr ⟨e, List.mem_range.mpr he, by rw [mk_bit, mk_bit]; simp [hd, he, hn, h1, h2]⟩⟩
    · exact Or.inr ⟨d, List.mem_range.mpr hd, by rw [mk_bit, mk_bit]; simp [hd, h1, h2]⟩
def pairAt (c : CD) (a b h : Nat) : Prop := cov c a h = true ∧ cov c b h = true ∧ ((dl c a 0 = 1 ∧ dl c b 0 = 1 ∧ dl c a 1 ≠ dl c b 1) ∨ (dl c a 0 = 1 ∧ dl c b 0 = 0 ∧ dl c a 1 = dl c b 1))
theorem does7 {c : CD} (hc : CDok c) {set h : Nat} : doesN c set h = 7 ↔ ∃ a b, a < kl c ∧ b < kl c ∧ set.testBit a = true ∧ set.testBit b = true ∧ pairAt c a b h := by
  rw [does7_b]
  constructor
  · rintro (⟨d, e, hd, he, hn, h1, h2⟩ | ⟨d, hd, h1, h2⟩)
    · obtain ⟨a, a1, a2, a3, a4, a5⟩ := oB_iff.mp h1
      obtain ⟨b, b1, b2, b3, b4, b5⟩ := oB_iff.mp h2
      exact ⟨a, b, a1, b1, a2, b2, a3, b3, Or.inl ⟨a4, b4, by omega⟩⟩
    · obtain ⟨a, a1, a2, a3, a4, a5⟩ := oB_iff.mp h1
      obtain ⟨b, b1, b2, b3, b4, b5⟩ := fB_iff.mp h2
      exact ⟨a, b, a1, b1, a2, b2, a3, b3, Or.inr ⟨a4, b4, by omega⟩⟩
  · rintro ⟨a, b, a1, b1, a2, b2, a3, b3, (⟨h1, h2, h3⟩ | ⟨h1, h2, h3⟩)⟩
    · have o1 := (hc.2.2.1 a a1).2.1
      have o2 := (hc.2.2.1 b b1).2.1
      exact Or.inl ⟨dl c a 1, dl c b 1, by omega, by omega, h3, oB_iff.mpr ⟨a, a1, a2, a3, h1, rfl⟩, oB_iff.mpr ⟨b, b1, b2, b3, h2, rfl⟩⟩
    · have o1 := (hc.2.2.1 a a1).2.1
      exact Or.inr ⟨dl c a 1, by omega, oB_iff.mpr ⟨a, a1, a2, a3, h1, rfl⟩, fB_iff.mpr ⟨b, b1, b2, b3, h2, h3.symm⟩⟩
theorem fF_ne0 (p : Nat → Bool) : ∀ r i, fF p r i ≠ 0 ↔ ∃ j, i ≤ j ∧ j < i + r ∧ p j = true := by
  intro r
  induction r with
  | zero =>
    intro i
    constructor
    · intro h; exact absurd rfl h
    · rintro ⟨j, h1, h2, -⟩; omega
  | succ r ih =>
    intro i
    unfold fF
    by_cases h : p i = true
    · rw [if_pos h]
      exact ⟨fun _ => ⟨i, Nat.le_refl _, by omega, h⟩, fun _ => by omega⟩
    · rw [if_neg h, ih]
      constructor
      · rintro ⟨j, h1, h2, h3⟩; exact ⟨j, by omega, by omega, h3⟩
      · rintro ⟨j, h1, h2, h3⟩
        refine ⟨j, ?_, by omega, h3⟩
        rcases Nat.lt_or_ge i j with q | q
        · exact q
        · have : j = i := by omega
          subst this; exact absurd h3 h
theorem riv_iff {c : CD} (hc : CDok c) {a b : Nat} (ha : a < kl c) (hb : b < kl c) : riv c a b = true ↔ ∃ h, h < 24 ∧ (pairAt c a b h ∨ pairAt c b a h) := by
  have o1 := (hc.2.2.1 a ha).1
  have o2 := (hc.2.2.1 b hb).1
  unfold riv pairAt hrs
  rw [Bool.and_eq_true, Bool.or_eq_true, decide_eq_true_iff, decide_eq_true_iff, decide_eq_true_iff, and_ne0]
  constructor
  · rintro ⟨⟨h, h1, h2⟩, h3⟩
    rw [mk_bit] at h1 h2
    simp only [Bool.and_eq_true, decide_eq_true_eq] at h1 h2
    refine ⟨h, h1.1, ?_⟩
    rcases h3 with ⟨q1, q2⟩ | ⟨q1, q2⟩
    · exact Or.inl ⟨h1.2, h2.2, Or.inl ⟨by omega, by omega, q2⟩⟩
    · by_cases q3 : dl c a 0 = 1
      · exact Or.inl ⟨h1.2, h2.2, Or.inr ⟨q3, by omega, q2⟩⟩
      · exact Or.inr ⟨h2.2, h1.2, Or.inr ⟨by omega, by omega, q2.symm⟩⟩
  · rintro ⟨h, hh, (⟨h1, h2, h3⟩ | ⟨h2, h1, h3⟩)⟩
    · exact ⟨⟨h, by rw [mk_bit]; simp [hh, h1], by rw [mk_bit]; simp [hh, h2]⟩, by omega⟩
    · exact ⟨⟨h, by rw [mk_bit]; simp [hh, h1], by rw [mk_bit]; simp [hh, h2]⟩, by omega⟩
theorem riv_sym {c : CD} (hc : CDok c) {a b : Nat} (ha : a < kl c) (hb : b < kl c) : riv c a b = riv c b a := by
  rw [Bool.eq_iff_iff, riv_iff hc ha hb, riv_iff hc hb ha]
  constructor
  · rintro ⟨h, h1, h2⟩; exact ⟨h, h1, h2.symm⟩
  · rintro ⟨h, h1, h2⟩; exact ⟨h, h1, h2.symm⟩
theorem riv_irr {c : CD} (hc : CDok c) {a : Nat} (ha : a < kl c) : riv c a a = false := by
  rw [Bool.eq_false_iff]
  intro h
  obtain ⟨h, h1, h2⟩ := (riv_iff hc ha ha).mp h
  unfold pairAt at h2
  omega
theorem clN_iff {c : CD} (hc : CDok c) {set : Nat} : clN c set ≠ 0 ↔ ∃ a b, a < kl c ∧ b < kl c ∧ set.testBit a = true ∧ set.testBit b = true ∧ riv c a b = true := by
  unfold clN
  rw [fF_ne0]
  constructor
  · rintro ⟨h, -, h1, h2⟩
    obtain ⟨a, b, a1, b1, a2, b2, h3⟩ := (does7 hc).mp (of_decide_eq_true h2)
    exact ⟨a, b, a1, b1, a2, b2, (riv_iff hc a1 b1).mpr ⟨h, by omega, Or.inl h3⟩⟩
  · rintro ⟨a, b, a1, b1, a2, b2, h3⟩
    obtain ⟨h, h1, h2⟩ := (riv_iff hc a1 b1).mp h3
    refine ⟨h, Nat.zero_le _, by omega, decide_eq_true ((does7 hc).mpr ?_)⟩
    rcases h2 with h2 | h2
    · exact ⟨a, b, a1, b1, a2, b2, h2⟩
    · exact ⟨b, a, b1, a1, b2, a2, h2⟩
theorem clN_pair {c : CD} (hc : CDok c) {a b : Nat} (ha : a < kl c) (hb : b < kl c) : clN c (2 ^ a ||| 2 ^ b) ≠ 0 ↔ riv c a b = true := by
  rw [clN_iff hc]
  constructor
  · rintro ⟨i, j, hi, hj, h1, h2, h3⟩
    rw [Nat.testBit_or, bit2, bit2, Bool.or_eq_true, decide_eq_true_iff, decide_eq_true_iff] at h1 h2
    rcases h1 with h1 | h1 <;> rcases h2 with h2 | h2 <;> subst h1 <;> subst h2
    · rw [riv_irr hc hi] at h3; cases h3
    · exact h3
    · rw [riv_sym hc hj hi]; exact h3
    · rw [riv_irr hc hi] at h3; cases h3
  · intro h
    exact ⟨a, b, ha, hb, by rw [Nat.testBit_or, bit2]; simp, by rw [Nat.testBit_or, bit2, bit2]; simp, h⟩
def cntF (p : Nat → Nat → Bool) (a : Nat) : Nat → Nat → Nat
  | 0, _ => 0
  | r + 1, b => (if p a b = true then 1 else 0) + cntF p a r (b + 1)
def cOut (p : Nat → Nat → Bool) (n : Nat) : Nat → Nat → Nat
  | 0, _ => 0
  | r + 1, a => cntF p a (n - (a + 1)) (a + 1) + cOut p n r (a + 1)
theorem cnt_in (p : Nat → Nat → Bool) (a : Nat) : ∀ r b, cntF p a r b = 0 ↔ inF p a r b = 0 := by
  intro r
  induction r with
  | zero => intro b; exact ⟨fun _ => rfl, fun _ => rfl⟩
  | succ r ih =>
    intro b
    unfold cntF inF
    by_cases h : p a b = true
    · rw [if_pos h, if_pos h]; omega
    · rw [if_neg h, if_neg h, Nat.zero_add, ih]
theorem qX_eq {c : CD} {set a b : Nat} (hb : b < kl c) : qX c set a b = (set.testBit a && (set.testBit b && riv c a b)) := by
  unfold qX rvm
  rw [Nat.testBit_and, mk_bit]
  simp [hb, Bool.and_comm]
theorem M_q_in {c : CD} {y : Mem} {set a : Nat} {v2 : Int32} {K : Int32 → Int32 → Int32 → Int32 → Int32 → Prop} {Qp : Int32 → Prop} (hM : MC c y) (hs : set < 4096) (ha : a < kl c) : ∀ r b cnt f : Nat, b + r = kl c → f < 1000 → cnt + r < 1000 → K v2 (nI set) (nI (cnt + cntF (qX c set) a r b)) (dI (if cnt = 0 then (if inF (qX c set) a r b = 0 then f else inF (qX c set) a r b) else f)) (nI (a + 1)) → b_X10_quarrelsOf_33 (r + 1) y v2 (nI set) (nI cnt) (dI f) (nI a) (nI b) K Qp := by
  have hk12 := hM.1.1
  intro r
  induction r with
  | zero =>
    intro b cnt f hb hf hcn hK
    have : b = kl c := by omega
    subst this
    rw [b_X10_quarrelsOf_33]; dsimp only
    rw [show (0 : Int32).toNatClampNeg = 0 by decide, hM.2.1]
    refine ⟨vp_in_nI (n := 0) (by omega) (by omega), fun _ => ?_, fun h => absurd (nI_le (Nat.le_refl _) (by omega)) h⟩
    rw [nI_1]
    unfold cntF inF at hK
    simpa using hK
  | succ r ih =>
    intro b cnt f hb hf hcn hK
    rw [b_X10_quarrelsOf_33]; dsimp only
    unfold b_X10_quarrelsOf_102
    rw [show (0 : Int32).toNatClampNeg = 0 by decide, hM.2.1]
    have hq := qX_eq (c := c) (set := set) (a := a) (b := b) (by omega)
    have no : qX c set a b = false → b_X10_quarrelsOf_33 (r + 1) y v2 (nI set) (nI cnt) (dI f) (nI a) (nI b + 1) K Qp := by
      intro e
      have i1 : inF (qX c set) a (r + 1) b = inF (qX c set) a r (b + 1) := by rw [inF, if_neg (by rw [e]; simp)]
      have i2 : cntF (qX c set) a (r + 1) b = cntF (qX c set) a r (b + 1) := by rw [cntF, if_neg (by rw [e]; simp), Nat.zero_add]
      rw [i1, i2] at hK
      rw [nI_1]
      exact ih (b + 1) cnt f (by omega) hf (by omega) hK
    refine ⟨vp_in_nI (n := 0) (by omega) (by omega), fun h => absurd h (nI_ge (by omega) (by omega)), fun _ => M_isIn (by omega) (by omega) ⟨fun z => ?_, fun z => M_isIn (by omega) (by omega) ⟨fun z2 => ?_, fun z2 => ?_⟩⟩⟩
    · exact no (by rw [hq, (b2_0 _).mp z]; rfl)
    · exact no (by rw [hq, (b2_0 _).mp z2]; simp)
    · have hp : 2 ^ a < 4096 := by have := Nat.pow_lt_pow_right (a := 2) (by omega) (show a < 12 by omega); omega
      have hp2 : 2 ^ b < 4096 := by have := Nat.pow_lt_pow_right (a := 2) (by omega) (show b < 12 by omega); omega
      rw [shl1 (by omega), shl1 (by omega), nI_or (by omega) (by omega)]
      refine M_clashBy hM (Nat.or_lt_two_pow (n := 12) hp hp2) ?_
      have hle : clN c (2 ^ a ||| 2 ^ b) ≤ 24 := by have := fF_le (fun h => decide (doesN c (2 ^ a ||| 2 ^ b) h = 7)) 24 0; unfold clN; omega
      have t1 : set.testBit a = true := by
        cases h : set.testBit a with
        | true => rfl
        | false => exact absurd ((b2_0 _).mpr h) z
      have t2 : set.testBit b = true := by
        cases h : set.testBit b with
        | true => rfl
        | false => exact absurd ((b2_0 _).mpr h) z2
      by_cases e : clN c (2 ^ a ||| 2 ^ b) = 0
      · have hr : riv c a b = false := by
          rw [Bool.eq_false_iff]
          intro q
          exact (clN_pair hM.1 ha (by omega)).mpr q e
        rw [if_pos ((dI_m1 (by omega)).mpr e), if_pos ((dI_m1 (by omega)).mpr e)]
        exact no (by rw [hq, hr]; simp)
      · have hr : riv c a b = true := (clN_pair hM.1 ha (by omega)).mp e
        rw [if_neg (fun q => e ((dI_m1 (by omega)).mp q)), if_neg (fun q => e ((dI_m1 (by omega)).mp q))]
        have hq2 : qX c set a b = true := by rw [hq, t1, t2, hr]; rfl
        have i1 : inF (qX c set) a (r + 1) b = 12 * a + b + 1 := by rw [inF, if_pos hq2]
        have i2 : cntF (qX c set) a (r + 1) b = 1 + cntF (qX c set) a r (b + 1) := by rw [cntF, if_pos hq2]
        have i3 : (if cnt = 0 then (if inF (qX c set) a (r + 1) b = 0 then f else inF (qX c set) a (r + 1) b) else f) = if cnt = 0 then 12 * a + b + 1 else f := by rw [i1, if_neg (show ¬ 12 * a + b + 1 = 0 by omega)]
        rw [i3, i2] at hK
        rw [nI_1, nI_1, show (12 : Int32) = nI 12 from rfl, pk_mul, nI_add, ← dI_s (12 * a + b)]
        have hx : (if nI cnt = (0 : Int32) then dI (12 * a + b + 1) else dI f) = dI (if cnt = 0 then 12 * a + b + 1 else f) := by
          by_cases q : cnt = 0
          · rw [if_pos ((nI_eq0 (by omega)).mpr q), if_pos q]
          · rw [if_neg (fun w => q ((nI_eq0 (by omega)).mp w)), if_neg q]
        rw [hx]
        have hf2 : (if cnt = 0 then 12 * a + b + 1 else f) < 1000 := by split <;> omega
        refine ih (b + 1) (cnt + 1) _ (by omega) hf2 (by omega) ?_
        rw [if_neg (show ¬ cnt + 1 = 0 by omega), show cnt + 1 + cntF (qX c set) a r (b + 1) = cnt + (1 + cntF (qX c set) a r (b + 1)) by omega]
        exact hK
theorem cntF_le (p : Nat → Nat → Bool) (a : Nat) : ∀ r b, cntF p a r b ≤ r := by
  intro r
  induction r with
  | zero => intro b; exact Nat.le_refl 0
  | succ r ih => intro b; have := ih (b + 1); rw [cntF]; split <;> omega
theorem inF_le (p : Nat → Nat → Bool) (a n : Nat) (ha : a < 12) (hn : n ≤ 12) : ∀ r b, b + r = n → inF p a r b ≤ 144 := by
  intro r
  induction r with
  | zero => intro b _; exact Nat.zero_le _
  | succ r ih => intro b hb; have := ih (b + 1) (by omega); rw [inF]; split <;> omega
theorem M_q_out {c : CD} {y : Mem} {set v : Nat} {Qp : Int32 → Prop} (hM : MC c y) (hs : set < 4096) (hv : v < 2) : ∀ r a cnt f : Nat, a + r = kl c → f < 1000 → cnt + 12 * r < 1000 → Qp (if v = 0 then nI (cnt + cOut (qX c set) (kl c) r a) else dI (if cnt = 0 then (if outF (qX c set) (kl c) r a = 0 then f else outF (qX c set) (kl c) r a) else f)) → b_X10_quarrelsOf_16 (r + 1) y (nI v) (nI set) (nI cnt) (dI f) (nI a) Qp := by
  have hk12 := hM.1.1
  intro r
  induction r with
  | zero =>
    intro a cnt f ha hf hcn hQ
    have : a = kl c := by omega
    subst this
    rw [b_X10_quarrelsOf_16]; dsimp only
    rw [show (0 : Int32).toNatClampNeg = 0 by decide, hM.2.1]
    refine ⟨vp_in_nI (n := 0) (by omega) (by omega), fun _ => ?_, fun h => absurd (nI_le (Nat.le_refl _) (by omega)) h⟩
    have i1 : outF (qX c set) (kl c) 0 (kl c) = 0 := rfl
    have i2 : cOut (qX c set) (kl c) 0 (kl c) = 0 := rfl
    rw [i1, i2, if_pos rfl, ite_self, Nat.add_zero] at hQ
    by_cases q : v = 0
    · rw [if_pos ((nI_eq0 (by omega)).mpr q)]; rw [if_pos q] at hQ; exact hQ
    · rw [if_neg (fun w => q ((nI_eq0 (by omega)).mp w))]; rw [if_neg q] at hQ; exact hQ
  | succ r ih =>
    intro a cnt f ha hf hcn hQ
    rw [b_X10_quarrelsOf_16]; dsimp only
    rw [show (0 : Int32).toNatClampNeg = 0 by decide, hM.2.1]
    refine ⟨vp_in_nI (n := 0) (by omega) (by omega), fun h => absurd h (nI_ge (by omega) (by omega)), fun _ => ⟨kl c - (a + 1) + 1, ?_⟩⟩
    rw [nI_1]
    have l1 := cntF_le (qX c set) a (kl c - (a + 1)) (a + 1)
    have l2 := inF_le (qX c set) a (kl c) (by omega) hk12 (kl c - (a + 1)) (a + 1) (by omega)
    refine M_q_in hM hs (by omega) (kl c - (a + 1)) (a + 1) cnt f (by omega) hf (by omega) ?_
    have hf2 : (if cnt = 0 then (if inF (qX c set) a (kl c - (a + 1)) (a + 1) = 0 then f else inF (qX c set) a (kl c - (a + 1)) (a + 1)) else f) < 1000 := by
      split
      · split <;> omega
      · exact hf
    refine ih (a + 1) (cnt + cntF (qX c set) a (kl c - (a + 1)) (a + 1)) _ (by omega) hf2 (by omega) ?_
    have i2 : cOut (qX c set) (kl c) (r + 1) a = cntF (qX c set) a (kl c - (a + 1)) (a + 1) + cOut (qX c set) (kl c) r (a + 1) := rfl
    have i1 : outF (qX c set) (kl c) (r + 1) a = if inF (qX c set) a (kl c - (a + 1)) (a + 1) = 0 then outF (qX c set) (kl c) r (a + 1) else inF (qX c set) a (kl c - (a + 1)) (a + 1) := rfl
    have hz := cnt_in (qX c set) a (kl c - (a + 1)) (a + 1)
    have i3 : (if cnt + cntF (qX c set) a (kl c - (a + 1)) (a + 1) = 0 then (if outF (qX c set) (kl c) r (a + 1) = 0 then (if cnt = 0 then (if inF (qX c set) a (kl c - (a + 1)) (a + 1) = 0 then f else inF (qX c set) a (kl c - (a + 1)) (a + 1)) else f) else outF (qX c set) (kl c) r (a + 1)) else (if cnt = 0 then (if inF (qX c set) a (kl c - (a + 1)) (a + 1) = 0 then f else inF (qX c set) a (kl c - (a + 1)) (a + 1)) else f)) = (if cnt = 0 then (if outF (qX c set) (kl c) (r + 1) a = 0 then f else outF (qX c set) (kl c) (r + 1) a) else f) := by
      rw [i1]
      by_cases q1 : cnt = 0
      · by_cases q2 : inF (qX c set) a (kl c - (a + 1)) (a + 1) = 0
        · have q3 := hz.mpr q2
          simp only [q1, q2, q3, if_true, Nat.add_zero]
        · have q3 : ¬ cntF (qX c set) a (kl c - (a + 1)) (a + 1) = 0 := fun w => q2 (hz.mp w)
          rw [if_neg (show ¬ cnt + cntF (qX c set) a (kl c - (a + 1)) (a + 1) = 0 by omega), if_pos q1, if_pos q1, if_neg q2]
          rw [if_neg q2, if_neg q2]
      · rw [if_neg (show ¬ cnt + cntF (qX c set) a (kl c - (a + 1)) (a + 1) = 0 by omega), if_neg q1, if_neg q1]
    rw [i3, Nat.add_assoc, ← i2]
    exact hQ
theorem sumTo_add (n : Nat) (f g : Nat → Nat) : sumTo n (fun i => f i + g i) = sumTo n f + sumTo n g := by
  induction n with
  | zero => rfl
  | succ n ih => rw [sumTo, sumTo, sumTo, ih]; omega
theorem dbl (e : Nat → Nat → Nat) : ∀ n, (∀ a b, a < n → b < n → e a b = e b a) → (∀ a, a < n → e a a = 0) → sumTo n (fun a => sumTo n (e a)) = 2 * sumTo n (fun a => sumTo a (e a)) := by
  intro n
  induction n with
  | zero => intro _ _; rfl
  | succ n ih =>
    intro h1 h2
    have h3 := ih (fun a b ha hb => h1 a b (by omega) (by omega)) (fun a ha => h2 a (by omega))
    have e1 : sumTo n (fun a => sumTo (n + 1) (e a)) = sumTo n (fun a => sumTo n (e a) + e a n) := sumTo_congr fun a _ => rfl
    have e2 : sumTo n (fun a => e a n) = sumTo n (e n) := sumTo_congr fun a ha => h1 a n (by omega) (by omega)
    have e3 : sumTo (n + 1) (fun a => sumTo (n + 1) (e a)) = sumTo n (fun a => sumTo (n + 1) (e a)) + (sumTo n (e n) + e n n) := rfl
    have e4 : sumTo (n + 1) (fun a => sumTo a (e a)) = sumTo n (fun a => sumTo a (e a)) + sumTo n (e n) := rfl
    rw [e3, e4, e1, sumTo_add, e2, h3, h2 n (by omega)]
    omega
theorem cnt_sum (p : Nat → Nat → Bool) (a : Nat) : ∀ r b, sumTo b (fun j => if p a j = true then 1 else 0) + cntF p a r b = sumTo (b + r) (fun j => if p a j = true then 1 else 0) := by
  intro r
  induction r with
  | zero => intro b; rfl
  | succ r ih =>
    intro b
    have := ih (b + 1)
    rw [sumTo] at this
    rw [cntF, show b + (r + 1) = b + 1 + r by omega, ← this]
    omega
theorem cOut_sum (p : Nat → Nat → Bool) (n : Nat) : ∀ r a, sumTo a (fun j => cntF p j (n - (j + 1)) (j + 1)) + cOut p n r a = sumTo (a + r) (fun j => cntF p j (n - (j + 1)) (j + 1)) := by
  intro r
  induction r with
  | zero => intro b; rfl
  | succ r ih =>
    intro b
    have := ih (b + 1)
    rw [sumTo] at this
    rw [cOut, show b + (r + 1) = b + 1 + r by omega, ← this]
    omega
theorem pop_sum (n m : Nat) : pop n m = sumTo n (fun i => if m.testBit i = true then 1 else 0) := by
  induction n with
  | zero => rfl
  | succ n ih => rw [pop, sumTo, ih]; cases m.testBit n <;> rfl
theorem pop_cut {m n : Nat} (hm : m < 2 ^ n) : ∀ k, pop (n + k) m = pop n m := by
  intro k
  induction k with
  | zero => rfl
  | succ k ih =>
    show pop (n + k) m + (m.testBit (n + k)).toNat = pop n m
    rw [ih, bit_ge hm (by omega)]; rfl
theorem quarrel_sum {c : CD} (hc : CDok c) (set : Nat) : sumTo (kl c) (qRow c set) / 2 = cOut (qX c set) (kl c) (kl c) 0 := by
  have hk12 := hc.1
  have e1 : sumTo (kl c) (qRow c set) = sumTo (kl c) (fun a => sumTo (kl c) (fun b => if qX c set a b = true then 1 else 0)) := sumTo_congr fun a ha => by
    unfold qRow
    have hr : rvm c a &&& set < 2 ^ kl c := Nat.lt_of_le_of_lt Nat.and_le_left (mk_lt _ _)
    by_cases q : set.testBit a = true
    · rw [if_pos q, show 12 = kl c + (12 - kl c) by omega, pop_cut hr, pop_sum]
      refine sumTo_congr fun b hb => ?_
      unfold qX
      rw [q, Bool.true_and]
    · rw [if_neg q]
      have z : ∀ n, sumTo n (fun _ => 0) = 0 := by
        intro n
        induction n with
        | zero => rfl
        | succ n ih => rw [sumTo, ih]
      refine (z (kl c)).symm.trans (sumTo_congr fun b hb => ?_)
      unfold qX
      have q : set.testBit a = false := by simpa using q
      rw [q]
      simp
  have e2 := dbl (fun a b => if qX c set a b = true then 1 else 0) (kl c) (fun a b ha hb => by
    show (if qX c set a b = true then 1 else 0) = (if qX c set b a = true then 1 else 0)
    rw [qX_eq hb, qX_eq ha, riv_sym hc ha hb]
    have : (set.testBit a && (set.testBit b && riv c b a)) = (set.testBit b && (set.testBit a && riv c b a)) := by
      cases set.testBit a <;> cases set.testBit b <;> rfl
    rw [this]) (fun a ha => by
    show (if qX c set a a = true then 1 else 0) = 0
    rw [qX_eq ha, riv_irr hc ha]; simp)
  have e3 := cOut_sum (qX c set) (kl c) (kl c) 0
  have e4 : sumTo (kl c) (fun j => cntF (qX c set) j (kl c - (j + 1)) (j + 1)) + sumTo (kl c) (fun a => sumTo a (fun b => if qX c set a b = true then 1 else 0)) = sumTo (kl c) (fun a => sumTo (kl c) (fun b => if qX c set a b = true then 1 else 0)) := by
    rw [← sumTo_add]
    refine sumTo_congr fun a ha => ?_
    have h1 := cnt_sum (qX c set) a (kl c - (a + 1)) (a + 1)
    rw [show a + 1 + (kl c - (a + 1)) = kl c by omega, sumTo] at h1
    have h2 : (if qX c set a a = true then 1 else 0) = 0 := by rw [qX_eq ha, riv_irr hc ha]; simp
    rw [h2] at h1
    omega
  rw [Nat.zero_add] at e3
  have e5 : sumTo 0 (fun j => cntF (qX c set) j (kl c - (j + 1)) (j + 1)) = 0 := rfl
  rw [e5, Nat.zero_add] at e3
  rw [e1, e3]
  have e2' : sumTo (kl c) (fun a => sumTo (kl c) (fun b => if qX c set a b = true then 1 else 0)) = 2 * sumTo (kl c) (fun a => sumTo a (fun b => if qX c set a b = true then 1 else 0)) := e2
  omega
theorem M_quarrelsOf {c : CD} {R : Nat → Nat} {la : Nat → Bool} {y : Mem} {year v : Nat} {Qp : Int32 → Prop} (hM : MC c y) (hR : RM R la y) (hy : year < 30) (hv : v < 2) (hQ : Qp (if v = 0 then nI (sumTo (kl c) (qRow c (bindsN c R la year 0)) / 2) else dI (outF (qX c (bindsN c R la year 0)) (kl c) (kl c) 0))) : p_X10_quarrelsOf y (nI year) (nI v) Qp := by
  have hk12 := hM.1.1
  refine M_bindsOf (what := 0) hM hR hy (by omega) ⟨kl c + 1, ?_⟩
  refine M_q_out (v := v) hM (bindsN_lt hM.1 _ _ _ _) hv (kl c) 0 0 0 (by omega) (by omega) (by omega) ?_
  rw [Nat.zero_add, ← quarrel_sum hM.1, if_pos rfl]
  have : (if outF (qX c (bindsN c R la year 0)) (kl c) (kl c) 0 = 0 then 0 else outF (qX c (bindsN c R la year 0)) (kl c) (kl c) 0) = outF (qX c (bindsN c R la year 0)) (kl c) (kl c) 0 := by
    by_cases q : outF (qX c (bindsN c R la year 0)) (kl c) (kl c) 0 = 0
    · rw [if_pos q, q]
    · rw [if_neg q]
  rw [this]
  exact hQ
