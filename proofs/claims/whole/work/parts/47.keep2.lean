/-! PURE: the search for the most laws -/
theorem St.to {c : CD} {D D' : Nat → Prop} {x : Mem} (h : St c D x) (h1 : ∀ m, D m → D' m) (h2 : ∀ m, D' m → D m ∨ ∃ k, D k ∧ better c k m) : St c D' x := by
  rcases h with ⟨a, b⟩ | ⟨b, hb, hD, e0, e1, e2, hall⟩
  · left
    refine ⟨a, fun m hm => ?_⟩
    rcases h2 m hm with q | ⟨k, q, -⟩
    · exact b m q
    · exact b k q
  · right
    refine ⟨b, hb, h1 b hD, e0, e1, e2, fun m hm => ?_⟩
    rcases h2 m hm with q | ⟨k, q, w⟩
    · exact hall m q
    · right
      rcases hall k q with r | r
      · rw [r] at w; exact w
      · exact better_tr r w
def ExtP (c : CD) (left ch m : Nat) : Prop := m < 4096 ∧ (∀ i, ch.testBit i = true → m.testBit i = true) ∧ (∀ i, m.testBit i = true → ch.testBit i = true ∨ left.testBit i = true) ∧ clN c m = 0
def InvK (c : CD) (left ch law : Nat) : Prop := left < 2 ^ kl c ∧ ch < 2 ^ kl c ∧ (∀ i, left.testBit i = true → law ≤ i ∧ ch.testBit i = false) ∧ ∀ a b, ch.testBit a = true → (ch.testBit b = true ∨ left.testBit b = true) → riv c a b = false
theorem lt_kl {x k i : Nat} (hx : x < 2 ^ k) (hi : x.testBit i = true) : i < k := by
  rcases Nat.lt_or_ge i k with q | q
  · exact q
  · rw [bit_ge hx q] at hi; cases hi
theorem cl0_iff {c : CD} (hc : CDok c) {m : Nat} : clN c m = 0 ↔ ∀ a b, a < kl c → b < kl c → m.testBit a = true → m.testBit b = true → riv c a b = false := by
  constructor
  · intro h a b ha hb h1 h2
    rw [Bool.eq_false_iff]
    intro z
    exact (clN_iff hc).mpr ⟨a, b, ha, hb, h1, h2, z⟩ h
  · intro h
    apply Classical.byContradiction
    intro z
    obtain ⟨a, b, ha, hb, h1, h2, h3⟩ := (clN_iff hc).mp z
    rw [h a b ha hb h1 h2] at h3; cases h3
theorem bit_sd2 (left law i : Nat) : (sd left (2 ^ law)).testBit i = true ↔ left.testBit i = true ∧ i ≠ law := by
  rw [sd_bit, bit2]
  simp
  intro _
  exact ⟨fun h z => h z.symm, fun h z => h z.symm⟩
theorem bit_or2 (ch law i : Nat) : (ch ||| 2 ^ law).testBit i = true ↔ ch.testBit i = true ∨ i = law := by
  rw [Nat.testBit_or, bit2, Bool.or_eq_true, decide_eq_true_iff]
  exact ⟨fun h => h.imp id Eq.symm, fun h => h.imp id Eq.symm⟩
theorem bit_rv {c : CD} {left law i : Nat} (hl : left < 2 ^ kl c) : (sd (sd left (2 ^ law)) (rvm c law &&& left)).testBit i = true ↔ left.testBit i = true ∧ i ≠ law ∧ riv c law i = false := by
  rw [sd_bit, Bool.and_eq_true, bit_sd2, Nat.testBit_and]
  unfold rvm
  rw [mk_bit]
  constructor
  · rintro ⟨⟨a, b⟩, d⟩
    have hi := lt_kl hl a
    refine ⟨a, b, ?_⟩
    rw [a] at d
    simpa [hi] using d
  · rintro ⟨a, b, d⟩
    exact ⟨⟨a, b⟩, by rw [d]; simp⟩
theorem ext_with {c : CD} (hc : CDok c) {left ch law m : Nat} (hI : InvK c left ch law) (hb : left.testBit law = true) : (ExtP c left ch m ∧ m.testBit law = true) ↔ ExtP c (sd (sd left (2 ^ law)) (rvm c law &&& left)) (ch ||| 2 ^ law) m := by
  have hlk := lt_kl hI.1 hb
  constructor
  · rintro ⟨⟨h1, h2, h3, h4⟩, h5⟩
    refine ⟨h1, fun i hi => ?_, fun i hi => ?_, h4⟩
    · rcases (bit_or2 _ _ _).mp hi with q | q
      · exact h2 i q
      · rw [q]; exact h5
    · rw [bit_or2, bit_rv hI.1]
      rcases h3 i hi with q | q
      · exact Or.inl (Or.inl q)
      · by_cases e : i = law
        · exact Or.inl (Or.inr e)
        · exact Or.inr ⟨q, e, (cl0_iff hc).mp h4 law i hlk (lt_kl hI.1 q) h5 hi⟩
  · rintro ⟨h1, h2, h3, h4⟩
    refine ⟨⟨h1, fun i hi => h2 i ((bit_or2 _ _ _).mpr (Or.inl hi)), fun i hi => ?_, h4⟩, h2 law ((bit_or2 _ _ _).mpr (Or.inr rfl))⟩
    rcases h3 i hi with q | q
    · rcases (bit_or2 _ _ _).mp q with w | w
      · exact Or.inl w
      · rw [w]; exact Or.inr hb
    · exact Or.inr ((bit_rv hI.1).mp q).1
theorem ext_wo {c : CD} {left ch law m : Nat} (hI : InvK c left ch law) (hb : left.testBit law = true) : (ExtP c left ch m ∧ m.testBit law = false) ↔ ExtP c (sd left (2 ^ law)) ch m := by
  have hn := (hI.2.2.1 law hb).2
  constructor
  · rintro ⟨⟨h1, h2, h3, h4⟩, h5⟩
    refine ⟨h1, h2, fun i hi => ?_, h4⟩
    rw [bit_sd2]
    rcases h3 i hi with q | q
    · exact Or.inl q
    · exact Or.inr ⟨q, fun e => by rw [e, h5] at hi; cases hi⟩
  · rintro ⟨h1, h2, h3, h4⟩
    refine ⟨⟨h1, h2, fun i hi => ?_, h4⟩, ?_⟩
    · rcases h3 i hi with q | q
      · exact Or.inl q
      · exact Or.inr ((bit_sd2 _ _ _).mp q).1
    · rw [Bool.eq_false_iff]
      intro z
      rcases h3 law z with q | q
      · rw [hn] at q; cases q
      · exact ((bit_sd2 _ _ _).mp q).2 rfl
theorem inv_wo {c : CD} {left ch law : Nat} (hI : InvK c left ch law) : InvK c (sd left (2 ^ law)) ch (law + 1) := by
  refine ⟨sd_lt hI.1, hI.2.1, fun i hi => ?_, fun a b ha hb => ?_⟩
  · obtain ⟨q1, q2⟩ := (bit_sd2 _ _ _).mp hi
    have := hI.2.2.1 i q1
    exact ⟨by omega, this.2⟩
  · refine hI.2.2.2 a b ha ?_
    rcases hb with q | q
    · exact Or.inl q
    · exact Or.inr ((bit_sd2 _ _ _).mp q).1
theorem inv_with {c : CD} (hc : CDok c) {left ch law : Nat} (hI : InvK c left ch law) (hb : left.testBit law = true) : InvK c (sd (sd left (2 ^ law)) (rvm c law &&& left)) (ch ||| 2 ^ law) (law + 1) := by
  have hlk := lt_kl hI.1 hb
  refine ⟨sd_lt (sd_lt hI.1), Nat.or_lt_two_pow hI.2.1 (Nat.pow_lt_pow_right (by omega) hlk), fun i hi => ?_, fun a b ha hbb => ?_⟩
  · obtain ⟨q1, q2, q3⟩ := (bit_rv hI.1).mp hi
    have := hI.2.2.1 i q1
    refine ⟨by omega, ?_⟩
    rw [Bool.eq_false_iff]
    intro z
    rcases (bit_or2 _ _ _).mp z with w | w
    · rw [this.2] at w; cases w
    · exact q2 w
  · have hb2 : (ch.testBit b = true ∨ left.testBit b = true) ∧ (b ≠ law → left.testBit b = true → ch.testBit b = true ∨ riv c law b = false) := by
      rcases hbb with q | q
      · rcases (bit_or2 _ _ _).mp q with w | w
        · exact ⟨Or.inl w, fun _ _ => Or.inl w⟩
        · exact ⟨Or.inr (by rw [w]; exact hb), fun z => absurd w z⟩
      · obtain ⟨q1, q2, q3⟩ := (bit_rv hI.1).mp q
        exact ⟨Or.inr q1, fun _ _ => Or.inr q3⟩
    rcases (bit_or2 _ _ _).mp ha with w | w
    · exact hI.2.2.2 a b w hb2.1
    · rw [w]
      have sy : ch.testBit b = true → riv c law b = false := fun z => by
        rw [riv_sym hc hlk (lt_kl hI.2.1 z)]; exact hI.2.2.2 b law z (Or.inr hb)
      by_cases e : b = law
      · rw [e]; exact riv_irr hc hlk
      · rcases hb2.1 with q | q
        · exact sy q
        · rcases hb2.2 e q with r | r
          · exact sy r
          · exact r
theorem pop_or (n a b : Nat) : pop n (a ||| b) ≤ pop n a + pop n b := by
  induction n with
  | zero => exact Nat.le_refl 0
  | succ n ih =>
    rw [pop, pop, pop, Nat.testBit_or]
    cases a.testBit n <;> cases b.testBit n <;> simp <;> omega
theorem ext_pop {c : CD} {left ch m : Nat} (h : ExtP c left ch m) : pop 12 m ≤ pop 12 ch + pop 12 left := by
  refine Nat.le_trans (pop_mono (b := ch ||| left) fun i _ hi => ?_) (pop_or 12 ch left)
  rw [Nat.testBit_or]
  rcases h.2.2.1 i hi with q | q <;> simp [q]
