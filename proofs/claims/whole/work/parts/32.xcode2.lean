/-! PURE: KingsYear's code, quarrels, hindrances, likes -/
def qRow (c : CD) (set a : Nat) : Nat := if set.testBit a then pop 12 (rvm c a &&& set) else 0
theorem qRow_le (c : CD) (set a : Nat) : qRow c set a ≤ 12 := by
  unfold qRow
  have := pop_le 12 (rvm c a &&& set)
  split <;> omega
theorem X_qc_loop {c : CD} {x : Mem} {set : Nat} {Qp : Int32 → Prop} (hX : XC c x) (hs : set < 4096) (hQ : Qp (nI (sumTo (kl c) (qRow c set) / 2))) : ∀ r k : Nat, k + r = kl c → b_X0_quarrelCount_4 (r + 1) x (nI set) (nI (sumTo k (qRow c set))) (nI k) Qp := by
  have hk12 := hX.1.1.1
  intro r
  induction r with
  | zero =>
    intro k hk
    have : k = kl c := by omega
    subst this
    rw [b_X0_quarrelCount_4]; dsimp only; rw [hX.1.2.1]
    have hb := sumTo_le (n := kl c) (b := 12) (f := qRow c set) (fun i _ => qRow_le c set i)
    refine ⟨fun _ => ⟨by decide, ?_⟩, fun h => absurd (nI_le (Nat.le_refl _) (by omega)) h⟩
    rw [show (2 : Int32) = nI 2 from rfl, pk_div (by omega) (by omega) (by omega)]
    exact hQ
  | succ r ih =>
    intro k hk
    rw [b_X0_quarrelCount_4]; dsimp only; rw [hX.1.2.1]
    unfold b_X0_quarrelCount_33
    have hs1 : sumTo (k + 1) (qRow c set) = sumTo k (qRow c set) + qRow c set k := rfl
    refine ⟨fun h => absurd h (nI_ge (by omega) (by omega)), fun _ => ⟨fun hb => ?_, fun hb => ?_⟩⟩
    · rw [isIn_1 (by omega) (by omega)] at hb
      refine X_rivalsWithin hX (by omega) hs ?_
      have hlt : rvm c k &&& set < 2 ^ 12 := Nat.and_lt_two_pow _ hs
      refine X_bitCount (by omega) ?_
      rw [nI_add, nI_1]
      have := ih (k + 1) (by omega)
      rw [hs1, qRow, if_pos hb] at this
      exact this
    · rw [isIn_1 (by omega) (by omega)] at hb
      rw [nI_1]
      have := ih (k + 1) (by omega)
      rw [hs1, qRow, if_neg hb] at this
      exact this
theorem X_quarrelCount {c : CD} {x : Mem} {set : Nat} {Qp : Int32 → Prop} (hX : XC c x) (hs : set < 4096) (hQ : Qp (nI (sumTo (kl c) (qRow c set) / 2))) : p_X0_quarrelCount x (nI set) Qp := ⟨kl c + 1, X_qc_loop hX hs hQ (kl c) 0 (by omega)⟩
def inF (p : Nat → Nat → Bool) (a : Nat) : Nat → Nat → Nat
  | 0, _ => 0
  | r + 1, b => if p a b = true then 12 * a + b + 1 else inF p a r (b + 1)
def outF (p : Nat → Nat → Bool) (n : Nat) : Nat → Nat → Nat
  | 0, _ => 0
  | r + 1, a => if inF p a (n - (a + 1)) (a + 1) = 0 then outF p n r (a + 1) else inF p a (n - (a + 1)) (a + 1)
def qX (c : CD) (set a b : Nat) : Bool := set.testBit a && (rvm c a &&& set).testBit b
theorem X_lq_in {c : CD} {x : Mem} {set a : Nat} {K2 : Int32 → Int32 → Prop} {Qp : Int32 → Prop} (hX : XC c x) (hs : set < 4096) (ha : a < kl c) : ∀ r b : Nat, b + r = kl c → (inF (qX c set) a r b = 0 → K2 (nI set) (nI (a + 1))) → (inF (qX c set) a r b ≠ 0 → Qp (dI (inF (qX c set) a r b))) → b_X0_leastQuarrel_14 (r + 1) x (nI set) (nI a) (nI b) K2 Qp := by
  have hk12 := hX.1.1.1
  intro r
  induction r with
  | zero =>
    intro b hb h0 h1
    have : b = kl c := by omega
    subst this
    rw [b_X0_leastQuarrel_14]; dsimp only; rw [hX.1.2.1, nI_1]
    exact ⟨fun _ => h0 rfl, fun h => absurd (nI_le (Nat.le_refl _) (by omega)) h⟩
  | succ r ih =>
    intro b hb h0 h1
    rw [b_X0_leastQuarrel_14]; dsimp only; rw [hX.1.2.1]
    unfold b_X0_leastQuarrel_52
    rw [inF] at h0 h1
    have go : ¬ qX c set a b = true → b_X0_leastQuarrel_14 (r + 1) x (nI set) (nI a) (nI (b + 1)) K2 Qp := by
      intro hq
      rw [if_neg hq] at h0 h1
      exact ih (b + 1) (by omega) h0 h1
    rw [nI_1 b]
    refine ⟨fun h => absurd h (nI_ge (by omega) (by omega)), fun _ => ⟨fun hb1 => ?_, fun hb1 => ?_⟩⟩
    · rw [isIn_1 (by omega) (by omega)] at hb1
      refine X_rivalsWithin hX (by omega) hs ?_
      have hlt : rvm c a &&& set < 2 ^ 12 := Nat.and_lt_two_pow _ hs
      rw [isIn_1 (by omega) (by omega)]
      refine ⟨fun h2 => ?_, fun h2 => go ?_⟩
      · have hq : qX c set a b = true := by unfold qX; rw [hb1, h2]; rfl
        rw [if_pos hq] at h1
        have := h1 (by omega)
        rw [dI_s] at this
        rw [show (12 : Int32) = nI 12 from rfl, pk_mul, nI_add]
        exact this
      · unfold qX; rw [hb1]; simpa using h2
    · rw [isIn_1 (by omega) (by omega)] at hb1
      exact go (by unfold qX; simp [hb1])
theorem X_lq_out {c : CD} {x : Mem} {set : Nat} {Qp : Int32 → Prop} (hX : XC c x) (hs : set < 4096) : ∀ r a : Nat, a + r = kl c → Qp (dI (outF (qX c set) (kl c) r a)) → b_X0_leastQuarrel_2 (r + 1) x (nI set) (nI a) Qp := by
  have hk12 := hX.1.1.1
  intro r
  induction r with
  | zero =>
    intro a ha hQ
    have : a = kl c := by omega
    subst this
    rw [b_X0_leastQuarrel_2]; dsimp only; rw [hX.1.2.1]
    exact ⟨fun _ => hQ, fun h => absurd (nI_le (Nat.le_refl _) (by omega)) h⟩
  | succ r ih =>
    intro a ha hQ
    rw [b_X0_leastQuarrel_2]; dsimp only; rw [hX.1.2.1]
    rw [outF] at hQ
    refine ⟨fun h => absurd h (nI_ge (by omega) (by omega)), fun _ => ⟨kl c - (a + 1) + 1, ?_⟩⟩
    rw [nI_1]
    refine X_lq_in hX hs (by omega) (kl c - (a + 1)) (a + 1) (by omega) (fun h0 => ?_) (fun h0 => ?_)
    · rw [if_pos h0] at hQ
      exact ih (a + 1) (by omega) hQ
    · rw [if_neg h0] at hQ
      exact hQ
theorem X_leastQuarrel {c : CD} {x : Mem} {set : Nat} {Qp : Int32 → Prop} (hX : XC c x) (hs : set < 4096) (hQ : Qp (dI (outF (qX c set) (kl c) (kl c) 0))) : p_X0_leastQuarrel x (nI set) Qp := ⟨kl c + 1, X_lq_out hX hs (kl c) 0 (by omega) hQ⟩
/-- laws of a set with any one of which he cannot do w (deed + 1; 0 nothing) -/
def hin (c : CD) (h w set : Nat) : Nat := mk (kl c) (fun l => set.testBit l && (cov c l h && (if dl c l 0 = 1 then decide (dl c l 1 + 1 ≠ w) else decide (dl c l 1 + 1 = w))))
def hoF (c : CD) (h w : Nat) : Nat → Nat
  | 0 => 0
  | d + 1 => hoF c h w d ||| (if d + 1 = w then bm c h d else om c h d)
theorem hoF_lt {c : CD} (hc : CDok c) (h w d : Nat) : hoF c h w d < 4096 := by
  induction d with
  | zero => simp [hoF]
  | succ d ih =>
    rw [hoF]
    have h1 := om_lt hc h d
    have h2 := bm_lt hc h d
    exact Nat.or_lt_two_pow (n := 12) ih (by split <;> assumption)
theorem hoF_bit {c : CD} (hc : CDok c) (h w d l : Nat) : (hoF c h w d).testBit l = (decide (l < kl c) && (cov c l h && ((if dl c l 0 = 1 then decide (dl c l 1 + 1 ≠ w) else decide (dl c l 1 + 1 = w)) && decide (dl c l 1 < d)))) := by
  induction d with
  | zero => simp [hoF]
  | succ d ih =>
    rw [hoF, Nat.testBit_or, ih]
    by_cases hl : l < kl c
    · have hm := (hc.2.2.1 l hl).1
      have e1 : (if d + 1 = w then bm c h d else om c h d).testBit l = (decide (dl c l 1 = d) && (cov c l h && (if dl c l 0 = 1 then decide (dl c l 1 + 1 ≠ w) else decide (dl c l 1 + 1 = w)))) := by
        by_cases hw : d + 1 = w
        · rw [if_pos hw]
          unfold bm
          rw [mk_bit]
          by_cases hd : dl c l 1 = d
          · by_cases h1 : dl c l 0 = 1
            · simp [hl, hd, h1, hw]
            · have h0 : dl c l 0 = 0 := by omega
              simp [hl, hd, h0, hw]
          · simp [hd]
        · rw [if_neg hw]
          unfold om
          rw [mk_bit]
          by_cases hd : dl c l 1 = d
          · by_cases h1 : dl c l 0 = 1
            · simp [hl, hd, h1, hw]
            · simp [hl, hd, h1, hw]
          · simp [hd]
      rw [e1]
      by_cases hd : dl c l 1 = d
      · simp [hl, hd]
      · have : decide (dl c l 1 < d + 1) = decide (dl c l 1 < d) := by
          apply decide_eq_decide.mpr; omega
        simp [hl, hd, this]
    · have e2 : (if d + 1 = w then bm c h d else om c h d).testBit l = false := by
        split
        · unfold bm; rw [mk_bit]; simp [hl]
        · unfold om; rw [mk_bit]; simp [hl]
      rw [e2]; simp [hl]
theorem hoF_hin {c : CD} (hc : CDok c) (h w set : Nat) : hoF c h w 6 &&& set = hin c h w set := by
  apply Nat.eq_of_testBit_eq
  intro l
  unfold hin
  rw [Nat.testBit_and, hoF_bit hc, mk_bit]
  by_cases hl : l < kl c
  · have h5 := (hc.2.2.1 l hl).2.1
    simp only [hl, show dl c l 1 < 6 by omega]
    cases set.testBit l <;> simp
  · simp [hl]
theorem X_hin_loop {c : CD} {x : Mem} {set hr w : Nat} {Qp : Int32 → Prop} (hX : XC c x) (hs : set < 4096) (hh : hr < 24) (hw : w ≤ 6) (hQ : Qp (nI (hin c hr w set))) : ∀ r d : Nat, d + r = 6 → b_X0_hindrances_12 (r + 1) x (nI set) (dI w) (nI (hoF c hr w d)) (nI (6 * hr)) (nI d) Qp := by
  intro r
  induction r with
  | zero =>
    intro d hd
    have : d = 6 := by omega
    subst this
    rw [b_X0_hindrances_12]; dsimp only
    have := hoF_lt hX.1.1 hr w 6
    refine ⟨fun _ => ?_, fun h => absurd (nI_le (a := 6) (b := 6) (by omega) (by omega)) h⟩
    rw [nI_and (by omega) (by omega), hoF_hin hX.1.1]
    exact hQ
  | succ r ih =>
    intro d hd
    rw [b_X0_hindrances_12]; dsimp only
    unfold b_X0_hindrances_50
    have h0 := hoF_lt hX.1.1 hr w d
    have h1 := om_lt hX.1.1 hr d
    have h2 := bm_lt hX.1.1 hr d
    obtain ⟨e16, e17, e18⟩ := hX.1.2.2.2 hr hh d (by omega)
    have hi := ih (d + 1) (by omega)
    rw [hoF] at hi
    rw [nI_add, nI_clamp (by omega), e16, e17, nI_or (by omega) (by omega), nI_or (by omega) (by omega), nI_1]
    have hdw : (nI d = dI w) ↔ d + 1 = w := by rw [← dI_s, dI_inj (by omega) (by omega)]
    refine ⟨fun h => absurd h (nI_ge (a := d) (b := 6) (by omega) (by omega)), fun _ => ⟨fun e => ⟨vp_in_nI (by omega) (by omega), ?_⟩, fun e => ⟨vp_in_nI (by omega) (by omega), ?_⟩⟩⟩
    · rw [if_pos (hdw.mp e)] at hi; exact hi
    · rw [if_neg (fun z => e (hdw.mpr z))] at hi; exact hi
theorem X_hindrances {c : CD} {x : Mem} {set hr w : Nat} {Qp : Int32 → Prop} (hX : XC c x) (hs : set < 4096) (hh : hr < 24) (hw : w ≤ 6) (hQ : Qp (nI (hin c hr w set))) : p_X0_hindrances x (nI set) (nI hr) (dI w) Qp := by
  refine ⟨7, ?_⟩
  rw [show nI hr * (6 : Int32) = nI (6 * hr) by rw [show (6 : Int32) = nI 6 from rfl, pk_mul, Nat.mul_comm]]
  exact X_hin_loop hX hs hh hw hQ 6 0 rfl
theorem hin_lt {c : CD} (hc : CDok c) (h w set : Nat) : hin c h w set < 4096 := mk_le12 hc.1 _
/-- exempt: the bits + 1, or 0 -/
def exN (c : CD) (h w set : Nat) : Nat := if doesN c (sd set (hin c h w set)) h = w then hin c h w set + 1 else 0
theorem X_leastExemption {c : CD} {x : Mem} {set hr w : Nat} {Qp : Int32 → Prop} (hX : XC c x) (hs : set < 4096) (hh : hr < 24) (hw : w ≤ 6) (hQ : Qp (dI (exN c hr w set))) : p_X0_leastExemption x (nI set) (nI hr) (dI w) Qp := by
  refine X_hindrances hX hs hh hw ?_
  have h1 := hin_lt hX.1.1 hr w set
  have h2 : sd set (hin c hr w set) < 2 ^ 12 := sd_lt hs
  rw [nI_sd (by omega) (by omega)]
  refine X_deedBy hX.1 h2 hh ?_
  have h3 := doesN_le c (sd set (hin c hr w set)) hr
  unfold exN at hQ
  by_cases e : doesN c (sd set (hin c hr w set)) hr = w
  · rw [if_pos (by rw [e])]
    rw [if_pos e, dI_s] at hQ
    exact hQ
  · rw [if_neg (fun z => e ((dI_inj (by omega) (by omega)).mp z))]
    rw [if_neg e, dI_0] at hQ
    exact hQ
theorem X_at6 {c : CD} {x : Mem} {hr d : Nat} (hX : XC c x) (hh : hr < 24) (hd : d < 6) : vp_in (nI hr * (6 : Int32) + nI d) 144 ∧ (nI hr * (6 : Int32) + nI d).toNatClampNeg = 6 * hr + d := by
  rw [show (6 : Int32) = nI 6 from rfl, pk_mul, nI_add]
  exact ⟨vp_in_nI (by omega) (by omega), by rw [nI_clamp (by omega)]; omega⟩
theorem X_coveringLaws {c : CD} {x : Mem} {hr : Nat} {Qp : Int32 → Prop} (hX : XC c x) (hh : hr < 24) (hQ : Qp (nI (cvm c hr))) : p_X0_coveringLaws x (nI hr) Qp := by
  refine ⟨vp_in_nI (by omega) (by omega), ?_⟩
  rw [nI_clamp (by omega), (hX.2.2 hr hh).1]
  exact hQ
theorem X_ordersOf {c : CD} {x : Mem} {hr d : Nat} {Qp : Int32 → Prop} (hX : XC c x) (hh : hr < 24) (hd : d < 6) (hQ : Qp (nI (om c hr d))) : p_X0_ordersOf x (nI hr) (nI d) Qp := by
  obtain ⟨h1, h2⟩ := X_at6 hX hh hd
  refine ⟨h1, ?_⟩
  rw [h2, (hX.1.2.2.2 hr hh d hd).1]
  exact hQ
theorem X_bansOf {c : CD} {x : Mem} {hr d : Nat} {Qp : Int32 → Prop} (hX : XC c x) (hh : hr < 24) (hd : d < 6) (hQ : Qp (nI (bm c hr d))) : p_X0_bansOf x (nI hr) (nI d) Qp := by
  obtain ⟨h1, h2⟩ := X_at6 hX hh hd
  refine ⟨h1, ?_⟩
  rw [h2, (hX.1.2.2.2 hr hh d hd).2.1]
  exact hQ
def pref (c : CD) (h d w : Nat) : Bool := if w = 0 then decide (0 < lk c h d) else (decide (lk c h (w - 1) < lk c h d) || (decide (0 < lk c h d) && (decide (lk c h d = lk c h (w - 1)) && decide (d + 1 < w))))
theorem X_prefers {c : CD} {x : Mem} {hr d w : Nat} {Qp : Int32 → Prop} (hX : XC c x) (hh : hr < 24) (hd : d < 6) (hw : w ≤ 6) (hQ : Qp (b2 (pref c hr d w))) : p_X0_prefers x (nI hr) (nI d) (dI w) Qp := by
  obtain ⟨h1, h2⟩ := X_at6 hX hh hd
  refine ⟨h1, fun x2 e2 => ?_⟩
  rw [h2, (hX.1.2.2.2 hr hh d hd).2.2] at e2
  subst e2
  have hl := lk_le hX.1.1 hr d
  have hz : (nI (lk c hr d) ≤ (0 : Int32)) ↔ ¬ 0 < lk c hr d := by
    rw [show (0 : Int32) = nI 0 from rfl, nI_leI (by omega) (by omega)]; omega
  refine ⟨fun hm => ?_, fun hm => ?_⟩
  · have hw0 := (dI_m1 (by omega)).mp hm
    unfold pref at hQ
    rw [if_pos hw0] at hQ
    by_cases e : 0 < lk c hr d
    · rw [if_neg (fun z => hz.mp z e)]
      simpa [b2, e] using hQ
    · rw [if_pos (hz.mpr e)]
      simpa [b2, e] using hQ
  · rw [dI_m1 (by omega)] at hm
    obtain ⟨o, ho⟩ : ∃ o, w = o + 1 := ⟨w - 1, by omega⟩
    subst ho
    rw [dI_s]
    obtain ⟨h3, h4⟩ := X_at6 hX hh (show o < 6 by omega)
    refine ⟨h3, fun x5 e5 => ?_⟩
    rw [h4, (hX.1.2.2.2 hr hh o (by omega)).2.2] at e5
    subst e5
    have hl2 := lk_le hX.1.1 hr o
    unfold pref at hQ
    rw [if_neg (by omega), show o + 1 - 1 = o by omega] at hQ
    have a1 : (nI (lk c hr o) < nI (lk c hr d)) ↔ lk c hr o < lk c hr d := nI_ltI (by omega) (by omega)
    have a2 : (nI (lk c hr d) = nI (lk c hr o)) ↔ lk c hr d = lk c hr o := nI_eq (by omega) (by omega)
    have a3 : (nI o ≤ nI d) ↔ o ≤ d := nI_leI (by omega) (by omega)
    by_cases e1 : lk c hr o < lk c hr d
    · rw [if_pos (a1.mpr e1)]; simpa [b2, e1] using hQ
    · rw [if_neg (fun z => e1 (a1.mp z))]
      by_cases e2 : 0 < lk c hr d
      · rw [if_neg (fun z => hz.mp z e2)]
        by_cases e3 : lk c hr d = lk c hr o
        · rw [if_pos (a2.mpr e3)]
          by_cases e4 : o ≤ d
          · rw [if_pos (a3.mpr e4)]
            simpa [b2, e1, e2, e3, show ¬ d < o by omega] using hQ
          · rw [if_neg (fun z => e4 (a3.mp z))]
            have e6 : 0 < lk c hr o := by omega
            simpa [b2, e1, e6, e3, show d < o by omega] using hQ
        · rw [if_neg (fun z => e3 (a2.mp z))]
          simpa [b2, e1, e2, e3] using hQ
      · rw [if_pos (hz.mpr e2)]
        simpa [b2, e1, e2] using hQ
def lkB (c : CD) (h : Nat) : Bool := decide (h ≠ 0) && (decide (cvm c h = cvm c (h - 1)) && (List.range 6).all (fun d => decide (lk c h d = lk c (h - 1) d)))
theorem X_lb_loop {c : CD} {x : Mem} {hr : Nat} {Qp : Int32 → Prop} (hX : XC c x) (hh : hr < 24) (h0 : hr ≠ 0) (q1 : (∀ d, d < 6 → lk c hr d = lk c (hr - 1) d) → Qp 1) (q0 : (¬ ∀ d, d < 6 → lk c hr d = lk c (hr - 1) d) → Qp 0) : ∀ r d : Nat, d + r = 6 → (∀ e, e < d → lk c hr e = lk c (hr - 1) e) → b_X0_isLikeBefore_25 (r + 1) x (nI hr) (nI d) Qp := by
  intro r
  induction r with
  | zero =>
    intro d hd hp
    have : d = 6 := by omega
    subst this
    rw [b_X0_isLikeBefore_25]; dsimp only
    exact ⟨fun _ => q1 hp, fun h => absurd (nI_le (a := 6) (b := 6) (by omega) (by omega)) h⟩
  | succ r ih =>
    intro d hd hp
    rw [b_X0_isLikeBefore_25]; dsimp only
    have e1 : nI hr - (1 : Int32) = nI (hr - 1) := by rw [show (1 : Int32) = nI 1 from rfl, pk_sub (by omega)]
    rw [e1]
    obtain ⟨h1, h2⟩ := X_at6 hX hh (show d < 6 by omega)
    obtain ⟨h3, h4⟩ := X_at6 (hr := hr - 1) hX (by omega) (show d < 6 by omega)
    rw [h2, h4, (hX.1.2.2.2 hr hh d (by omega)).2.2, (hX.1.2.2.2 (hr - 1) (by omega) d (by omega)).2.2]
    have hl := lk_le hX.1.1 hr d
    have hl2 := lk_le hX.1.1 (hr - 1) d
    rw [nI_eq (by omega) (by omega), nI_1]
    refine ⟨fun h => absurd h (nI_ge (a := d) (b := 6) (by omega) (by omega)), fun _ => ⟨h1, h3, fun e => ?_, fun e => q0 (fun z => e (z d (by omega)))⟩⟩
    exact ih (d + 1) (by omega) (lt_s hp e)
theorem X_isLikeBefore {c : CD} {x : Mem} {hr : Nat} {Qp : Int32 → Prop} (hX : XC c x) (hh : hr < 24) (hQ : Qp (b2 (lkB c hr))) : p_X0_isLikeBefore x (nI hr) Qp := by
  unfold p_X0_isLikeBefore
  refine ⟨fun h => ?_, fun h => ?_⟩
  · have : hr = 0 := (nI_eq0 (by omega)).mp h
    subst this
    simpa [lkB, b2] using hQ
  · have h0 : hr ≠ 0 := fun z => h ((nI_eq0 (by omega)).mpr z)
    have e1 : nI hr - (1 : Int32) = nI (hr - 1) := by rw [show (1 : Int32) = nI 1 from rfl, pk_sub (by omega)]
    rw [e1, nI_clamp (by omega), nI_clamp (by omega), (hX.2.2 hr hh).1, (hX.2.2 (hr - 1) (by omega)).1]
    have hc1 := cvm_lt hX.1.1 hr
    have hc2 := cvm_lt hX.1.1 (hr - 1)
    rw [nI_eq (by omega) (by omega)]
    have hall : ((List.range 6).all (fun d => decide (lk c hr d = lk c (hr - 1) d)) = true) ↔ ∀ d, d < 6 → lk c hr d = lk c (hr - 1) d := by
      simp [List.all_eq_true]
    refine ⟨vp_in_nI (by omega) (by omega), vp_in_nI (by omega) (by omega), fun e => ⟨7, ?_⟩, fun e => ?_⟩
    · refine X_lb_loop hX hh h0 (fun z => ?_) (fun z => ?_) 6 0 rfl (fun _ hz => absurd hz (by omega))
      · have : lkB c hr = true := by unfold lkB; rw [hall.mpr z]; simp [h0, e]
        rw [this] at hQ; exact hQ
      · have : lkB c hr = false := by
          unfold lkB
          have : (List.range 6).all (fun d => decide (lk c hr d = lk c (hr - 1) d)) = false := Bool.eq_false_iff.mpr (fun q => z (hall.mp q))
          rw [this]; simp
        rw [this] at hQ; exact hQ
    · have : lkB c hr = false := by unfold lkB; simp [e]
      rw [this] at hQ; exact hQ
theorem X_lawPart {c : CD} {x : Mem} {l k : Nat} {Qp : Int32 → Prop} (hX : XC c x) (hl : l < kl c) (hk : k < 5) (hQ : Qp (if k = 4 then dI (dl c l 4) else nI (dl c l k))) : p_X0_lawPart x (nI l) (nI k) Qp := by
  have hk12 := hX.1.1.1
  obtain ⟨a0, a1, a2, a3, a4⟩ := hX.1.2.2.1 l hl
  unfold p_X0_lawPart
  rw [nI_clamp (by omega), a0, a1, a2, a3, a4]
  have hin : vp_in (nI l) 12 := vp_in_nI (by omega) (by omega)
  match k, hk with
  | 0, _ => exact ⟨fun _ => ⟨hin, hQ⟩, fun h => absurd rfl h⟩
  | 1, _ => exact ⟨fun h => absurd h (by decide), fun _ => ⟨fun _ => ⟨hin, hQ⟩, fun h => absurd rfl h⟩⟩
  | 2, _ => exact ⟨fun h => absurd h (by decide), fun _ => ⟨fun h => absurd h (by decide), fun _ => ⟨fun _ => ⟨hin, hQ⟩, fun h => absurd rfl h⟩⟩⟩
  | 3, _ => exact ⟨fun h => absurd h (by decide), fun _ => ⟨fun h => absurd h (by decide), fun _ => ⟨fun h => absurd h (by decide), fun _ => ⟨fun _ => ⟨hin, hQ⟩, fun h => absurd rfl h⟩⟩⟩⟩
  | 4, _ => exact ⟨fun h => absurd h (by decide), fun _ => ⟨fun h => absurd h (by decide), fun _ => ⟨fun h => absurd h (by decide), fun _ => ⟨fun h => absurd h (by decide), fun _ => ⟨hin, hQ⟩⟩⟩⟩⟩
