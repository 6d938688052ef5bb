/-! PURE: joy, clash and which laws bind, by the reference -/
theorem lit_m1 : (-1 : Int32) = dI 0 := by decide
theorem M_joy_loop {c : CD} {y : Mem} {set : Nat} {Qp : Int32 → Prop} (hM : MC c y) (hs : set < 4096) (hQ : Qp (nI (joyN c set))) : ∀ r k : Nat, k + r = 24 → b_X10_joyBy_4 (r + 1) y (nI set) (nI (sumTo k (joyAt c set))) (nI k) Qp := by
  intro r
  induction r with
  | zero =>
    intro k hk
    have : k = 24 := by omega
    subst this
    rw [b_X10_joyBy_4]; dsimp only
    exact ⟨fun _ => hQ, fun h => absurd (nI_le (a := 24) (b := 24) (by omega) (by omega)) h⟩
  | succ r ih =>
    intro k hk
    rw [b_X10_joyBy_4]; dsimp only
    unfold b_X10_joyBy_43
    have hi := ih (k + 1) (by omega)
    rw [sumTo] at hi
    refine ⟨fun h => absurd h (nI_ge (a := k) (b := 24) (by omega) (by omega)), fun _ => M_doesBy hM hs (by omega) ?_⟩
    have hdl := doesN_le c set k
    refine M_in32 (lo := 0) (hi := 5) ?_
    rw [nI_1]
    have e : (decide ((0 : Int32) ≤ dI (doesN c set k)) && decide (dI (doesN c set k) ≤ (5 : Int32))) = decide (1 ≤ doesN c set k ∧ doesN c set k ≤ 6) := by
      have h1 : decide ((0 : Int32) ≤ dI (doesN c set k)) = decide (1 ≤ doesN c set k) := by
        apply decide_eq_decide.mpr
        rw [Int32.le_iff_toInt_le, dI_toInt (by omega), show (0 : Int32).toInt = 0 by decide]; omega
      have h2 : decide (dI (doesN c set k) ≤ (5 : Int32)) = decide (doesN c set k ≤ 6) := by
        apply decide_eq_decide.mpr
        rw [Int32.le_iff_toInt_le, dI_toInt (by omega), show (5 : Int32).toInt = 5 by decide]; omega
      rw [h1, h2]
      simp
    rw [e]
    unfold joyAt at hi
    by_cases hc : 1 ≤ doesN c set k ∧ doesN c set k ≤ 6
    · rw [if_pos hc] at hi
      rw [decide_eq_true hc]
      refine ⟨fun h => absurd h (by decide), fun _ => ?_⟩
      obtain ⟨d, hd⟩ : ∃ d, doesN c set k = d + 1 := ⟨doesN c set k - 1, by omega⟩
      rw [hd, show d + 1 - 1 = d by omega] at hi
      rw [hd, dI_s]
      refine M_likes hM (by omega) (by omega) ?_
      rw [nI_add]
      exact hi
    · rw [if_neg hc] at hi
      rw [decide_eq_false hc]
      refine ⟨fun _ => ?_, fun h => absurd rfl h⟩
      rw [show (0 : Int32) = nI 0 from rfl, nI_add]
      exact hi
theorem M_joyBy {c : CD} {y : Mem} {set : Nat} {Qp : Int32 → Prop} (hM : MC c y) (hs : set < 4096) (hQ : Qp (nI (joyN c set))) : p_X10_joyBy y (nI set) Qp := ⟨25, M_joy_loop hM hs hQ 24 0 rfl⟩
theorem M_clash_loop {c : CD} {y : Mem} {set : Nat} {Qp : Int32 → Prop} (hM : MC c y) (hs : set < 4096) : ∀ r k : Nat, k + r = 24 → Qp (dI (fF (fun h => decide (doesN c set h = 7)) r k)) → b_X10_clashBy_2 (r + 1) y (nI set) (nI k) Qp := by
  intro r
  induction r with
  | zero =>
    intro k hk hQ
    have : k = 24 := by omega
    subst this
    rw [b_X10_clashBy_2]
    exact ⟨fun _ => hQ, fun h => absurd (nI_le (a := 24) (b := 24) (by omega) (by omega)) h⟩
  | succ r ih =>
    intro k hk hQ
    rw [b_X10_clashBy_2]
    refine ⟨fun h => absurd h (nI_ge (a := k) (b := 24) (by omega) (by omega)), fun _ => M_doesBy hM hs (by omega) ?_⟩
    have hdl := doesN_le c set k
    rw [show (6 : Int32) = dI 7 from rfl, dI_inj (by omega) (by omega), nI_1]
    unfold fF at hQ
    refine ⟨fun h => ?_, fun h => ?_⟩
    · rw [if_pos (by simp [h]), dI_s] at hQ; exact hQ
    · rw [if_neg (by simp [h])] at hQ; exact ih (k + 1) (by omega) hQ
theorem M_clashBy {c : CD} {y : Mem} {set : Nat} {Qp : Int32 → Prop} (hM : MC c y) (hs : set < 4096) (hQ : Qp (dI (clN c set))) : p_X10_clashBy y (nI set) Qp := ⟨25, M_clash_loop hM hs 24 0 rfl hQ⟩
/-- whom a law binds by itself: R the year of its trial + 1 (0: none), la: it lapses -/
def ba (R : Nat → Nat) (la : Nat → Bool) (year whom l : Nat) : Bool := decide (R l ≠ 0) && ((decide (R l = year + 1) && decide (whom = 0)) || (decide (R l < year + 1) && !la l))
/-- law by law along what it leans on -/
def oneF (c : CD) (b : Nat → Bool) : Nat → Nat → Bool
  | 0, _ => false
  | k + 1, l => if l < kl c ∧ b l = true then (if dl c l 4 = 0 then true else oneF c b k (dl c l 4 - 1)) else false
theorem php (n : Nat) : ∀ f : Nat → Nat, (∀ i, i ≤ n → f i < n) → ∃ i j, i < j ∧ j ≤ n ∧ f i = f j := by
  induction n with
  | zero => intro f h; exact absurd (h 0 (Nat.le_refl 0)) (Nat.not_lt_zero _)
  | succ n ih =>
    intro f h
    by_cases e : ∃ i, i ≤ n ∧ f i = f (n + 1)
    · obtain ⟨i, h1, h2⟩ := e
      exact ⟨i, n + 1, by omega, Nat.le_refl _, h2⟩
    · obtain ⟨i, j, h1, h2, h3⟩ := ih (fun i => if f i < f (n + 1) then f i else f i - 1) (fun i hi => by
        have h4 := h i (by omega)
        have h5 := h (n + 1) (Nat.le_refl _)
        have h6 : f i ≠ f (n + 1) := fun z => e ⟨i, hi, z⟩
        show (if f i < f (n + 1) then f i else f i - 1) < n
        split <;> omega)
      refine ⟨i, j, h1, by omega, ?_⟩
      have h6 : f i ≠ f (n + 1) := fun z => e ⟨i, by omega, z⟩
      have h7 : f j ≠ f (n + 1) := fun z => e ⟨j, by omega, z⟩
      have h3 : (if f i < f (n + 1) then f i else f i - 1) = (if f j < f (n + 1) then f j else f j - 1) := h3
      split at h3 <;> split at h3 <;> omega
def nxt (c : CD) (l : Nat) : Nat → Nat
  | 0 => l
  | i + 1 => dl c (nxt c l i) 4 - 1
theorem nxt_s (c : CD) (l i : Nat) : nxt c (dl c l 4 - 1) i = nxt c l (i + 1) := by
  induction i with
  | zero => rfl
  | succ i ih => rw [nxt, ih]; rfl
theorem oneF_path (c : CD) (b : Nat → Bool) : ∀ k l, oneF c b k l = true → oneF c b (k - 1) l = true ∨ ((∀ i, i < k → nxt c l i < kl c) ∧ (∀ i, i + 1 < k → dl c (nxt c l i) 4 ≠ 0) ∧ (∀ i, i + 1 = k → dl c (nxt c l i) 4 = 0)) := by
  intro k
  induction k with
  | zero => intro l h; exact Or.inl h
  | succ k ih =>
    intro l h
    unfold oneF at h
    by_cases c1 : l < kl c ∧ b l = true
    · rw [if_pos c1] at h
      by_cases c2 : dl c l 4 = 0
      · cases k with
        | zero =>
          exact Or.inr ⟨fun i hi => by rw [show i = 0 by omega]; exact c1.1, fun i hi => absurd hi (by omega), fun i hi => by rw [show i = 0 by omega]; exact c2⟩
        | succ k =>
          left
          show oneF c b (k + 1) l = true
          unfold oneF
          rw [if_pos c1, if_pos c2]
      · rw [if_neg c2] at h
        rcases ih _ h with h1 | ⟨h1, h2, h3⟩
        · cases k with
          | zero => exact absurd h (by simp [oneF])
          | succ k =>
            left
            show oneF c b (k + 1) l = true
            unfold oneF
            rw [if_pos c1, if_neg c2]
            exact h1
        · right
          refine ⟨fun i hi => ?_, fun i hi => ?_, fun i hi => ?_⟩
          · cases i with
            | zero => exact c1.1
            | succ i => rw [← nxt_s]; exact h1 i (by omega)
          · cases i with
            | zero => exact c2
            | succ i => rw [← nxt_s]; exact h2 i (by omega)
          · cases i with
            | zero => have : k = 0 := by omega
                      subst this
                      exact absurd h (by simp [oneF])
            | succ i => rw [← nxt_s]; exact h3 i (by omega)
    · rw [if_neg c1] at h; cases h
theorem oneF_mono (c : CD) (b : Nat → Bool) : ∀ k l, oneF c b k l = true → oneF c b (k + 1) l = true := by
  intro k
  induction k with
  | zero => intro l h; exact absurd h (by simp [oneF])
  | succ k ih =>
    intro l h
    unfold oneF at h ⊢
    by_cases c1 : l < kl c ∧ b l = true
    · rw [if_pos c1] at h ⊢
      by_cases c2 : dl c l 4 = 0
      · rw [if_pos c2]
      · rw [if_neg c2] at h ⊢; exact ih _ h
    · rw [if_neg c1] at h; cases h
/-- twelve laws: a chain of thirteen cannot end -/
theorem oneF_13 {c : CD} (hc : CDok c) (b : Nat → Bool) (l : Nat) : oneF c b 13 l = oneF c b 12 l := by
  rw [Bool.eq_iff_iff]
  refine ⟨fun h => ?_, oneF_mono c b 12 l⟩
  rcases oneF_path c b 13 l h with h1 | ⟨h1, h2, h3⟩
  · exact h1
  · exfalso
    obtain ⟨i, j, hij, hj, he⟩ := php 12 (nxt c l) (fun i hi => by have := h1 i (by omega); have := hc.1; omega)
    have shift : ∀ s, nxt c l (i + s) = nxt c l (j + s) := by
      intro s
      induction s with
      | zero => exact he
      | succ s ihs =>
        show nxt c l (i + s + 1) = nxt c l (j + s + 1)
        rw [nxt, nxt, ihs]
    have h4 := shift (12 - j)
    rw [show j + (12 - j) = 12 by omega] at h4
    have h5 := h3 12 rfl
    rw [← h4] at h5
    exact h2 (i + (12 - j)) (by omega) h5
theorem chain_one {c : CD} (hc : CDok c) {m : Nat} (hm : m < 4096) : ∀ k a ch, a < kl c → (sd (chainF c k a ch) m = 0 ↔ (sd ch m = 0 ∧ oneF c (fun l => m.testBit l) k a = true)) := by
  have sd0 : ∀ x : Nat, sd x m = 0 ↔ ∀ i, x.testBit i = true → m.testBit i = true := by
    intro x
    constructor
    · intro h i hi
      have : (sd x m).testBit i = false := by rw [h]; simp
      rw [sd_bit, hi] at this
      simpa using this
    · intro h
      apply Nat.eq_of_testBit_eq
      intro i
      rw [sd_bit]
      cases hx : x.testBit i with
      | false => simp
      | true => rw [h i hx]; simp
  have sdn : ¬ sd 4096 m = 0 := by
    intro h
    have h1 := (sd0 4096).mp h 12 (by decide)
    rw [bit_ge (n := 12) hm (Nat.le_refl 12)] at h1
    cases h1
  have sdor : ∀ ch a, sd (ch ||| 2 ^ a) m = 0 ↔ (sd ch m = 0 ∧ m.testBit a = true) := by
    intro ch a
    rw [sd0, sd0]
    constructor
    · intro h
      exact ⟨fun i hi => h i (by rw [Nat.testBit_or, hi]; rfl), h a (by rw [Nat.testBit_or, bit2]; simp)⟩
    · rintro ⟨h1, h2⟩ i hi
      rw [Nat.testBit_or, bit2, Bool.or_eq_true] at hi
      rcases hi with hi | hi
      · exact h1 i hi
      · have : a = i := by simpa using hi
        subst this; exact h2
  intro k
  induction k with
  | zero =>
    intro a ch ha
    simp only [chainF, oneF]
    constructor
    · intro h; exact absurd h sdn
    · rintro ⟨-, h⟩; cases h
  | succ k ih =>
    intro a ch ha
    unfold chainF oneF
    by_cases c1 : dl c a 4 = 0
    · rw [if_pos c1, if_pos c1, sdor]
      by_cases c2 : m.testBit a = true
      · rw [if_pos ⟨ha, c2⟩]; simp [c2]
      · rw [if_neg (fun z => c2 z.2)]; simp [c2]
    · rw [if_neg c1, if_neg c1]
      by_cases c3 : kl c ≤ dl c a 4 - 1
      · rw [if_pos c3]
        constructor
        · intro h; exact absurd h sdn
        · rintro ⟨-, h⟩
          exfalso
          split at h
          · cases k with
            | zero => exact absurd h (by simp [oneF])
            | succ k => unfold oneF at h; rw [if_neg (by omega)] at h; cases h
          · cases h
      · rw [if_neg c3, ih _ _ (by omega), sdor]
        by_cases c2 : m.testBit a = true
        · rw [if_pos ⟨ha, c2⟩]; simp [c2]
        · rw [if_neg (fun z => c2 z.2)]; simp [c2]
theorem oneF_congr {c : CD} {b b' : Nat → Bool} (h : ∀ l, l < kl c → b l = b' l) : ∀ k l, oneF c b k l = oneF c b' k l := by
  intro k
  induction k with
  | zero => intro l; rfl
  | succ k ih =>
    intro l
    unfold oneF
    by_cases hl : l < kl c
    · rw [h l hl, ih]
    · rw [if_neg (fun z => hl z.1), if_neg (fun z => hl z.1)]
/-- laws that bind, with what they lean on -/
def bnd (c : CD) (b : Nat → Bool) : Nat := mk (kl c) (fun l => oneF c b 13 l)
theorem bnd_lt {c : CD} (hc : CDok c) (b : Nat → Bool) : bnd c b < 4096 := mk_le12 hc.1 _
theorem stand_bnd {c : CD} (hc : CDok c) (b : Nat → Bool) : stand c (mk 12 b) = bnd c b := by
  unfold stand bnd
  refine mk_congr fun l hl => ?_
  rw [oneF_13 hc, Bool.eq_iff_iff, decide_eq_true_iff]
  unfold needs
  rw [chain_one hc (mk_lt 12 b) 12 l 0 hl]
  have e : oneF c (fun l => (mk 12 b).testBit l) 12 l = oneF c b 12 l := oneF_congr (fun l hl => by
    show (mk 12 b).testBit l = b l
    rw [mk_bit]
    have := hc.1
    simp [show l < 12 by omega]) 12 l
  rw [e]
  have h0 : sd 0 (mk 12 b) = 0 := by unfold sd; simp
  simp [h0]
/-- the reference's years of trial and lapses -/
def RM (R : Nat → Nat) (la : Nat → Bool) (y : Mem) : Prop := (∀ l, l < 12 → R l ≤ 30) ∧ ∀ l, l < 12 → y 12 l = dI (R l) ∧ y 13 l = b2 (la l)
theorem M_bindsAlone {R : Nat → Nat} {la : Nat → Bool} {y : Mem} {l year whom : Nat} {Qp : Int32 → Prop} (hR : RM R la y) (hl : l < 12) (hy : year < 30) (hw : whom < 2) (hQ : Qp (b2 (ba R la year whom l))) : p_X10_bindsAlone y (nI l) (nI year) (nI whom) Qp := by
  obtain ⟨e1, e2⟩ := hR.2 l hl
  have h30 := hR.1 l hl
  unfold p_X10_bindsAlone b_X10_bindsAlone_19
  rw [nI_clamp (by omega), e1, e2]
  have hin : vp_in (nI l) 12 := vp_in_nI hl (by omega)
  have c1 : (dI (R l) = nI year) ↔ R l = year + 1 := by rw [← dI_s, dI_inj (by omega) (by omega)]
  have c2 : (nI whom = (0 : Int32)) ↔ whom = 0 := nI_eq0 (by omega)
  have c3 : (nI year ≤ dI (R l)) ↔ year + 1 ≤ R l := by rw [← dI_s, Int32.le_iff_toInt_le, dI_toInt (by omega), dI_toInt (by omega)]; omega
  unfold ba at hQ
  refine ⟨hin, hin, fun e => ?_, fun e => ?_⟩
  · rw [dI_m1 (by omega)] at e
    simpa [e, b2] using hQ
  · rw [dI_m1 (by omega)] at e
    by_cases k1 : R l = year + 1
    · simp only [if_pos (c1.mpr k1)]
      by_cases k2 : whom = 0
      · simp only [if_pos (c2.mpr k2)]
        refine ⟨fun z => absurd z (by decide), fun _ => ?_⟩
        simpa [e, k1, k2, b2] using hQ
      · simp only [if_neg (fun z => k2 (c2.mp z))]
        refine ⟨fun _ => ⟨hin, fun z => ?_, fun z => absurd (c3.mpr (by omega)) z⟩, fun z => absurd trivial z⟩
        simpa [k1, k2, b2] using hQ
    · simp only [if_neg (fun z => k1 (c1.mp z))]
      refine ⟨fun _ => ⟨hin, fun z => ?_, fun z => ⟨hin, fun z2 => ?_, fun z2 => ?_⟩⟩, fun z => absurd trivial z⟩
      · have := c3.mp z
        simpa [k1, show ¬ R l < year + 1 by omega, b2] using hQ
      · have k3 : R l < year + 1 := by
          rcases Nat.lt_or_ge (R l) (year + 1) with q | q
          · exact q
          · exact absurd (c3.mpr q) z
        have k4 := (b2_0 _).mp z2
        simpa [e, k1, k3, k4, b2] using hQ
      · have k4 : la l = true := by
          cases hz : la l with
          | true => rfl
          | false => exact absurd ((b2_0 _).mpr hz) z2
        simpa [k1, k4, b2] using hQ
theorem M_isLaw {c : CD} {y : Mem} {v : Int32} {Qp : Int32 → Prop} (hM : MC c y) (h1 : ∀ l, l < kl c → v = nI l → Qp 1) (h2 : (¬ ∃ l, l < kl c ∧ v = nI l) → Qp 0) : p_X10_isLaw y v Qp := by
  have hk12 := hM.1.1
  unfold p_X10_isLaw
  rw [show (0 : Int32).toNatClampNeg = 0 by decide, hM.2.1]
  refine ⟨vp_in_nI (n := 0) (by omega) (by omega), ?_⟩
  refine M_in32 (lo := 0) ?_
  by_cases e : ∃ l, l < kl c ∧ v = nI l
  · obtain ⟨l, hl, ev⟩ := e
    have a1 : (0 : Int32) ≤ v := by rw [ev]; exact nI_pos' (by omega)
    have a2 : v ≤ nI (kl c) - 1 := by
      rw [ev, show (1 : Int32) = nI 1 from rfl, pk_sub (by omega)]; exact nI_le (by omega) (by omega)
    simp only [a1, a2, decide_true, Bool.and_true]
    exact h1 l hl ev
  · have : (decide ((0 : Int32) ≤ v) && decide (v ≤ nI (kl c) - 1)) = false := by
      rw [Bool.eq_false_iff]
      intro z
      simp only [Bool.and_eq_true, decide_eq_true_eq] at z
      obtain ⟨j, hj, ej⟩ := nI_of (Int32.not_lt.mpr z.1)
      have z2 := z.2
      rw [ej, Int32.le_iff_toInt_le, nI_toInt hj] at z2
      have h6 : (nI (kl c) - (1 : Int32)).toInt = (kl c : Int) - 1 := pk_sub_toInt (b := 1) (by omega) (by omega)
      rw [h6] at z2
      exact e ⟨j, by omega, ej⟩
    rw [this]
    exact h2 e
theorem M_one_loop {c : CD} {R : Nat → Nat} {la : Nat → Bool} {y : Mem} {year whom : Nat} {Qp : Int32 → Prop} (hM : MC c y) (hR : RM R la y) (hy : year < 30) (hw : whom < 2) : ∀ k l : Nat, k ≤ 13 → l < 100 → Qp (b2 (oneF c (ba R la year whom) k l)) → b_X10_bindsOne_6 (k + 1) y (nI year) (nI whom) (nI l) (nI (13 - k)) Qp := by
  have hk12 := hM.1.1
  intro k
  induction k with
  | zero =>
    intro l _ hl hQ
    rw [b_X10_bindsOne_6]; dsimp only
    exact ⟨fun _ => hQ, fun h => absurd (nI_le (a := 13) (b := 13 - 0) (by omega) (by omega)) h⟩
  | succ k ih =>
    intro l hk hl hQ
    rw [b_X10_bindsOne_6]; dsimp only
    unfold oneF at hQ
    refine ⟨fun h => absurd h (nI_ge (a := 13 - (k + 1)) (b := 13) (by omega) (by omega)), fun _ => M_isLaw hM (fun l' hl' e => ?_) (fun e => ⟨fun _ => ?_, fun h => absurd rfl h⟩)⟩
    · have : l = l' := (nI_eq (by omega) (by omega)).mp e
      subst this
      refine ⟨fun h => absurd h (by decide), fun _ => M_bindsAlone hR (by omega) hy hw ⟨fun hb => ?_, fun hb => ?_⟩⟩
      · have := (b2_0 _).mp hb
        rw [if_neg (by rw [this]; simp)] at hQ
        exact hQ
      · have hb2 : ba R la year whom l = true := by
          cases hz : ba R la year whom l with
          | true => rfl
          | false => exact absurd ((b2_0 _).mpr hz) hb
        rw [if_pos ⟨hl', hb2⟩] at hQ
        obtain ⟨a0, a1, a2, a3, a4⟩ := hM.2.2.2.1 l hl'
        obtain ⟨o0, o1, o2, o3, o4⟩ := hM.1.2.2.1 l hl'
        rw [show (5 : Int32) = nI 5 from rfl, pk_mul, show (4 : Int32) = nI 4 from rfl, nI_add, nI_clamp (by omega), a4]
        refine ⟨vp_in_nI (by omega) (by omega), fun x9 e9 => ?_⟩
        subst e9
        rw [dI_m1 (by omega), nI_1, show 13 - (k + 1) + 1 = 13 - k by omega]
        refine ⟨fun z => ?_, fun z => ?_⟩
        · rw [if_pos z] at hQ; exact hQ
        · rw [if_neg z] at hQ
          obtain ⟨d, hd⟩ : ∃ d, dl c l 4 = d + 1 := ⟨dl c l 4 - 1, by omega⟩
          rw [hd, show d + 1 - 1 = d by omega] at hQ
          rw [hd, dI_s]
          exact ih d (by omega) (by omega) hQ
    · rw [if_neg (fun z => e ⟨l, z.1, rfl⟩)] at hQ
      exact hQ
theorem M_bindsOne {c : CD} {R : Nat → Nat} {la : Nat → Bool} {y : Mem} {l year whom : Nat} {Qp : Int32 → Prop} (hM : MC c y) (hR : RM R la y) (hy : year < 30) (hw : whom < 2) (hl : l < 12) (hQ : Qp (b2 (oneF c (ba R la year whom) 13 l))) : p_X10_bindsOne y (nI l) (nI year) (nI whom) Qp := ⟨14, M_one_loop hM hR hy hw 13 l (by omega) (by omega) hQ⟩
def bindsN (c : CD) (R : Nat → Nat) (la : Nat → Bool) (year what : Nat) : Nat := mk (kl c) (fun l => if what < 2 then oneF c (ba R la year what) 13 l else (la l && decide (R l ≤ year + 1)))
theorem bindsN_lt {c : CD} (hc : CDok c) (R : Nat → Nat) (la : Nat → Bool) (year what : Nat) : bindsN c R la year what < 4096 := mk_le12 hc.1 _
theorem M_bindsOf_loop {c : CD} {R : Nat → Nat} {la : Nat → Bool} {y : Mem} {year what : Nat} {Qp : Int32 → Prop} (hM : MC c y) (hR : RM R la y) (hy : year < 30) (hw : what < 3) (hQ : Qp (nI (bindsN c R la year what))) : ∀ r k : Nat, k + r = kl c → b_X10_bindsOf_5 (r + 1) y (nI year) (nI what) (nI (mk k (fun l => if what < 2 then oneF c (ba R la year what) 13 l else (la l && decide (R l ≤ year + 1))))) (nI k) Qp := by
  have hk12 := hM.1.1
  intro r
  induction r with
  | zero =>
    intro k hk
    have : k = kl c := by omega
    subst this
    rw [b_X10_bindsOf_5]; dsimp only
    rw [show (0 : Int32).toNatClampNeg = 0 by decide, hM.2.1]
    exact ⟨vp_in_nI (n := 0) (by omega) (by omega), fun _ => hQ, fun h => absurd (nI_le (Nat.le_refl _) (by omega)) h⟩
  | succ r ih =>
    intro k hk
    have hi := ih (k + 1) (by omega)
    rw [mk] at hi
    obtain ⟨e1, e2⟩ := hR.2 k (by omega)
    have h30 := hR.1 k (by omega)
    have hm : mk k (fun l => if what < 2 then oneF c (ba R la year what) 13 l else (la l && decide (R l ≤ year + 1))) < 4096 := mk_le12 (by omega) _
    have hp : 2 ^ k < 4096 := by have := Nat.pow_lt_pow_right (a := 2) (by omega) (show k < 12 by omega); omega
    rw [b_X10_bindsOf_5]; dsimp only
    rw [show (0 : Int32).toNatClampNeg = 0 by decide, hM.2.1, nI_clamp (show k < 2 ^ 31 by omega), e1, e2]
    have b59 : ∀ b : Bool, b = (if what < 2 then oneF c (ba R la year what) 13 k else (la k && decide (R k ≤ year + 1))) → b_X10_bindsOf_59 y (nI year) (nI what) (nI (mk k (fun l => if what < 2 then oneF c (ba R la year what) 13 l else (la l && decide (R l ≤ year + 1))))) (nI k) (b2 b) (fun v1 v2 v3 v4 => b_X10_bindsOf_5 (r + 1) y v1 v2 v3 v4 Qp) Qp := by
      intro b eb
      rw [← eb] at hi
      unfold b_X10_bindsOf_59 b_X10_bindsOf_75
      rw [shl1 (by omega), nI_1]
      cases b with
      | true =>
        rw [if_neg (by decide), nI_or (by omega) (by omega)]
        rw [if_pos rfl] at hi
        exact hi
      | false =>
        rw [if_pos (by decide), show (0 : Int32) = nI 0 from rfl, nI_or (by omega) (by omega)]
        rw [if_neg (by decide)] at hi
        exact hi
    have b58 : (if what < 2 then oneF c (ba R la year what) 13 k else (la k && decide (R k ≤ year + 1))) = false → b_X10_bindsOf_58 y (nI year) (nI what) (nI (mk k (fun l => if what < 2 then oneF c (ba R la year what) 13 l else (la l && decide (R l ≤ year + 1))))) (nI k) (fun v1 v2 v3 v4 => b_X10_bindsOf_5 (r + 1) y v1 v2 v3 v4 Qp) Qp := by
      intro e
      unfold b_X10_bindsOf_58
      exact b59 false e.symm
    have hin : vp_in (nI k) 12 := vp_in_nI (by omega) (by omega)
    refine ⟨vp_in_nI (n := 0) (by omega) (by omega), fun h => absurd h (nI_ge (by omega) (by omega)), fun _ => ⟨fun h2 => ⟨hin, fun hl => ⟨hin, fun hlt => ?_, fun hlt => ?_⟩, fun hl => ?_⟩, fun h2 => ?_⟩⟩
    · have hw2 : ¬ what < 2 := fun z => absurd h2 (nI_ge (a := what) (b := 2) z (by omega))
      refine b58 ?_
      rw [if_neg hw2]
      rw [← dI_s, Int32.lt_iff_toInt_lt, dI_toInt (by omega), dI_toInt (by omega)] at hlt
      simp [show ¬ R k ≤ year + 1 by omega]
    · have hw2 : ¬ what < 2 := fun z => absurd h2 (nI_ge (a := what) (b := 2) z (by omega))
      refine b59 true ?_
      rw [if_neg hw2]
      rw [← dI_s, Int32.lt_iff_toInt_lt, dI_toInt (by omega), dI_toInt (by omega)] at hlt
      have hla : la k = true := by
        cases hz : la k with
        | true => rfl
        | false => rw [hz] at hl; exact absurd hl (by decide)
      simp [hla, show R k ≤ year + 1 by omega]
    · have hw2 : ¬ what < 2 := fun z => absurd h2 (nI_ge (a := what) (b := 2) z (by omega))
      refine b58 ?_
      rw [if_neg hw2]
      have hla : la k = false := by
        cases hz : la k with
        | false => rfl
        | true => rw [hz] at hl; exact absurd rfl hl
      simp [hla]
    · have hw2 : what < 2 := by
        rcases Nat.lt_or_ge what 2 with z | z
        · exact z
        · exact absurd (nI_le (a := 2) (b := what) z (by omega)) h2
      refine M_bindsOne hM hR hy hw2 (by omega) (b59 _ ?_)
      rw [if_pos hw2]
theorem M_bindsOf {c : CD} {R : Nat → Nat} {la : Nat → Bool} {y : Mem} {year what : Nat} {Qp : Int32 → Prop} (hM : MC c y) (hR : RM R la y) (hy : year < 30) (hw : what < 3) (hQ : Qp (nI (bindsN c R la year what))) : p_X10_bindsOf y (nI year) (nI what) Qp := ⟨kl c + 1, M_bindsOf_loop hM hR hy hw hQ (kl c) 0 (by omega)⟩
