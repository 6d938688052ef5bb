/-! PURE: gout: the chance of what he does -/
def grN (c : CD) (h l : Nat) : Nat := if cov c l h = true then 2 * (dl c l 1 % 6) + (if dl c l 0 = 1 then 0 else 1) else 12
theorem grN_lt (c : CD) (h l : Nat) : grN c h l < 13 := by
  unfold grN
  have := Nat.mod_lt (dl c l 1) (show 0 < 6 by omega)
  split
  · split <;> omega
  · omega
theorem grN_o {c : CD} (hc : CDok c) {h l e : Nat} (hl : l < kl c) (he : e < 6) : grN c h l = 2 * e ↔ cov c l h = true ∧ dl c l 0 = 1 ∧ dl c l 1 = e := by
  obtain ⟨o0, o1, -⟩ := hc.2.2.1 l hl
  unfold grN
  by_cases q : cov c l h = true
  · rw [if_pos q, Nat.mod_eq_of_lt (by omega)]
    by_cases q1 : dl c l 0 = 1
    · rw [if_pos q1]; constructor
      · intro z; exact ⟨q, q1, by omega⟩
      · rintro ⟨-, -, z⟩; omega
    · rw [if_neg q1]; constructor
      · intro z; omega
      · rintro ⟨-, z, -⟩; exact absurd z q1
  · rw [if_neg q]; constructor
    · intro z; omega
    · rintro ⟨z, -⟩; exact absurd z q
theorem grN_f {c : CD} (hc : CDok c) {h l e : Nat} (hl : l < kl c) (he : e < 6) : grN c h l = 2 * e + 1 ↔ cov c l h = true ∧ dl c l 0 = 0 ∧ dl c l 1 = e := by
  obtain ⟨o0, o1, -⟩ := hc.2.2.1 l hl
  unfold grN
  by_cases q : cov c l h = true
  · rw [if_pos q, Nat.mod_eq_of_lt (by omega)]
    by_cases q1 : dl c l 0 = 1
    · rw [if_pos q1]; constructor
      · intro z; omega
      · rintro ⟨-, z, -⟩; omega
    · rw [if_neg q1]; constructor
      · intro z; exact ⟨q, by omega, by omega⟩
      · rintro ⟨-, -, z⟩; omega
  · rw [if_neg q]; constructor
    · intro z; omega
    · rintro ⟨z, -⟩; exact absurd z q
theorem kept_iff {A m l : Nat} : kept A m l ↔ (sd A m).testBit l = true := by
  unfold kept
  rw [sd_bit]
  cases A.testBit l <;> cases m.testBit l <;> simp
theorem oB_g {c : CD} (hc : CDok c) {A m h e : Nat} (he : e < 6) : oB c (sd A m) h e = true ↔ ∃ l, l < kl c ∧ kept A m l ∧ grN c h l = 2 * e := by
  rw [oB_iff]
  constructor
  · rintro ⟨l, a1, a2, a3, a4, a5⟩; exact ⟨l, a1, kept_iff.mpr a2, (grN_o hc a1 he).mpr ⟨a3, a4, a5⟩⟩
  · rintro ⟨l, a1, a2, a3⟩
    obtain ⟨b1, b2, b3⟩ := (grN_o hc a1 he).mp a3
    exact ⟨l, a1, kept_iff.mp a2, b1, b2, b3⟩
theorem fB_g {c : CD} (hc : CDok c) {A m h e : Nat} (he : e < 6) : fB c (sd A m) h e = true ↔ ∃ l, l < kl c ∧ kept A m l ∧ grN c h l = 2 * e + 1 := by
  rw [fB_iff]
  constructor
  · rintro ⟨l, a1, a2, a3, a4, a5⟩; exact ⟨l, a1, kept_iff.mpr a2, (grN_f hc a1 he).mpr ⟨a3, a4, a5⟩⟩
  · rintro ⟨l, a1, a2, a3⟩
    obtain ⟨b1, b2, b3⟩ := (grN_f hc a1 he).mp a3
    exact ⟨l, a1, kept_iff.mp a2, b1, b2, b3⟩
def phF (fo fb : Nat → Nat) (g : Nat) : Nat := if g = 12 then 0 else if g % 2 = 0 then fo (g / 2) else fb (g / 2)
theorem phF_o (fo fb : Nat → Nat) {e : Nat} (he : e < 6) : phF fo fb (2 * e) = fo e := by
  unfold phF
  rw [if_neg (by omega), if_pos (by omega), show 2 * e / 2 = e by omega]
theorem phF_b (fo fb : Nat → Nat) {e : Nat} (he : e < 6) : phF fo fb (2 * e + 1) = fb e := by
  unfold phF
  rw [if_neg (by omega), if_neg (by omega), show (2 * e + 1) / 2 = e by omega]
theorem phi_ob {c : CD} (hc : CDok c) {A m h : Nat} {fo fb : Nat → Nat} (hm : m < 2 ^ kl c) : PhiN A (grN c h) (phF fo fb) (kl c) m ↔ sd m A = 0 ∧ (∀ e, e < 6 → (fo e = 1 → oB c (sd A m) h e = false) ∧ (fo e = 2 → oB c (sd A m) h e = true)) ∧ ∀ e, e < 6 → (fb e = 1 → fB c (sd A m) h e = false) ∧ (fb e = 2 → fB c (sd A m) h e = true) := by
  unfold PhiN
  have hsub : (∀ l, l < kl c → m.testBit l = true → A.testBit l = true) ↔ sd m A = 0 := by
    rw [sd0_iff]
    exact ⟨fun z i hi => z i (lt_kl hm hi) hi, fun z l _ hl => z l hl⟩
  rw [hsub]
  refine and_congr_right fun _ => ?_
  constructor
  · intro z
    refine ⟨fun e he => ?_, fun e he => ?_⟩
    · have := z (2 * e) (by omega)
      rw [phF_o fo fb he, ← oB_g hc he] at this
      exact ⟨fun q => Bool.eq_false_iff.mpr (this.1 q), this.2⟩
    · have := z (2 * e + 1) (by omega)
      rw [phF_b fo fb he, ← fB_g hc he] at this
      exact ⟨fun q => Bool.eq_false_iff.mpr (this.1 q), this.2⟩
  · rintro ⟨z1, z2⟩ g hg
    by_cases e12 : g = 12
    · have : phF fo fb g = 0 := by unfold phF; rw [if_pos e12]
      rw [this]
      exact ⟨fun q => absurd q (by omega), fun q => absurd q (by omega)⟩
    · by_cases ev : g % 2 = 0
      · obtain ⟨e, rfl⟩ : ∃ e, g = 2 * e := ⟨g / 2, by omega⟩
        have := z1 e (by omega)
        rw [phF_o fo fb (by omega), ← oB_g hc (by omega)]
        exact ⟨fun q => Bool.eq_false_iff.mp (this.1 q), this.2⟩
      · obtain ⟨e, rfl⟩ : ∃ e, g = 2 * e + 1 := ⟨g / 2, by omega⟩
        have := z2 e (by omega)
        rw [phF_b fo fb (by omega), ← fB_g hc (by omega)]
        exact ⟨fun q => Bool.eq_false_iff.mp (this.1 q), this.2⟩
def ph0 (c : CD) (h : Nat) : Nat → Nat := phF (fun _ => 1) (fun e => if pref c h e 0 = true then 2 else 0)
def ph1 (u : Nat) : Nat → Nat := phF (fun e => if e = u then 2 else 1) (fun e => if e = u then 1 else 0)
def ph2 (c : CD) (h u : Nat) : Nat → Nat := phF (fun _ => 1) (fun e => if e = u then 1 else if pref c h e (u + 1) = true then 2 else 0)
theorem phF_le {fo fb : Nat → Nat} (h1 : ∀ e, fo e ≤ 2) (h2 : ∀ e, fb e ≤ 2) (g : Nat) : phF fo fb g ≤ 2 := by
  unfold phF
  split
  · omega
  · split
    · exact h1 _
    · exact h2 _
theorem pref_self (c : CD) (h u : Nat) : pref c h u (u + 1) = false := by
  unfold pref
  rw [if_neg (by omega), show u + 1 - 1 = u by omega]
  simp
section Ev
variable {c : CD} {A m h : Nat}
theorem ev0 (hc : CDok c) (hm : m < 2 ^ kl c) : (sd m A = 0 ∧ doesN c (sd A m) h = 0) ↔ PhiN A (grN c h) (ph0 c h) (kl c) m := by
  unfold ph0
  rw [phi_ob hc hm, does_w hc (by omega), hin0 hc (by omega)]
  refine and_congr_right fun _ => ?_
  constructor
  · rintro ⟨⟨z1, z2⟩, z3⟩
    refine ⟨fun e he => ⟨fun _ => ?_, fun q => absurd q (by omega)⟩, fun e he => ⟨fun q => ?_, fun q => ?_⟩⟩
    · cases ho : oB c (sd A m) h e with
      | false => rfl
      | true => exact absurd (z1 e he ho) (by omega)
    · split at q <;> omega
    · rcases z3 with ⟨z, -⟩ | ⟨-, z⟩
      · exact absurd rfl z
      · refine z e he ?_
        by_cases w : pref c h e 0 = true
        · exact w
        · rw [if_neg w] at q; omega
  · rintro ⟨z1, z2⟩
    refine ⟨⟨fun e he ho => ?_, fun e he _ => by omega⟩, Or.inr ⟨Or.inl rfl, fun e he hp => (z2 e he).2 (by rw [if_pos hp])⟩⟩
    rw [(z1 e he).1 rfl] at ho; cases ho
theorem ev1 (hc : CDok c) (hm : m < 2 ^ kl c) {u : Nat} (hu : u < 6) : (sd m A = 0 ∧ doesN c (sd A m) h = u + 1 ∧ oB c (sd A m) h u = true) ↔ PhiN A (grN c h) (ph1 u) (kl c) m := by
  unfold ph1
  rw [phi_ob hc hm, does_w hc (by omega), hin0 hc (by omega), show u + 1 - 1 = u by omega]
  refine and_congr_right fun _ => ?_
  constructor
  · rintro ⟨⟨⟨z1, z2⟩, -⟩, z3⟩
    refine ⟨fun e he => ⟨fun q => ?_, fun q => ?_⟩, fun e he => ⟨fun q => ?_, fun q => ?_⟩⟩
    · cases ho : oB c (sd A m) h e with
      | false => rfl
      | true =>
        have := z1 e he ho
        rw [if_pos (show e = u by omega)] at q; omega
    · by_cases w : e = u
      · subst w; exact z3
      · rw [if_neg w] at q; omega
    · by_cases w : e = u
      · subst w
        cases hf : fB c (sd A m) h e with
        | false => rfl
        | true => exact absurd rfl (z2 e he hf)
      · rw [if_neg w] at q; omega
    · split at q <;> omega
  · rintro ⟨z1, z2⟩
    have hou : oB c (sd A m) h u = true := (z1 u hu).2 (by rw [if_pos rfl])
    refine ⟨⟨⟨fun e he ho => ?_, fun e he hf => ?_⟩, Or.inl ⟨by omega, hou⟩⟩, hou⟩
    · by_cases w : e = u
      · omega
      · rw [(z1 e he).1 (by rw [if_neg w])] at ho; cases ho
    · intro w
      rw [(z2 e he).1 (by rw [if_pos (by omega)])] at hf; cases hf
theorem ev2 (hc : CDok c) (hm : m < 2 ^ kl c) {u : Nat} (hu : u < 6) : (sd m A = 0 ∧ doesN c (sd A m) h = u + 1 ∧ oB c (sd A m) h u = false) ↔ (0 < lk c h u ∧ PhiN A (grN c h) (ph2 c h u) (kl c) m) := by
  unfold ph2
  rw [phi_ob hc hm, does_w hc (by omega), hin0 hc (by omega), show u + 1 - 1 = u by omega]
  constructor
  · rintro ⟨hs, ⟨⟨z1, z2⟩, z4⟩, z3⟩
    rcases z4 with ⟨-, z4⟩ | ⟨z4, z5⟩
    · rw [z3] at z4; cases z4
    refine ⟨by omega, hs, fun e he => ⟨fun _ => ?_, fun q => absurd q (by omega)⟩, fun e he => ⟨fun q => ?_, fun q => ?_⟩⟩
    · cases ho : oB c (sd A m) h e with
      | false => rfl
      | true =>
        have := z1 e he ho
        rw [show e = u by omega, z3] at ho; cases ho
    · by_cases w : e = u
      · subst w
        cases hf : fB c (sd A m) h e with
        | false => rfl
        | true => exact absurd rfl (z2 e he hf)
      · rw [if_neg w] at q
        split at q <;> omega
    · by_cases w : e = u
      · rw [if_pos w] at q; omega
      · rw [if_neg w] at q
        by_cases w2 : pref c h e (u + 1) = true
        · exact z5 e he w2
        · rw [if_neg w2] at q; omega
  · rintro ⟨hl, hs, z1, z2⟩
    have hou : oB c (sd A m) h u = false := (z1 u hu).1 rfl
    refine ⟨hs, ⟨⟨fun e he ho => ?_, fun e he hf => ?_⟩, Or.inr ⟨Or.inr hl, fun e he hp => ?_⟩⟩, hou⟩
    · rw [(z1 e he).1 rfl] at ho; cases ho
    · intro w
      rw [(z2 e he).1 (by rw [if_pos (by omega)])] at hf; cases hf
    · by_cases w : e = u
      · subst w; rw [pref_self] at hp; cases hp
      · exact (z2 e he).2 (by rw [if_neg w, if_pos hp])
end Ev
/-- the weights by which he does w -/
def sumW (c : CD) (h A cc w : Nat) : Nat := sumTo (2 ^ kl c) (fun m => if sd m A = 0 ∧ doesN c (sd A m) h = w then wgt cc A m (kl c) else 0)
def VX (c : CD) (h A cc : Nat) (ph : Nat → Nat) : Nat := prodTo 12 (fun g => VN cc (ph g) (cG A (grN c h) g (kl c)))
def wsN (c : CD) (h A cc w : Nat) : Nat := if w = 0 then VX c h A cc (ph0 c h) else VX c h A cc (ph1 (w - 1)) + (if 0 < lk c h (w - 1) then VX c h A cc (ph2 c h (w - 1)) else 0)
theorem GN_VX {c : CD} {h A cc : Nat} (hcc : cc ≤ 16) {fo fb : Nat → Nat} (h1 : ∀ e, fo e ≤ 2) (h2 : ∀ e, fb e ≤ 2) : GN cc A (grN c h) (phF fo fb) (kl c) = VX c h A cc (phF fo fb) * 16 ^ cG A (grN c h) 12 (kl c) := by
  rw [GN_prod hcc (grN_lt c h) (kl c) _ (phF_le h1 h2)]
  show prodTo 12 _ * VN cc (phF fo fb 12) (cG A (grN c h) 12 (kl c)) = _
  have : phF fo fb 12 = 0 := by unfold phF; rw [if_pos rfl]
  rw [this]
  rfl
theorem sumW_ws {c : CD} (hc : CDok c) {h A cc w : Nat} (hcc : cc ≤ 16) (hw : w ≤ 6) : sumW c h A cc w = wsN c h A cc w * 16 ^ cG A (grN c h) 12 (kl c) := by
  unfold sumW wsN
  cases w with
  | zero =>
    rw [if_pos rfl]
    unfold ph0
    rw [← GN_VX hcc (fun _ => by omega) (fun e => by split <;> omega)]
    unfold GN
    refine sumTo_congr fun m hm => ?_
    have e := ev0 (A := A) (h := h) hc hm
    unfold ph0 at e
    by_cases q : sd m A = 0 ∧ doesN c (sd A m) h = 0
    · rw [if_pos q, if_pos (phB_iff.mpr (e.mp q))]
    · rw [if_neg q, if_neg (fun z => q (e.mpr (phB_iff.mp z)))]
  | succ u =>
    rw [if_neg (by omega), show u + 1 - 1 = u by omega, Nat.add_mul]
    have e1 : VX c h A cc (ph1 u) * 16 ^ cG A (grN c h) 12 (kl c) = sumTo (2 ^ kl c) (fun m => if sd m A = 0 ∧ doesN c (sd A m) h = u + 1 ∧ oB c (sd A m) h u = true then wgt cc A m (kl c) else 0) := by
      unfold ph1
      rw [← GN_VX hcc (fun e => by split <;> omega) (fun e => by split <;> omega)]
      unfold GN
      refine sumTo_congr fun m hm => ?_
      have e := ev1 (A := A) (h := h) hc hm (show u < 6 by omega)
      unfold ph1 at e
      by_cases q : sd m A = 0 ∧ doesN c (sd A m) h = u + 1 ∧ oB c (sd A m) h u = true
      · rw [if_pos q, if_pos (phB_iff.mpr (e.mp q))]
      · rw [if_neg q, if_neg (fun z => q (e.mpr (phB_iff.mp z)))]
    have e2 : (if 0 < lk c h u then VX c h A cc (ph2 c h u) else 0) * 16 ^ cG A (grN c h) 12 (kl c) = sumTo (2 ^ kl c) (fun m => if sd m A = 0 ∧ doesN c (sd A m) h = u + 1 ∧ oB c (sd A m) h u = false then wgt cc A m (kl c) else 0) := by
      by_cases hl : 0 < lk c h u
      · rw [if_pos hl]
        unfold ph2
        rw [← GN_VX hcc (fun e => by omega) (fun e => by split; omega; split <;> omega)]
        unfold GN
        refine sumTo_congr fun m hm => ?_
        have e := ev2 (A := A) (h := h) hc hm (show u < 6 by omega)
        unfold ph2 at e
        by_cases q : sd m A = 0 ∧ doesN c (sd A m) h = u + 1 ∧ oB c (sd A m) h u = false
        · rw [if_pos q, if_pos (phB_iff.mpr (e.mp q).2)]
        · rw [if_neg q, if_neg (fun z => q (e.mpr ⟨hl, phB_iff.mp z⟩))]
      · rw [if_neg hl, Nat.zero_mul, sumTo_congr (g := fun _ => 0) (fun m hm => ?_), sumTo_z]
        rw [if_neg]
        intro q
        exact hl ((ev2 (A := A) (h := h) hc hm (show u < 6 by omega)).mp q).1
    rw [e1, e2, ← sumTo_add]
    refine sumTo_congr fun m hm => ?_
    cases ho : oB c (sd A m) h u with
    | true =>
      by_cases q : sd m A = 0 ∧ doesN c (sd A m) h = u + 1
      · rw [if_pos q, if_pos ⟨q.1, q.2, rfl⟩, if_neg (fun z => by cases z.2.2)]; omega
      · rw [if_neg q, if_neg (fun z => q ⟨z.1, z.2.1⟩), if_neg (fun z => q ⟨z.1, z.2.1⟩)]
    | false =>
      by_cases q : sd m A = 0 ∧ doesN c (sd A m) h = u + 1
      · rw [if_pos q, if_neg (fun z => by cases z.2.2), if_pos ⟨q.1, q.2, rfl⟩]; omega
      · rw [if_neg q, if_neg (fun z => q ⟨z.1, z.2.1⟩), if_neg (fun z => q ⟨z.1, z.2.1⟩)]
theorem sum_swap (f : Nat → Nat → Nat) (b : Nat) : ∀ a, sumTo a (fun i => sumTo b (f i)) = sumTo b (fun j => sumTo a (fun i => f i j)) := by
  intro a
  induction a with
  | zero => exact (sumTo_z b).symm
  | succ a ih =>
    rw [sumTo, ih, ← sumTo_add]
    rfl
theorem sum_pick {x d : Nat} : ∀ n, sumTo n (fun w => if d = w then x else 0) = if d < n then x else 0 := by
  intro n
  induction n with
  | zero => rfl
  | succ n ih =>
    rw [sumTo, ih]
    by_cases q : d = n
    · rw [if_neg (by omega), if_pos q, if_pos (by omega)]; omega
    · rw [if_neg q]
      by_cases q2 : d < n
      · rw [if_pos q2, if_pos (by omega), Nat.add_zero]
      · rw [if_neg q2, if_neg (by omega)]
theorem cG_sum (A : Nat) (gr : Nat → Nat) (hgr : ∀ l, gr l < 13) : ∀ n, sumTo 13 (fun g => cG A gr g n) = pop n A := by
  intro n
  induction n with
  | zero => rfl
  | succ n ih =>
    have : sumTo 13 (fun g => cG A gr g (n + 1)) = sumTo 13 (fun g => cG A gr g n + (if gr n = g then (A.testBit n).toNat else 0)) := sumTo_congr fun g _ => by
      rw [cG_s]
      by_cases q : gr n = g
      · rw [decide_eq_true q, if_pos q, Bool.and_true]
      · rw [decide_eq_false q, if_neg q, Bool.and_false]; rfl
    rw [this, sumTo_add, ih, sum_pick, if_pos (hgr n)]
    rfl
def LN (c : CD) (h A : Nat) : Nat := sumTo 12 (fun g => cG A (grN c h) g (kl c))
def rN (c : CD) (h A : Nat) : Nat := cG A (grN c h) 12 (kl c)
theorem LN_rN {c : CD} (h A : Nat) : LN c h A + rN c h A = pop (kl c) A := cG_sum A (grN c h) (grN_lt c h) (kl c)
theorem sumW_all {c : CD} (hc : CDok c) {h A cc : Nat} (hcc : cc ≤ 16) : sumTo 8 (sumW c h A cc) = 16 ^ (LN c h A + rN c h A) := by
  have e1 : sumTo 8 (sumW c h A cc) = GN cc A (grN c h) (phF (fun _ => 0) (fun _ => 0)) (kl c) := by
    unfold sumW
    rw [sum_swap]
    unfold GN
    refine sumTo_congr fun m hm => ?_
    have hd := doesN_le c (sd A m) h
    by_cases q : sd m A = 0
    · rw [sumTo_congr (g := fun w => if doesN c (sd A m) h = w then wgt cc A m (kl c) else 0) (fun w _ => by
        by_cases q2 : doesN c (sd A m) h = w
        · rw [if_pos ⟨q, q2⟩, if_pos q2]
        · rw [if_neg (fun z => q2 z.2), if_neg q2]), sum_pick, if_pos (by omega), if_pos]
      exact phB_iff.mpr ((phi_ob hc hm).mpr ⟨q, fun e he => ⟨fun z => absurd z (by omega), fun z => absurd z (by omega)⟩, fun e he => ⟨fun z => absurd z (by omega), fun z => absurd z (by omega)⟩⟩)
    · rw [sumTo_congr (g := fun _ => 0) (fun w _ => if_neg (fun z => q z.1)), sumTo_z, if_neg]
      exact fun z => q ((phi_ob hc hm).mp (phB_iff.mp z)).1
  rw [e1, GN_prod hcc (grN_lt c h) (kl c) _ (phF_le (fun _ => by omega) (fun _ => by omega))]
  rw [prod_congr (g := fun g => 16 ^ cG A (grN c h) g (kl c)) (fun g _ => by
    have : phF (fun _ => 0) (fun _ => 0) g = 0 := by unfold phF; split; rfl; split <;> rfl
    rw [this]; rfl), prod_pow]
  rfl
def aXN (c : CD) (h A cc w : Nat) : Nat := if w = 7 then 16 ^ LN c h A - sumTo 7 (wsN c h A cc) else wsN c h A cc w
theorem ws_le {c : CD} (hc : CDok c) {h A cc : Nat} (hcc : cc ≤ 16) : sumTo 7 (wsN c h A cc) ≤ 16 ^ LN c h A ∧ sumW c h A cc 7 = (16 ^ LN c h A - sumTo 7 (wsN c h A cc)) * 16 ^ rN c h A := by
  have h1 := sumW_all hc (h := h) (A := A) hcc
  have hr : 0 < 16 ^ rN c h A := Nat.pow_pos (by omega)
  have h2 : sumTo 7 (sumW c h A cc) = sumTo 7 (wsN c h A cc) * 16 ^ rN c h A := by
    rw [sumTo_congr (g := fun w => 16 ^ rN c h A * wsN c h A cc w) (fun w hw => by rw [sumW_ws hc hcc (by omega), Nat.mul_comm]; rfl), sumTo_mul, Nat.mul_comm]
  have h3 : sumTo 8 (sumW c h A cc) = sumTo 7 (sumW c h A cc) + sumW c h A cc 7 := rfl
  rw [h3, h2, Nat.pow_add] at h1
  have hle : sumTo 7 (wsN c h A cc) * 16 ^ rN c h A ≤ 16 ^ LN c h A * 16 ^ rN c h A := by omega
  refine ⟨Nat.le_of_mul_le_mul_right hle hr, ?_⟩
  rw [Nat.mul_sub_right_distrib]
  omega
theorem sumW_a {c : CD} (hc : CDok c) {h A cc w : Nat} (hcc : cc ≤ 16) (hw : w ≤ 7) : sumW c h A cc w = aXN c h A cc w * 16 ^ rN c h A := by
  unfold aXN
  by_cases q : w = 7
  · rw [if_pos q, q]; exact (ws_le hc hcc).2
  · rw [if_neg q]; exact sumW_ws hc hcc (by omega)
theorem sumTo_one {n i : Nat} (f : Nat → Nat) (hi : i < n) : f i ≤ sumTo n f := by
  induction n with
  | zero => omega
  | succ n ih =>
    rw [sumTo]
    by_cases e : i = n
    · subst e; omega
    · have := ih (by omega); omega
theorem aXN_le {c : CD} (hc : CDok c) {h A cc w : Nat} (hcc : cc ≤ 16) (hw : w ≤ 7) : aXN c h A cc w ≤ 16 ^ LN c h A := by
  unfold aXN
  by_cases q : w = 7
  · rw [if_pos q]; exact Nat.sub_le _ _
  · rw [if_neg q]
    exact Nat.le_trans (sumTo_one (wsN c h A cc) (show w < 7 by omega)) (ws_le hc hcc).1
