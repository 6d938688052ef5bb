/-! PURE: gout: weights of the sets that are forgotten -/
theorem sumTo_split (a : Nat) (g : Nat → Nat) : ∀ b, sumTo (a + b) g = sumTo a g + sumTo b (fun i => g (a + i)) := by
  intro b
  induction b with
  | zero => rfl
  | succ b ih => show sumTo (a + b) g + g (a + b) = _; rw [ih, sumTo]; omega
theorem sumTo_mul (k : Nat) (f : Nat → Nat) : ∀ n, sumTo n (fun i => k * f i) = k * sumTo n f := by
  intro n
  induction n with
  | zero => rfl
  | succ n ih => rw [sumTo, sumTo, ih, Nat.mul_add]
def prodTo : Nat → (Nat → Nat) → Nat
  | 0, _ => 1
  | n + 1, f => prodTo n f * f n
theorem prod_congr {n : Nat} {f g : Nat → Nat} (h : ∀ i, i < n → f i = g i) : prodTo n f = prodTo n g := by
  induction n with
  | zero => rfl
  | succ n ih => rw [prodTo, prodTo, ih (fun i hi => h i (by omega)), h n (by omega)]
/-- one factor by itself -/
theorem prod_one (f : Nat → Nat) (g0 : Nat) : ∀ n, g0 < n → ∃ P, ∀ f' : Nat → Nat, (∀ g, g < n → g ≠ g0 → f' g = f g) → prodTo n f' = P * f' g0 := by
  intro n
  induction n with
  | zero => intro h; omega
  | succ n ih =>
    intro h
    by_cases e : g0 = n
    · subst e
      refine ⟨prodTo g0 f, fun f' hf => ?_⟩
      rw [prodTo, prod_congr (g := f) (fun i hi => hf i (by omega) (by omega))]
    · obtain ⟨P, hP⟩ := ih (by omega)
      refine ⟨P * f n, fun f' hf => ?_⟩
      rw [prodTo, hP f' (fun g hg hne => hf g (by omega) hne), hf n (by omega) (by omega)]
      rw [Nat.mul_assoc, Nat.mul_comm (f' g0), ← Nat.mul_assoc]
theorem prod_pow (k : Nat) (e : Nat → Nat) : ∀ n, prodTo n (fun g => k ^ e g) = k ^ sumTo n e := by
  intro n
  induction n with
  | zero => rfl
  | succ n ih => rw [prodTo, sumTo, ih, Nat.pow_add]
/-- the weight of a set that is forgotten -/
def wgt (cc A m : Nat) : Nat → Nat
  | 0 => 1
  | l + 1 => wgt cc A m l * (if A.testBit l = true then (if m.testBit l = true then cc else 16 - cc) else 1)
def cG (A : Nat) (gr : Nat → Nat) (g n : Nat) : Nat := cntP (fun l => A.testBit l && decide (gr l = g)) n
/-- of k laws: all there are; all forgotten; not all forgotten -/
def VN (cc kind k : Nat) : Nat := if kind = 0 then 16 ^ k else if kind = 1 then cc ^ k else 16 ^ k - cc ^ k
def kept (A m l : Nat) : Prop := A.testBit l = true ∧ m.testBit l = false
def PhiN (A : Nat) (gr ph : Nat → Nat) (n m : Nat) : Prop := (∀ l, l < n → m.testBit l = true → A.testBit l = true) ∧ ∀ g, g < 13 → (ph g = 1 → ¬ ∃ l, l < n ∧ kept A m l ∧ gr l = g) ∧ (ph g = 2 → ∃ l, l < n ∧ kept A m l ∧ gr l = g)
noncomputable def phB (A : Nat) (gr ph : Nat → Nat) (n m : Nat) : Bool := @decide (PhiN A gr ph n m) (Classical.propDecidable _)
theorem phB_iff {A : Nat} {gr ph : Nat → Nat} {n m : Nat} : phB A gr ph n m = true ↔ PhiN A gr ph n m := by
  unfold phB
  exact @decide_eq_true_iff _ (Classical.propDecidable _)
noncomputable def GN (cc A : Nat) (gr ph : Nat → Nat) (n : Nat) : Nat := sumTo (2 ^ n) (fun m => if phB A gr ph n m = true then wgt cc A m n else 0)
theorem wgt_congr {cc A m m' : Nat} : ∀ n, (∀ l, l < n → m.testBit l = m'.testBit l) → wgt cc A m n = wgt cc A m' n := by
  intro n
  induction n with
  | zero => intro _; rfl
  | succ n ih => intro h; rw [wgt, wgt, ih (fun l hl => h l (by omega)), h n (by omega)]
theorem hi_bit {n m l : Nat} (hm : m < 2 ^ n) : (2 ^ n + m).testBit l = if l = n then true else m.testBit l := by
  by_cases e : l = n
  · subst e; rw [if_pos rfl, Nat.testBit_two_pow_add_eq, bit_ge hm (Nat.le_refl _)]; rfl
  · rw [if_neg e]
    rcases Nat.lt_or_ge l n with q | q
    · exact Nat.testBit_two_pow_add_gt q m
    · rw [bit_ge hm q]
      refine bit_ge (n := n + 1) ?_ (by omega)
      rw [Nat.pow_succ]; omega
theorem phi_congr {A : Nat} {gr ph : Nat → Nat} {n m m' : Nat} (h : ∀ l, l < n → m.testBit l = m'.testBit l) : PhiN A gr ph n m ↔ PhiN A gr ph n m' := by
  have k : ∀ g, (∃ l, l < n ∧ kept A m l ∧ gr l = g) ↔ ∃ l, l < n ∧ kept A m' l ∧ gr l = g := fun g => by
    constructor
    · rintro ⟨l, a, ⟨b1, b2⟩, d⟩; exact ⟨l, a, ⟨b1, by rw [← h l a]; exact b2⟩, d⟩
    · rintro ⟨l, a, ⟨b1, b2⟩, d⟩; exact ⟨l, a, ⟨b1, by rw [h l a]; exact b2⟩, d⟩
  unfold PhiN
  constructor
  · rintro ⟨a, b⟩
    exact ⟨fun l hl e => a l hl (by rw [h l hl]; exact e), fun g hg => ⟨fun e z => (b g hg).1 e ((k g).mpr z), fun e => (k g).mp ((b g hg).2 e)⟩⟩
  · rintro ⟨a, b⟩
    exact ⟨fun l hl e => a l hl (by rw [← h l hl]; exact e), fun g hg => ⟨fun e z => (b g hg).1 e ((k g).mp z), fun e => (k g).mpr ((b g hg).2 e)⟩⟩
/-- a law that cannot be kept (it is not there, or it is forgotten) -/
theorem phi_gone {A : Nat} {gr ph : Nat → Nat} {n m : Nat} (h : ¬ kept A m n) (h2 : m.testBit n = true → A.testBit n = true) : PhiN A gr ph (n + 1) m ↔ PhiN A gr ph n m := by
  have k : ∀ g, (∃ l, l < n + 1 ∧ kept A m l ∧ gr l = g) ↔ ∃ l, l < n ∧ kept A m l ∧ gr l = g := fun g => by
    constructor
    · rintro ⟨l, a, b, d⟩
      by_cases e : l = n
      · subst e; exact absurd b h
      · exact ⟨l, by omega, b, d⟩
    · rintro ⟨l, a, b, d⟩; exact ⟨l, by omega, b, d⟩
  unfold PhiN
  constructor
  · rintro ⟨a, b⟩
    exact ⟨fun l hl => a l (by omega), fun g hg => ⟨fun e z => (b g hg).1 e ((k g).mpr z), fun e => (k g).mp ((b g hg).2 e)⟩⟩
  · rintro ⟨a, b⟩
    refine ⟨fun l hl e => ?_, fun g hg => ⟨fun e z => (b g hg).1 e ((k g).mp z), fun e => (k g).mpr ((b g hg).2 e)⟩⟩
    by_cases q : l = n
    · subst q; exact h2 e
    · exact a l (by omega) e
/-- a law that is kept -/
theorem phi_kept {A : Nat} {gr ph : Nat → Nat} {n m : Nat} (h : kept A m n) (hg0 : gr n < 13) : PhiN A gr ph (n + 1) m ↔ ph (gr n) ≠ 1 ∧ PhiN A gr (fun g => if g = gr n then 0 else ph g) n m := by
  unfold PhiN
  constructor
  · rintro ⟨a, b⟩
    refine ⟨fun e => (b _ hg0).1 e ⟨n, by omega, h, rfl⟩, fun l hl => a l (by omega), fun g hg => ?_⟩
    dsimp only
    by_cases q : g = gr n
    · rw [if_pos q]; exact ⟨fun z => absurd z (by omega), fun z => absurd z (by omega)⟩
    · rw [if_neg q]
      refine ⟨fun e ⟨l, h1, h2, h3⟩ => (b g hg).1 e ⟨l, by omega, h2, h3⟩, fun e => ?_⟩
      obtain ⟨l, h1, h2, h3⟩ := (b g hg).2 e
      by_cases z : l = n
      · subst z; exact absurd h3.symm q
      · exact ⟨l, by omega, h2, h3⟩
  · rintro ⟨hne, a, b⟩
    refine ⟨fun l hl e => ?_, fun g hg => ?_⟩
    · by_cases q : l = n
      · subst q; exact h.1
      · exact a l (by omega) e
    · by_cases q : g = gr n
      · subst q
        exact ⟨fun e => absurd e hne, fun _ => ⟨n, by omega, h, rfl⟩⟩
      · have := b g hg
        dsimp only at this
        rw [if_neg q] at this
        refine ⟨fun e ⟨l, h1, h2, h3⟩ => ?_, fun e => ?_⟩
        · by_cases z : l = n
          · subst z; exact q h3.symm
          · exact this.1 e ⟨l, by omega, h2, h3⟩
        · obtain ⟨l, h1, h2, h3⟩ := this.2 e
          exact ⟨l, by omega, h2, h3⟩
theorem b_eq {a b : Bool} (h : a = true ↔ b = true) : a = b := Bool.eq_iff_iff.mpr h
theorem GN_out {cc A : Nat} {gr ph : Nat → Nat} {n : Nat} (hA : A.testBit n = false) : GN cc A gr ph (n + 1) = GN cc A gr ph n := by
  unfold GN
  rw [Nat.pow_succ, show 2 ^ n * 2 = 2 ^ n + 2 ^ n by omega, sumTo_split]
  have h2 : sumTo (2 ^ n) (fun i => if phB A gr ph (n + 1) (2 ^ n + i) = true then wgt cc A (2 ^ n + i) (n + 1) else 0) = 0 := by
    rw [sumTo_congr (g := fun _ => 0) (fun i hi => ?_), sumTo_z]
    rw [if_neg]
    intro z
    have := (phB_iff.mp z).1 n (by omega) (by rw [hi_bit hi, if_pos rfl])
    rw [hA] at this; cases this
  rw [h2, Nat.add_zero]
  refine sumTo_congr fun m hm => ?_
  have e : phB A gr ph (n + 1) m = phB A gr ph n m := b_eq (by
    rw [phB_iff, phB_iff]
    exact phi_gone (fun z => by have := z.1; rw [hA] at this; cases this) (fun z => by rw [bit_ge hm (Nat.le_refl _)] at z; cases z))
  rw [e, wgt, if_neg (show ¬ A.testBit n = true by rw [hA]; decide), Nat.mul_one]
theorem GN_in {cc A : Nat} {gr ph : Nat → Nat} {n : Nat} (hA : A.testBit n = true) (hg0 : gr n < 13) : GN cc A gr ph (n + 1) = cc * GN cc A gr ph n + (if ph (gr n) = 1 then 0 else (16 - cc) * GN cc A gr (fun g => if g = gr n then 0 else ph g) n) := by
  unfold GN
  rw [Nat.pow_succ, show 2 ^ n * 2 = 2 ^ n + 2 ^ n by omega, sumTo_split, Nat.add_comm]
  congr 1
  · rw [← sumTo_mul]
    refine sumTo_congr fun m hm => ?_
    have hb : ∀ l, l < n → (2 ^ n + m).testBit l = m.testBit l := fun l hl => by rw [hi_bit hm, if_neg (by omega)]
    have e : phB A gr ph (n + 1) (2 ^ n + m) = phB A gr ph n m := b_eq (by
      rw [phB_iff, phB_iff, phi_gone (fun z => by have := z.2; rw [hi_bit hm, if_pos rfl] at this; cases this) (fun _ => hA)]
      exact phi_congr hb)
    rw [e, wgt, if_pos hA, hi_bit hm, if_pos rfl, if_pos rfl, wgt_congr n hb]
    split
    · rw [Nat.mul_comm]
    · rfl
  · have hk : ∀ m, m < 2 ^ n → kept A m n := fun m hm => ⟨hA, bit_ge hm (Nat.le_refl _)⟩
    by_cases q : ph (gr n) = 1
    · rw [if_pos q, sumTo_congr (g := fun _ => 0) (fun m hm => ?_), sumTo_z]
      rw [if_neg]
      intro z
      exact ((phi_kept (hk m hm) hg0).mp (phB_iff.mp z)).1 q
    · rw [if_neg q, ← sumTo_mul]
      refine sumTo_congr fun m hm => ?_
      have e : phB A gr ph (n + 1) m = phB A gr (fun g => if g = gr n then 0 else ph g) n m := b_eq (by
        rw [phB_iff, phB_iff, phi_kept (hk m hm) hg0]
        exact ⟨fun z => z.2, fun z => ⟨q, z⟩⟩)
      rw [e, wgt, if_pos hA, if_neg (show ¬ m.testBit n = true by rw [(hk m hm).2]; decide)]
      split
      · rw [Nat.mul_comm]
      · rfl
theorem cG_s (A : Nat) (gr : Nat → Nat) (g n : Nat) : cG A gr g (n + 1) = cG A gr g n + (A.testBit n && decide (gr n = g)).toNat := rfl
theorem V_step {cc kind k P : Nat} (hcc : cc ≤ 16) : P * VN cc kind (k + 1) = cc * (P * VN cc kind k) + (if kind = 1 then 0 else (16 - cc) * (P * (if kind = 0 then VN cc kind k else 16 ^ k))) := by
  have hpow : cc ^ k ≤ 16 ^ k := Nat.pow_le_pow_left hcc k
  have hpow2 : cc ^ (k + 1) ≤ 16 ^ (k + 1) := Nat.pow_le_pow_left hcc (k + 1)
  obtain ⟨d, hd⟩ : ∃ d, 16 = cc + d := ⟨16 - cc, by omega⟩
  have hd2 : 16 - cc = d := by omega
  rw [hd2]
  unfold VN
  by_cases h0 : kind = 0
  · rw [if_pos h0, if_pos h0, if_neg (by omega), if_pos h0]
    rw [Nat.pow_succ]
    generalize 16 ^ k = p
    rw [show P * (p * 16) = P * (p * (cc + d)) by rw [← hd]]
    rw [Nat.mul_add, Nat.mul_add, Nat.mul_left_comm cc, Nat.mul_left_comm d, Nat.mul_comm p cc, Nat.mul_comm p d]
  · rw [if_neg h0, if_neg h0, if_neg h0]
    by_cases h1 : kind = 1
    · rw [if_pos h1, if_pos h1, if_pos h1, Nat.pow_succ, Nat.add_zero, Nat.mul_left_comm cc P, Nat.mul_comm (cc ^ k) cc]
    · rw [if_neg h1, if_neg h1, if_neg h1]
      obtain ⟨e, he⟩ : ∃ e, 16 ^ k = cc ^ k + e := ⟨16 ^ k - cc ^ k, by omega⟩
      have e1 : 16 ^ (k + 1) - cc ^ (k + 1) = cc * e + d * 16 ^ k := by
        have : 16 ^ (k + 1) = cc * cc ^ k + (cc * e + d * 16 ^ k) := by
          rw [Nat.pow_succ, show 16 ^ k * 16 = (cc + d) * 16 ^ k by rw [← hd, Nat.mul_comm], Nat.add_mul]
          rw [show cc * 16 ^ k = cc * (cc ^ k + e) by rw [← he], Nat.mul_add]
          omega
        rw [this, Nat.pow_succ, Nat.mul_comm (cc ^ k) cc]
        omega
      rw [e1, he, show cc ^ k + e - cc ^ k = e by omega, ← he, Nat.mul_add, Nat.mul_left_comm cc, Nat.mul_left_comm d]
theorem GN_prod {cc A : Nat} {gr : Nat → Nat} (hcc : cc ≤ 16) (hgr : ∀ l, gr l < 13) : ∀ (n : Nat) (ph : Nat → Nat), (∀ g, ph g ≤ 2) → GN cc A gr ph n = prodTo 13 (fun g => VN cc (ph g) (cG A gr g n)) := by
  intro n
  induction n with
  | zero =>
    intro ph hph
    unfold GN
    show 0 + (if phB A gr ph 0 0 = true then wgt cc A 0 0 else 0) = _
    rw [Nat.zero_add]
    by_cases q : ∃ g, g < 13 ∧ ph g = 2
    · obtain ⟨g, hg, e⟩ := q
      rw [if_neg]
      · obtain ⟨P, hP⟩ := prod_one (fun g => VN cc (ph g) (cG A gr g 0)) g 13 hg
        rw [hP (fun g => VN cc (ph g) (cG A gr g 0)) (fun _ _ _ => rfl)]
        show 0 = P * VN cc (ph g) 0
        rw [e]
        show 0 = P * (16 ^ 0 - cc ^ 0)
        simp
      · intro z
        obtain ⟨l, h1, -⟩ := ((phB_iff.mp z).2 g hg).2 e
        omega
    · have e1 : prodTo 13 (fun g => VN cc (ph g) (cG A gr g 0)) = prodTo 13 (fun g => 1 ^ g) := prod_congr fun g hg => by
        show VN cc (ph g) 0 = 1 ^ g
        have : ph g ≠ 2 := fun e => q ⟨g, hg, e⟩
        have := hph g
        unfold VN
        rw [Nat.one_pow]
        by_cases h0 : ph g = 0
        · rw [if_pos h0]
        · rw [if_neg h0, if_pos (by omega)]; rfl
      rw [e1, prod_pow, Nat.one_pow, if_pos]
      · rfl
      · exact phB_iff.mpr ⟨fun l hl => absurd hl (Nat.not_lt_zero l), fun g hg => ⟨fun _ ⟨l, h1, _⟩ => absurd h1 (Nat.not_lt_zero l), fun e => absurd ⟨g, hg, e⟩ q⟩⟩
  | succ n ih =>
    intro ph hph
    cases hA : A.testBit n with
    | false =>
      rw [GN_out hA, ih ph hph]
      exact prod_congr fun g _ => by rw [cG_s, hA]; rfl
    | true =>
      have hph2 : ∀ g, (if g = gr n then 0 else ph g) ≤ 2 := fun g => by have := hph g; split <;> omega
      rw [GN_in hA (hgr n), ih ph hph, ih _ hph2]
      obtain ⟨P, hP⟩ := prod_one (fun g => VN cc (ph g) (cG A gr g n)) (gr n) 13 (hgr n)
      have e1 := hP (fun g => VN cc (ph g) (cG A gr g n)) (fun _ _ _ => rfl)
      have e2 := hP (fun g => VN cc (if g = gr n then 0 else ph g) (cG A gr g n)) (fun g _ hne => by rw [if_neg hne])
      have e3 := hP (fun g => VN cc (ph g) (cG A gr g (n + 1))) (fun g _ hne => by
        show VN cc (ph g) (cG A gr g (n + 1)) = _
        rw [cG_s, decide_eq_false (fun z => hne z.symm), Bool.and_false]; rfl)
      rw [e1, e2, e3, if_pos rfl, cG_s, hA, decide_eq_true rfl]
      show cc * (P * VN cc (ph (gr n)) (cG A gr (gr n) n)) + (if ph (gr n) = 1 then 0 else (16 - cc) * (P * VN cc 0 (cG A gr (gr n) n))) = P * VN cc (ph (gr n)) (cG A gr (gr n) n + 1)
      rw [V_step hcc]
      congr 1
      by_cases q : ph (gr n) = 1
      · rw [if_pos q, if_pos q]
      · rw [if_neg q, if_neg q]
        by_cases q0 : ph (gr n) = 0
        · rw [if_pos q0, q0]
        · rw [if_neg q0]; rfl
