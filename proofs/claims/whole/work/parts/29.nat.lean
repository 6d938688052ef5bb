/-! PURE: numbers and bits -/
theorem i32_ext {x y : Int32} (h : x.toBitVec.toNat = y.toBitVec.toNat) : x = y := Int32.toBitVec_inj.mp (BitVec.eq_of_toNat_eq h)
theorem nI_and {a b : Nat} (ha : a < 2 ^ 32) (hb : b < 2 ^ 32) : nI a &&& nI b = nI (a &&& b) := by
  apply i32_ext
  rw [Int32.toBitVec_and, BitVec.toNat_and, pk_tn ha, pk_tn hb, pk_tn (Nat.and_lt_two_pow _ hb)]
theorem nI_or {a b : Nat} (ha : a < 2 ^ 32) (hb : b < 2 ^ 32) : nI a ||| nI b = nI (a ||| b) := by
  apply i32_ext
  rw [Int32.toBitVec_or, BitVec.toNat_or, pk_tn ha, pk_tn hb, pk_tn (Nat.or_lt_two_pow ha hb)]
/-- a without b -/
def sd (a b : Nat) : Nat := a ^^^ (a &&& b)
theorem sd_bit (a b i : Nat) : (sd a b).testBit i = (a.testBit i && !b.testBit i) := by
  unfold sd
  rw [Nat.testBit_xor, Nat.testBit_and]
  cases a.testBit i <;> cases b.testBit i <;> rfl
theorem sd_lt {a b n : Nat} (ha : a < 2 ^ n) : sd a b < 2 ^ n := by
  apply Nat.lt_pow_two_of_testBit
  intro i hi
  rw [sd_bit, Nat.testBit_lt_two_pow (Nat.lt_of_lt_of_le ha (Nat.pow_le_pow_right (by omega) hi))]
  rfl
theorem nI_sd {a b : Nat} (ha : a < 2 ^ 32) (hb : b < 2 ^ 32) : nI a &&& (nI b ^^^ (-1 : Int32)) = nI (sd a b) := by
  apply i32_ext
  rw [Int32.toBitVec_and, BitVec.toNat_and, Int32.toBitVec_xor, BitVec.toNat_xor, pk_tn ha, pk_tn hb, pk_tn (sd_lt ha)]
  rw [show (Int32.toBitVec (-1 : Int32)).toNat = 2 ^ 32 - 1 from by decide]
  apply Nat.eq_of_testBit_eq
  intro i
  rw [sd_bit, Nat.testBit_and, Nat.testBit_xor, Nat.testBit_two_pow_sub_one]
  by_cases hi : i < 32
  · simp [hi]
  · rw [Nat.testBit_lt_two_pow (Nat.lt_of_lt_of_le ha (Nat.pow_le_pow_right (by omega) (by omega)))]
    simp
theorem shl1_ : ∀ l, l < 31 → (1 : Int32) <<< (nI l &&& 31) = nI (2 ^ l) := by decide +kernel
theorem shl1 {l : Nat} (h : l < 31) : (1 : Int32) <<< (nI l &&& 31) = nI (2 ^ l) := shl1_ l h
theorem and31_ : ∀ l, l < 32 → nI l &&& (31 : Int32) = nI l := by decide +kernel
theorem smod_ : ∀ l, l < 32 → ((nI l).toBitVec.smod 32).toNat = l := by decide +kernel
theorem shr_bit {s i : Nat} (hs : s < 2 ^ 31) (hi : i < 32) : (nI s >>> (nI i &&& 31)) &&& (1 : Int32) = nI (s / 2 ^ i % 2) := by
  rw [and31_ i hi, pk_shrN hs (nI i) i (smod_ i hi)]
  have := pk_andN (n := s / 2 ^ i) (by have := Nat.div_le_self s (2 ^ i); omega) (m := (1 : Int32)) 1 (by decide)
  rw [this]
theorem testBit_mod (s i : Nat) : s.testBit i = decide (s / 2 ^ i % 2 = 1) := by
  rw [Nat.testBit_eq_decide_div_mod_eq]
theorem isIn_1 {s i : Nat} (hs : s < 2 ^ 31) (hi : i < 32) : ((nI s >>> (nI i &&& 31)) &&& (1 : Int32) = (1 : Int32)) ↔ s.testBit i = true := by
  rw [shr_bit hs hi, testBit_mod, show (1 : Int32) = nI 1 from rfl, nI_eq (by omega) (by omega)]
  simp
/-- the bits l < n with p l -/
def mk : Nat → (Nat → Bool) → Nat
  | 0, _ => 0
  | n + 1, p => mk n p ||| (if p n then 2 ^ n else 0)
theorem mk_bit (n : Nat) (p : Nat → Bool) (i : Nat) : (mk n p).testBit i = (decide (i < n) && p i) := by
  induction n with
  | zero => simp [mk]
  | succ n ih =>
    rw [mk, Nat.testBit_or, ih]
    by_cases h : i = n
    · subst h
      cases hp : p i
      · simp
      · simp [Nat.testBit_two_pow_self]
    · have h2 : (if p n = true then 2 ^ n else 0).testBit i = false := by
        split
        · rw [Nat.testBit_two_pow_of_ne (fun e => h e.symm)]
        · simp
      rw [h2]
      by_cases h3 : i < n
      · simp [h3, show i < n + 1 by omega]
      · simp [h3, show ¬ i < n + 1 by omega]
theorem lt_of_bits {x n : Nat} (h : ∀ i, n ≤ i → x.testBit i = false) : x < 2 ^ n := Nat.lt_pow_two_of_testBit x (fun i hi => h i hi)
theorem bit_ge {x n i : Nat} (hx : x < 2 ^ n) (hi : n ≤ i) : x.testBit i = false := Nat.testBit_lt_two_pow (Nat.lt_of_lt_of_le hx (Nat.pow_le_pow_right (by omega) hi))
theorem mk_lt (n : Nat) (p : Nat → Bool) : mk n p < 2 ^ n := lt_of_bits fun i hi => by rw [mk_bit]; simp [show ¬ i < n by omega]
theorem mk_le12 {n : Nat} (hn : n ≤ 12) (p : Nat → Bool) : mk n p < 4096 := Nat.lt_of_lt_of_le (mk_lt n p) (by have := Nat.pow_le_pow_right (n := 2) (by omega) hn; omega)
theorem mk_congr {n : Nat} {p q : Nat → Bool} (h : ∀ i, i < n → p i = q i) : mk n p = mk n q := by
  apply Nat.eq_of_testBit_eq
  intro i
  rw [mk_bit, mk_bit]
  by_cases hi : i < n
  · rw [h i hi]
  · simp [hi]
theorem bits_eq {a b n : Nat} (ha : a < 2 ^ n) (hb : b < 2 ^ n) (h : ∀ i, i < n → a.testBit i = b.testBit i) : a = b := by
  apply Nat.eq_of_testBit_eq
  intro i
  by_cases hi : i < n
  · exact h i hi
  · rw [bit_ge ha (by omega), bit_ge hb (by omega)]
theorem and_ne0 {a b : Nat} : a &&& b ≠ 0 ↔ ∃ i, a.testBit i = true ∧ b.testBit i = true := by
  constructor
  · intro h
    obtain ⟨i, hi⟩ := Nat.exists_testBit_of_ne_zero h
    rw [Nat.testBit_and, Bool.and_eq_true] at hi
    exact ⟨i, hi⟩
  · rintro ⟨i, h1, h2⟩ h
    have : (a &&& b).testBit i = true := by rw [Nat.testBit_and, h1, h2]; rfl
    rw [h] at this
    simp at this
theorem and_eq0 {a b : Nat} : a &&& b = 0 ↔ ∀ i, a.testBit i = true → b.testBit i = false := by
  constructor
  · intro h i h1
    cases h2 : b.testBit i with
    | false => rfl
    | true => exact absurd h (and_ne0.mpr ⟨i, h1, h2⟩)
  · intro h
    cases Nat.decEq (a &&& b) 0 with
    | isTrue e => exact e
    | isFalse e =>
      obtain ⟨i, h1, h2⟩ := and_ne0.mp e
      rw [h i h1] at h2
      cases h2
theorem bit2 (n i : Nat) : (2 ^ n).testBit i = decide (n = i) := Nat.testBit_two_pow
theorem and_1bit {a n : Nat} : a &&& 2 ^ n ≠ 0 ↔ a.testBit n = true := by
  rw [and_ne0]
  constructor
  · rintro ⟨i, h1, h2⟩
    rw [bit2] at h2
    have : n = i := by simpa using h2
    subst this; exact h1
  · intro h
    exact ⟨n, h, by rw [bit2]; simp⟩
/-- how many of the bits below n -/
def pop : Nat → Nat → Nat
  | 0, _ => 0
  | n + 1, m => pop n m + (m.testBit n).toNat
theorem pop_le (n m : Nat) : pop n m ≤ n := by
  induction n with
  | zero => exact Nat.le_refl 0
  | succ n ih =>
    rw [pop]
    have : (m.testBit n).toNat ≤ 1 := by cases m.testBit n <;> decide
    omega
theorem pop_congr {n a b : Nat} (h : ∀ i, i < n → a.testBit i = b.testBit i) : pop n a = pop n b := by
  induction n with
  | zero => rfl
  | succ n ih => rw [pop, pop, ih (fun i hi => h i (by omega)), h n (by omega)]
theorem pop_mono {n a b : Nat} (h : ∀ i, i < n → a.testBit i = true → b.testBit i = true) : pop n a ≤ pop n b := by
  induction n with
  | zero => exact Nat.le_refl 0
  | succ n ih =>
    rw [pop, pop]
    have h1 := ih (fun i hi => h i (by omega))
    have h2 := h n (by omega)
    cases ha : a.testBit n with
    | false => simp; omega
    | true => rw [h2 ha]; simp; omega
theorem pop_strict {n a b : Nat} (h : ∀ i, i < n → a.testBit i = true → b.testBit i = true) (j : Nat) (hj : j < n) (h1 : a.testBit j = false) (h2 : b.testBit j = true) : pop n a < pop n b := by
  induction n with
  | zero => omega
  | succ n ih =>
    rw [pop, pop]
    by_cases e : j = n
    · subst e
      have := pop_mono (n := j) (a := a) (b := b) (fun i hi => h i (by omega))
      rw [h1, h2]; simp; omega
    · have h3 := ih (fun i hi => h i (by omega)) (by omega)
      have h4 := h n (by omega)
      cases ha : a.testBit n with
      | false => simp; omega
      | true => rw [h4 ha]; simp; omega
theorem pop_eq_of_sub {n a b : Nat} (h : ∀ i, i < n → a.testBit i = true → b.testBit i = true) (he : pop n b ≤ pop n a) : ∀ i, i < n → a.testBit i = b.testBit i := by
  intro i hi
  cases ha : a.testBit i with
  | true => rw [h i hi ha]
  | false =>
    cases hb : b.testBit i with
    | false => rfl
    | true => exact absurd (pop_strict h i hi ha hb) (by omega)
theorem by64 {P : Nat → Prop} (h : ∀ a, a < 64 → ∀ b, b < 64 → P (64 * a + b)) {m : Nat} (hm : m < 4096) : P m := by
  have := h (m / 64) (by omega) (m % 64) (by omega)
  rw [show 64 * (m / 64) + m % 64 = m by omega] at this
  exact this
theorem m1_ne {n : Nat} (h : n < 2 ^ 31) : ¬ nI n = (-1 : Int32) := by
  intro e
  have := congrArg Int32.toInt e
  rw [nI_toInt h] at this
  have h2 : (-1 : Int32).toInt = -1 := by decide
  omega
theorem m1_lt {n : Nat} (h : n < 2 ^ 31) : (-1 : Int32) < nI n := by
  rw [Int32.lt_iff_toInt_lt, nI_toInt h, show (-1 : Int32).toInt = -1 by decide]
  omega
