/-! PURE: the subsets of a set of bits, in their order; greatest and least -/
theorem and2 {a b i j : Nat} (hi : i < 2) (hj : j < 2) : (2 * a + i) &&& (2 * b + j) = 2 * (a &&& b) + (i &&& j) := by
  have h1 : ((2 * a + i) &&& (2 * b + j)) / 2 = a &&& b := by
    rw [Nat.and_div_two, show (2 * a + i) / 2 = a by omega, show (2 * b + j) / 2 = b by omega]
  have h2 : ((2 * a + i) &&& (2 * b + j)) % 2 = i &&& j := by
    obtain rfl | rfl : i = 0 ∨ i = 1 := by omega
    · have : ¬ ((2 * a + 0) &&& (2 * b + j)) % 2 = 1 := by rw [Nat.and_mod_two_eq_one]; omega
      rw [Nat.zero_and]; omega
    · obtain rfl | rfl : j = 0 ∨ j = 1 := by omega
      · have : ¬ ((2 * a + 1) &&& (2 * b + 0)) % 2 = 1 := by rw [Nat.and_mod_two_eq_one]; omega
        rw [Nat.and_zero]; omega
      · have : ((2 * a + 1) &&& (2 * b + 1)) % 2 = 1 := by rw [Nat.and_mod_two_eq_one]; omega
        rw [this]; rfl
  omega
/-- p of c, by its halves -/
theorem sub_half {c p : Nat} (h : p &&& c = p) : (p / 2) &&& (c / 2) = p / 2 ∧ p % 2 ≤ c % 2 := by
  constructor
  · rw [← Nat.and_div_two, h]
  · have h1 : p % 2 = 1 → c % 2 = 1 := fun e => by
      rw [← h] at e
      exact (Nat.and_mod_two_eq_one.mp e).2
    omega
def rk : Nat → Nat → Nat → Nat
  | 0, _, _ => 0
  | n + 1, c, p => if c % 2 = 1 then 2 * rk n (c / 2) (p / 2) + p % 2 else rk n (c / 2) (p / 2)
theorem pop_half (c : Nat) : ∀ n, pop (n + 1) c = pop n (c / 2) + c % 2 := by
  intro n
  induction n with
  | zero =>
    show 0 + (c.testBit 0).toNat = 0 + c % 2
    rw [Nat.testBit_zero]
    by_cases h : c % 2 = 1
    · rw [decide_eq_true h, h]; rfl
    · rw [decide_eq_false h, show c % 2 = 0 by omega]; rfl
  | succ n ih =>
    show pop (n + 1) c + (c.testBit (n + 1)).toNat = pop n (c / 2) + ((c / 2).testBit n).toNat + c % 2
    rw [ih, Nat.testBit_succ]
    omega
theorem rk_lt : ∀ n c p, rk n c p < 2 ^ pop n c := by
  intro n
  induction n with
  | zero => intro c p; show 0 < 2 ^ 0; omega
  | succ n ih =>
    intro c p
    have := ih (c / 2) (p / 2)
    rw [pop_half, rk]
    by_cases h : c % 2 = 1
    · rw [if_pos h, h, Nat.pow_succ]; omega
    · rw [if_neg h, show c % 2 = 0 by omega]; exact this
theorem rk_inj : ∀ n c p q, p < 2 ^ n → q < 2 ^ n → p &&& c = p → q &&& c = q → rk n c p = rk n c q → p = q := by
  intro n
  induction n with
  | zero => intro c p q hp hq _ _ _; omega
  | succ n ih =>
    intro c p q hp hq h1 h2 h
    obtain ⟨a1, a2⟩ := sub_half h1
    obtain ⟨b1, b2⟩ := sub_half h2
    rw [Nat.pow_succ] at hp hq
    rw [rk, rk] at h
    by_cases e : c % 2 = 1
    · rw [if_pos e, if_pos e] at h
      have := ih (c / 2) (p / 2) (q / 2) (by omega) (by omega) a1 b1 (by omega)
      omega
    · rw [if_neg e, if_neg e] at h
      have := ih (c / 2) (p / 2) (q / 2) (by omega) (by omega) a1 b1 h
      omega
theorem fillc : ∀ n c p, c < 2 ^ n → p &&& c = p → (p + (2 ^ n - 1 - c)) &&& c = p := by
  intro n
  induction n with
  | zero =>
    intro c p hc hp
    have : c = 0 := by omega
    subst this
    rw [Nat.and_zero] at hp
    rw [Nat.and_zero]; exact hp
  | succ n ih =>
    intro c p hc hp
    obtain ⟨a1, a2⟩ := sub_half hp
    rw [Nat.pow_succ] at hc
    have h0 := ih (c / 2) (p / 2) (by omega) a1
    have hp2 := Nat.two_pow_pos n
    have ple : p / 2 ≤ c / 2 := by have := Nat.and_le_right (n := p / 2) (m := c / 2); omega
    have e : p + (2 ^ (n + 1) - 1 - c) = 2 * (p / 2 + (2 ^ n - 1 - c / 2)) + (p % 2 + 1 - c % 2) := by rw [Nat.pow_succ]; omega
    have ec : c = 2 * (c / 2) + c % 2 := by omega
    rw [e]
    have h2 : (2 * (p / 2 + (2 ^ n - 1 - c / 2)) + (p % 2 + 1 - c % 2)) &&& c = 2 * (p / 2) + ((p % 2 + 1 - c % 2) &&& (c % 2)) := by
      rw [show (2 * (p / 2 + (2 ^ n - 1 - c / 2)) + (p % 2 + 1 - c % 2)) &&& c = (2 * (p / 2 + (2 ^ n - 1 - c / 2)) + (p % 2 + 1 - c % 2)) &&& (2 * (c / 2) + c % 2) by rw [← ec]]
      rw [and2 (by omega) (by omega), h0]
    rw [h2]
    have hb : (p % 2 + 1 - c % 2) &&& (c % 2) = p % 2 := by
      obtain ⟨h, h'⟩ | ⟨h, h'⟩ | ⟨h, h'⟩ : (p % 2 = 0 ∧ c % 2 = 0) ∨ (p % 2 = 0 ∧ c % 2 = 1) ∨ (p % 2 = 1 ∧ c % 2 = 1) := by omega
      · rw [h, h']; decide
      · rw [h, h']; decide
      · rw [h, h']; decide
    rw [hb]; omega
def nx (n c p : Nat) : Nat := (p + 2 ^ n - c) % 2 ^ n &&& c
theorem nx_sub (n c p : Nat) : nx n c p &&& c = nx n c p := by unfold nx; rw [Nat.and_assoc, Nat.and_self]
theorem nx_rk : ∀ n c p, c < 2 ^ n → p &&& c = p → rk n c p + 1 < 2 ^ pop n c → rk n c (nx n c p) = rk n c p + 1 := by
  intro n
  induction n with
  | zero => intro c p _ _ h; exact absurd h (by show ¬ (0 + 1 < 2 ^ 0); omega)
  | succ n ih =>
    intro c p hc hp h
    obtain ⟨a1, a2⟩ := sub_half hp
    have hp2 := Nat.two_pow_pos n
    rw [Nat.pow_succ] at hc
    have ple : p / 2 ≤ c / 2 := by have := Nat.and_le_right (n := p / 2) (m := c / 2); omega
    have h0 := ih (c / 2) (p / 2) (by omega) a1
    have f0 := fillc n (c / 2) (p / 2) (by omega) a1
    rw [pop_half] at h
    have ec : c = 2 * (c / 2) + c % 2 := by omega
    have ep : p = 2 * (p / 2) + p % 2 := by omega
    have same : p % 2 = c % 2 → nx (n + 1) c p = 2 * nx n (c / 2) (p / 2) := fun e => by
      unfold nx
      have e1 : (p + 2 ^ (n + 1) - c) % 2 ^ (n + 1) = 2 * ((p / 2 + 2 ^ n - c / 2) % 2 ^ n) + 0 := by
        rw [Nat.pow_succ, show p + 2 ^ n * 2 - c = 2 * (p / 2 + 2 ^ n - c / 2) by omega, Nat.mul_comm (2 ^ n) 2, Nat.mul_mod_mul_left]; omega
      rw [e1]
      rw [show (2 * ((p / 2 + 2 ^ n - c / 2) % 2 ^ n) + 0) &&& c = (2 * ((p / 2 + 2 ^ n - c / 2) % 2 ^ n) + 0) &&& (2 * (c / 2) + c % 2) by rw [← ec]]
      rw [and2 (by omega) (by omega), Nat.zero_and]; omega
    by_cases e : c % 2 = 1
    · by_cases e2 : p % 2 = 1
      · rw [same (by omega)]
        rw [rk, if_pos e] at h ⊢
        rw [rk, if_pos e, show 2 * nx n (c / 2) (p / 2) / 2 = nx n (c / 2) (p / 2) by omega, h0 (by rw [e, Nat.pow_succ] at h; omega)]
        omega
      · have e1 : nx (n + 1) c p = 2 * (p / 2) + 1 := by
          unfold nx
          have e3 : (p + 2 ^ (n + 1) - c) % 2 ^ (n + 1) = 2 * (p / 2 + (2 ^ n - 1 - c / 2)) + 1 := by
            rw [Nat.pow_succ, show p + 2 ^ n * 2 - c = 2 * (p / 2 + (2 ^ n - 1 - c / 2)) + 1 by omega]
            exact Nat.mod_eq_of_lt (by omega)
          rw [e3]
          rw [show (2 * (p / 2 + (2 ^ n - 1 - c / 2)) + 1) &&& c = (2 * (p / 2 + (2 ^ n - 1 - c / 2)) + 1) &&& (2 * (c / 2) + c % 2) by rw [← ec]]
          rw [and2 (by omega) (by omega), f0, e]; rfl
        rw [e1, rk, if_pos e, rk, if_pos e, show (2 * (p / 2) + 1) / 2 = p / 2 by omega]
        omega
    · rw [same (by omega)]
      rw [rk, if_neg e] at h ⊢
      rw [rk, if_neg e, show 2 * nx n (c / 2) (p / 2) / 2 = nx n (c / 2) (p / 2) by omega]
      exact h0 (by rw [show c % 2 = 0 by omega] at h; exact h)
theorem nx_lt {n c p : Nat} (hc : c < 2 ^ n) : nx n c p < 2 ^ n := Nat.lt_of_le_of_lt Nat.and_le_right hc
/-- as the program finds the next one -/
theorem nx_I {c p : Nat} (hc : c < 4096) (hp : p < 4096) : (nI p - nI c) &&& nI c = nI (nx 12 c p) := by
  apply i32_ext
  have hn : nx 12 c p < 4096 := nx_lt (n := 12) hc
  rw [Int32.toBitVec_and, BitVec.toNat_and, Int32.toBitVec_sub, BitVec.toNat_sub, pk_tn (by omega), pk_tn (by omega), pk_tn (by omega)]
  unfold nx
  apply Nat.eq_of_testBit_eq
  intro i
  rw [Nat.testBit_and, Nat.testBit_and]
  by_cases hi : i < 12
  · rw [Nat.testBit_mod_two_pow, Nat.testBit_mod_two_pow]
    have h1 : ((2 ^ 32 - c + p)).testBit i = (p + 2 ^ 12 - c).testBit i := by
      have : (2 ^ 32 - c + p) % 2 ^ 12 = (p + 2 ^ 12 - c) % 2 ^ 12 := by omega
      have h2 := congrArg (fun z => z.testBit i) this
      rw [Nat.testBit_mod_two_pow, Nat.testBit_mod_two_pow] at h2
      simpa [hi] using h2
    rw [h1]
    simp [hi, show i < 32 by omega]
  · rw [bit_ge (n := 12) hc (by omega), Bool.and_false, Bool.and_false]
/-! greatest -/
theorem mxF_ge (f : Nat → Nat) : ∀ n k, k < n → f k ≤ mxF f n := by
  intro n
  induction n with
  | zero => intro k hk; omega
  | succ n ih =>
    intro k hk
    rw [mxF]
    by_cases e : k = n
    · subst e; split <;> omega
    · have := ih k (by omega); split <;> omega
theorem mxF_le (f : Nat → Nat) (b : Nat) : ∀ n, (∀ k, k < n → f k ≤ b) → mxF f n ≤ b := by
  intro n
  induction n with
  | zero => intro _; exact Nat.zero_le _
  | succ n ih =>
    intro h
    rw [mxF]
    have h1 := ih (fun k hk => h k (by omega))
    have h2 := h n (by omega)
    split <;> omega
theorem mxF_congr {f g : Nat → Nat} {n : Nat} (h : ∀ k, k < n → f k = g k) : mxF f n = mxF g n := by
  apply Nat.le_antisymm
  · exact mxF_le f _ n fun k hk => by rw [h k hk]; exact mxF_ge g n k hk
  · exact mxF_le g _ n fun k hk => by rw [← h k hk]; exact mxF_ge f n k hk
theorem mxF_up {f g : Nat → Nat} {n o : Nat} (ho : o < n) (hg : ∀ k, k < n → k ≠ o → g k = f k) (hv : f o ≤ g o) : mxF g n = if mxF f n < g o then g o else mxF f n := by
  have h1 := mxF_ge g n o ho
  have h2 : ∀ k, k < n → k ≠ o → f k ≤ mxF g n := fun k hk hko => by rw [← hg k hk hko]; exact mxF_ge g n k hk
  have h3 : mxF f n ≤ mxF g n := mxF_le f _ n fun k hk => by
    by_cases e : k = o
    · subst e; omega
    · exact h2 k hk e
  have h4 : mxF g n ≤ (if mxF f n < g o then g o else mxF f n) := mxF_le g _ n fun k hk => by
    by_cases e : k = o
    · subst e; split <;> omega
    · rw [hg k hk e]
      have := mxF_ge f n k hk
      split <;> omega
  split at h4 <;> split <;> omega
theorem watF_le (f : Nat → Nat) (k : Nat) : (watF f (k + 1)).2 ≤ f k + 1 ∧ (watF f (k + 1)).2 ≠ 0 := by
  rw [watF]
  by_cases h : (watF f k).2 = 0 ∨ f k + 1 < (watF f k).2
  · rw [if_pos h]; show f k + 1 ≤ f k + 1 ∧ f k + 1 ≠ 0; omega
  · rw [if_neg h]; omega
theorem watF_lt (f : Nat → Nat) : ∀ k, (watF f (k + 1)).1 < k + 1 := by
  intro k
  induction k with
  | zero => rw [watF]; split <;> exact Nat.zero_lt_one
  | succ k ih =>
    rw [watF]
    split
    · show k + 1 < k + 1 + 1; omega
    · omega
/-! what is counted over the sets that fit -/
theorem fN_lt {c : CD} {s : LG} {a b : Nat} (ha : fit c s a = true) (h : a < b) : fN c s a < fN c s b := by
  have h1 := cntP_mono (fit c s) (a := a + 1) (b - (a + 1))
  rw [show a + 1 + (b - (a + 1)) = b by omega] at h1
  have h2 := fN_y ha
  unfold fN at h2 ⊢
  omega
theorem fN_inj {c : CD} {s : LG} {a b : Nat} (ha : fit c s a = true) (hb : fit c s b = true) (h : fN c s a = fN c s b) : a = b := by
  rcases Nat.lt_trichotomy a b with q | q | q
  · have := fN_lt ha q; omega
  · exact q
  · have := fN_lt hb q; omega
theorem sum_fit {c : CD} {s : LG} {F : Nat → Nat} {N : Nat} (hF : ∀ i, i < fN c s N → F i < N ∧ fit c s (F i) = true ∧ fN c s (F i) = i) (R : Nat → Bool) : ∀ n, n ≤ N → sumTo (fN c s n) (fun j => (R (F j)).toNat) = cntP (fun m => fit c s m && R m) n := by
  intro n
  induction n with
  | zero => intro _; rfl
  | succ n ih =>
    intro hn
    have h0 := ih (by omega)
    cases hf : fit c s n with
    | true =>
      have hl : fN c s n < fN c s N := fN_lt hf (by omega)
      obtain ⟨a1, a2, a3⟩ := hF (fN c s n) hl
      have : F (fN c s n) = n := fN_inj a2 hf a3
      rw [fN_y hf, sumTo, h0, cntP, this, hf]
      rfl
    | false =>
      rw [fN_n hf, h0, cntP, hf]
      rfl
theorem dLoop_congr {o o' f f' : Nat → Bool} {l l' : Nat → Nat} (ho : ∀ d, d < 6 → o d = o' d) (hf : ∀ d, d < 6 → f d = f' d) (hl : ∀ d, d < 6 → l d = l' d) : ∀ r d od li mo, d + r = 6 → dLoop o f l r d od li mo = dLoop o' f' l' r d od li mo := by
  intro r
  induction r with
  | zero => intro d od li mo _; rfl
  | succ r ih =>
    intro d od li mo hd
    unfold dLoop
    rw [ho d (by omega), hf d (by omega), hl d (by omega), ih _ _ _ _ (by omega), ih _ _ _ _ (by omega), ih _ _ _ _ (by omega)]
theorem om_bit {c : CD} {h d i : Nat} (hb : (om c h d).testBit i = true) : (cvm c h).testBit i = true := by
  unfold om at hb
  unfold cvm
  rw [mk_bit] at hb ⊢
  simp only [Bool.and_eq_true] at hb
  rw [hb.1, hb.2.2]; rfl
theorem bm_bit {c : CD} {h d i : Nat} (hb : (bm c h d).testBit i = true) : (cvm c h).testBit i = true := by
  unfold bm at hb
  unfold cvm
  rw [mk_bit] at hb ⊢
  simp only [Bool.and_eq_true] at hb
  rw [hb.1, hb.2.2]; rfl
theorem and_cut {a b m : Nat} (h : ∀ i, b.testBit i = true → m.testBit i = true) : (a &&& m) &&& b = a &&& b := by
  apply Nat.eq_of_testBit_eq
  intro i
  rw [Nat.testBit_and, Nat.testBit_and, Nat.testBit_and]
  cases hb : b.testBit i with
  | false => simp
  | true => rw [h i hb]; simp
theorem does_cut (c : CD) (m h : Nat) : doesN c (m &&& cvm c h) h = doesN c m h := by
  unfold doesN
  refine dLoop_congr (fun d _ => ?_) (fun d _ => ?_) (fun d _ => rfl) 6 0 0 0 0 rfl
  · unfold oB; rw [and_cut fun i hi => om_bit hi]
  · unfold fB; rw [and_cut fun i hi => bm_bit hi]
theorem does_like {c : CD} {h : Nat} (hl : lkB c h = true) (m : Nat) : doesN c m h = doesN c m (h - 1) := by
  unfold lkB at hl
  simp only [Bool.and_eq_true, decide_eq_true_eq, List.all_eq_true, List.mem_range] at hl
  obtain ⟨-, h2, h3⟩ := hl
  have hcv : ∀ i, i < kl c → cov c i h = cov c i (h - 1) := fun i hi => by
    have := congrArg (fun z => z.testBit i) h2
    unfold cvm at this
    rw [mk_bit, mk_bit] at this
    simpa [hi] using this
  unfold doesN
  refine dLoop_congr (fun d _ => ?_) (fun d _ => ?_) (fun d hd => h3 d hd) 6 0 0 0 0 rfl
  · unfold oB
    have : om c h d = om c (h - 1) d := mk_congr fun i hi => by rw [hcv i hi]
    rw [this]
  · unfold fB
    have : bm c h d = bm c (h - 1) d := mk_congr fun i hi => by rw [hcv i hi]
    rw [this]
theorem cntP_congr {p q : Nat → Bool} {n : Nat} (h : ∀ m, m < n → p m = q m) : cntP p n = cntP q n := by
  induction n with
  | zero => rfl
  | succ n ih => rw [cntP, cntP, ih (fun m hm => h m (by omega)), h n (by omega)]
theorem mos_like {c : CD} {s : LG} {h : Nat} (hl : lkB c h = true) : mosN c s h = mosN c s (h - 1) := by
  unfold mosN
  refine mxF_congr fun k _ => ?_
  unfold al
  refine cntP_congr fun m _ => ?_
  rw [does_like hl m]
