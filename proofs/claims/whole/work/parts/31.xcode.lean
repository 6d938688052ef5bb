/-! PURE: KingsYear's code: what its methods answer -/
def chainF (c : CD) : Nat → Nat → Nat → Nat
  | 0, _, _ => 4096
  | k + 1, a, ch => if dl c a 4 = 0 then ch ||| 2 ^ a else if kl c ≤ dl c a 4 - 1 then 4096 else chainF c k (dl c a 4 - 1) (ch ||| 2 ^ a)
def needs (c : CD) (l : Nat) : Nat := chainF c 12 l 0
def hrs (c : CD) (l : Nat) : Nat := mk 24 (fun h => cov c l h)
def riv (c : CD) (a b : Nat) : Bool := decide (hrs c a &&& hrs c b ≠ 0) && (decide (dl c a 0 + dl c b 0 = 2 ∧ dl c a 1 ≠ dl c b 1) || decide (dl c a 0 + dl c b 0 = 1 ∧ dl c a 1 = dl c b 1))
def rvm (c : CD) (a : Nat) : Nat := mk (kl c) (fun b => riv c a b)
def cvm (c : CD) (h : Nat) : Nat := mk (kl c) (fun l => cov c l h)
def wtd (c : CD) (h : Nat) : Bool := (List.range (kw c)).any (fun w => decide (dw c w 1 = h))
def b2 (b : Bool) : Int32 := if b then 1 else 0
theorem b2_0 (b : Bool) : b2 b = (0 : Int32) ↔ b = false := by cases b <;> decide
def XC (c : CD) (x : Mem) : Prop := XC0 c x ∧ (∀ l, l < kl c → x 14 l = nI (needs c l) ∧ x 15 l = nI (rvm c l)) ∧ (∀ h, h < 24 → x 19 h = nI (cvm c h) ∧ x 20 h = b2 (wtd c h))
theorem chainF_lt {c : CD} (hc : CDok c) : ∀ k a ch, a < kl c → ch < 4096 → chainF c k a ch < 8192 := by
  intro k
  induction k with
  | zero => intro a ch _ _; simp [chainF]
  | succ k ih =>
    intro a ch ha hch
    have h1 : 2 ^ a < 2 ^ 12 := Nat.pow_lt_pow_right (by omega) (by have := hc.1; omega)
    have h2 : ch ||| 2 ^ a < 2 ^ 12 := Nat.or_lt_two_pow hch h1
    unfold chainF
    split
    · omega
    · split
      · omega
      · exact ih _ _ (by omega) (by omega)
theorem needs_lt {c : CD} (hc : CDok c) {l : Nat} (hl : l < kl c) : needs c l < 8192 := chainF_lt hc _ _ _ hl (by omega)
theorem rvm_lt {c : CD} (hc : CDok c) (l : Nat) : rvm c l < 4096 := mk_le12 hc.1 _
theorem cvm_lt {c : CD} (hc : CDok c) (l : Nat) : cvm c l < 4096 := mk_le12 hc.1 _
def joyAt (c : CD) (set h : Nat) : Nat := if 1 ≤ doesN c set h ∧ doesN c set h ≤ 6 then lk c h (doesN c set h - 1) else 0
def joyN (c : CD) (set : Nat) : Nat := sumTo 24 (joyAt c set)
theorem joyAt_le {c : CD} (hc : CDok c) (set h : Nat) : joyAt c set h ≤ 108 := by
  unfold joyAt
  have := lk_le hc h (doesN c set h - 1)
  split <;> omega
theorem joy_part_le {c : CD} (hc : CDok c) (set k : Nat) : sumTo k (joyAt c set) ≤ k * 108 := sumTo_le fun i _ => joyAt_le hc set i
theorem joyN_le {c : CD} (hc : CDok c) (set : Nat) : joyN c set ≤ 2592 := joy_part_le hc set 24
theorem lk_notwtd {c : CD} {h : Nat} (hw : wtd c h = false) (d : Nat) : lk c h d = 0 := by
  have h1 : ∀ w, w < kw c → dw c w 1 ≠ h := by
    intro w hlt e
    have : wtd c h = true := List.any_eq_true.mpr ⟨w, List.mem_range.mpr hlt, by simp [e]⟩
    rw [hw] at this; cases this
  have h2 : lk c h d = sumTo (kw c) (fun _ => 0) := sumTo_congr fun w hlt => if_neg (fun z => h1 w hlt z.2)
  rw [h2]
  have h3 := sumTo_le (n := kw c) (b := 0) (f := fun _ => 0) (fun _ _ => Nat.le_refl 0)
  omega
theorem X_joy_loop {c : CD} {x : Mem} {set : Nat} {Qp : Int32 → Prop} (hX : XC c x) (hs : set < 4096) (hQ : Qp (nI (joyN c set))) : ∀ r k : Nat, k + r = 24 → b_X0_joyBy_4 (r + 1) x (nI set) (nI (sumTo k (joyAt c set))) (nI k) Qp := by
  intro r
  induction r with
  | zero =>
    intro k hk
    have : k = 24 := by omega
    subst this
    rw [b_X0_joyBy_4]
    exact ⟨fun _ => hQ, fun h => absurd (nI_le (a := 24) (b := 24) (by omega) (by omega)) h⟩
  | succ r ih =>
    intro k hk
    rw [b_X0_joyBy_4]
    have hnext : nI k + (1 : Int32) = nI (k + 1) := nI_1 k
    have hle := joy_part_le hX.1.1 set k
    have hl2 : k * 108 ≤ 24 * 108 := Nat.mul_le_mul_right _ (by omega)
    refine ⟨fun h => absurd h (nI_ge (a := k) (b := 24) (by omega) (by omega)), fun _ => ⟨vp_in_nI (by omega) (by omega), ?_⟩⟩
    unfold b_X0_joyBy_55
    rw [nI_clamp (by omega), (hX.2.2 k (by omega)).2, hnext]
    have hs1 : sumTo (k + 1) (joyAt c set) = sumTo k (joyAt c set) + joyAt c set k := rfl
    have hsame : joyAt c set k = 0 → b_X0_joyBy_4 (r + 1) x (nI set) (nI (sumTo k (joyAt c set))) (nI (k + 1)) Qp := by
      intro h0
      have := ih (k + 1) (by omega)
      rw [hs1, h0] at this
      exact this
    refine ⟨fun hw => hsame ?_, fun hw => ?_⟩
    · have := (b2_0 _).mp hw
      unfold joyAt
      split
      · exact lk_notwtd this _
      · rfl
    · refine X_deedBy hX.1 hs (by omega) ?_
      have hdl := doesN_le c set k
      refine ⟨fun h1 => hsame ?_, fun h1 => ⟨fun h2 => hsame ?_, fun h2 => ?_⟩⟩
      · have := (dI_m1 (by omega)).mp h1
        unfold joyAt
        rw [if_neg (by omega)]
      · rw [show (6 : Int32) = dI 7 from rfl, dI_inj (by omega) (by omega)] at h2
        unfold joyAt
        rw [if_neg (by omega)]
      · rw [dI_m1 (by omega)] at h1
        rw [show (6 : Int32) = dI 7 from rfl, dI_inj (by omega) (by omega)] at h2
        obtain ⟨d, hd⟩ : ∃ d, doesN c set k = d + 1 := ⟨doesN c set k - 1, by omega⟩
        have hj : joyAt c set k = lk c k d := by
          unfold joyAt
          rw [if_pos (by omega), hd]
          rfl
        rw [hd, dI_s, show (6 : Int32) = nI 6 from rfl, pk_mul, nI_add, nI_clamp (by omega), show k * 6 + d = 6 * k + d by omega]
        refine ⟨vp_in_nI (by omega) (by omega), fun x9 e9 => ?_⟩
        subst e9
        rw [(hX.1.2.2.2 k (by omega) d (by omega)).2.2, nI_add]
        have := ih (k + 1) (by omega)
        rw [hs1, hj] at this
        exact this
theorem X_joyBy {c : CD} {x : Mem} {set : Nat} {Qp : Int32 → Prop} (hX : XC c x) (hs : set < 4096) (hQ : Qp (nI (joyN c set))) : p_X0_joyBy x (nI set) Qp := ⟨25, X_joy_loop hX hs hQ 24 0 rfl⟩
/-- the first i in [i, i + r) with p, + 1 -/
def fF (p : Nat → Bool) : Nat → Nat → Nat
  | 0, _ => 0
  | r + 1, i => if p i then i + 1 else fF p r (i + 1)
theorem fF_le (p : Nat → Bool) : ∀ r i, fF p r i ≤ i + r := by
  intro r
  induction r with
  | zero => intro i; simp [fF]
  | succ r ih =>
    intro i
    unfold fF
    split
    · omega
    · have := ih (i + 1); omega
def clN (c : CD) (set : Nat) : Nat := fF (fun h => decide (doesN c set h = 7)) 24 0
theorem X_clash_loop {c : CD} {x : Mem} {set : Nat} {Qp : Int32 → Prop} (hX : XC c x) (hs : set < 4096) : ∀ r k : Nat, k + r = 24 → Qp (dI (fF (fun h => decide (doesN c set h = 7)) r k)) → b_X0_firstClash_2 (r + 1) x (nI set) (nI k) Qp := by
  intro r
  induction r with
  | zero =>
    intro k hk hQ
    have : k = 24 := by omega
    subst this
    rw [b_X0_firstClash_2]
    exact ⟨fun _ => hQ, fun h => absurd (nI_le (a := 24) (b := 24) (by omega) (by omega)) h⟩
  | succ r ih =>
    intro k hk hQ
    rw [b_X0_firstClash_2]
    refine ⟨fun h => absurd h (nI_ge (a := k) (b := 24) (by omega) (by omega)), fun _ => X_deedBy hX.1 hs (by omega) ?_⟩
    have hdl := doesN_le c set k
    rw [show (6 : Int32) = dI 7 from rfl, dI_inj (by omega) (by omega), nI_1]
    unfold fF at hQ
    refine ⟨fun h => ?_, fun h => ?_⟩
    · rw [if_pos (by simp [h]), dI_s] at hQ; exact hQ
    · rw [if_neg (by simp [h])] at hQ; exact ih (k + 1) (by omega) hQ
theorem X_firstClash {c : CD} {x : Mem} {set : Nat} {Qp : Int32 → Prop} (hX : XC c x) (hs : set < 4096) (hQ : Qp (dI (clN c set))) : p_X0_firstClash x (nI set) Qp := ⟨25, X_clash_loop hX hs 24 0 rfl hQ⟩
/-- Integer.bitCount of twelve bits -/
def bcF (v0 : Int32) : Int32 :=
  let x1 := v0 - ((v0.toUInt32 >>> ((1 : Int32).toUInt32 &&& Int32.toUInt32 31)).toInt32 &&& (1431655765 : Int32))
  let x2 := (x1 &&& (858993459 : Int32)) + ((x1.toUInt32 >>> ((2 : Int32).toUInt32 &&& Int32.toUInt32 31)).toInt32 &&& (858993459 : Int32))
  let x3 := (x2 + (x2.toUInt32 >>> ((4 : Int32).toUInt32 &&& Int32.toUInt32 31)).toInt32) &&& (252645135 : Int32)
  let x4 := x3 + (x3.toUInt32 >>> ((8 : Int32).toUInt32 &&& Int32.toUInt32 31)).toInt32
  let x5 := x4 + (x4.toUInt32 >>> ((16 : Int32).toUInt32 &&& Int32.toUInt32 31)).toInt32
  x5 &&& (63 : Int32)
theorem bcF_64 : ∀ a, a < 64 → ∀ b, b < 64 → bcF (nI (64 * a + b)) = nI (pop 12 (64 * a + b)) := by decide +kernel
theorem X_bitCount {m : Nat} {Qp : Int32 → Prop} (hm : m < 4096) (hQ : Qp (nI (pop 12 m))) : p_J6_bitCount (nI m) Qp := by
  intro x1 e1 x2 e2 x3 e3 x4 e4 x5 e5
  have := by64 (P := fun m => bcF (nI m) = nI (pop 12 m)) bcF_64 hm
  rw [← this] at hQ
  subst e1 e2 e3 e4 e5
  exact hQ
theorem X_standing_loop {c : CD} {x : Mem} {m : Nat} {Qp : Int32 → Prop} (hX : XC c x) (hm : m < 4096) (hQ : Qp (nI (mk (kl c) (fun l => decide (sd (needs c l) m = 0))))) : ∀ r k : Nat, k + r = kl c → b_X0_standing_4 (r + 1) x (nI m) (nI (mk k (fun l => decide (sd (needs c l) m = 0)))) (nI k) Qp := by
  have hk12 := hX.1.1.1
  intro r
  induction r with
  | zero =>
    intro k hk
    have : k = kl c := by omega
    subst this
    rw [b_X0_standing_4]; dsimp only; rw [hX.1.2.1]
    exact ⟨fun _ => hQ, fun h => absurd (nI_le (Nat.le_refl _) (by omega)) h⟩
  | succ r ih =>
    intro k hk
    rw [b_X0_standing_4]; dsimp only; rw [hX.1.2.1]
    unfold b_X0_standing_31
    refine ⟨fun h => absurd h (nI_ge (by omega) (by omega)), fun _ => ⟨vp_in_nI (by omega) (by omega), ?_⟩⟩
    have hn := needs_lt hX.1.1 (show k < kl c by omega)
    have hsd : sd (needs c k) m < 2 ^ 13 := sd_lt hn
    rw [nI_clamp (by omega), (hX.2.1 k (by omega)).1, nI_sd (by omega) (by omega), shl1 (by omega)]
    have hml := mk_le12 (n := k) (by omega) (fun l => decide (sd (needs c l) m = 0))
    have hp : 2 ^ k < 2 ^ 12 := Nat.pow_lt_pow_right (by omega) (by omega)
    rw [nI_or (by omega) (by omega), nI_1]
    have := ih (k + 1) (by omega)
    rw [mk] at this
    by_cases e : sd (needs c k) m = 0
    · rw [if_pos ((nI_eq0 (by omega)).mpr e)]
      rw [if_pos (by simp [e])] at this
      exact this
    · rw [if_neg (fun z => e ((nI_eq0 (by omega)).mp z))]
      rw [if_neg (by simp [e]), Nat.or_zero] at this
      exact this
def stand (c : CD) (m : Nat) : Nat := mk (kl c) (fun l => decide (sd (needs c l) m = 0))
theorem X_standing {c : CD} {x : Mem} {m : Nat} {Qp : Int32 → Prop} (hX : XC c x) (hm : m < 4096) (hQ : Qp (nI (stand c m))) : p_X0_standing x (nI m) Qp := ⟨kl c + 1, X_standing_loop hX hm hQ (kl c) 0 (by omega)⟩
theorem all_ : ∀ n, n < 13 → ((1 : Int32) <<< (nI n &&& 31)) - (1 : Int32) = nI (2 ^ n - 1) := by decide +kernel
theorem X_all {c : CD} {x : Mem} {Qp : Int32 → Prop} (hX : XC c x) (hQ : Qp (nI (2 ^ kl c - 1))) : p_X0_all x Qp := by
  have hk12 := hX.1.1.1
  unfold p_X0_all
  rw [hX.1.2.1, all_ _ (by omega)]
  exact hQ
theorem X_rivalsWithin {c : CD} {x : Mem} {l m : Nat} {Qp : Int32 → Prop} (hX : XC c x) (hl : l < kl c) (hm : m < 4096) (hQ : Qp (nI (rvm c l &&& m))) : p_X0_rivalsWithin x (nI l) (nI m) Qp := by
  have hk12 := hX.1.1.1
  have := rvm_lt hX.1.1 l
  refine ⟨vp_in_nI (by omega) (by omega), ?_⟩
  rw [nI_clamp (by omega), (hX.2.1 l hl).2, nI_and (by omega) (by omega)]
  exact hQ
