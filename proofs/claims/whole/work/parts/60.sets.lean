/-! STEPS: the sets by which all that was seen comes out so -/
theorem fit_iff {c : CD} {s : LG} {m : Nat} : fit c s m = true ↔ ∀ k, k < s.1 → doesN c m (s.2.1 k) = s.2.2 k := decide_eq_true_iff
theorem fit_no {c : CD} {s : LG} {m k : Nat} (hk : k < s.1) (h : doesN c m (s.2.1 k) ≠ s.2.2 k) : fit c s m = false := decide_eq_false fun z => h (z k hk)
theorem cntP_le (p : Nat → Bool) : ∀ n, cntP p n ≤ n := by
  intro n
  induction n with
  | zero => exact Nat.le_refl 0
  | succ n ih =>
    rw [cntP]
    have : (p n).toNat ≤ 1 := by cases p n <;> decide
    omega
theorem cntP_mono (p : Nat → Bool) {a : Nat} : ∀ d, cntP p a ≤ cntP p (a + d) := by
  intro d
  induction d with
  | zero => exact Nat.le_refl _
  | succ d ih => show _ ≤ cntP p (a + d) + _; omega
theorem fN_y {c : CD} {s : LG} {m : Nat} (h : fit c s m = true) : fN c s (m + 1) = fN c s m + 1 := by unfold fN; rw [cntP, h]; rfl
theorem fN_n {c : CD} {s : LG} {m : Nat} (h : fit c s m = false) : fN c s (m + 1) = fN c s m := by unfold fN; rw [cntP, h]; rfl
theorem fN_le {c : CD} {s : LG} {m : Nat} : fN c s m ≤ m := cntP_le _ _
theorem cmF_le {c : CD} {s : LG} : ∀ m, cmF c s m ≤ 2 ^ kl c - 1 := by
  intro m
  induction m with
  | zero => exact Nat.le_refl _
  | succ m ih =>
    rw [cmF]
    split
    · exact Nat.le_trans Nat.and_le_left ih
    · exact ih
/-- the least + 1 -/
def lsN (c : CD) (s : LG) : Nat → Nat
  | 0 => 0
  | m + 1 => if fit c s m = true ∧ fN c s m = 0 then m + 1 else lsN c s m
theorem lsN_0 {c : CD} {s : LG} : ∀ n, fN c s n = 0 → lsN c s n = 0 := by
  intro n
  induction n with
  | zero => intro _; rfl
  | succ n ih =>
    intro h
    cases hf : fit c s n with
    | true => rw [fN_y hf] at h; omega
    | false => rw [fN_n hf] at h; rw [lsN, if_neg (by rw [hf]; simp)]; exact ih h
theorem lsN_at {c : CD} {s : LG} {q : Nat} (hq : fit c s q = true) (h0 : fN c s q = 0) : ∀ d, lsN c s (q + 1 + d) = q + 1 := by
  intro d
  induction d with
  | zero => show lsN c s (q + 1) = q + 1; rw [lsN, if_pos ⟨hq, h0⟩]
  | succ d ih =>
    show lsN c s (q + 1 + d + 1) = q + 1
    rw [lsN, if_neg, ih]
    rintro ⟨-, h⟩
    have := cntP_mono (fit c s) (a := q + 1) d
    have h2 := fN_y hq
    unfold fN at h h2
    omega
theorem lsN_le {c : CD} {s : LG} : ∀ n, lsN c s n ≤ n := by
  intro n
  induction n with
  | zero => exact Nat.le_refl 0
  | succ n ih => rw [lsN]; split <;> omega
def fSe (c : CD) (s : LG) (k : Nat) : Int32 := if k = 0 then nI (fN c s (2 ^ kl c)) else if k = 1 then dI (lsN c s (2 ^ kl c)) else nI (comN c s)
def a1F (n : Nat) (f : Nat → Int32) (v : Int32) : Int32 := if ran v n = true then f v.toNatClampNeg else -2
theorem a1F_y {n j : Nat} (f : Nat → Int32) (hj : j < n) (hn : n < 2 ^ 31) : a1F n f (nI j) = f j := by
  unfold a1F
  rw [ran_y hj hn, nI_clamp (by omega)]; rfl
theorem a1F_n {n : Nat} (f : Nat → Int32) {v : Int32} (h : ∀ j, j < n → v ≠ nI j) : a1F n f v = -2 := by
  unfold a1F
  rw [ran_n h]; rfl
/-! the program's -/
def hdN (c : CD) (s : LG) (all : Nat) : Nat → Nat
  | 0 => 0
  | k + 1 => hdN c s all k ||| hin c (s.2.1 k) (s.2.2 k) all
theorem hdN_lt {c : CD} (hc : CDok c) (s : LG) (all : Nat) : ∀ n, hdN c s all n < 4096 := by
  intro n
  induction n with
  | zero => show 0 < 4096; omega
  | succ n ih => exact Nat.or_lt_two_pow (n := 12) ih (hin_lt hc _ _ _)
theorem hdN_fit {c : CD} (hc : CDok c) {s : LG} (hs : sok s) {all set : Nat} : ∀ n, n ≤ s.1 → set &&& hdN c s all n ≠ 0 → fit c s set = false := by
  intro n
  induction n with
  | zero => intro _ h; exact absurd (Nat.and_zero set) h
  | succ n ih =>
    intro hn h
    rw [hdN, Nat.and_or_distrib_left] at h
    by_cases e : set &&& hdN c s all n = 0
    · rw [e, Nat.zero_or] at h
      obtain ⟨i, h1, h2⟩ := and_ne0.mp h
      refine fit_no (k := n) (by omega) fun z => ?_
      have z0 := ((does_w hc (hs.2 n (by omega)).2).mp z).1
      have : (hin c (s.2.1 n) (s.2.2 n) set).testBit i = true := by
        unfold hin at h2 ⊢
        rw [mk_bit, Bool.and_eq_true, Bool.and_eq_true] at h2
        rw [mk_bit, h2.1, h1, h2.2.2]; rfl
      rw [z0] at this
      simp at this
    · exact ih (by omega) e
theorem X_comes_loop {c : CD} {s : LG} {x : Mem} {m : Nat} {Qp : Int32 → Prop} (hX : XC c x) (hs : SX s x) (hm : m < 4096) (hQ : Qp (b2 (fit c s m))) : ∀ r k, k + r = s.1 → (∀ i, i < k → doesN c m (s.2.1 i) = s.2.2 i) → b_X2_comesOut_2 (r + 1) x (nI m) (nI k) Qp := by
  have h8 := hs.1.1
  intro r
  induction r with
  | zero =>
    intro k hk hi
    have : k = s.1 := by omega
    subst this
    rw [b_X2_comesOut_2]; dsimp only
    rw [hs.2.1]
    rw [fit_iff.mpr hi] at hQ
    exact ⟨fun _ => hQ, fun z => absurd (nI_le (Nat.le_refl _) (by omega)) z⟩
  | succ r ih =>
    intro k hk hi
    rw [b_X2_comesOut_2]; dsimp only
    obtain ⟨e1, e2⟩ := hs.2.2 k (by omega)
    obtain ⟨o1, o2⟩ := hs.1.2 k (by omega)
    have hdl := doesN_le c m (s.2.1 k)
    rw [hs.2.1, nI_clamp (by omega), e1, e2, nI_1]
    refine ⟨fun z => absurd z (nI_ge (by omega) (by omega)), fun _ => ⟨vp_in_nI (by omega) (by omega), X_deedBy hX.1 hm o1 ⟨vp_in_nI (by omega) (by omega), fun z => ?_, fun z => ?_⟩⟩⟩
    · have z := (dI_inj (by omega) (by omega)).mp z
      exact ih (k + 1) (by omega) fun i hi2 => by
        by_cases e : i = k
        · rw [e]; exact z
        · exact hi i (by omega)
    · rw [fit_no (k := k) (by omega) (fun w => z (by rw [w]))] at hQ
      exact hQ
theorem X_comesOut {c : CD} {s : LG} {x : Mem} {m : Nat} {Qp : Int32 → Prop} (hX : XC c x) (hs : SX s x) (hm : m < 4096) (hQ : Qp (b2 (fit c s m))) : p_X2_comesOut x (nI m) Qp := ⟨s.1 + 1, X_comes_loop hX hs hm hQ s.1 0 (by omega) (fun i hi => absurd hi (Nat.not_lt_zero i))⟩
/-- while the sets are sifted, those below m -/
def SI (c : CD) (s : LG) (x : Mem) (m : Nat) (g : Mem) : Prop := (∀ k, k ≠ 35 → k ≠ 38 → g k = x k) ∧ g 35 2 = x 35 2 ∧ g 35 3 = 0 ∧ g 35 9 = (-1 : Int32) ∧ g 35 5 = nI (fN c s m) ∧ g 35 6 = nI (cmF c s m) ∧ ∀ i, i < fN c s m → ∃ q, g 38 i = nI q ∧ q < m ∧ fit c s q = true ∧ fN c s q = i
theorem X_sift_loop {c : CD} {s : LG} {x : Mem} {Qp : Mem → Prop} (hX : XC c x) (hs : SX s x) (hQ : ∀ g, (∀ k, k ≠ 35 → k ≠ 38 → g k = x k) → g 35 2 = x 35 2 → g 35 3 = 0 → cacheX c s g → Qp g) : ∀ r m g, m + r = 2 ^ kl c → SI c s x m g → b_X2_sift_78 (r + 1) g (nI (2 ^ kl c - 1)) (nI (hdN c s (2 ^ kl c - 1) s.1)) (nI m) Qp := by
  have hc := hX.1.1
  have hp : 2 ^ kl c ≤ 4096 := Nat.pow_le_pow_right (n := 2) (by omega) hc.1
  have hp0 := Nat.two_pow_pos (kl c)
  have hh := hdN_lt hc s (2 ^ kl c - 1) s.1
  intro r
  induction r with
  | zero =>
    intro m g hm hI
    have : m = 2 ^ kl c := by omega
    subst this
    obtain ⟨i1, i2, i3, i4, i5, i6, i7⟩ := hI
    have hf := fN_le (c := c) (s := s) (m := 2 ^ kl c)
    rw [b_X2_sift_78]; dsimp only
    rw [i5, nI_eq0 (by omega)]
    refine ⟨fun _ => ⟨fun z => hQ _ (fun k a1 a2 => by rw [up2_other _ _ _ a1]; exact i1 k a1 a2) (by rw [up2_row, if_neg (by omega)]; exact i2) (by rw [up2_row, if_neg (by omega)]; exact i3) ⟨?_, ?_, ?_, Or.inl ?_⟩, fun z => hQ g i1 i2 i3 ⟨i5, ?_, i7, Or.inl i4⟩⟩, fun z => absurd (nI_lt (by omega) (by omega)) z⟩
    · rw [up2_row, if_neg (by omega)]; exact i5
    · rw [up2_row, if_pos ⟨rfl, rfl⟩]; unfold comN; rw [if_pos z]; rfl
    · rw [up2_other _ _ _ (by omega)]; exact i7
    · rw [up2_row, if_neg (by omega)]; exact i4
    · unfold comN; rw [if_neg z]; exact i6
  | succ r ih =>
    intro m g hm hI
    obtain ⟨i1, i2, i3, i4, i5, i6, i7⟩ := hI
    have hf := fN_le (c := c) (s := s) (m := m)
    have hcm := cmF_le (c := c) (s := s) m
    have hXg : XC c g := hX.f fun k a1 a2 => i1 k (by omega) (by omega)
    have hsg : SX s g := hs.f i2 (i1 36 (by omega) (by omega)) (i1 37 (by omega) (by omega))
    have ha : m &&& hdN c s (2 ^ kl c - 1) s.1 < 2 ^ 31 := Nat.lt_of_le_of_lt Nat.and_le_left (by omega)
    rw [b_X2_sift_78]; dsimp only
    unfold b_X2_sift_133
    rw [nI_and (by omega) (by omega), nI_eq0 ha, nI_1]
    have no : fit c s m = false → b_X2_sift_78 (r + 1) g (nI (2 ^ kl c - 1)) (nI (hdN c s (2 ^ kl c - 1) s.1)) (nI (m + 1)) Qp := fun hn => by
      refine ih (m + 1) g (by omega) ⟨i1, i2, i3, i4, by rw [fN_n hn]; exact i5, by rw [cmF, if_neg (by rw [hn]; simp)]; exact i6, fun i hi => ?_⟩
      rw [fN_n hn] at hi
      obtain ⟨q, q1, q2, q3, q4⟩ := i7 i hi
      exact ⟨q, q1, by omega, q3, q4⟩
    refine ⟨fun z => absurd z (nI_nlt (by omega) (by omega)), fun _ => ⟨fun _ => X_comesOut hXg hsg (by omega) ⟨fun z => no ((b2_0 _).mp z), fun z => ?_⟩, fun z => no (hdN_fit hc hs.1 s.1 (Nat.le_refl _) z)⟩⟩
    have hy : fit c s m = true := by
      cases e : fit c s m with
      | true => rfl
      | false => exact absurd ((b2_0 _).mpr e) z
    rw [i5]
    refine ⟨vp_in_nI (by omega) (by omega), fun g' e => ih (m + 1) g' (by omega) ?_⟩
    rw [up2_other _ _ _ (show 35 ≠ 38 by omega), i5, nI_1, up2_row _ 35 5 35 6, if_neg (by omega), up2_other _ _ _ (show 35 ≠ 38 by omega), i6, nI_and (by omega) (by omega), nI_clamp (by omega)] at e
    refine ⟨fun k a1 a2 => ?_, ?_, ?_, ?_, ?_, ?_, fun i hi => ?_⟩
    · rw [e, up2_other _ _ _ a1, up2_other _ _ _ a1, up2_other _ _ _ a2]; exact i1 k a1 a2
    · rw [e, up2_row, if_neg (by omega), up2_row, if_neg (by omega), up2_other _ _ _ (by omega)]; exact i2
    · rw [e, up2_row, if_neg (by omega), up2_row, if_neg (by omega), up2_other _ _ _ (by omega)]; exact i3
    · rw [e, up2_row, if_neg (by omega), up2_row, if_neg (by omega), up2_other _ _ _ (by omega)]; exact i4
    · rw [e, up2_row, if_neg (by omega), up2_row, if_pos ⟨rfl, rfl⟩, fN_y hy]
    · rw [e, up2_row, if_pos ⟨rfl, rfl⟩, cmF, if_pos hy]
    · rw [fN_y hy] at hi
      rw [e, up2_other _ _ _ (by omega), up2_other _ _ _ (by omega), up2_row]
      by_cases q : i = fN c s m
      · rw [if_pos ⟨rfl, q⟩]; exact ⟨m, rfl, by omega, hy, q.symm⟩
      · rw [if_neg (fun z => q z.2)]
        obtain ⟨p, p1, p2, p3, p4⟩ := i7 i (by omega)
        exact ⟨p, p1, by omega, p3, p4⟩
theorem X_hind_loop {c : CD} {s : LG} {x g : Mem} {Qp : Mem → Prop} (hX : XC c g) (hs : SX s g) (hQ : ∃ n, b_X2_sift_78 n g (nI (2 ^ kl c - 1)) (nI (hdN c s (2 ^ kl c - 1) s.1)) (0 : Int32) Qp) : ∀ r k, k + r = s.1 → b_X2_sift_38 (r + 1) g (nI (2 ^ kl c - 1)) (nI (hdN c s (2 ^ kl c - 1) k)) (nI k) Qp := by
  have hc := hX.1.1
  have hp : 2 ^ kl c ≤ 4096 := Nat.pow_le_pow_right (n := 2) (by omega) hc.1
  have hp0 := Nat.two_pow_pos (kl c)
  have h8 := hs.1.1
  intro r
  induction r with
  | zero =>
    intro k hk
    have : k = s.1 := by omega
    subst this
    rw [b_X2_sift_38]; dsimp only
    rw [hs.2.1]
    exact ⟨fun _ => hQ, fun z => absurd (nI_le (Nat.le_refl _) (by omega)) z⟩
  | succ r ih =>
    intro k hk
    rw [b_X2_sift_38]; dsimp only
    obtain ⟨e1, e2⟩ := hs.2.2 k (by omega)
    obtain ⟨o1, o2⟩ := hs.1.2 k (by omega)
    rw [hs.2.1, nI_clamp (by omega), e1, e2, nI_1]
    refine ⟨fun z => absurd z (nI_ge (by omega) (by omega)), fun _ => ⟨vp_in_nI (by omega) (by omega), vp_in_nI (by omega) (by omega), X_hindrances hX (by omega) o1 o2 ?_⟩⟩
    rw [nI_or (by have := hdN_lt hc s (2 ^ kl c - 1) k; omega) (by have := hin_lt hc (s.2.1 k) (s.2.2 k) (2 ^ kl c - 1); omega)]
    exact ih (k + 1) (by omega)
theorem X_sift {n0 n1 : Nat} {t b s : LG} {x : Mem} {Qp : Mem → Prop} (hR : RX n0 n1 t b s x) (h0 : x 0 12 = 0) (hQ : ∀ g, RX n0 n1 t b s g → FX x g → g 0 12 = 0 → g 35 3 = 0 → Qp g) : p_X2_sift x Qp := by
  refine ⟨fun z => hQ x hR (FX.rf x) h0 z, fun _ => ?_⟩
  have hok := (hR.2.2.2.2.2 h0).1
  have hX := hok.1
  have hc := hX.1.1
  have hs := hR.2.2.2.1
  have hp : 2 ^ kl (cdOf (x 2) n0 (x 5) n1) ≤ 4096 := Nat.pow_le_pow_right (n := 2) (by omega) hc.1
  refine X_all (c := cdOf (x 2) n0 (x 5) n1) (hX.f fun k a1 a2 => by rw [up2_other _ _ _ (by omega), up2_other _ _ _ (by omega), up2_other _ _ _ (by omega)]) ⟨s.1 + 1, ?_⟩
  have g35 : ∀ j, j ≠ 3 → j ≠ 9 → j ≠ 5 → j ≠ 6 → (up2 (up2 (up2 (up2 x 35 3 (0 : Int32)) 35 9 (-1 : Int32)) 35 5 (0 : Int32)) 35 6 (nI (2 ^ kl (cdOf (x 2) n0 (x 5) n1) - 1))) 35 j = x 35 j := fun j a1 a2 a3 a4 => by
    rw [up2_row, if_neg (fun z => a4 z.2), up2_row, if_neg (fun z => a3 z.2), up2_row, if_neg (fun z => a2 z.2), up2_row, if_neg (fun z => a1 z.2)]
  have gk : ∀ k, k ≠ 35 → (up2 (up2 (up2 (up2 x 35 3 (0 : Int32)) 35 9 (-1 : Int32)) 35 5 (0 : Int32)) 35 6 (nI (2 ^ kl (cdOf (x 2) n0 (x 5) n1) - 1))) k = x k := fun k a1 => by
    rw [up2_other _ _ _ a1, up2_other _ _ _ a1, up2_other _ _ _ a1, up2_other _ _ _ a1]
  have g3 : (up2 (up2 (up2 (up2 x 35 3 (0 : Int32)) 35 9 (-1 : Int32)) 35 5 (0 : Int32)) 35 6 (nI (2 ^ kl (cdOf (x 2) n0 (x 5) n1) - 1))) 35 3 = 0 := by
    rw [up2_row, if_neg (by omega), up2_row, if_neg (by omega), up2_row, if_neg (by omega), up2_row, if_pos ⟨rfl, rfl⟩]
  have g9 : (up2 (up2 (up2 (up2 x 35 3 (0 : Int32)) 35 9 (-1 : Int32)) 35 5 (0 : Int32)) 35 6 (nI (2 ^ kl (cdOf (x 2) n0 (x 5) n1) - 1))) 35 9 = (-1 : Int32) := by
    rw [up2_row, if_neg (by omega), up2_row, if_neg (by omega), up2_row, if_pos ⟨rfl, rfl⟩]
  have g5 : (up2 (up2 (up2 (up2 x 35 3 (0 : Int32)) 35 9 (-1 : Int32)) 35 5 (0 : Int32)) 35 6 (nI (2 ^ kl (cdOf (x 2) n0 (x 5) n1) - 1))) 35 5 = nI 0 := by
    rw [up2_row, if_neg (by omega), up2_row, if_pos ⟨rfl, rfl⟩]; rfl
  have g6 : (up2 (up2 (up2 (up2 x 35 3 (0 : Int32)) 35 9 (-1 : Int32)) 35 5 (0 : Int32)) 35 6 (nI (2 ^ kl (cdOf (x 2) n0 (x 5) n1) - 1))) 35 6 = nI (2 ^ kl (cdOf (x 2) n0 (x 5) n1) - 1) := by
    rw [up2_row, if_pos ⟨rfl, rfl⟩]
  generalize up2 (up2 (up2 (up2 x 35 3 (0 : Int32)) 35 9 (-1 : Int32)) 35 5 (0 : Int32)) 35 6 (nI (2 ^ kl (cdOf (x 2) n0 (x 5) n1) - 1)) = G at g35 gk g3 g9 g5 g6 ⊢
  have hXG : XC (cdOf (x 2) n0 (x 5) n1) G := hX.f fun k a1 a2 => gk k (by omega)
  have hsG : SX s G := hs.f (g35 2 (by omega) (by omega) (by omega) (by omega)) (gk 36 (by omega)) (gk 37 (by omega))
  refine X_hind_loop (x := x) hXG hsG ⟨2 ^ kl (cdOf (x 2) n0 (x 5) n1) + 1, X_sift_loop hXG hsG (fun g f1 f2 f3 hca => ?_) _ 0 G (by omega) ⟨fun _ _ _ => rfl, rfl, g3, g9, g5, g6, fun i hi => absurd hi (Nat.not_lt_zero i)⟩⟩ s.1 0 (by omega)
  have fk : ∀ k, k ≠ 35 → k ≠ 38 → g k = x k := fun k a1 a2 => (f1 k a1 a2).trans (gk k a1)
  obtain ⟨r1, r2, ⟨r3, r4, r5⟩, r6, r7, r8⟩ := hR
  have e12 : g 0 12 = 0 := by rw [fk 0 (by omega) (by omega)]; exact h0
  refine hQ g ⟨?_, ?_, ⟨r3.f (fk 21 (by omega) (by omega)) (fk 22 (by omega) (by omega)) (fk 23 (by omega) (by omega)), r4.f (fk 24 (by omega) (by omega)) (fk 25 (by omega) (by omega)) (fk 26 (by omega) (by omega)), r5.f (fk 27 (by omega) (by omega)) (fk 28 (by omega) (by omega))⟩, hsG.f f2 (f1 36 (by omega) (by omega)) (f1 37 (by omega) (by omega)), ?_, fun _ => ⟨?_, fun _ => ?_⟩⟩ ⟨fk 2 (by omega) (by omega), fk 5 (by omega) (by omega), by rw [fk 0 (by omega) (by omega)], fun k hk => fk k (by omega) (by omega)⟩ e12 f3
  · rw [fk 1 (by omega) (by omega), fk 4 (by omega) (by omega)]; exact r1
  · rw [fk 1 (by omega) (by omega), fk 4 (by omega) (by omega)]; exact r2
  · rw [fk 39 (by omega) (by omega)]; exact r7
  · rw [fk 2 (by omega) (by omega), fk 5 (by omega) (by omega)]; exact hok.f fun k a1 a2 => fk k (by omega) (by omega)
  · rw [fk 2 (by omega) (by omega), fk 5 (by omega) (by omega)]; exact hca
/-! the reference's -/
theorem M_seenB_loop {c : CD} {s : LG} {y : Mem} {m : Nat} {Qp : Int32 → Prop} (hM : MC c y) (h8 : sok s) (hs : SY s y) (hm : m < 4096) (hQ : Qp (b2 (fit c s m))) : ∀ r k, k + r = s.1 → (∀ i, i < k → doesN c m (s.2.1 i) = s.2.2 i) → b_X10_isSeen_4 (r + 2) y (nI m) (1 : Int32) (nI k) Qp := by
  have h88 := h8.1
  intro r
  induction r with
  | zero =>
    intro k hk hi
    have : k = s.1 := by omega
    subst this
    rw [b_X10_isSeen_4]; dsimp only
    rw [hs.1]
    rw [fit_iff.mpr hi] at hQ
    exact ⟨fun _ => ⟨Or.inr rfl, hQ⟩, fun z => absurd (nI_le (Nat.le_refl _) (by omega)) z⟩
  | succ r ih =>
    intro k hk hi
    rw [b_X10_isSeen_4]; dsimp only
    unfold b_X10_isSeen_47
    obtain ⟨e1, e2⟩ := hs.2 k (by omega)
    obtain ⟨o1, o2⟩ := h8.2 k (by omega)
    have hdl := doesN_le c m (s.2.1 k)
    rw [hs.1, show (2 : Int32) = nI 2 from rfl, pk_mul, nI_1 (2 * k), nI_clamp (by omega), nI_clamp (by omega), e1, e2, nI_1]
    refine ⟨fun z => absurd z (nI_ge (by omega) (by omega)), fun _ => ⟨fun z => absurd z (by decide), fun _ => ⟨vp_in_nI (by omega) (by omega), M_doesBy hM hm o1 ⟨vp_in_nI (by omega) (by omega), ?_⟩⟩⟩⟩
    by_cases z : doesN c m (s.2.1 k) = s.2.2 k
    · rw [if_pos (by rw [z])]
      exact ih (k + 1) (by omega) fun i hi2 => by
        by_cases e : i = k
        · rw [e]; exact z
        · exact hi i (by omega)
    · rw [if_neg (fun w => z ((dI_inj (by omega) (by omega)).mp w))]
      rw [fit_no (k := k) (by omega) z] at hQ
      rw [b_X10_isSeen_4]; dsimp only
      exact ⟨fun _ => ⟨Or.inl rfl, hQ⟩, fun _ => ⟨fun _ => ⟨Or.inl rfl, hQ⟩, fun z => absurd rfl z⟩⟩
theorem M_isSeen {c : CD} {s : LG} {y : Mem} {m : Nat} {Qp : Int32 → Prop} (hM : MC c y) (h8 : sok s) (hs : SY s y) (hm : m < 4096) (hQ : Qp (b2 (fit c s m))) : p_X10_isSeen y (nI m) Qp := ⟨s.1 + 2, M_seenB_loop hM h8 hs hm hQ s.1 0 (by omega) (fun i hi => absurd hi (Nat.not_lt_zero i))⟩
theorem M_sets_loop {c : CD} {s : LG} {y : Mem} {v : Nat} {Qp : Int32 → Prop} (hM : MC c y) (h8 : sok s) (hs : SY s y) (hv : v < 3) (hQ : Qp (fSe c s v)) : ∀ r m, m + r = 2 ^ kl c → b_X10_setsOf_19 (r + 1) y (nI v) (nI (fN c s m)) (dI (lsN c s m)) (nI (cmF c s m)) (nI m) Qp := by
  have hc := hM.1
  have hk12 := hc.1
  have hp : 2 ^ kl c ≤ 4096 := Nat.pow_le_pow_right (n := 2) (by omega) hc.1
  have hp0 := Nat.two_pow_pos (kl c)
  intro r
  induction r with
  | zero =>
    intro m hm
    have : m = 2 ^ kl c := by omega
    subst this
    have hf := fN_le (c := c) (s := s) (m := 2 ^ kl c)
    rw [b_X10_setsOf_19]; dsimp only
    rw [show (0 : Int32).toNatClampNeg = 0 by decide, hM.2.1, shl1 (by omega)]
    refine ⟨vp_in_nI (n := 0) (by omega) (by omega), fun _ => ?_, fun z => absurd (nI_le (Nat.le_refl _) (by omega)) z⟩
    unfold fSe comN at hQ
    by_cases e0 : v = 0
    · rw [if_pos e0] at hQ; rw [if_pos ((nI_eq0 (by omega)).mpr e0)]; exact hQ
    · rw [if_neg e0] at hQ; rw [if_neg (fun w => e0 ((nI_eq0 (by omega)).mp w))]
      by_cases e1 : v = 1
      · rw [if_pos e1] at hQ; rw [if_pos (show nI v = (1 : Int32) by rw [e1]; rfl)]; exact hQ
      · rw [if_neg e1] at hQ; rw [if_neg (show ¬ nI v = (1 : Int32) from fun w => e1 ((nI_eq (b := 1) (by omega) (by omega)).mp w))]
        by_cases e2 : fN c s (2 ^ kl c) = 0
        · rw [if_pos e2] at hQ; rw [if_pos ((nI_eq0 (by omega)).mpr e2)]; exact hQ
        · rw [if_neg e2] at hQ; rw [if_neg (fun w => e2 ((nI_eq0 (by omega)).mp w))]; exact hQ
  | succ r ih =>
    intro m hm
    have hf := fN_le (c := c) (s := s) (m := m)
    have hcm := cmF_le (c := c) (s := s) m
    rw [b_X10_setsOf_19]; dsimp only
    unfold b_X10_setsOf_62
    rw [show (0 : Int32).toNatClampNeg = 0 by decide, hM.2.1, shl1 (by omega), nI_1, nI_1, nI_and (by omega) (by omega)]
    refine ⟨vp_in_nI (n := 0) (by omega) (by omega), fun z => absurd z (nI_ge (by omega) (by omega)), fun _ => M_isSeen hM h8 hs (by omega) ?_⟩
    have hi := ih (m + 1) (by omega)
    cases e : fit c s m with
    | true =>
      rw [fN_y e, lsN, cmF, if_pos e, e] at hi
      rw [if_neg (show ¬ b2 true = 0 by decide), if_neg (show ¬ b2 true = 0 by decide), if_neg (show ¬ b2 true = 0 by decide)]
      by_cases e2 : fN c s m = 0
      · rw [if_pos ⟨rfl, e2⟩, dI_s] at hi
        rw [if_pos ((nI_eq0 (by omega)).mpr e2)]; exact hi
      · rw [if_neg (fun z => e2 z.2)] at hi
        rw [if_neg (fun w => e2 ((nI_eq0 (by omega)).mp w))]; exact hi
    | false =>
      rw [fN_n e, lsN, cmF, e, if_neg (by simp), if_neg (by simp)] at hi
      rw [if_pos (show b2 false = 0 by decide), if_pos (show b2 false = 0 by decide), if_pos (show b2 false = 0 by decide)]
      exact hi
theorem M_setsOf {c : CD} {s : LG} {y : Mem} {v : Nat} {Qp : Int32 → Prop} (hM : MC c y) (h8 : sok s) (hs : SY s y) (hv : v < 3) (hQ : Qp (fSe c s v)) : p_X10_setsOf y (nI v) Qp := by
  have hk12 := hM.1.1
  unfold p_X10_setsOf
  rw [show (0 : Int32).toNatClampNeg = 0 by decide, hM.2.1]
  refine ⟨vp_in_nI (n := 0) (by omega) (by omega), fun x e => ⟨2 ^ kl c + 1, ?_⟩⟩
  rw [e, all_ _ (by omega)]
  exact M_sets_loop hM h8 hs hv hQ (2 ^ kl c) 0 (by omega)
section Sets
variable {n0 n1 : Nat} {b0 b1 : Nat → Int32} {t b s : LG} {x y : Mem} {v1 : Int32} {Qp : Int32 → Mem → Prop}
theorem X_sets (hR : RX n0 n1 t b s x) (hQ : ∀ g, RX n0 n1 t b s g → FX x g → Qp (a1F 3 (fSe (cdOf (x 2) n0 (x 5) n1) s) v1) g) : p_X9_sets x v1 Qp := by
  unfold p_X9_sets
  refine one (d_within 3 (by omega)) (fun e => ?_) (fun k hk e => ?_)
  · have := hQ x hR (FX.rf x)
    rw [a1F_n _ e] at this; exact this
  · subst e
    rw [a1F_y _ hk (by omega)] at hQ
    refine X_refresh hR fun g h1 h2 h3 h4 => X_sift h1 h4 fun g' h1' h2' h4' h5' => ?_
    have hQ := hQ g' h1' (h2.tr h2')
    have hc := (h1'.2.2.2.2.2 h4').2 h5'
    rw [show g' 2 = x 2 from (h2.tr h2').1, show g' 5 = x 5 from (h2.tr h2').2.1] at hc
    obtain ⟨c1, c2, c3, c4⟩ := hc
    have hok := h3.1.1.1
    have hp : 2 ^ kl (cdOf (x 2) n0 (x 5) n1) ≤ 4096 := Nat.pow_le_pow_right (n := 2) (by omega) hok.1
    have hf := fN_le (c := cdOf (x 2) n0 (x 5) n1) (s := s) (m := 2 ^ kl (cdOf (x 2) n0 (x 5) n1))
    unfold fSe at hQ
    obtain rfl | rfl | rfl : k = 0 ∨ k = 1 ∨ k = 2 := by omega
    · refine ⟨fun _ => ?_, fun z => absurd rfl z⟩
      rw [c1]; exact hQ
    · refine ⟨fun z => absurd z (by decide), fun _ => ⟨fun _ => ?_, fun z => absurd rfl z⟩⟩
      unfold p_X2_leastFitting
      rw [c1, nI_eq0 (by omega), show (0 : Int32).toNatClampNeg = 0 by decide]
      refine ⟨fun z => ?_, fun z => ⟨vp_in_nI (n := 0) (by omega) (by omega), ?_⟩⟩
      · rw [if_neg (by omega), if_pos rfl, lsN_0 _ z] at hQ; exact hQ
      · obtain ⟨q, q1, q2, q3, q4⟩ := c3 0 (by omega)
        have := lsN_at q3 q4 (2 ^ kl (cdOf (x 2) n0 (x 5) n1) - (q + 1))
        rw [show q + 1 + (2 ^ kl (cdOf (x 2) n0 (x 5) n1) - (q + 1)) = 2 ^ kl (cdOf (x 2) n0 (x 5) n1) by omega] at this
        rw [if_neg (by omega), if_pos rfl, this, dI_s] at hQ
        rw [q1]; exact hQ
    · refine ⟨fun z => absurd z (by decide), fun _ => ⟨fun z => absurd z (by decide), fun _ => ?_⟩⟩
      rw [c2]; exact hQ
theorem M_sets (h8 : sok s) (hR : RY b0 n0 b1 n1 t b s y) (hQ : ∀ y', FrQ y y' → Qp (a1F 3 (fSe (cdOf b0 n0 b1 n1) s) v1) y') : p_X10_sets y v1 Qp := by
  refine Y_reads hR fun y' f hM => ?_
  have hQ := hQ y' f
  refine one (d_in (hi := 2) 3 (by omega) (by decide)) (fun e => ?_) (fun k hk e => ?_)
  · rw [a1F_n _ e] at hQ; exact hQ
  · subst e
    rw [a1F_y _ hk (by omega)] at hQ
    exact M_setsOf hM h8 (hR.q f).2.2.2.2 hk hQ
theorem st_sets : s_sets Rel := by
  intro x xl y h v1
  obtain ⟨n0, n1, t, b, s, hX, hY⟩ := h.1
  exact X_sets hX fun g h1 h2 => M_sets hX.2.2.2.1.1 hY fun y' f => ⟨rfl, h.q hY h1 h2 f⟩
end Sets
