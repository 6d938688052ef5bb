/-! PURE: KingsYear lays laws and wants out -/
theorem X_chain_loop {c : CD} {x : Mem} {Qp : Int32 → Prop} (hc : CDok c) (x7 : x 7 0 = nI (kl c)) (x12 : ∀ l, l < kl c → x 12 l = dI (dl c l 4)) : ∀ k a ch : Nat, k ≤ 12 → a < kl c → ch < 4096 → Qp (nI (chainF c k a ch)) → b_X0_chainOf_7 (k + 1) x (nI ch) (nI a) (nI (12 - k)) Qp := by
  have hk12 := hc.1
  intro k
  induction k with
  | zero =>
    intro a ch _ ha hch hQ
    rw [b_X0_chainOf_7]; dsimp only
    exact ⟨fun _ => hQ, fun h => absurd (nI_le (a := 12) (b := 12 - 0) (by omega) (by omega)) h⟩
  | succ k ih =>
    intro a ch hk ha hch hQ
    rw [b_X0_chainOf_7]; dsimp only
    have hp : 2 ^ a < 2 ^ 12 := Nat.pow_lt_pow_right (by omega) (by omega)
    have hor : ch ||| 2 ^ a < 2 ^ 12 := Nat.or_lt_two_pow hch hp
    have h4 := (hc.2.2.1 a ha).2.2.2.2
    rw [nI_clamp (by omega), x12 a ha, x7, shl1 (by omega), nI_or (by omega) (by omega), dI_m1 (by omega)]
    rw [chainF] at hQ
    have hin : vp_in (nI a) 12 := vp_in_nI (by omega) (by omega)
    refine ⟨fun h => absurd h (nI_ge (a := 12 - (k + 1)) (b := 12) (by omega) (by omega)), fun _ x2 e2 => ?_⟩
    subst e2
    refine ⟨hin, fun e => ?_, fun e => ⟨hin, ?_⟩⟩
    · rw [if_pos e] at hQ; exact hQ
    · rw [if_neg e] at hQ
      obtain ⟨d, hd⟩ : ∃ d, dl c a 4 = d + 1 := ⟨dl c a 4 - 1, by omega⟩
      rw [hd, dI_s, nI_ltI (by omega) (by omega)]
      rw [hd, show d + 1 - 1 = d by omega] at hQ
      refine ⟨fun e2 => ?_, fun e2 => ?_⟩
      · rw [if_neg (by omega)] at hQ
        rw [nI_1, show 12 - (k + 1) + 1 = 12 - k by omega]
        exact ih d _ (by omega) e2 (by omega) hQ
      · rw [if_pos (by omega)] at hQ; exact hQ
theorem X_chainOf {c : CD} {x : Mem} {a : Nat} {Qp : Int32 → Prop} (hc : CDok c) (x7 : x 7 0 = nI (kl c)) (x12 : ∀ l, l < kl c → x 12 l = dI (dl c l 4)) (ha : a < kl c) (hQ : Qp (nI (needs c a))) : p_X0_chainOf x (nI a) Qp := ⟨13, X_chain_loop hc x7 x12 12 a 0 (by omega) ha (by omega) hQ⟩
theorem X_riv_loop {c : CD} {x : Mem} {a : Nat} {Qp : Int32 → Prop} (hc : CDok c) (x7 : x 7 0 = nI (kl c)) (xl : ∀ l, l < kl c → x 8 l = nI (dl c l 0) ∧ x 9 l = nI (dl c l 1) ∧ x 13 l = nI (hrs c l)) (ha : a < kl c) (hQ : Qp (nI (rvm c a))) : ∀ r k : Nat, k + r = kl c → b_X0_rivalsOf_4 (r + 1) x (nI a) (nI (mk k (fun b => riv c a b))) (nI k) Qp := by
  have hk12 := hc.1
  intro r
  induction r with
  | zero =>
    intro k hk
    have : k = kl c := by omega
    subst this
    rw [b_X0_rivalsOf_4]; dsimp only; rw [x7]
    exact ⟨fun _ => hQ, fun h => absurd (nI_le (Nat.le_refl _) (by omega)) h⟩
  | succ r ih =>
    intro k hk
    rw [b_X0_rivalsOf_4]; dsimp only; rw [x7]
    have hi1 : vp_in (nI a) 12 := vp_in_nI (by omega) (by omega)
    have hi2 : vp_in (nI k) 12 := vp_in_nI (by omega) (by omega)
    refine ⟨fun h => absurd h (nI_ge (by omega) (by omega)), fun _ => ⟨hi1, hi2, ?_⟩⟩
    unfold b_X0_rivalsOf_33 b_X0_rivalsOf_55 b_X0_rivalsOf_105
    refine ⟨hi1, hi2, hi1, hi2, fun x10 e10 => ?_⟩
    obtain ⟨a8, a9, a13⟩ := xl a ha
    obtain ⟨b8, b9, b13⟩ := xl k (by omega)
    obtain ⟨oa0, oa1, -⟩ := hc.2.2.1 a ha
    obtain ⟨ob0, ob1, -⟩ := hc.2.2.1 k (by omega)
    rw [nI_clamp (by omega), nI_clamp (by omega), a8, b8, nI_add] at e10
    subst e10
    rw [nI_clamp (by omega), nI_clamp (by omega), a9, b9, a13, b13]
    have hm : mk k (fun b => riv c a b) < 4096 := mk_le12 (by omega) _
    have hp : 2 ^ k < 4096 := by have := Nat.pow_lt_pow_right (a := 2) (by omega) (show k < 12 by omega); omega
    have h24a : hrs c a < 2 ^ 24 := mk_lt _ _
    have h24b : hrs c k < 2 ^ 24 := mk_lt _ _
    rw [shl1 (by omega), nI_or (by omega) (by omega), nI_and (by omega) (by omega), nI_1]
    have hih := ih (k + 1) (by omega)
    rw [mk] at hih
    have hand : hrs c a &&& hrs c k < 2 ^ 24 := Nat.and_lt_two_pow _ h24b
    have c1 : (nI (hrs c a &&& hrs c k) = (0 : Int32)) ↔ hrs c a &&& hrs c k = 0 := nI_eq0 (by omega)
    have c2 : (nI (dl c a 1) = nI (dl c k 1)) ↔ dl c a 1 = dl c k 1 := nI_eq (by omega) (by omega)
    have c3 : (nI (dl c a 0 + dl c k 0) = (2 : Int32)) ↔ dl c a 0 + dl c k 0 = 2 := nI_eq (a := dl c a 0 + dl c k 0) (b := 2) (by omega) (by omega)
    have c4 : (nI (dl c a 0 + dl c k 0) = (1 : Int32)) ↔ dl c a 0 + dl c k 0 = 1 := nI_eq (a := dl c a 0 + dl c k 0) (b := 1) (by omega) (by omega)
    by_cases e1 : hrs c a &&& hrs c k = 0
    · have hr : riv c a k = false := by unfold riv; simp [e1]
      rw [hr] at hih
      simp only [if_pos (c1.mpr e1), if_pos, Bool.false_eq_true, if_false, Nat.or_zero] at hih ⊢
      exact hih
    · have n1 : ¬ (nI (hrs c a &&& hrs c k) = (0 : Int32)) := fun z => e1 (c1.mp z)
      simp only [if_neg n1, show ¬ ((1 : Int32) = 0) by decide, if_false]
      by_cases e3 : dl c a 0 + dl c k 0 = 2
      · simp only [if_pos (c3.mpr e3)]
        by_cases e2 : dl c a 1 = dl c k 1
        · have hr : riv c a k = false := by unfold riv; simp [e2, e3]
          have n4 : ¬ (nI (dl c a 0 + dl c k 0) = (1 : Int32)) := fun z => absurd (c4.mp z) (by omega)
          rw [hr] at hih
          simp only [if_pos (c2.mpr e2), show ¬ ((1 : Int32) = 0) by decide, if_false, if_neg n4, Bool.false_eq_true, Nat.or_zero] at hih ⊢
          exact hih
        · have hr : riv c a k = true := by unfold riv; simp [e1, e2, e3]
          have n2 : ¬ (nI (dl c a 1) = nI (dl c k 1)) := fun z => e2 (c2.mp z)
          rw [hr] at hih
          simp only [if_neg n2, if_true] at hih ⊢
          exact hih
      · have n3 : ¬ (nI (dl c a 0 + dl c k 0) = (2 : Int32)) := fun z => e3 (c3.mp z)
        simp only [if_neg n3]
        by_cases e4 : dl c a 0 + dl c k 0 = 1
        · simp only [if_pos (c4.mpr e4)]
          by_cases e2 : dl c a 1 = dl c k 1
          · have hr : riv c a k = true := by unfold riv; simp [e1, e2, e4]
            rw [hr] at hih
            simp only [if_pos (c2.mpr e2), show ¬ ((1 : Int32) = 0) by decide, if_false, if_true] at hih ⊢
            exact hih
          · have hr : riv c a k = false := by unfold riv; simp [e2, e3]
            have n2 : ¬ (nI (dl c a 1) = nI (dl c k 1)) := fun z => e2 (c2.mp z)
            rw [hr] at hih
            simp only [if_neg n2, if_true, Bool.false_eq_true, if_false, Nat.or_zero] at hih ⊢
            exact hih
        · have n4 : ¬ (nI (dl c a 0 + dl c k 0) = (1 : Int32)) := fun z => e4 (c4.mp z)
          have hr : riv c a k = false := by unfold riv; simp [e3, e4]
          rw [hr] at hih
          simp only [if_neg n4, Bool.false_eq_true, if_false, Nat.or_zero] at hih ⊢
          exact hih
theorem X_rivalsOf {c : CD} {x : Mem} {a : Nat} {Qp : Int32 → Prop} (hc : CDok c) (x7 : x 7 0 = nI (kl c)) (xl : ∀ l, l < kl c → x 8 l = nI (dl c l 0) ∧ x 9 l = nI (dl c l 1) ∧ x 13 l = nI (hrs c l)) (ha : a < kl c) (hQ : Qp (nI (rvm c a))) : p_X0_rivalsOf x (nI a) Qp := ⟨kl c + 1, X_riv_loop hc x7 xl ha hQ (kl c) 0 (by omega)⟩
/-- what stands in the parts -/
def PF (c : CD) (h : Mem) : Prop := CDok c ∧ h 1 7 = nI (kl c) ∧ h 4 7 = nI (kw c) ∧ (∀ l, l < kl c → h 3 (l * 5) = nI (1 - dl c l 0) ∧ h 3 (l * 5 + 1) = nI (dl c l 1) ∧ h 3 (l * 5 + 2) = nI (dl c l 2) ∧ h 3 (l * 5 + 3) = nI (dl c l 3) ∧ h 3 (l * 5 + 4) = dI (dl c l 4)) ∧ (∀ w, w < kw c → h 6 (w * 3) = nI (dw c w 0) ∧ h 6 (w * 3 + 1) = nI (dw c w 1) ∧ h 6 (w * 3 + 2) = dI (dw c w 2))
def FrL (h h' : Mem) : Prop := ∀ k, (k < 7 ∨ 20 < k) → h' k = h k
theorem PF.fr {c : CD} {h h' : Mem} (hp : PF c h) (hf : FrL h h') : PF c h' := by
  unfold PF
  rw [hf 1 (by omega), hf 4 (by omega), hf 3 (by omega), hf 6 (by omega)]
  exact hp
theorem FrL.up {h h' : Mem} (hf : FrL h h') {k j : Nat} {v : Int32} (hk : 7 ≤ k ∧ k ≤ 20) : FrL h (up2 h' k j v) := fun c hc => by rw [up2_other _ _ _ (by omega)]; exact hf c hc
theorem FrL.upR {h h' : Mem} (hf : FrL h h') {k : Nat} {f : Nat → Int32} (hk : 7 ≤ k ∧ k ≤ 20) : FrL h (upR h' k f) := fun c hc => by rw [upR_other _ _ (by omega)]; exact hf c hc
theorem part1 {h : Mem} {l p : Nat} {Qp : Int32 → Prop} (hl : l < 12) (hp : p < 5) (hQ : Qp (h 3 (l * 5 + p))) : p_X7_part h 1 (nI l) (nI p) Qp := by
  unfold p_X7_part
  rw [show Int32.ofNat (lenL 1) = nI 5 from rfl, pk_mul, nI_add, nI_clamp (by omega)]
  exact ⟨vp_in_nI (show l * 5 + p < 60 by omega) (by decide), hQ⟩
theorem part4 {h : Mem} {w p : Nat} {Qp : Int32 → Prop} (hw : w < 12) (hp : p < 3) (hQ : Qp (h 6 (w * 3 + p))) : p_X7_part h 4 (nI w) (nI p) Qp := by
  unfold p_X7_part
  rw [show Int32.ofNat (lenL 4) = nI 3 from rfl, pk_mul, nI_add, nI_clamp (by omega)]
  exact ⟨vp_in_nI (show w * 3 + p < 36 by omega) (by decide), hQ⟩
/-- last loop: needs and rivals -/
def I4 (c : CD) (h : Mem) (k : Nat) (g : Mem) : Prop := FrL h g ∧ XC0 c g ∧ (∀ l, l < kl c → g 13 l = nI (hrs c l)) ∧ (∀ l, l < k → g 14 l = nI (needs c l) ∧ g 15 l = nI (rvm c l)) ∧ (∀ h, h < 24 → g 19 h = nI (cvm c h) ∧ g 20 h = b2 (wtd c h))
theorem lay4 {c : CD} {h : Mem} {Qp : Mem → Prop} (hQ : ∀ g, XC c g → FrL h g → Qp g) : ∀ r k : Nat, ∀ g, k + r = kl c → I4 c h k g → b_X0_layOut_206 (r + 1) g (nI k) Qp := by
  intro r
  induction r with
  | zero =>
    intro k g hk hI
    have hk12 := hI.2.1.1.1
    have : k = kl c := by omega
    subst this
    rw [b_X0_layOut_206]; dsimp only; rw [hI.2.1.2.1]
    exact ⟨fun _ => hQ g ⟨hI.2.1, hI.2.2.2.1, hI.2.2.2.2⟩ hI.1, fun h => absurd (nI_le (Nat.le_refl _) (by omega)) h⟩
  | succ r ih =>
    intro k g hk hI
    obtain ⟨i1, i2, i3, i4, i5⟩ := hI
    have hk12 := i2.1.1
    rw [b_X0_layOut_206]; dsimp only; rw [i2.2.1, nI_clamp (by omega)]
    refine ⟨fun h => absurd h (nI_ge (by omega) (by omega)), fun _ => X_chainOf i2.1 i2.2.1 (fun l hl => (i2.2.2.1 l hl).2.2.2.2) (by omega) ⟨vp_in_nI (by omega) (by omega), ?_⟩⟩
    have r1 : ∀ a i, up2 g 14 k (nI (needs c k)) a i = if a = 14 ∧ i = k then nI (needs c k) else g a i := fun a i => up2_row _ _ _ _ _ _
    refine X_rivalsOf i2.1 (by rw [r1, if_neg (by omega)]; exact i2.2.1) (fun l hl => ?_) (by omega) ⟨vp_in_nI (by omega) (by omega), ?_⟩
    · rw [r1, if_neg (by omega), r1, if_neg (by omega), r1, if_neg (by omega)]
      exact ⟨(i2.2.2.1 l hl).1, (i2.2.2.1 l hl).2.1, i3 l hl⟩
    rw [nI_1]
    have r2 : ∀ a i, up2 (up2 g 14 k (nI (needs c k))) 15 k (nI (rvm c k)) a i = if a = 15 ∧ i = k then nI (rvm c k) else if a = 14 ∧ i = k then nI (needs c k) else g a i := fun a i => by rw [up2_row, r1]
    have r3 : ∀ a, a ≠ 14 → a ≠ 15 → up2 (up2 g 14 k (nI (needs c k))) 15 k (nI (rvm c k)) a = g a := fun a h1 h2 => by rw [up2_other _ _ _ h2, up2_other _ _ _ h1]
    refine ih (k + 1) _ (by omega) ⟨(i1.up (by omega)).up (by omega), ?_, ?_, ?_, ?_⟩
    · unfold XC0
      rw [r3 7 (by omega) (by omega), r3 8 (by omega) (by omega), r3 9 (by omega) (by omega), r3 10 (by omega) (by omega), r3 11 (by omega) (by omega), r3 12 (by omega) (by omega), r3 16 (by omega) (by omega), r3 17 (by omega) (by omega), r3 18 (by omega) (by omega)]
      exact i2
    · rw [r3 13 (by omega) (by omega)]; exact i3
    · intro l hl
      rw [r2, r2]
      by_cases e : l = k
      · subst e; simp
      · simp [e]; exact i4 l (by omega)
    · rw [r3 19 (by omega) (by omega), r3 20 (by omega) (by omega)]; exact i5
/-- the laws' loop -/
def I3 (c : CD) (h : Mem) (k : Nat) (g : Mem) : Prop := FrL h g ∧ g 7 0 = nI (kl c) ∧ (∀ l, l < k → g 8 l = nI (dl c l 0) ∧ g 9 l = nI (dl c l 1) ∧ g 10 l = nI (dl c l 2) ∧ g 11 l = nI (dl c l 3) ∧ g 12 l = dI (dl c l 4)) ∧ (∀ l, l < k → g 13 l = nI (hrs c l)) ∧
  (∀ h, h < 24 → ∀ d, d < 6 → g 16 (6 * h + d) = nI (mk k (fun l => decide (dl c l 0 = 1) && decide (dl c l 1 = d) && cov c l h)) ∧ g 17 (6 * h + d) = nI (mk k (fun l => decide (dl c l 0 = 0) && decide (dl c l 1 = d) && cov c l h)) ∧ g 18 (6 * h + d) = nI (lk c h d)) ∧ (∀ h, h < 24 → g 19 h = nI (mk k (fun l => cov c l h)) ∧ g 20 h = b2 (wtd c h))
theorem lay3 {c : CD} {h : Mem} {Qp : Mem → Prop} (hp : PF c h) (hQ : ∀ g, XC c g → FrL h g → Qp g) : ∀ r k : Nat, ∀ g, k + r = kl c → I3 c h k g → b_X0_layOut_123 (r + 1) g (nI k) Qp := by
  have hc := hp.1
  have hk12 := hc.1
  intro r
  induction r with
  | zero =>
    intro k g hk hI
    obtain ⟨i1, i2, i3, i4, i5, i6⟩ := hI
    have : k = kl c := by omega
    subst this
    rw [b_X0_layOut_123]; dsimp only; rw [i2]
    refine ⟨fun _ => ⟨kl c + 1, lay4 hQ (kl c) 0 g (by omega) ⟨i1, ⟨hc, i2, i3, i5⟩, i4, fun l hl => absurd hl (by omega), i6⟩⟩, fun h => absurd (nI_le (Nat.le_refl _) (by omega)) h⟩
  | succ r ih =>
    intro k g hk hI
    obtain ⟨i1, i2, i3, i4, i5, i6⟩ := hI
    have hpg := hp.fr i1
    obtain ⟨p0, p1, p2, p3, p4⟩ := hpg.2.2.2.1 k (by omega)
    obtain ⟨o0, o1, o2, o3, o4⟩ := hc.2.2.1 k (by omega)
    rw [b_X0_layOut_123]; dsimp only; rw [i2, nI_clamp (by omega)]
    have hin : vp_in (nI k) 12 := vp_in_nI (by omega) (by omega)
    refine ⟨fun h => absurd h (nI_ge (by omega) (by omega)), fun _ => part1 (p := 0) (by omega) (by omega) ⟨hin, ?_⟩⟩
    rw [show k * 5 + 0 = k * 5 by omega, p0]
    have hv0 : (1 : Int32) - nI (1 - dl c k 0) = nI (dl c k 0) := by rw [show (1 : Int32) = nI 1 from rfl, pk_sub (by omega)]; congr 1; omega
    rw [hv0]
    refine part1 (p := 1) (by omega) (by omega) ⟨hin, ?_⟩
    rw [up2_other _ _ _ (show (3 : Nat) ≠ 8 by omega), p1]
    refine part1 (p := 2) (by omega) (by omega) ⟨hin, ?_⟩
    rw [up2_other _ _ _ (show (3 : Nat) ≠ 9 by omega), up2_other _ _ _ (show (3 : Nat) ≠ 8 by omega), p2]
    refine part1 (p := 3) (by omega) (by omega) ⟨hin, fun h27 e27 => ?_⟩
    rw [up2_other _ _ _ (show (3 : Nat) ≠ 10 by omega), up2_other _ _ _ (show (3 : Nat) ≠ 9 by omega), up2_other _ _ _ (show (3 : Nat) ≠ 8 by omega), p3] at e27
    refine part1 (p := 4) (by omega) (by omega) ⟨hin, ?_⟩
    have e3 : h27 3 = g 3 := by rw [e27, up2_other _ _ _ (by omega), up2_other _ _ _ (by omega), up2_other _ _ _ (by omega), up2_other _ _ _ (by omega)]
    rw [e3, p4]
    obtain ⟨g2, eg2⟩ : ∃ g2, g2 = up2 h27 12 k (dI (dl c k 4)) := ⟨_, rfl⟩
    rw [← eg2]
    have rr : ∀ a i, g2 a i = if a = 12 ∧ i = k then dI (dl c k 4) else if a = 11 ∧ i = k then nI (dl c k 3) else if a = 10 ∧ i = k then nI (dl c k 2) else if a = 9 ∧ i = k then nI (dl c k 1) else if a = 8 ∧ i = k then nI (dl c k 0) else g a i := by
      intro a i
      rw [eg2, up2_row, e27, up2_row, up2_row, up2_row, up2_row]
    have ro : ∀ a, (a < 8 ∨ 12 < a) → g2 a = g a := by
      intro a ha
      funext i
      rw [rr, if_neg (by omega), if_neg (by omega), if_neg (by omega), if_neg (by omega), if_neg (by omega)]
    have fr2 : FrL h g2 := by
      rw [eg2, e27]
      exact ((((i1.up (by omega)).up (by omega)).up (by omega)).up (by omega)).up (by omega)
    have hmA : ∀ q : Nat → Bool, mk k q < 4096 := fun q => mk_le12 (by omega) q
    refine X_layLaw (c := c) (A := fun h => mk k (fun l => cov c l h)) (B := fun h d => if dl c k 0 = 1 then mk k (fun l => decide (dl c l 0 = 1) && decide (dl c l 1 = d) && cov c l h) else mk k (fun l => decide (dl c l 0 = 0) && decide (dl c l 1 = d) && cov c l h)) hc (by omega) (by rw [rr]; simp) (by rw [rr]; simp) (by rw [rr]; simp) (by rw [rr]; simp) (fun h => hmA _) (fun h d => by split <;> exact hmA _) (fun h hh => by rw [ro 19 (by omega)]; exact (i6 h hh).1) (fun h hh d hd => ?_) (fun g' q1 q2 q3 q4 q5 => ?_)
    · by_cases e : dl c k 0 = 1
      · simp only [if_pos e]
        rw [ro 16 (by omega)]; exact (i5 h hh d hd).1
      · simp only [if_neg e]
        rw [ro 17 (by omega)]; exact (i5 h hh d hd).2.1
    · rw [nI_1]
      have hkk : (if dl c k 0 = 1 then 16 else 17) = 16 ∨ (if dl c k 0 = 1 then 16 else 17) = 17 := by split <;> simp
      have q1' : ∀ a, a ≠ 13 → a ≠ 19 → a ≠ 16 → a ≠ 17 → g' a = g2 a := fun a h1 h2 h3 h4 => q1 a h1 h2 (by omega)
      have frg : FrL h g' := fun a ha => by rw [q1' a (by omega) (by omega) (by omega) (by omega)]; exact fr2 a ha
      refine ih (k + 1) g' (by omega) ⟨frg, ?_, fun l hl => ?_, fun l hl => ?_, fun h hh d hd => ?_, fun h hh => ?_⟩
      · rw [q1' 7 (by omega) (by omega) (by omega) (by omega), ro 7 (by omega)]; exact i2
      · rw [q1' 8 (by omega) (by omega) (by omega) (by omega), q1' 9 (by omega) (by omega) (by omega) (by omega), q1' 10 (by omega) (by omega) (by omega) (by omega), q1' 11 (by omega) (by omega) (by omega) (by omega), q1' 12 (by omega) (by omega) (by omega) (by omega), rr, rr, rr, rr, rr]
        by_cases e : l = k
        · subst e; simp
        · simp [e]; exact i3 l (by omega)
      · by_cases e : l = k
        · subst e; exact q2
        · rw [q3 l e, ro 13 (by omega)]; exact i4 l (by omega)
      · obtain ⟨j1, j2, j3⟩ := i5 h hh d hd
        refine ⟨?_, ?_, ?_⟩
        · rw [mk]
          by_cases e : dl c k 0 = 1
          · have := q5 h hh d hd
            simp only [if_pos e] at this
            rw [this]
            congr 2
            by_cases e2 : cov c k h = true ∧ d = dl c k 1
            · simp [e, e2.1, e2.2]
            · rw [if_neg e2]
              by_cases e3 : d = dl c k 1
              · have e4 : ¬ cov c k h = true := fun z => e2 ⟨z, e3⟩
                simp [e4]
              · simp [show ¬ dl c k 1 = d from fun z => e3 z.symm]
          · rw [q1 16 (by omega) (by omega) (by simp [e]), ro 16 (by omega), j1]
            simp [e]
        · rw [mk]
          by_cases e : dl c k 0 = 1
          · rw [q1 17 (by omega) (by omega) (by simp [e]), ro 17 (by omega), j2]
            simp [e]
          · have e0 : dl c k 0 = 0 := by omega
            have := q5 h hh d hd
            simp only [if_neg e] at this
            rw [this]
            congr 2
            by_cases e2 : cov c k h = true ∧ d = dl c k 1
            · simp [e0, e2.1, e2.2]
            · rw [if_neg e2]
              by_cases e3 : d = dl c k 1
              · have e4 : ¬ cov c k h = true := fun z => e2 ⟨z, e3⟩
                simp [e4]
              · simp [show ¬ dl c k 1 = d from fun z => e3 z.symm]
        · rw [q1' 18 (by omega) (by omega) (by omega) (by omega), ro 18 (by omega)]; exact j3
      · refine ⟨?_, ?_⟩
        · rw [q4 h hh, mk]
        · rw [q1' 20 (by omega) (by omega) (by omega) (by omega), ro 20 (by omega)]; exact (i6 h hh).2
/-- the wants' loop -/
def I2 (c : CD) (h : Mem) (k : Nat) (g : Mem) : Prop := FrL h g ∧ g 7 0 = nI (kl c) ∧ (∀ h, h < 24 → ∀ d, d < 6 → g 16 (6 * h + d) = 0 ∧ g 17 (6 * h + d) = 0 ∧ g 18 (6 * h + d) = nI (sumTo k (fun w => if dw c w 0 = d ∧ dw c w 1 = h then dw c w 2 else 0))) ∧ (∀ h, h < 24 → g 19 h = 0 ∧ g 20 h = b2 ((List.range k).any (fun w => decide (dw c w 1 = h))))
theorem mk0 (q : Nat → Bool) : mk 0 q = 0 := rfl
theorem lay2 {c : CD} {h : Mem} {Qp : Mem → Prop} (hp : PF c h) (hQ : ∀ g, XC c g → FrL h g → Qp g) : ∀ r k : Nat, ∀ g, k + r = kw c → I2 c h k g → b_X0_layOut_63 (r + 1) g (nI k) Qp := by
  have hc := hp.1
  have hk12 := hc.2.1
  intro r
  induction r with
  | zero =>
    intro k g hk hI
    obtain ⟨i1, i2, i3, i4⟩ := hI
    have : k = kw c := by omega
    subst this
    rw [b_X0_layOut_63]; dsimp only; rw [(hp.fr i1).2.2.1]
    refine ⟨fun _ => ⟨kl c + 1, lay3 hp hQ (kl c) 0 g (by omega) ⟨i1, i2, fun l hl => absurd hl (by omega), fun l hl => absurd hl (by omega), fun h hh d hd => ?_, fun h hh => ?_⟩⟩, fun h => absurd (nI_le (Nat.le_refl _) (by omega)) h⟩
    · obtain ⟨j1, j2, j3⟩ := i3 h hh d hd
      rw [j1, j2, j3, mk0, mk0]; exact ⟨rfl, rfl, rfl⟩
    · rw [(i4 h hh).1, (i4 h hh).2, mk0]; exact ⟨rfl, rfl⟩
  | succ r ih =>
    intro k g hk hI
    obtain ⟨i1, i2, i3, i4⟩ := hI
    obtain ⟨w0, w1, w2⟩ := (hp.fr i1).2.2.2.2 k (by omega)
    obtain ⟨o0, o1, o2, o3⟩ := hc.2.2.2 k (by omega)
    rw [b_X0_layOut_63]; dsimp only; rw [(hp.fr i1).2.2.1]
    refine ⟨fun h => absurd h (nI_ge (by omega) (by omega)), fun _ => part4 (p := 1) (by omega) (by omega) (part4 (p := 0) (by omega) (by omega) ?_)⟩
    rw [show k * 3 + 0 = k * 3 by omega, w0, w1, show (6 : Int32) = nI 6 from rfl, pk_mul, nI_add, nI_clamp (show dw c k 1 * 6 + dw c k 0 < 2 ^ 31 by omega), nI_clamp (show dw c k 1 < 2 ^ 31 by omega)]
    have hin : vp_in (nI (dw c k 1 * 6 + dw c k 0)) 144 := vp_in_nI (by omega) (by omega)
    refine ⟨hin, part4 (p := 2) (by omega) (by omega) ⟨hin, fun h12 e12 => ⟨vp_in_nI (by omega) (by omega), ?_⟩⟩⟩
    have hsum : sumTo k (fun w => if dw c w 0 = dw c k 0 ∧ dw c w 1 = dw c k 1 then dw c w 2 else 0) ≤ 12 * 9 := by
      have := sumTo_le (n := k) (b := 9) (f := fun w => if dw c w 0 = dw c k 0 ∧ dw c w 1 = dw c k 1 then dw c w 2 else 0) (fun i hi => by
        have := (hc.2.2.2 i (by omega)).2.2.2
        show (if _ then _ else _) ≤ 9
        split <;> omega)
      have h2 : k * 9 ≤ 12 * 9 := Nat.mul_le_mul_right _ (by omega)
      omega
    have hval : g 18 (dw c k 1 * 6 + dw c k 0) + (g 6 (k * 3 + 2) + (1 : Int32)) = nI (sumTo k (fun w => if dw c w 0 = dw c k 0 ∧ dw c w 1 = dw c k 1 then dw c w 2 else 0) + dw c k 2) := by
      obtain ⟨m, hm⟩ : ∃ m, dw c k 2 = m + 1 := ⟨dw c k 2 - 1, by omega⟩
      rw [w2, show dw c k 1 * 6 + dw c k 0 = 6 * dw c k 1 + dw c k 0 by omega, (i3 (dw c k 1) (by omega) (dw c k 0) (by omega)).2.2, hm, dI_s, nI_1, nI_add]
    rw [hval] at e12
    rw [nI_1]
    have rr : ∀ a i, up2 h12 20 (dw c k 1) (1 : Int32) a i = if a = 20 ∧ i = dw c k 1 then 1 else if a = 18 ∧ i = dw c k 1 * 6 + dw c k 0 then nI (sumTo k (fun w => if dw c w 0 = dw c k 0 ∧ dw c w 1 = dw c k 1 then dw c w 2 else 0) + dw c k 2) else g a i := by
      intro a i
      rw [up2_row, e12, up2_row]
    refine ih (k + 1) _ (by omega) ⟨?_, ?_, fun h hh d hd => ?_, fun h hh => ?_⟩
    · rw [e12]; exact (i1.up (by omega)).up (by omega)
    · rw [rr, if_neg (by omega), if_neg (by omega)]; exact i2
    · obtain ⟨j1, j2, j3⟩ := i3 h hh d hd
      refine ⟨by rw [rr, if_neg (by omega), if_neg (by omega)]; exact j1, by rw [rr, if_neg (by omega), if_neg (by omega)]; exact j2, ?_⟩
      rw [rr, if_neg (by omega), sumTo]
      by_cases e : h = dw c k 1 ∧ d = dw c k 0
      · obtain ⟨e1, e2⟩ := e
        subst e1; subst e2
        rw [if_pos ⟨rfl, by omega⟩]
        simp
      · rw [if_neg (by omega), j3]
        congr 1
        rw [if_neg (fun z => e ⟨z.2.symm, z.1.symm⟩)]
        omega
    · refine ⟨by rw [rr, if_neg (by omega), if_neg (by omega)]; exact (i4 h hh).1, ?_⟩
      rw [rr, List.range_succ, List.any_append]
      by_cases e : h = dw c k 1
      · subst e
        rw [if_pos ⟨rfl, rfl⟩]
        simp [b2]
      · rw [if_neg (fun z => e z.2), if_neg (by omega), (i4 h hh).2]
        simp [show ¬ dw c k 1 = h from fun z => e z.symm]
/-- the hours' loop -/
def I1 (c : CD) (h : Mem) (k : Nat) (g : Mem) : Prop := FrL h g ∧ g 7 0 = nI (kl c) ∧ (∀ i, i < 144 → g 16 i = 0 ∧ g 17 i = 0 ∧ g 18 i = 0) ∧ (∀ i, i < 24 → g 19 i = 0) ∧ (∀ i, i < k → g 20 i = 0)
theorem lay1 {c : CD} {h : Mem} {Qp : Mem → Prop} (hp : PF c h) (hQ : ∀ g, XC c g → FrL h g → Qp g) : ∀ r k : Nat, ∀ g, k + r = 24 → I1 c h k g → b_X0_layOut_42 (r + 1) g (nI k) Qp := by
  intro r
  induction r with
  | zero =>
    intro k g hk hI
    obtain ⟨i1, i2, i3, i4, i5⟩ := hI
    have : k = 24 := by omega
    subst this
    rw [b_X0_layOut_42]; dsimp only
    refine ⟨fun _ => ⟨kw c + 1, lay2 hp hQ (kw c) 0 g (by omega) ⟨i1, i2, fun h hh d hd => ?_, fun h hh => ⟨i4 h hh, ?_⟩⟩⟩, fun h => absurd (nI_le (a := 24) (b := 24) (by omega) (by omega)) h⟩
    · exact i3 (6 * h + d) (by omega)
    · rw [i5 h hh]; rfl
  | succ r ih =>
    intro k g hk hI
    obtain ⟨i1, i2, i3, i4, i5⟩ := hI
    rw [b_X0_layOut_42]; dsimp only
    rw [nI_clamp (by omega), nI_1]
    refine ⟨fun h => absurd h (nI_ge (a := k) (b := 24) (by omega) (by omega)), fun _ => ⟨vp_in_nI (by omega) (by omega), ih (k + 1) _ (by omega) ⟨i1.up (by omega), ?_, ?_, ?_, fun i hi => ?_⟩⟩⟩
    · rw [up2_other _ _ _ (by omega)]; exact i2
    · rw [up2_other _ _ _ (by omega), up2_other _ _ _ (by omega), up2_other _ _ _ (by omega)]; exact i3
    · rw [up2_other _ _ _ (by omega)]; exact i4
    · rw [up2_row]
      by_cases e : i = k
      · simp [e]
      · simp [e]; exact i5 i (by omega)
theorem X_layOut {c : CD} {h : Mem} {Qp : Mem → Prop} (hp : PF c h) (hQ : ∀ g, XC c g → FrL h g → Qp g) : p_X0_layOut h Qp := by
  refine fill_spec (by omega) (fill_spec (by omega) (fill_spec (by omega) (fill_spec (by omega) ⟨25, lay1 hp hQ 24 0 _ rfl ⟨?_, ?_, fun i hi => ⟨?_, ?_, ?_⟩, fun i hi => ?_, fun i hi => absurd hi (by omega)⟩⟩)))
  · have f0 : FrL h h := fun _ _ => rfl
    exact ((((f0.up (by omega)).upR (by omega)).upR (by omega)).upR (by omega)).upR (by omega)
  · rw [upR_other _ _ (by omega), upR_other _ _ (by omega), upR_other _ _ (by omega), upR_other _ _ (by omega), up2_self, pk_us]; exact hp.2.1
  · rw [upR_other _ _ (by omega), upR_other _ _ (by omega), upR_other _ _ (by omega), upR_self]; unfold fillR; rw [if_pos hi]
  · rw [upR_other _ _ (by omega), upR_other _ _ (by omega), upR_self]; unfold fillR; rw [if_pos hi]
  · rw [upR_other _ _ (by omega), upR_self]; unfold fillR; rw [if_pos hi]
  · rw [upR_self]; unfold fillR; rw [if_pos hi]
