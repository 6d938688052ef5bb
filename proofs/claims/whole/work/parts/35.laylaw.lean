/-! PURE: KingsYear lays one law out, hour by hour -/
def off (fr h : Nat) : Nat := (h + 24 - fr) % 24
theorem off_hour {fr j : Nat} (hf : fr < 24) (hj : j < 24) : off fr ((fr + j) % 24) = j := by unfold off; omega
theorem off_inj {fr h j : Nat} (hf : fr < 24) (hh : h < 24) : off fr h = j ↔ (j < 24 ∧ h = (fr + j) % 24) := by unfold off; omega
theorem off_cov {c : CD} (l h : Nat) (hf : dl c l 2 < 24) (ht : dl c l 3 < 24) (hh : h < 24) : cov c l h = decide (off (dl c l 2) h < off (dl c l 2) (dl c l 3) + 1) := by
  unfold cov
  by_cases h1 : dl c l 2 ≤ dl c l 3
  · rw [if_pos h1]
    by_cases h2 : off (dl c l 2) h < off (dl c l 2) (dl c l 3) + 1
    · rw [decide_eq_true h2]
      unfold off at h2
      have h3 : dl c l 2 ≤ h := by omega
      have h4 : h ≤ dl c l 3 := by omega
      simp [h3, h4]
    · rw [decide_eq_false h2]
      unfold off at h2
      by_cases h3 : dl c l 2 ≤ h
      · have h4 : ¬ h ≤ dl c l 3 := by omega
        simp [h4]
      · simp [h3]
  · rw [if_neg h1]
    by_cases h2 : off (dl c l 2) h < off (dl c l 2) (dl c l 3) + 1
    · rw [decide_eq_true h2]
      unfold off at h2
      by_cases h3 : dl c l 2 ≤ h
      · simp [h3]
      · have h4 : h ≤ dl c l 3 := by omega
        simp [h4]
    · rw [decide_eq_false h2]
      unfold off at h2
      have h3 : ¬ dl c l 2 ≤ h := by omega
      have h4 : ¬ h ≤ dl c l 3 := by omega
      simp [h3, h4]
/-- the memory when the hours h with off h < j are laid -/
def LL (g : Mem) (l kk fr de : Nat) (A : Nat → Nat) (B : Nat → Nat → Nat) (j : Nat) (g' : Mem) : Prop :=
  (∀ k, k ≠ 13 → k ≠ 19 → k ≠ kk → g' k = g k) ∧ g' 13 l = nI (mk 24 (fun h => decide (off fr h < j))) ∧ (∀ i, i ≠ l → g' 13 i = g 13 i) ∧
  (∀ h, h < 24 → g' 19 h = nI (A h ||| (if off fr h < j then 2 ^ l else 0))) ∧ (∀ h, h < 24 → ∀ d, d < 6 → g' kk (6 * h + d) = nI (B h d ||| (if off fr h < j ∧ d = de then 2 ^ l else 0)))
theorem or_bit_mk (fr j : Nat) (hf : fr < 24) (hj : j < 24) : mk 24 (fun h => decide (off fr h < j)) ||| 2 ^ ((fr + j) % 24) = mk 24 (fun h => decide (off fr h < j + 1)) := by
  apply Nat.eq_of_testBit_eq
  intro i
  rw [Nat.testBit_or, mk_bit, mk_bit, bit2]
  by_cases hi : i < 24
  · by_cases e : (fr + j) % 24 = i
    · have h1 : off fr i = j := by rw [← e]; exact off_hour hf hj
      simp [hi, e, h1]
    · have h1 : off fr i ≠ j := fun z => e ((off_inj hf hi).mp z).2.symm
      have h2 : decide (off fr i < j + 1) = decide (off fr i < j) := by apply decide_eq_decide.mpr; omega
      simp [hi, e, h2]
  · have e : (fr + j) % 24 ≠ i := by omega
    simp [hi, e]
theorem lay_step {g : Mem} {l kk fr to de : Nat} {A : Nat → Nat} {B : Nat → Nat → Nat} {Qp : Mem → Prop} (hl : l < 12) (hkk : kk = 16 ∨ kk = 17) (hfr : fr < 24) (hto : to < 24) (hde : de < 6) (g9 : g 9 l = nI de) (g11 : g 11 l = nI to) (hA : ∀ h, A h < 4096) (hB : ∀ h d, B h d < 4096) (n j : Nat) (g' : Mem) (hj : j ≤ off fr to) (hL : LL g l kk fr de A B j g')
    (hQ : j = off fr to → ∀ g2, LL g l kk fr de A B (j + 1) g2 → Qp g2) (hN : j < off fr to → ∀ g2, LL g l kk fr de A B (j + 1) g2 → b_X0_layLaw_44 n g2 (nI l) kk (nI (2 ^ l)) (nI ((fr + (j + 1)) % 24)) (nI (j + 1)) Qp) : b_X0_layLaw_44 (n + 1) g' (nI l) kk (nI (2 ^ l)) (nI ((fr + j) % 24)) (nI j) Qp := by
  have hoff : off fr to < 24 := by unfold off; omega
  have hp : 2 ^ l < 4096 := by have := Nat.pow_lt_pow_right (a := 2) (by omega) hl; omega
  obtain ⟨L1, L2, L3, L4, L5⟩ := hL
  obtain ⟨H0, eH⟩ : ∃ H0, H0 = (fr + j) % 24 := ⟨_, rfl⟩
  have hH : H0 < 24 := by omega
  have hoH : off fr H0 = j := by rw [eH]; exact off_hour hfr (by omega)
  rw [← eH]
  rw [b_X0_layLaw_44]; dsimp only
  unfold b_X0_layLaw_122
  rw [nI_clamp (show l < 2 ^ 31 by omega), nI_clamp (show H0 < 2 ^ 31 by omega), shl1 (show H0 < 31 by omega), L2]
  have hm : mk 24 (fun h => decide (off fr h < j)) < 2 ^ 24 := mk_lt _ _
  have h2H : 2 ^ H0 < 2 ^ 24 := Nat.pow_lt_pow_right (by omega) hH
  rw [nI_or (by omega) (by omega), eH, or_bit_mk fr j hfr (by omega), ← eH]
  refine ⟨fun h => absurd h (nI_ge (a := j) (b := 24) (by omega) (by omega)), fun _ => ⟨vp_in_nI (by omega) (by omega), vp_in_nI (by omega) (by omega), vp_in_nI (by omega) (by omega), vp_in_nI (by omega) (by omega), fun h9 e9 => ?_⟩⟩
  rw [up2_other g' l _ (show (19 : Nat) ≠ 13 by omega), L4 H0 hH, hoH, if_neg (by omega), Nat.or_zero, nI_or (by have := hA H0; omega) (by omega)] at e9
  have r9 : ∀ k i, h9 k i = if k = 19 ∧ i = H0 then nI (A H0 ||| 2 ^ l) else if k = 13 ∧ i = l then nI (mk 24 (fun h => decide (off fr h < j + 1))) else g' k i := by
    intro k i
    rw [e9, up2_row, up2_row]
  have q9 : h9 9 l = nI de := by rw [r9]; simp; rw [L1 9 (by omega) (by omega) (by omega)]; exact g9
  rw [q9, show (6 : Int32) = nI 6 from rfl, pk_mul, nI_add, nI_clamp (show H0 * 6 + de < 2 ^ 31 by omega)]
  have hkv : h9 kk (H0 * 6 + de) = nI (B H0 de) := by
    rw [r9, if_neg (by omega), if_neg (by omega), show H0 * 6 + de = 6 * H0 + de by omega, L5 H0 hH de hde, hoH, if_neg (by omega), Nat.or_zero]
  refine ⟨vp_in_nI (by omega) (by omega), vp_in_nI (by omega) (by omega), vp_in_nI (by omega) (by omega), fun h13 e13 => ?_⟩
  rw [hkv, nI_or (by have := hB H0 de; omega) (by omega)] at e13
  have r13 : ∀ k i, h13 k i = if k = kk ∧ i = H0 * 6 + de then nI (B H0 de ||| 2 ^ l) else h9 k i := by
    intro k i
    rw [e13, up2_row]
  have hLL : LL g l kk fr de A B (j + 1) h13 := by
    refine ⟨fun k k1 k2 k3 => ?_, ?_, fun i hi => ?_, fun h hh => ?_, fun h hh d hd => ?_⟩
    · funext i
      rw [r13, if_neg (fun z => k3 z.1), r9, if_neg (fun z => k2 z.1), if_neg (fun z => k1 z.1), L1 k k1 k2 k3]
    · rw [r13, if_neg (by omega), r9, if_neg (by omega), if_pos ⟨rfl, rfl⟩]
    · rw [r13, if_neg (by omega), r9, if_neg (by omega), if_neg (fun z => hi z.2)]
      exact L3 i hi
    · rw [r13, if_neg (by omega), r9]
      by_cases e : h = H0
      · subst e
        rw [if_pos ⟨rfl, rfl⟩, if_pos (by omega)]
      · rw [if_neg (fun z => e z.2), if_neg (by omega), L4 h hh]
        have : off fr h ≠ j := fun z => e (by rw [((off_inj hfr hh).mp z).2, eH])
        have h2 : (off fr h < j + 1) = (off fr h < j) := propext ⟨fun z => by omega, fun z => by omega⟩
        simp only [h2]
    · rw [r13, r9]
      by_cases e : h = H0 ∧ d = de
      · obtain ⟨e1, e2⟩ := e
        subst e1; subst e2
        rw [if_pos ⟨rfl, by omega⟩, if_pos ⟨by omega, rfl⟩]
      · rw [if_neg (fun z => e ⟨by omega, by omega⟩), if_neg (by omega), if_neg (by omega), L5 h hh d hd]
        congr 2
        by_cases ed : d = de
        · have : off fr h ≠ j := fun z => e ⟨by rw [((off_inj hfr hh).mp z).2, eH], ed⟩
          have h2 : (off fr h < j + 1) = (off fr h < j) := propext ⟨fun z => by omega, fun z => by omega⟩
          simp only [h2]
        · simp [ed]
  have q11 : h13 11 l = nI to := by rw [r13, if_neg (by omega), r9, if_neg (by omega), if_neg (by omega), L1 11 (by omega) (by omega) (by omega)]; exact g11
  rw [q11, nI_eq (by omega) (by omega)]
  refine ⟨vp_in_nI (by omega) (by omega), fun e => hQ ?_ h13 hLL, fun e => ?_⟩
  · rw [← hoH, e]
  · have hlt : j < off fr to := by
      rcases Nat.lt_or_ge j (off fr to) with z | z
      · exact z
      · exfalso
        apply e
        have : off fr to = j := by omega
        have := ((off_inj hfr hto).mp this).2
        omega
    have hn := hN hlt h13 hLL
    have hv : (if nI H0 = (23 : Int32) then (0 : Int32) else nI H0 + 1) = nI ((fr + (j + 1)) % 24) := by
      by_cases e2 : H0 = 23
      · rw [if_pos (by rw [e2]; rfl), show (0 : Int32) = nI 0 from rfl]
        congr 1; omega
      · have ne : ¬ nI H0 = (23 : Int32) := fun z => e2 ((nI_eq (a := H0) (b := 23) (by omega) (by omega)).mp z)
        rw [if_neg ne, nI_1]
        congr 1; omega
    rw [hv, nI_1]
    exact hn
theorem lay_loop {g : Mem} {l kk fr to de : Nat} {A : Nat → Nat} {B : Nat → Nat → Nat} {Qp : Mem → Prop} (hl : l < 12) (hkk : kk = 16 ∨ kk = 17) (hfr : fr < 24) (hto : to < 24) (hde : de < 6) (g9 : g 9 l = nI de) (g11 : g 11 l = nI to) (hA : ∀ h, A h < 4096) (hB : ∀ h d, B h d < 4096)
    (hQ : ∀ g', LL g l kk fr de A B (off fr to + 1) g' → Qp g') : ∀ r j : Nat, ∀ g', j + r = off fr to → LL g l kk fr de A B j g' → b_X0_layLaw_44 (r + 1) g' (nI l) kk (nI (2 ^ l)) (nI ((fr + j) % 24)) (nI j) Qp := by
  intro r
  induction r with
  | zero =>
    intro j g' hj hL
    exact lay_step hl hkk hfr hto hde g9 g11 hA hB 0 j g' (by omega) hL (fun e g2 h2 => hQ g2 (by rw [← e]; exact h2)) (fun z => absurd z (by omega))
  | succ r ih =>
    intro j g' hj hL
    exact lay_step hl hkk hfr hto hde g9 g11 hA hB (r + 1) j g' (by omega) hL (fun e => absurd e (by omega)) (fun _ g2 h2 => ih (j + 1) g2 (by omega) h2)
theorem X_layLaw {c : CD} {g : Mem} {l : Nat} {A : Nat → Nat} {B : Nat → Nat → Nat} {Qp : Mem → Prop} (hc : CDok c) (hl : l < kl c) (g8 : g 8 l = nI (dl c l 0)) (g9 : g 9 l = nI (dl c l 1)) (g10 : g 10 l = nI (dl c l 2)) (g11 : g 11 l = nI (dl c l 3)) (hA : ∀ h, A h < 4096) (hB : ∀ h d, B h d < 4096) (gA : ∀ h, h < 24 → g 19 h = nI (A h)) (gB : ∀ h, h < 24 → ∀ d, d < 6 → g (if dl c l 0 = 1 then 16 else 17) (6 * h + d) = nI (B h d))
    (hQ : ∀ g' : Mem, (∀ k, k ≠ 13 → k ≠ 19 → k ≠ (if dl c l 0 = 1 then 16 else 17) → g' k = g k) → g' 13 l = nI (hrs c l) → (∀ i, i ≠ l → g' 13 i = g 13 i) → (∀ h, h < 24 → g' 19 h = nI (A h ||| (if cov c l h = true then 2 ^ l else 0))) → (∀ h, h < 24 → ∀ d, d < 6 → g' (if dl c l 0 = 1 then 16 else 17) (6 * h + d) = nI (B h d ||| (if cov c l h = true ∧ d = dl c l 1 then 2 ^ l else 0))) → Qp g') : p_X0_layLaw g (nI l) Qp := by
  have hk12 := hc.1
  obtain ⟨o0, o1, o2, o3, o4⟩ := hc.2.2.1 l hl
  have hin : vp_in (nI l) 12 := vp_in_nI (by omega) (by omega)
  unfold p_X0_layLaw b_X0_layLaw_21
  rw [nI_clamp (show l < 2 ^ 31 by omega), g8, g10]
  have hkk : (if nI (dl c l 0) = (1 : Int32) then 16 else 17) = (if dl c l 0 = 1 then 16 else 17) := by
    by_cases e : dl c l 0 = 1
    · rw [if_pos (by rw [e]; rfl), if_pos e]
    · have ne : ¬ nI (dl c l 0) = (1 : Int32) := fun z => e ((nI_eq (a := dl c l 0) (b := 1) (by omega) (by omega)).mp z)
      rw [if_neg ne, if_neg e]
  rw [hkk]
  refine ⟨hin, fun x1 e1 => ⟨hin, hin, off (dl c l 2) (dl c l 3) + 1, ?_⟩⟩
  rw [shl1 (by omega)] at e1
  subst e1
  have hk2 : (if dl c l 0 = 1 then 16 else 17) = 16 ∨ (if dl c l 0 = 1 then 16 else 17) = 17 := by split <;> simp
  generalize (if dl c l 0 = 1 then 16 else 17) = kk at hk2 gB hQ ⊢
  have r0 : ∀ k i, up2 g 13 l (0 : Int32) k i = if k = 13 ∧ i = l then 0 else g k i := fun k i => up2_row _ _ _ _ _ _
  have hcv : ∀ h, h < 24 → (cov c l h = true ↔ off (dl c l 2) h < off (dl c l 2) (dl c l 3) + 1) := by
    intro h hh
    rw [off_cov l h (by omega) (by omega) hh]
    exact decide_eq_true_iff
  have hstart : LL (up2 g 13 l (0 : Int32)) l kk (dl c l 2) (dl c l 1) A B 0 (up2 g 13 l (0 : Int32)) := by
    refine ⟨fun _ _ _ _ => rfl, ?_, fun _ _ => rfl, fun h hh => ?_, fun h hh d hd => ?_⟩
    · rw [r0, if_pos ⟨rfl, rfl⟩]
      have : mk 24 (fun h => decide (off (dl c l 2) h < 0)) = 0 := by
        apply Nat.eq_of_testBit_eq
        intro i
        rw [mk_bit]; simp
      rw [this]; rfl
    · rw [r0, if_neg (by omega), gA h hh]; simp
    · rw [r0, if_neg (by omega), gB h hh d hd]; simp
  have := lay_loop (g := up2 g 13 l (0 : Int32)) (Qp := Qp) (kk := kk) (show l < 12 by omega) hk2 (show dl c l 2 < 24 by omega) (show dl c l 3 < 24 by omega) (show dl c l 1 < 6 by omega) (by rw [r0, if_neg (by omega)]; exact g9) (by rw [r0, if_neg (by omega)]; exact g11) hA hB (fun g' hL => ?_) (off (dl c l 2) (dl c l 3)) 0 _ (by omega) hstart
  · rw [show (dl c l 2 + 0) % 24 = dl c l 2 by omega] at this
    exact this
  · obtain ⟨L1, L2, L3, L4, L5⟩ := hL
    refine hQ g' (fun k k1 k2 k3 => ?_) ?_ (fun i hi => ?_) (fun h hh => ?_) (fun h hh d hd => ?_)
    · rw [L1 k k1 k2 k3, up2_other _ _ _ k1]
    · rw [L2]
      congr 1
      exact mk_congr fun h hh => by rw [← off_cov l h (by omega) (by omega) hh]
    · rw [L3 i hi, r0, if_neg (fun z => hi z.2)]
    · rw [L4 h hh]
      congr 2
      by_cases e : cov c l h = true
      · rw [if_pos e, if_pos ((hcv h hh).mp e)]
      · rw [if_neg e, if_neg (fun z => e ((hcv h hh).mpr z))]
    · rw [L5 h hh d hd]
      congr 2
      by_cases e : cov c l h = true ∧ d = dl c l 1
      · rw [if_pos e, if_pos ⟨(hcv h hh).mp e.1, e.2⟩]
      · rw [if_neg e, if_neg (fun z => e ⟨(hcv h hh).mpr z.1, z.2⟩)]
