/-! PURE: the laws and wants of two texts -/
def leN (k p : Nat) : Nat := if k = 1 then ([109, 65, 97, 97, 48] : List Nat).getD p 0 else ([65, 97, 49] : List Nat).getD p 0
def moN (k p : Nat) : Nat := if k = 1 then ([110, 70, 120, 120, 57] : List Nat).getD p 0 else ([70, 120, 57] : List Nat).getD p 0
theorem tab_n {k : Nat} (hk : isSC k) {p : Nat} (hp : p < lenL k) : tabF (tLe k) p = nI (leN k p) ∧ tabF (tMo k) p = nI (moN k p) ∧ leN k p ≤ moN k p ∧ moN k p < 200 := by
  have h1 : ∀ p, p < 5 → tabF (tLe 1) p = nI (leN 1 p) ∧ tabF (tMo 1) p = nI (moN 1 p) ∧ leN 1 p ≤ moN 1 p ∧ moN 1 p < 200 := by decide +kernel
  have h2 : ∀ p, p < 3 → tabF (tLe 4) p = nI (leN 4 p) ∧ tabF (tMo 4) p = nI (moN 4 p) ∧ leN 4 p ≤ moN 4 p ∧ moN 4 p < 200 := by decide +kernel
  rcases hk with rfl | rfl
  · exact h1 p hp
  · exact h2 p hp
theorem in_range {b : Int32} {A B : Nat} (hB : B < 2 ^ 30) (h1 : ¬ b < nI A) (h2 : ¬ nI B < b) (hAB : A ≤ B) : ∃ j, A ≤ j ∧ j ≤ B ∧ b = nI j := by
  have h0 : ¬ b < 0 := by
    rw [Int32.lt_iff_toInt_lt] at h1 ⊢
    rw [nI_toInt (by omega)] at h1
    rw [show (0 : Int32).toInt = 0 by decide]
    omega
  obtain ⟨j, hj, e⟩ := nI_of h0
  subst e
  rw [nI_ltI (by omega) (by omega)] at h1 h2
  exact ⟨j, by omega, by omega, rfl⟩
def okV (k p : Nat) (v : Int32) : Prop := ∃ j, j ≤ moN k p - leN k p ∧ v = nI j
def okP (k : Nat) (P : Nat → Int32) (i p : Nat) : Prop := okV k p (P (i * lenL k + p)) ∨ (ndd k ≤ p ∧ P (i * lenL k + p) = -1)
theorem psF_ok {k : Nat} (hk : isSC k) (bs : Nat → Int32) (n : Nat) : ∀ r a item place P, place ≤ lenL k → item ≤ 12 → (0 < place → item < 12) → (∀ i, i < item → ∀ p, p < lenL k → okP k P i p) → (∀ p, p < place → okV k p (P (item * lenL k + p))) → (∀ p, place ≤ p → p < lenL k → P (item * lenL k + p) = -1) → (∀ j, (item + 1) * lenL k ≤ j → P j = -1) →
    (psF k bs n r a item place P).1 = 0 → (psF k bs n r a item place P).2.1 ≤ 12 ∧ ∀ i, i < (psF k bs n r a item place P).2.1 → ∀ p, p < lenL k → okP k (psF k bs n r a item place P).2.2 i p := by
  obtain ⟨l1, l2, l3, l4, l5, l6, l7⟩ := sc_len hk
  intro r
  induction r with
  | zero =>
    intro a item place P hp hi hpi h1 h2 h3 h4 h0
    unfold psF at h0 ⊢
    by_cases c1 : ndd k ≤ place
    · rw [if_pos c1]
      refine ⟨by show item + 1 ≤ 12; have := hpi (by omega); omega, fun i hi2 p hp2 => ?_⟩
      have hi2 : i < item + 1 := hi2
      by_cases c2 : i = item
      · subst c2
        by_cases c3 : p < place
        · exact Or.inl (h2 p c3)
        · exact Or.inr ⟨by omega, h3 p (by omega) hp2⟩
      · exact h1 i (by omega) p hp2
    · rw [if_neg c1] at h0
      exact absurd h0 (Nat.succ_ne_zero _)
  | succ r ih =>
    intro a item place P hp hi hpi h1 h2 h3 h4 h0
    unfold psF at h0 ⊢
    by_cases c1 : ndd k ≤ place ∧ bs a = (59 : Int32)
    · rw [if_pos c1] at h0 ⊢
      have hsm : (item + 1) * lenL k = item * lenL k + lenL k := Nat.succ_mul _ _
      refine ih _ _ _ _ (by omega) (by have := hpi (by omega); omega) (fun z => absurd z (by omega)) (fun i hi2 p hp2 => ?_) (fun p hp2 => absurd hp2 (by omega)) (fun p _ hp2 => h4 _ (by omega)) (fun j hj => h4 j ?_) h0
      · by_cases c2 : i = item
        · subst c2
          by_cases c3 : p < place
          · exact Or.inl (h2 p c3)
          · exact Or.inr ⟨by omega, h3 p (by omega) hp2⟩
        · exact h1 i (by omega) p hp2
      · have : (item + 1 + 1) * lenL k = (item + 1) * lenL k + lenL k := Nat.succ_mul _ _
        omega
    · rw [if_neg c1] at h0 ⊢
      by_cases c2 : item < 12 ∧ place < lenL k ∧ ¬ bs a < tabF (tLe k) place ∧ ¬ tabF (tMo k) place < bs a
      · rw [if_pos c2] at h0 ⊢
        obtain ⟨d1, d2, d3, d4⟩ := c2
        obtain ⟨t1, t2, t3, t4⟩ := tab_n hk d2
        have hsm : (item + 1) * lenL k = item * lenL k + lenL k := Nat.succ_mul _ _
        refine ih _ _ _ _ (by omega) hi (fun _ => d1) (fun i hi2 p hp2 => ?_) (fun p hp2 => ?_) (fun p hp1 hp2 => ?_) (fun j hj => ?_) h0
        · have hlt : i * lenL k + p < item * lenL k := by
            have := Nat.mul_le_mul_right (lenL k) (show i + 1 ≤ item by omega)
            rw [Nat.succ_mul] at this
            omega
          unfold okP
          rw [pk_un (by omega)]
          exact h1 i hi2 p hp2
        · by_cases c3 : p = place
          · subst c3
            rw [pk_us]
            rw [t1] at d3
            rw [t2] at d4
            obtain ⟨j, j1, j2, j3⟩ := in_range (by omega) d3 d4 t3
            exact ⟨j - leN k p, by omega, by rw [t1, j3, pk_sub j1]⟩
          · rw [pk_un (by omega)]
            exact h2 p (by omega)
        · rw [pk_un (by omega)]
          exact h3 p (by omega) hp2
        · rw [pk_un (by omega)]
          exact h4 j hj
      · rw [if_neg c2] at h0
        exact absurd h0 (Nat.succ_ne_zero _)
theorem prF_ok {k : Nat} (hk : isSC k) (bs : Nat → Int32) (n : Nat) : (prF k bs n).2.1 ≤ 12 ∧ ∀ i, i < (prF k bs n).2.1 → ∀ p, p < lenL k → okP k (prF k bs n).2.2 i p := by
  unfold prF
  by_cases h0 : n = 0
  · rw [if_pos h0]
    exact ⟨Nat.zero_le _, fun i hi => absurd hi (Nat.not_lt_zero i)⟩
  · rw [if_neg h0]
    by_cases h1 : (psF k bs n n 0 0 0 (fun _ => -1)).1 = 0
    · exact psF_ok hk bs n n 0 0 0 (fun _ => -1) (Nat.zero_le _) (by omega) (fun z => absurd z (by omega)) (fun i hi => absurd hi (Nat.not_lt_zero i)) (fun p hp => absurd hp (Nat.not_lt_zero p)) (fun _ _ _ => rfl) (fun _ _ => rfl) h1
    · rw [psF_size k bs n n 0 0 0 _ h1]
      exact ⟨Nat.zero_le _, fun i hi => absurd hi (Nat.not_lt_zero i)⟩
def cdOf (b0 : Nat → Int32) (n0 : Nat) (b1 : Nat → Int32) (n1 : Nat) : CD :=
  ((prF 1 b0 n0).2.1, fun l k => if k = 0 then 1 - ((prF 1 b0 n0).2.2 (l * 5)).toNatClampNeg else if k = 4 then ((prF 1 b0 n0).2.2 (l * 5 + 4) + 1).toNatClampNeg else ((prF 1 b0 n0).2.2 (l * 5 + k)).toNatClampNeg,
   (prF 4 b1 n1).2.1, fun w k => if k = 2 then ((prF 4 b1 n1).2.2 (w * 3 + 2) + 1).toNatClampNeg else ((prF 4 b1 n1).2.2 (w * 3 + k)).toNatClampNeg)
section CdOf
variable {b0 b1 : Nat → Int32} {n0 n1 : Nat}
theorem cd_law {l : Nat} (hl : l < kl (cdOf b0 n0 b1 n1)) : ((prF 1 b0 n0).2.2 (l * 5) = nI (1 - dl (cdOf b0 n0 b1 n1) l 0) ∧ dl (cdOf b0 n0 b1 n1) l 0 ≤ 1) ∧ ((prF 1 b0 n0).2.2 (l * 5 + 1) = nI (dl (cdOf b0 n0 b1 n1) l 1) ∧ dl (cdOf b0 n0 b1 n1) l 1 ≤ 5) ∧ ((prF 1 b0 n0).2.2 (l * 5 + 2) = nI (dl (cdOf b0 n0 b1 n1) l 2) ∧ dl (cdOf b0 n0 b1 n1) l 2 ≤ 23) ∧ ((prF 1 b0 n0).2.2 (l * 5 + 3) = nI (dl (cdOf b0 n0 b1 n1) l 3) ∧ dl (cdOf b0 n0 b1 n1) l 3 ≤ 23) ∧ ((prF 1 b0 n0).2.2 (l * 5 + 4) = dI (dl (cdOf b0 n0 b1 n1) l 4) ∧ dl (cdOf b0 n0 b1 n1) l 4 ≤ 10) := by
  have hok := (prF_ok (k := 1) (Or.inl rfl) b0 n0).2 l hl
  have get : ∀ p, p < 4 → ∃ j, j ≤ moN 1 p - leN 1 p ∧ (prF 1 b0 n0).2.2 (l * 5 + p) = nI j := by
    intro p hp
    rcases hok p (show p < 5 by omega) with h | h
    · exact h
    · exact absurd h.1 (show ¬ 4 ≤ p by omega)
  refine ⟨?_, ?_, ?_, ?_, ?_⟩
  · obtain ⟨j, h1, h2⟩ := get 0 (by omega)
    have h1 : j ≤ 1 := h1
    have h2 : (prF 1 b0 n0).2.2 (l * 5) = nI j := h2
    have e : dl (cdOf b0 n0 b1 n1) l 0 = 1 - j := by
      show 1 - ((prF 1 b0 n0).2.2 (l * 5)).toNatClampNeg = _
      rw [h2, nI_clamp (by omega)]
    rw [e, h2]
    exact ⟨by congr 1; omega, by omega⟩
  · obtain ⟨j, h1, h2⟩ := get 1 (by omega)
    have h1 : j ≤ 5 := h1
    have e : dl (cdOf b0 n0 b1 n1) l 1 = j := by
      show ((prF 1 b0 n0).2.2 (l * 5 + 1)).toNatClampNeg = _
      rw [h2, nI_clamp (by omega)]
    rw [e, h2]; exact ⟨rfl, h1⟩
  · obtain ⟨j, h1, h2⟩ := get 2 (by omega)
    have h1 : j ≤ 23 := h1
    have e : dl (cdOf b0 n0 b1 n1) l 2 = j := by
      show ((prF 1 b0 n0).2.2 (l * 5 + 2)).toNatClampNeg = _
      rw [h2, nI_clamp (by omega)]
    rw [e, h2]; exact ⟨rfl, h1⟩
  · obtain ⟨j, h1, h2⟩ := get 3 (by omega)
    have h1 : j ≤ 23 := h1
    have e : dl (cdOf b0 n0 b1 n1) l 3 = j := by
      show ((prF 1 b0 n0).2.2 (l * 5 + 3)).toNatClampNeg = _
      rw [h2, nI_clamp (by omega)]
    rw [e, h2]; exact ⟨rfl, h1⟩
  · have e : dl (cdOf b0 n0 b1 n1) l 4 = ((prF 1 b0 n0).2.2 (l * 5 + 4) + 1).toNatClampNeg := rfl
    rcases hok 4 (show 4 < 5 by omega) with ⟨j, h1, h2⟩ | h
    · have h1 : j ≤ 9 := h1
      have h2 : (prF 1 b0 n0).2.2 (l * 5 + 4) = nI j := h2
      rw [e, h2, nI_1, nI_clamp (by omega), dI_s]
      exact ⟨rfl, by omega⟩
    · have h2 : (prF 1 b0 n0).2.2 (l * 5 + 4) = -1 := h.2
      rw [e, h2, show ((-1 : Int32) + 1).toNatClampNeg = 0 by decide, dI_0]
      exact ⟨rfl, by omega⟩
theorem cd_want {w : Nat} (hw : w < kw (cdOf b0 n0 b1 n1)) : ((prF 4 b1 n1).2.2 (w * 3) = nI (dw (cdOf b0 n0 b1 n1) w 0) ∧ dw (cdOf b0 n0 b1 n1) w 0 ≤ 5) ∧ ((prF 4 b1 n1).2.2 (w * 3 + 1) = nI (dw (cdOf b0 n0 b1 n1) w 1) ∧ dw (cdOf b0 n0 b1 n1) w 1 ≤ 23) ∧ ((prF 4 b1 n1).2.2 (w * 3 + 2) = dI (dw (cdOf b0 n0 b1 n1) w 2) ∧ 1 ≤ dw (cdOf b0 n0 b1 n1) w 2 ∧ dw (cdOf b0 n0 b1 n1) w 2 ≤ 9) := by
  have hok := (prF_ok (k := 4) (Or.inr rfl) b1 n1).2 w hw
  have get : ∀ p, p < 3 → ∃ j, j ≤ moN 4 p - leN 4 p ∧ (prF 4 b1 n1).2.2 (w * 3 + p) = nI j := by
    intro p hp
    rcases hok p (show p < 3 by omega) with h | h
    · exact h
    · exact absurd h.1 (show ¬ 3 ≤ p by omega)
  refine ⟨?_, ?_, ?_⟩
  · obtain ⟨j, h1, h2⟩ := get 0 (by omega)
    have h1 : j ≤ 5 := h1
    have h2 : (prF 4 b1 n1).2.2 (w * 3) = nI j := h2
    have e : dw (cdOf b0 n0 b1 n1) w 0 = j := by
      show ((prF 4 b1 n1).2.2 (w * 3)).toNatClampNeg = _
      rw [h2, nI_clamp (by omega)]
    rw [e, h2]; exact ⟨rfl, h1⟩
  · obtain ⟨j, h1, h2⟩ := get 1 (by omega)
    have h1 : j ≤ 23 := h1
    have e : dw (cdOf b0 n0 b1 n1) w 1 = j := by
      show ((prF 4 b1 n1).2.2 (w * 3 + 1)).toNatClampNeg = _
      rw [h2, nI_clamp (by omega)]
    rw [e, h2]; exact ⟨rfl, h1⟩
  · obtain ⟨j, h1, h2⟩ := get 2 (by omega)
    have h1 : j ≤ 8 := h1
    have e : dw (cdOf b0 n0 b1 n1) w 2 = j + 1 := by
      show ((prF 4 b1 n1).2.2 (w * 3 + 2) + 1).toNatClampNeg = _
      rw [h2, nI_1, nI_clamp (by omega)]
    rw [e, h2, dI_s]; exact ⟨rfl, by omega, by omega⟩
theorem cd_ok : CDok (cdOf b0 n0 b1 n1) := by
  refine ⟨(prF_ok (k := 1) (Or.inl rfl) b0 n0).1, (prF_ok (k := 4) (Or.inr rfl) b1 n1).1, fun l hl => ?_, fun w hw => ?_⟩
  · obtain ⟨h0, h1, h2, h3, h4⟩ := cd_law hl
    exact ⟨h0.2, h1.2, h2.2, h3.2, h4.2⟩
  · obtain ⟨h0, h1, h2⟩ := cd_want hw
    exact ⟨h0.2, h1.2, h2.2.1, h2.2.2⟩
end CdOf
