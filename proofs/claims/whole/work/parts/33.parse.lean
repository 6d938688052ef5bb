/-! PURE: texts as KingsYear reads them -/
def ndd (k : Nat) : Nat := bif Nat.beq k 1 then 4 else 3
/-- byte by byte: (fault + 1, how many things, what stands at each place) -/
def psF (k : Nat) (bs : Nat → Int32) (n : Nat) : Nat → Nat → Nat → Nat → (Nat → Int32) → Nat × Nat × (Nat → Int32)
  | 0, _, item, place, P => if ndd k ≤ place then (0, item + 1, P) else (n + 1, 0, P)
  | r + 1, a, item, place, P => if ndd k ≤ place ∧ bs a = (59 : Int32) then psF k bs n r (a + 1) (item + 1) 0 P else if item < 12 ∧ place < lenL k ∧ ¬ bs a < tabF (tLe k) place ∧ ¬ tabF (tMo k) place < bs a then psF k bs n r (a + 1) item (place + 1) (upd P (item * lenL k + place) (bs a - tabF (tLe k) place)) else (a + 1, 0, P)
def prF (k : Nat) (bs : Nat → Int32) (n : Nat) : Nat × Nat × (Nat → Int32) := if n = 0 then (0, 0, fun _ => -1) else psF k bs n n 0 0 0 (fun _ => -1)
theorem sc_len {k : Nat} (hk : isSC k) : lenP k = 12 * lenL k ∧ lenL k ≤ 5 ∧ 3 ≤ lenL k ∧ ndd k ≤ 4 ∧ 3 ≤ ndd k ∧ lenB k ≤ 71 ∧ ndd k ≤ lenL k := by
  rcases hk with rfl | rfl <;> decide
theorem up2_row (h : Mem) (k j c i : Nat) (v : Int32) : up2 h k j v c i = if c = k ∧ i = j then v else h c i := by
  by_cases hc : c = k
  · subst hc
    rw [up2_self]
    unfold upd
    by_cases hi : i = j
    · simp [hi]
    · simp [hi]
  · rw [up2_other _ _ _ hc]
    simp [hc]
theorem X_parse_loop {k n : Nat} {h : Mem} {Qp : Mem → Prop} (hk : isSC k) (h6 : h k 6 = nI n) (h2 : h k 2 = nI (ndd k)) (h3 : h k 3 = nI 12) (hn : n ≤ lenB k) : ∀ r a item place : Nat, ∀ P : Nat → Int32, a + r = n → item ≤ a → place ≤ lenL k →
    ((psF k (h (k + 1)) n r a item place P).1 = 0 → Qp (up2 (upR h (k + 2) (psF k (h (k + 1)) n r a item place P).2.2) k 7 (nI (psF k (h (k + 1)) n r a item place P).2.1))) →
    ((psF k (h (k + 1)) n r a item place P).1 ≠ 0 → Qp (up2 (upR h (k + 2) (psF k (h (k + 1)) n r a item place P).2.2) k 8 (dI (psF k (h (k + 1)) n r a item place P).1))) →
    b_X7_parse_32 (r + 1) (upR h (k + 2) P) k (nI item) (nI place) (nI a) Qp := by
  obtain ⟨l1, l2, l3, l4, l5, l6, l7⟩ := sc_len hk
  have ek : ∀ P : Nat → Int32, upR h (k + 2) P k = h k := fun P => upR_other _ _ (by omega)
  have ek1 : ∀ P : Nat → Int32, upR h (k + 2) P (k + 1) = h (k + 1) := fun P => upR_other _ _ (by omega)
  intro r
  induction r with
  | zero =>
    intro a item place P ha hi hp q0 q1
    have : a = n := by omega
    subst this
    rw [b_X7_parse_32]; dsimp only
    rw [ek, h6, h2]
    rw [psF] at q0 q1
    refine ⟨fun _ => ⟨fun h => ?_, fun h => ?_⟩, fun h => absurd (nI_le (Nat.le_refl _) (by omega)) h⟩
    · rw [nI_leI (by omega) (by omega)] at h
      rw [if_pos h] at q0
      rw [nI_1]
      exact q0 rfl
    · rw [nI_leI (by omega) (by omega)] at h
      rw [if_neg h] at q1
      have := q1 (Nat.succ_ne_zero _)
      rw [dI_s] at this
      exact this
  | succ r ih =>
    intro a item place P ha hi hp q0 q1
    rw [b_X7_parse_32]; dsimp only
    unfold b_X7_parse_71 b_X7_parse_145 b_X7_parse_139
    rw [ek, ek1, h6, h2, h3, nI_clamp (by omega)]
    rw [psF] at q0 q1
    refine ⟨fun h => absurd h (nI_ge (by omega) (by omega)), fun _ => ⟨vp_in_nI (by omega) (by omega), fun x4 e4 => ?_⟩⟩
    subst e4
    rw [show Int32.ofNat (lenL k) = nI (lenL k) from rfl, nI_1 a, nI_1 place]
    rw [nI_1 item]
    -- what the second test does
    have rest : ¬ (ndd k ≤ place ∧ h (k + 1) a = (59 : Int32)) → (((nI 12 ≤ nI item → Qp (up2 (upR h (k + 2) P) k 8 (nI a))) ∧ (¬ (nI 12 ≤ nI item) → (((nI (lenL k)) ≤ nI place → Qp (up2 (upR h (k + 2) P) k 8 (nI a))) ∧ (¬ ((nI (lenL k)) ≤ nI place) → (vp_in (nI place) (lenL k) ∧ ((h (k + 1) a < (tabF (tLe k) (nI place).toNatClampNeg) → Qp (up2 (upR h (k + 2) P) k 8 (nI a))) ∧ (¬ (h (k + 1) a < (tabF (tLe k) (nI place).toNatClampNeg)) → (vp_in (nI place) (lenL k) ∧ (((tabF (tMo k) (nI place).toNatClampNeg) < h (k + 1) a → Qp (up2 (upR h (k + 2) P) k 8 (nI a))) ∧ (¬ ((tabF (tMo k) (nI place).toNatClampNeg) < h (k + 1) a) → (vp_in (nI place) (lenL k) ∧ (vp_in ((nI item * nI (lenL k)) + nI place) (lenP k) ∧ b_X7_parse_32 (r + 1) (up2 (upR h (k + 2) P) (k + 2) ((nI item * nI (lenL k)) + nI place).toNatClampNeg (h (k + 1) a - (tabF (tLe k) (nI place).toNatClampNeg))) k (nI item) (nI (place + 1)) (nI (a + 1)) Qp))))))))))))) := by
      intro hne
      rw [if_neg hne] at q0 q1
      have bad : ¬ (item < 12 ∧ place < lenL k ∧ ¬ h (k + 1) a < tabF (tLe k) place ∧ ¬ tabF (tMo k) place < h (k + 1) a) → Qp (up2 (upR h (k + 2) P) k 8 (nI a)) := by
        intro hb
        rw [if_neg hb] at q1
        have := q1 (Nat.succ_ne_zero _)
        rw [dI_s] at this
        exact this
      rw [nI_leI (by omega) (by omega), nI_leI (by omega) (by omega), nI_clamp (by omega)]
      refine ⟨fun c1 => bad (fun z => by omega), fun c1 => ⟨fun c2 => bad (fun z => by omega), fun c2 => ⟨vp_in_nI (by omega) (by omega), fun c3 => bad (fun z => z.2.2.1 c3), fun c3 => ⟨vp_in_nI (by omega) (by omega), fun c4 => bad (fun z => z.2.2.2 c4), fun c4 => ⟨vp_in_nI (by omega) (by omega), ?_⟩⟩⟩⟩⟩
      have hidx : item * lenL k + place < 12 * lenL k := by
        have := Nat.mul_le_mul_right (lenL k) (show item + 1 ≤ 12 by omega)
        rw [Nat.succ_mul] at this
        omega
      rw [pk_mul, nI_add]
      refine ⟨vp_in_nI (by omega) (by omega), ?_⟩
      rw [nI_clamp (by omega), up2_upR]
      rw [if_pos ⟨by omega, by omega, c3, c4⟩] at q0 q1
      exact ih (a + 1) item (place + 1) _ (by omega) (by omega) (by omega) q0 q1
    refine ⟨fun c1 => rest (fun z => ?_), fun c1 => ⟨fun c2 => ?_, fun c2 => rest (fun z => c2 z.2)⟩⟩
    · rw [nI_ltI (by omega) (by omega)] at c1
      omega
    · rw [nI_ltI (by omega) (by omega)] at c1
      rw [if_pos ⟨by omega, c2⟩] at q0 q1
      exact ih (a + 1) (item + 1) 0 P (by omega) (by omega) (by omega) q0 q1
/-- what parse does: size, fault, parts -/
def psMem (h : Mem) (k : Nat) (R : Nat × Nat × (Nat → Int32)) (n : Nat) : Mem := fun c i => if c = k ∧ i = 7 then nI R.2.1 else if c = k ∧ i = 8 then dI R.1 else if c = k + 2 ∧ i < lenP k ∧ n ≠ 0 then R.2.2 i else h c i
theorem psF_size (k : Nat) (bs : Nat → Int32) (n : Nat) : ∀ r a item place P, (psF k bs n r a item place P).1 ≠ 0 → (psF k bs n r a item place P).2.1 = 0 := by
  intro r
  induction r with
  | zero => intro a item place P h; unfold psF at h ⊢; split <;> simp_all
  | succ r ih =>
    intro a item place P h
    unfold psF at h ⊢
    split
    · rename_i c1; rw [if_pos c1] at h; exact ih _ _ _ _ h
    · rename_i c1
      rw [if_neg c1] at h
      split
      · rename_i c2; rw [if_pos c2] at h; exact ih _ _ _ _ h
      · rfl
theorem psF_out (k : Nat) (bs : Nat → Int32) (n : Nat) (hk : isSC k) : ∀ r a item place P j, 12 * lenL k ≤ j → place ≤ lenL k → (psF k bs n r a item place P).2.2 j = P j := by
  intro r
  induction r with
  | zero => intro a item place P j hj hp; unfold psF; split <;> rfl
  | succ r ih =>
    intro a item place P j hj hp
    unfold psF
    split
    · exact ih _ _ _ _ _ hj (by omega)
    · split
      · rename_i c2
        rw [ih _ _ _ _ _ hj (by omega)]
        have := Nat.mul_le_mul_right (lenL k) (show item + 1 ≤ 12 by omega)
        rw [Nat.succ_mul] at this
        exact pk_un (by omega)
      · rfl
theorem X_parse {k n : Nat} {h : Mem} {Qp : Mem → Prop} (hk : isSC k) (h6 : h k 6 = nI n) (h2 : h k 2 = nI (ndd k)) (h3 : h k 3 = nI 12) (hn : n ≤ lenB k) (hQ : Qp (psMem h k (prF k (h (k + 1)) n) n)) : p_X7_parse h k Qp := by
  obtain ⟨l1, l2, l3, l4, l5, l6, l7⟩ := sc_len hk
  unfold p_X7_parse
  have e0 : ∀ i, up2 (up2 h k 7 (0 : Int32)) k 8 (-1 : Int32) k i = if i = 8 then -1 else if i = 7 then 0 else h k i := by
    intro i
    rw [up2_row, up2_row]
    by_cases h8 : i = 8
    · simp [h8]
    · by_cases h7 : i = 7 <;> simp [h8, h7]
  have e6 : up2 (up2 h k 7 (0 : Int32)) k 8 (-1 : Int32) k 6 = nI n := by rw [e0]; exact h6
  rw [e6, nI_eq0 (by omega)]
  refine ⟨fun hz => ?_, fun hz => ?_⟩
  · have : psMem h k (prF k (h (k + 1)) n) n = up2 (up2 h k 7 (0 : Int32)) k 8 (-1 : Int32) := by
      funext c i
      unfold psMem prF
      rw [if_pos hz, up2_row, up2_row]
      by_cases hc : c = k
      · subst hc
        by_cases h8 : i = 8
        · simp [h8, dI_0]
        · by_cases h7 : i = 7
          · simp [h7]; rfl
          · simp [h8, h7]
      · simp [hc, hz]
    rw [← this]; exact hQ
  · have hR : prF k (h (k + 1)) n = psF k (h (k + 1)) n n 0 0 0 (fun _ => -1) := by unfold prF; rw [if_neg hz]
    rw [hR] at hQ
    refine fill_spec (by omega) ?_
    refine ⟨n + 1, ?_⟩
    let g : Mem := upR (up2 (up2 h k 7 (0 : Int32)) k 8 (-1 : Int32)) (k + 2) (fun j => if j < lenP k then -1 else h (k + 2) j)
    -- the loop's memory: parts are -1 below their length
    have base : ∀ P : Nat → Int32, upR g (k + 2) P = upR (up2 (up2 h k 7 (0 : Int32)) k 8 (-1 : Int32)) (k + 2) P := fun P => upR_upR _ _ _ _
    have gk : ∀ i, g k i = if i = 8 then -1 else if i = 7 then 0 else h k i := by
      intro i
      show upR _ _ _ k i = _
      rw [upR_other _ _ (by omega), e0]
    have g1 : g (k + 1) = h (k + 1) := by
      show upR _ _ _ (k + 1) = _
      rw [upR_other _ _ (by omega), up2_other _ _ _ (by omega), up2_other _ _ _ (by omega)]
    have hloop := X_parse_loop (k := k) (n := n) (h := g) (Qp := Qp) hk (by rw [gk]; exact h6) (by rw [gk]; exact h2) (by rw [gk]; exact h3) hn n 0 0 0 (fillR ((up2 (up2 h k 7 (0 : Int32)) k 8 (-1 : Int32)) (k + 2)) (lenP k) (-1)) (by omega) (by omega) (by omega)
    simp only [base, g1] at hloop
    -- psF does not look at the parts
    have hind : ∀ r a item place (P P' : Nat → Int32), (∀ j, j < 12 * lenL k → P j = P' j) → place ≤ lenL k → (psF k (h (k + 1)) n r a item place P).1 = (psF k (h (k + 1)) n r a item place P').1 ∧ (psF k (h (k + 1)) n r a item place P).2.1 = (psF k (h (k + 1)) n r a item place P').2.1 ∧ ∀ j, j < 12 * lenL k → (psF k (h (k + 1)) n r a item place P).2.2 j = (psF k (h (k + 1)) n r a item place P').2.2 j := by
      intro r
      induction r with
      | zero => intro a item place P P' hPP hp; unfold psF; split <;> exact ⟨rfl, rfl, hPP⟩
      | succ r ih =>
        intro a item place P P' hPP hp
        unfold psF
        split
        · exact ih _ _ _ _ _ hPP (by omega)
        · split
          · refine ih _ _ _ _ _ (fun j hj => ?_) (by omega)
            unfold upd
            split
            · rfl
            · exact hPP j hj
          · exact ⟨rfl, rfl, hPP⟩
    obtain ⟨i1, i2, i3⟩ := hind n 0 0 0 (fillR ((up2 (up2 h k 7 (0 : Int32)) k 8 (-1 : Int32)) (k + 2)) (lenP k) (-1)) (fun _ => -1) (fun j hj => by unfold fillR; rw [if_pos (by omega)]) (by omega)
    have i4 := fun j hj => psF_out k (h (k + 1)) n hk n 0 0 0 (fillR ((up2 (up2 h k 7 (0 : Int32)) k 8 (-1 : Int32)) (k + 2)) (lenP k) (-1)) j hj (by omega)
    generalize psF k (h (k + 1)) n n 0 0 0 (fillR ((up2 (up2 h k 7 (0 : Int32)) k 8 (-1 : Int32)) (k + 2)) (lenP k) (-1)) = R1 at hloop i1 i2 i3 i4
    have hs := psF_size k (h (k + 1)) n n 0 0 0 (fun _ => -1)
    generalize psF k (h (k + 1)) n n 0 0 0 (fun _ => -1) = R at hQ i1 i2 i3 hs
    refine hloop (fun h0 => ?_) (fun h0 => ?_)
    · have : psMem h k R n = up2 (upR (up2 (up2 h k 7 (0 : Int32)) k 8 (-1 : Int32)) (k + 2) R1.2.2) k 7 (nI R1.2.1) := by
        funext c i
        rw [up2_row]
        unfold psMem
        by_cases c1 : c = k
        · subst c1
          by_cases h7 : i = 7
          · simp [h7, i2]
          · rw [upR_other _ _ (by omega), e0]
            by_cases h8 : i = 8
            · rw [← i1, h0]; simp [h8, dI_0]
            · simp [h7, h8]
        · by_cases c2 : c = k + 2
          · subst c2
            rw [upR_self]
            by_cases hj : i < lenP k
            · rw [i3 i (by omega)]; simp [hj, hz]
            · rw [i4 i (by omega)]
              unfold fillR
              rw [if_neg hj, up2_other _ _ _ (by omega), up2_other _ _ _ (by omega)]
              simp [hj]
          · rw [upR_other _ _ c2, up2_other _ _ _ c1, up2_other _ _ _ c1]
            simp [c1, c2]
      rw [← this]; exact hQ
    · have : psMem h k R n = up2 (upR (up2 (up2 h k 7 (0 : Int32)) k 8 (-1 : Int32)) (k + 2) R1.2.2) k 8 (dI R1.1) := by
        funext c i
        rw [up2_row]
        unfold psMem
        by_cases c1 : c = k
        · subst c1
          by_cases h8 : i = 8
          · simp [h8, i1]
          · rw [upR_other _ _ (by omega), e0]
            by_cases h7 : i = 7
            · rw [hs (by rw [← i1]; exact h0)]; simp [h7]; rfl
            · simp [h7, h8]
        · by_cases c2 : c = k + 2
          · subst c2
            rw [upR_self]
            by_cases hj : i < lenP k
            · rw [i3 i (by omega)]; simp [hj, hz]
            · rw [i4 i (by omega)]
              unfold fillR
              rw [if_neg hj, up2_other _ _ _ (by omega), up2_other _ _ _ (by omega)]
              simp [hj]
          · rw [upR_other _ _ c2, up2_other _ _ _ c1, up2_other _ _ _ c1]
            simp [c1, c2]
      rw [← this]; exact hQ
