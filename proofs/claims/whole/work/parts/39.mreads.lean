/-! PURE: the reference reads both texts -/
theorem M_thing {t n a item : Nat} {bs : Nat → Int32} {R : Nat × Nat × (Nat → Int32)} {y0 y : Mem} {P : Nat → Int32} {Qp : Int32 → Mem → Prop} (ht : t < 2) (hT0 : TX t n bs y0) (hS : MS t n bs R y0 a item 0 P y) (q0 : ∀ y a, FrM t y0 y → y 0 7 = nI a → a ≤ n → R.1 = a + 1 → Qp 0 y) (q1 : ∀ y a' place P, a < a' → MT t n bs R y0 a' item place P y → Qp 1 y) : p_X10_readsThing y (nI t) Qp := by
  have hk := tk_sc t
  obtain ⟨l1, l2, l3, l4, l5, l6, l7⟩ := sc_len hk
  obtain ⟨s1, s2, s3, s4, s5, s6, s7, s8, s9⟩ := id hS
  unfold p_X10_readsThing b_X10_readsThing_22
  rw [nI_clamp (by omega), s3]
  refine ⟨vp_in_nI ht (by omega), fun h => ?_, fun h => ?_⟩
  · have hi : item = 12 := (nI_eq (a := item) (b := 12) (by omega) (by omega)).mp h
    refine q0 y a s1 s2 s4 ?_
    rw [← s7]
    by_cases ha : a < n
    · rw [psF_s _ _ _ _ _ _ _ ha, if_neg (by omega), if_neg (by omega)]
    · rw [psF_n _ _ _ _ _ _ _ (by omega), if_neg (by omega)]
      show n + 1 = a + 1
      omega
  · have hi : item < 12 := by
      rcases Nat.lt_or_ge item 12 with z | z
      · exact z
      · exact absurd (show nI item = (12 : Int32) by rw [show item = 12 by omega]; rfl) h
    have hv : (if nI t = (0 : Int32) then (4 : Int32) else 3) = nI (ndd (tk t)) := by
      rcases (show t = 0 ∨ t = 1 by omega) with e | e <;> subst e <;> decide
    rw [hv]
    exact ⟨ndd (tk t) + 1, M_thing_loop ht hT0 hi q0 q1 (ndd (tk t)) 0 a P y (by omega) (by omega) hS⟩
/-- what stands behind the reading of a text -/
def MR (t n : Nat) (bs : Nat → Int32) (y : Mem) : Prop := y 7 t = nI (prF (tk t) bs n).2.1 ∧ ∀ i, i < (prF (tk t) bs n).2.1 → ∀ p, p < lenL (tk t) → y (tac t) (i * lenL (tk t) + p) = mv t p ((prF (tk t) bs n).2.2 (i * lenL (tk t) + p))
theorem M_text_loop {t n : Nat} {bs : Nat → Int32} {R : Nat × Nat × (Nat → Int32)} {y0 : Mem} {Qp : Int32 → Mem → Prop} (ht : t < 2) (hT0 : TX t n bs y0) (q0 : R.1 = 0 → ∀ y, FrM t y0 y → y 7 t = nI R.2.1 → (∀ i, i < R.2.1 → ∀ p, p < lenL (tk t) → y (tac t) (i * lenL (tk t) + p) = mv t p (R.2.2 (i * lenL (tk t) + p))) → Qp (-1) y) (q1 : R.1 ≠ 0 → ∀ y, FrM t y0 y → y 7 t = 0 → Qp (dI R.1) y) : ∀ d a item : Nat, ∀ (P : Nat → Int32) (y : Mem), n - a ≤ d → MS t n bs R y0 a item 0 P y → b_X10_readsText_27 (d + 2) y (nI t) 1 Qp := by
  have hk := tk_sc t
  obtain ⟨l1, l2, l3, l4, l5, l6, l7⟩ := sc_len hk
  have hn71 := hT0.2.1
  obtain ⟨ta0, ta7, ta5, ta6⟩ := tac_ne t
  have fault : ∀ y a, FrM t y0 y → y 0 7 = nI a → R.1 = a + 1 → b_X10_readsText_78 y (nI t) Qp := by
    intro y a f1 f2 f3
    unfold b_X10_readsText_78
    rw [nI_clamp (by omega), up2_other _ _ _ (by omega), f2]
    have := q1 (by omega) (up2 y 7 t 0) (f1.many _) (by rw [up2_row, if_pos ⟨rfl, rfl⟩])
    rw [f3, dI_s] at this
    exact ⟨vp_in_nI ht (by omega), this⟩
  have body : ∀ (m a item : Nat) (P : Nat → Int32) (y : Mem), MS t n bs R y0 a item 0 P y → (∀ a' item' P' y', a < a' → a' ≤ n → MS t n bs R y0 a' item' 0 P' y' → b_X10_readsText_27 (m + 1) y' (nI t) 1 Qp) → b_X10_readsText_27 (m + 2) y (nI t) 1 Qp := by
    intro m a item P y hS next
    rw [b_X10_readsText_27]; dsimp only
    refine ⟨fun h => absurd h (by decide), fun _ => M_thing ht hT0 hS (fun y a f1 f2 f3 f4 => ?_) (fun y a' place P' haa hM => ?_)⟩
    · refine ⟨fun _ => ?_, fun h => absurd rfl h⟩
      unfold b_X10_readsText_58 b_X10_readsText_59
      exact ⟨fun _ => fault y a f1 f2 f4, fun h => absurd rfl h⟩
    · obtain ⟨m1, m2, m3, m4, m5, m6, m7, m8, m9, m10, m11⟩ := hM
      have hT := hT0.fr m1
      refine ⟨fun h => absurd h (by decide), fun _ => ?_⟩
      rw [nI_clamp (by omega), hT.1, m2, nI_leI (by omega) (by omega)]
      refine ⟨vp_in_nI ht (by omega), fun h => ?_, fun h => ?_⟩
      · have ha : a' = n := by omega
        rw [psF_n _ _ _ _ _ _ _ ha, if_pos m6] at m8
        unfold b_X10_readsText_58 b_X10_readsText_59 b_X10_readsText_90 b_X10_readsText_104
        refine ⟨fun h => absurd h (by decide), fun _ => ⟨fun _ => ?_, fun h => absurd rfl h⟩⟩
        dsimp only
        rw [if_pos rfl, b_X10_readsText_27]; dsimp only
        refine ⟨fun _ => q0 (by rw [← m8]) _ (m1.at _) (by rw [up2_other _ _ _ (by omega), m3, ← m8]) (fun i hi p hp => ?_), fun h => absurd rfl h⟩
        rw [up2_other _ _ _ ta0]
        rw [← m8] at hi ⊢
        exact m9 i p hp hi
      · have ha : a' < n := by omega
        have hS2 := m8
        rw [psF_s _ _ _ _ _ _ _ ha] at hS2
        unfold b_X10_readsText_59
        refine ⟨fun h => absurd h (by decide), fun _ => ⟨fun h => absurd h (by decide), fun _ => M_here ht hT m2 m4 (fun _ => ⟨fun hb => ?_, fun hb => ?_⟩) (fun z => absurd z (by omega))⟩⟩
        · rw [if_pos ⟨m6, hb⟩] at hS2
          unfold b_X10_readsText_90 b_X10_readsText_104
          dsimp only
          rw [if_neg (show ¬ (1 : Int32) = 0 by decide), m2, nI_1]
          refine next (a' + 1) (item + 1) P' _ (by omega) (by omega) ⟨m1.at _, ?_, ?_, by omega, by omega, by omega, hS2, ?_, ?_⟩
          · rw [up2_row, if_pos ⟨rfl, rfl⟩]
          · rw [up2_other _ _ _ (by omega)]; exact m3
          · intro i p hp hip
            rw [up2_other _ _ _ ta0]
            exact m9 i p hp (by omega)
          · intro j hj; exact m10 j (by omega)
        · refine fault y a' m1 m2 ?_
          rw [if_neg (fun z => hb z.2), if_neg (fun z => m11 ha z.2.1 ⟨z.2.2.1, z.2.2.2⟩)] at hS2
          rw [← hS2]
  intro d
  induction d with
  | zero =>
    intro a item P y hd hS
    exact body 0 a item P y hS (fun a' _ _ _ h1 h2 => absurd h1 (by omega))
  | succ d ih =>
    intro a item P y hd hS
    exact body (d + 1) a item P y hS (fun a' item' P' y' h1 h2 h3 => ih a' item' P' y' (by omega) h3)
theorem M_readsText {t n : Nat} {bs : Nat → Int32} {y : Mem} {Qp : Int32 → Mem → Prop} (ht : t < 2) (hT : TX t n bs y) (hQ : ∀ y', FrM t y y' → MR t n bs y' → Qp (dI (prF (tk t) bs n).1) y') : p_X10_readsText y (nI t) Qp := by
  have hn71 := hT.2.1
  obtain ⟨ta0, ta7, ta5, ta6⟩ := tac_ne t
  unfold p_X10_readsText b_X10_readsText_26
  rw [nI_clamp (by omega), up2_other _ _ _ (show (6 : Nat) ≠ 7 by omega), up2_other _ _ _ (show (6 : Nat) ≠ 0 by omega), hT.1]
  have f1 : FrM t y (up2 (up2 y 0 7 (0 : Int32)) 7 t 0) := ((FrM.rf t y).at 0).many 0
  have hin : vp_in (nI t) 2 := vp_in_nI ht (by omega)
  refine ⟨hin, hin, ?_⟩
  by_cases h0 : n = 0
  · refine ⟨1, ?_⟩
    rw [if_pos (by rw [h0]; decide), b_X10_readsText_27]; dsimp only
    have hpr : prF (tk t) bs n = (0, 0, fun _ => -1) := by unfold prF; rw [if_pos h0]
    refine ⟨fun _ => ?_, fun h => absurd rfl h⟩
    have := hQ _ f1 ⟨by rw [hpr, up2_row, if_pos ⟨rfl, rfl⟩]; rfl, fun i hi => by rw [hpr] at hi; exact absurd hi (Nat.not_lt_zero i)⟩
    rw [hpr] at this
    exact this
  · have hpr : prF (tk t) bs n = psF (tk t) bs n n 0 0 0 (fun _ => -1) := by unfold prF; rw [if_neg h0]
    rw [if_neg (fun z => h0 (by
      have := (nI_leI (a := n) (b := 0) (by omega) (by omega)).mp z
      omega))]
    refine ⟨n + 2, M_text_loop (R := prF (tk t) bs n) (y0 := y) ht hT (fun hz y' f2 f3 f4 => ?_) (fun hz y' f2 f3 => ?_) n 0 0 (fun _ => -1) _ (by omega) ⟨f1, ?_, ?_, by omega, by omega, by omega, by rw [hpr]; rfl, fun i p _ hip => absurd hip (by omega), fun _ _ => rfl⟩⟩
    · have := hQ y' f2 ⟨f3, f4⟩
      rw [hz] at this
      exact this
    · have hs : (prF (tk t) bs n).2.1 = 0 := by rw [hpr] at hz ⊢; exact psF_size _ _ _ _ _ _ _ _ hz
      exact hQ y' f2 ⟨by rw [hs, f3]; rfl, fun i hi => by rw [hs] at hi; exact absurd hi (Nat.not_lt_zero i)⟩
    · rw [up2_other _ _ _ (by omega), up2_row, if_pos ⟨rfl, rfl⟩]; rfl
    · rw [up2_row, if_pos ⟨rfl, rfl⟩]; rfl
/-- the reference's rows of laws and wants -/
def MC (c : CD) (y : Mem) : Prop := CDok c ∧ y 7 0 = nI (kl c) ∧ y 7 1 = nI (kw c) ∧ (∀ l, l < kl c → y 8 (5 * l) = nI (dl c l 0) ∧ y 8 (5 * l + 1) = nI (dl c l 1) ∧ y 8 (5 * l + 2) = nI (dl c l 2) ∧ y 8 (5 * l + 3) = nI (dl c l 3) ∧ y 8 (5 * l + 4) = dI (dl c l 4)) ∧ (∀ w, w < kw c → y 9 (3 * w) = nI (dw c w 0) ∧ y 9 (3 * w + 1) = nI (dw c w 1) ∧ y 9 (3 * w + 2) = nI (dw c w 2))
def FrR (y y' : Mem) : Prop := (∀ k, k ≠ 0 → k ≠ 7 → k ≠ 8 → k ≠ 9 → y' k = y k) ∧ ∀ j, j ≠ 7 → y' 0 j = y 0 j
theorem M_reads {n0 n1 : Nat} {b0 b1 : Nat → Int32} {y : Mem} {Qp : Mem → Prop} (h0 : TX 0 n0 b0 y) (h1 : TX 1 n1 b1 y) (hQ : ∀ y', FrR y y' → MC (cdOf b0 n0 b1 n1) y' → Qp y') : p_X10_reads y Qp := by
  refine M_readsText (t := 0) (by omega) h0 (fun y1 f1 r1 => M_readsText (t := 1) (by omega) (h1.fr f1) (fun y2 f2 r2 => hQ y2 ⟨fun k k0 k7 k8 k9 => ?_, fun j hj => ?_⟩ ⟨cd_ok, ?_, ?_, fun l hl => ?_, fun w hw => ?_⟩))
  · rw [f2.1 k k0 k7 k9, f1.1 k k0 k7 k8]
  · rw [f2.2.1 j hj, f1.2.1 j hj]
  · rw [f2.2.2 0 (by omega)]; exact r1.1
  · exact r2.1
  · have e8 : y2 8 = y1 8 := f2.1 8 (by omega) (by omega) (by decide)
    obtain ⟨⟨c0, d0⟩, ⟨c1, d1⟩, ⟨c2, d2⟩, ⟨c3, d3⟩, ⟨c4, d4⟩⟩ := cd_law hl
    have g : ∀ p, p < 5 → y1 8 (l * 5 + p) = mv 0 p ((prF 1 b0 n0).2.2 (l * 5 + p)) := fun p hp => r1.2 l hl p hp
    have g0 : y1 8 (l * 5) = mv 0 0 ((prF 1 b0 n0).2.2 (l * 5)) := g 0 (by omega)
    rw [e8, show 5 * l = l * 5 by omega, g0, g 1 (by omega), g 2 (by omega), g 3 (by omega), g 4 (by omega), c0, c1, c2, c3, c4]
    refine ⟨?_, by rw [mv_ge _ (by omega) (by omega)], by rw [mv_ge _ (by omega) (by omega)], by rw [mv_ge _ (by omega) (by omega)], by rw [mv_ge _ (by omega) (by omega)]⟩
    unfold mv
    rw [if_pos ⟨rfl, rfl⟩, show (1 : Int32) = nI 1 from rfl, pk_sub (by omega)]
    congr 1; omega
  · obtain ⟨⟨c0, d0⟩, ⟨c1, d1⟩, ⟨c2, d2, d3⟩⟩ := cd_want hw
    have g : ∀ p, p < 3 → y2 9 (w * 3 + p) = mv 1 p ((prF 4 b1 n1).2.2 (w * 3 + p)) := fun p hp => r2.2 w hw p hp
    have g0 : y2 9 (w * 3) = mv 1 0 ((prF 4 b1 n1).2.2 (w * 3)) := g 0 (by omega)
    rw [show 3 * w = w * 3 by omega, g0, g 1 (by omega), g 2 (by omega), c0, c1, c2]
    refine ⟨by rw [mv_ge _ (by omega) (by omega)], by rw [mv_ge _ (by omega) (by omega)], ?_⟩
    unfold mv
    obtain ⟨m, hm⟩ : ∃ m, dw (cdOf b0 n0 b1 n1) w 2 = m + 1 := ⟨dw (cdOf b0 n0 b1 n1) w 2 - 1, by omega⟩
    rw [if_neg (by omega), if_pos ⟨rfl, rfl⟩, hm, dI_s, nI_1]
