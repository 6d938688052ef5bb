/-! PURE: the reference reads a thing, a text -/
theorem mv_ge {t p : Nat} (v : Int32) (h0 : ¬ (t = 0 ∧ p = 0)) (h1 : ¬ (t = 1 ∧ p = 2)) : mv t p v = v := by unfold mv; rw [if_neg h0, if_neg h1]
/-- behind a thing: all its places stand, many is one more -/
def MT (t n : Nat) (bs : Nat → Int32) (R : Nat × Nat × (Nat → Int32)) (y0 : Mem) (a item place : Nat) (P : Nat → Int32) (y : Mem) : Prop :=
  FrM t y0 y ∧ y 0 7 = nI a ∧ y 7 t = nI (item + 1) ∧ a ≤ n ∧ item < 12 ∧ ndd (tk t) ≤ place ∧ place ≤ lenL (tk t) ∧ psF (tk t) bs n (n - a) a item place P = R ∧ (∀ i p, p < lenL (tk t) → i < item + 1 → y (tac t) (i * lenL (tk t) + p) = mv t p (P (i * lenL (tk t) + p))) ∧ (∀ j, (item + 1) * lenL (tk t) ≤ j → P j = -1) ∧ (a < n → place < lenL (tk t) → ¬ good (tk t) place (bs a))
theorem M_thing_loop {t n : Nat} {bs : Nat → Int32} {R : Nat × Nat × (Nat → Int32)} {y0 : Mem} {Qp : Int32 → Mem → Prop} {item a0 : Nat} (ht : t < 2) (hT0 : TX t n bs y0) (hi : item < 12) (q0 : ∀ y a, FrM t y0 y → y 0 7 = nI a → a ≤ n → R.1 = a + 1 → Qp 0 y) (q1 : ∀ y a place P, a0 < a → MT t n bs R y0 a item place P y → Qp 1 y) : ∀ r place a : Nat, ∀ (P : Nat → Int32) (y : Mem), place + r = ndd (tk t) → a0 + place ≤ a → MS t n bs R y0 a item place P y → b_X10_readsThing_25 (r + 1) y (nI t) (nI (ndd (tk t))) (nI place) Qp := by
  have hk := tk_sc t
  obtain ⟨l1, l2, l3, l4, l5, l6, l7⟩ := sc_len hk
  have hn71 := hT0.2.1
  obtain ⟨ta0, ta7, ta5, ta6⟩ := tac_ne t
  intro r
  induction r with
  | zero =>
    intro place a P y hr hpa hS
    have hpl : place = ndd (tk t) := by omega
    obtain ⟨s1, s2, s3, s4, s5, s6, s7, s8, s9⟩ := hS
    have hT := hT0.fr s1
    rw [b_X10_readsThing_25]; dsimp only
    refine ⟨fun _ => ?_, fun h => absurd (nI_le (by omega) (by omega)) h⟩
    rcases (show t = 0 ∨ t = 1 by omega) with e | e
    · subst e
      obtain ⟨z1, z2, z3⟩ := tk_0
      rw [z1] at s6 s9; simp only [z1] at s8
      have hp4 : place = 4 := by omega
      subst hp4
      refine ⟨fun _ => ?_, fun h => absurd rfl h⟩
      have fin : ∀ (w : Int32) (b : Bool) (P' : Nat → Int32) (pl a' : Nat), a ≤ a' → (if b = true then nI a + 1 else nI a) = nI a' → a' ≤ n → 4 ≤ pl → pl ≤ 5 → psF (tk 0) bs n (n - a') a' item pl P' = R → P' (item * 5 + 4) = w → (∀ j, j < item * 5 + 4 → P' j = P j) → (∀ j, (item + 1) * 5 ≤ j → P' j = -1) → (a' < n → pl < 5 → ¬ good (tk 0) pl (bs a')) → b_X10_readsThing_165 (up2 y 8 (item * 5 + 4) w) (nI 0) (if b = true then (1 : Int32) else 0) (nI a) Qp := by
        intro w b P' pl a' haa ea ha' h4 h5 hps hw hP1 hP2 hg
        unfold b_X10_readsThing_165 b_X10_readsThing_169
        have ea2 : nI a + (if b = true then (1 : Int32) else 0) = nI a' := by
          rw [← ea]
          cases b
          · simp
          · simp
        rw [ea2, nI_clamp (by omega)]
        refine ⟨vp_in_nI (by omega) (by omega), vp_in_nI (by omega) (by omega), q1 _ a' pl P' (by omega) ⟨?_, ?_, ?_, ha', hi, by rw [z2]; exact h4, by rw [z1]; exact h5, hps, ?_, by rw [z1]; exact hP2, by rw [z1]; exact hg⟩⟩
        · exact ((show FrM 0 y0 (up2 y 8 (item * 5 + 4) w) from s1.row _ _).at _).many _
        · rw [up2_other _ _ _ (by omega), up2_row, if_pos ⟨rfl, rfl⟩]
        · rw [up2_row, if_pos ⟨rfl, rfl⟩, up2_other _ _ _ (by omega), up2_other _ _ _ (by omega), s3, nI_1]
        · intro i p hp hi2
          rw [z1] at hp ⊢
          rw [z3, up2_other _ _ _ (by omega), up2_other _ _ _ (by omega), up2_row]
          by_cases c1 : i = item ∧ p = 4
          · obtain ⟨c2, c3⟩ := c1
            subst c2; subst c3
            rw [if_pos ⟨rfl, rfl⟩, mv_ge _ (by omega) (by omega), hw]
          · rw [if_neg (by omega), hP1 _ (by omega)]
            have := s8 i p hp (by omega)
            rw [z3] at this
            exact this
      refine M_here (t := 0) ht hT s2 s4 (fun ha => ?_) (fun ha => ?_)
      · refine M_within (fun a1 a2 => ?_) (fun a1 => ?_)
        · -- a figure
          have hb : ¬ bs a = (59 : Int32) := fun z => by rw [z] at a2; exact a2 (by decide)
          have hg : good (tk 0) 4 (bs a) := ⟨by rw [show tabF (tLe (tk 0)) 4 = 48 by decide]; exact a1, by rw [show tabF (tMo (tk 0)) 4 = 57 by decide]; exact a2⟩
          obtain ⟨j, j1, j2, j3⟩ := in_range (A := 48) (B := 57) (by omega) a1 a2 (by omega)
          have hv : bs a - (48 : Int32) = nI (j - 48) := by rw [j3, show (48 : Int32) = nI 48 from rfl, pk_sub j1]
          have n9 : ¬ nI (j - 48) = (-9 : Int32) := fun z => by
            have := congrArg Int32.toInt z
            rw [nI_toInt (by omega), show (-9 : Int32).toInt = -9 by decide] at this
            omega
          rw [hv, if_neg n9]
          unfold b_X10_readsThing_148
          rw [if_neg n9]
          rw [show (0 : Int32).toNatClampNeg = 0 by decide, s3, show (5 : Int32) = nI 5 from rfl, pk_mul, show (4 : Int32) = nI 4 from rfl, nI_add, nI_clamp (by omega), show 5 * item + 4 = item * 5 + 4 by omega, up2_other y _ _ (show (0 : Nat) ≠ 8 by omega), s2]
          refine ⟨vp_in_nI (by omega) (by omega), vp_in_nI (by omega) (by omega), ?_⟩
          rw [psF_s _ _ _ _ _ _ _ ha, if_neg (fun z => hb z.2), if_pos ⟨hi, by rw [z1]; omega, hg.1, hg.2⟩, z1, show tabF (tLe (tk 0)) 4 = 48 by decide, hv] at s7
          have := fin (nI (j - 48)) true (upd P (item * 5 + 4) (nI (j - 48))) 5 (a + 1) (by omega) (by simp [nI_1]) (by omega) (by omega) (by omega) s7 pk_us (fun j hj => pk_un (by omega)) (fun j hj => by rw [pk_un (by omega)]; exact s9 j (by omega)) (fun _ h => absurd h (by omega))
          exact this
        · have hg : ¬ good (tk 0) 4 (bs a) := fun g => a1 ⟨by have := g.1; rw [show tabF (tLe (tk 0)) 4 = 48 by decide] at this; exact this, by have := g.2; rw [show tabF (tMo (tk 0)) 4 = 57 by decide] at this; exact this⟩
          unfold b_X10_readsThing_148
          rw [if_pos rfl, if_pos rfl]
          rw [show (0 : Int32).toNatClampNeg = 0 by decide, s3, show (5 : Int32) = nI 5 from rfl, pk_mul, show (4 : Int32) = nI 4 from rfl, nI_add, nI_clamp (by omega), show 5 * item + 4 = item * 5 + 4 by omega, up2_other y _ _ (show (0 : Nat) ≠ 8 by omega), s2]
          refine ⟨vp_in_nI (by omega) (by omega), vp_in_nI (by omega) (by omega), ?_⟩
          have := fin (-1) false P 4 a (Nat.le_refl a) rfl s4 (by omega) (by omega) s7 (s9 _ (by omega)) (fun _ _ => rfl) (fun j hj => s9 j (by omega)) (fun _ _ => hg)
          exact this
      · refine M_within (fun a1 a2 => absurd (show (-1 : Int32) < 48 by decide) a1) (fun a1 => ?_)
        unfold b_X10_readsThing_148
        rw [if_pos rfl, if_pos rfl]
        rw [show (0 : Int32).toNatClampNeg = 0 by decide, s3, show (5 : Int32) = nI 5 from rfl, pk_mul, show (4 : Int32) = nI 4 from rfl, nI_add, nI_clamp (by omega), show 5 * item + 4 = item * 5 + 4 by omega, up2_other y _ _ (show (0 : Nat) ≠ 8 by omega), s2]
        refine ⟨vp_in_nI (by omega) (by omega), vp_in_nI (by omega) (by omega), ?_⟩
        have := fin (-1) false P 4 a (Nat.le_refl a) rfl s4 (by omega) (by omega) s7 (s9 _ (by omega)) (fun _ _ => rfl) (fun j hj => s9 j (by omega)) (fun h _ => absurd h (by omega))
        exact this
    · subst e
      obtain ⟨z1, z2, z3⟩ := tk_1
      have hp3 : place = 3 := by omega
      subst hp3
      refine ⟨fun h => absurd h (by decide), fun _ => ?_⟩
      unfold b_X10_readsThing_169
      rw [nI_clamp (by omega), s3, nI_1]
      refine ⟨vp_in_nI (by omega) (by omega), vp_in_nI (by omega) (by omega), q1 _ a 3 P (by omega) ⟨s1.many _, ?_, ?_, s4, hi, by omega, s6, s7, ?_, fun j hj => s9 j ?_, fun _ h => absurd h (by omega)⟩⟩
      · rw [up2_other _ _ _ (by omega)]; exact s2
      · rw [up2_row, if_pos ⟨rfl, rfl⟩]
      · intro i p hp hi2
        rw [up2_other _ _ _ ta7]
        exact s8 i p hp (by omega)
      · rw [Nat.succ_mul] at hj; omega
  | succ r ih =>
    intro place a P y hr hpa hS
    obtain ⟨s1, s2, s3, s4, s5, s6, s7, s8, s9⟩ := hS
    have hT := hT0.fr s1
    rw [b_X10_readsThing_25]; dsimp only
    have bad : ∀ b : Int32, (a < n → b = bs a) → ¬ good (tk t) place b → ∀ v : Int32, v < 0 → Qp 0 y := by
      intro b hb hg v hv
      refine q0 y a s1 s2 s4 ?_
      rw [← s7]
      by_cases ha : a < n
      · rw [psF_s _ _ _ _ _ _ _ ha, if_neg (by omega), if_neg (fun z => hg (by rw [hb ha]; exact ⟨z.2.2.1, z.2.2.2⟩))]
      · rw [psF_n _ _ _ _ _ _ _ (by omega), if_neg (by omega)]
        show n + 1 = a + 1
        omega
    refine ⟨fun h => absurd h (nI_ge (by omega) (by omega)), fun _ => M_here ht hT s2 s4 (fun ha => ?_) (fun ha => ?_)⟩
    · refine M_tellsOf ht (by omega) (fun hg j hj hm => ?_) (fun hg v hv => ⟨fun h => absurd h (Int32.not_le.mpr hv), fun _ => bad (bs a) (fun _ => rfl) hg v hv⟩)
      refine ⟨fun _ => ?_, fun h => absurd (nI_pos' (by omega)) h⟩
      have hps := s7
      rw [psF_s _ _ _ _ _ _ _ ha, if_neg (by omega), if_pos ⟨hi, by omega, hg.1, hg.2⟩] at hps
      have go : b_X10_readsThing_90 (up2 y (tac t) (item * lenL (tk t) + place) (nI j)) (nI t) (nI (ndd (tk t))) (nI place) (fun h v1 v2 v3 => b_X10_readsThing_25 (r + 1) h v1 v2 v3 Qp) Qp := by
        unfold b_X10_readsThing_90
        rw [up2_other y _ _ (fun z => ta0 z.symm), s2, nI_1, nI_1]
        refine ih (place + 1) (a + 1) _ _ (by omega) (by omega) ⟨(s1.row _ _).at _, ?_, ?_, by omega, s5, by omega, hps, ?_, ?_⟩
        · rw [up2_row, if_pos ⟨rfl, rfl⟩]
        · rw [up2_other _ _ _ (by omega), up2_other _ _ _ (fun z => ta7 z.symm)]; exact s3
        · intro i p hp hip
          rw [up2_other _ _ _ ta0, up2_row]
          by_cases c1 : i * lenL (tk t) + p = item * lenL (tk t) + place
          · have hii : i = item ∧ p = place := by
              rcases Nat.lt_trichotomy i item with h | h | h
              · have := Nat.mul_le_mul_right (lenL (tk t)) (show i + 1 ≤ item by omega)
                rw [Nat.succ_mul] at this
                omega
              · subst h; exact ⟨rfl, by omega⟩
              · omega
            obtain ⟨c2, c3⟩ := hii
            subst c2; subst c3
            rw [if_pos ⟨rfl, rfl⟩, pk_us, hm]
          · rw [if_neg (fun z => c1 z.2), pk_un c1]
            exact s8 i p hp (by
              rcases hip with h | h
              · exact Or.inl h
              · refine Or.inr ⟨h.1, ?_⟩
                rcases Nat.lt_or_ge p place with q | q
                · exact q
                · exfalso; apply c1; rw [h.1]; omega)
        · intro j2 hj2
          rw [pk_un (by omega)]
          exact s9 j2 (by omega)
      rcases (show t = 0 ∨ t = 1 by omega) with e | e
      · subst e
        obtain ⟨z1, z2, z3⟩ := tk_0
        refine ⟨fun _ => ?_, fun h => absurd rfl h⟩
        rw [show (0 : Int32).toNatClampNeg = 0 by decide, s3, show (5 : Int32) = nI 5 from rfl, pk_mul, nI_add, nI_clamp (by omega)]
        rw [z1, z3, show item * 5 + place = 5 * item + place by omega] at go
        exact ⟨vp_in_nI (n := 0) (by omega) (by omega), vp_in_nI (by omega) (by omega), go⟩
      · subst e
        obtain ⟨z1, z2, z3⟩ := tk_1
        refine ⟨fun h => absurd h (by decide), fun _ => ?_⟩
        rw [show (1 : Int32).toNatClampNeg = 1 by decide, s3, show (3 : Int32) = nI 3 from rfl, pk_mul, nI_add, nI_clamp (by omega)]
        rw [z1, z3, show item * 3 + place = 3 * item + place by omega] at go
        exact ⟨vp_in_nI (n := 1) (by omega) (by omega), vp_in_nI (by omega) (by omega), go⟩
    · have hng : ¬ good (tk t) place (-1) := neg_good hk (by omega)
      refine M_tellsOf ht (by omega) (fun hg => absurd hg hng) (fun hg v hv => ⟨fun h => absurd h (Int32.not_le.mpr hv), fun _ => bad (-1) (fun h => absurd h (by omega)) hg v hv⟩)
