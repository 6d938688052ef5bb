/-! STEPS: write, copy -/
theorem X_write_loop {c : CD} {x0 y0 : Mem} {xl0 : MemL} {q f n m set : Nat} {Qp : Int32 → Mem → Prop} (hq : q < 4) (hf : f < 3) (hn : n ≤ 60) (hm : m ≤ n) (hm2 : m ≤ 24) (hs : set < 4096) (hX0 : XC c x0) (h1 : x0 (47 + 2 * q) 1 = nI f) (h2 : x0 (47 + 2 * q) 2 = nI n) (hQ : ∀ x', (∀ k, k ≠ 47 + 2 * q + 1 → x' k = x0 k) → (∀ i, x' (47 + 2 * q + 1) i = if i < m then cutF f (dI (doesN c set i)) else x0 (47 + 2 * q + 1) i) → Qp (nI m) x') : ∀ (r i : Nat) (x : Mem), i + r = m → (∀ k, k ≠ 47 + 2 * q + 1 → x k = x0 k) → (∀ a, x (47 + 2 * q + 1) a = if a < i then cutF f (dI (doesN c set a)) else x0 (47 + 2 * q + 1) a) → b_X9_write_61 (r + 1) x (47 + 2 * q) (nI set) (nI m) (nI i) Qp := by
  intro r
  induction r with
  | zero =>
    intro i x hi g1 g2
    have : i = m := by omega
    subst this
    rw [b_X9_write_61]; dsimp only
    exact ⟨fun _ => hQ x g1 g2, fun z => absurd (nI_le (Nat.le_refl _) (by omega)) z⟩
  | succ r ih =>
    intro i x hi g1 g2
    rw [b_X9_write_61]; dsimp only
    have hX : XC c x := hX0.f fun k a1 a2 => g1 k (by omega)
    refine ⟨fun z => absurd z (nI_ge (by omega) (by omega)), fun _ => X_deedBy hX.1 hs (by omega) (X_putS hf (by rw [g1 _ (by omega)]; exact h1) (by rw [g1 _ (by omega)]; exact h2) hn (by omega) ?_)⟩
    rw [nI_1]
    refine ih (i + 1) _ (by omega) (fun k hk => by rw [up2_other _ _ _ hk]; exact g1 k hk) (fun a => ?_)
    rw [up2_row]
    by_cases e : a = i
    · rw [if_pos ⟨rfl, e⟩, if_pos (by omega), e]
    · rw [if_neg (fun z => e z.2), g2 a]
      by_cases e2 : a < i
      · rw [if_pos e2, if_pos (by omega)]
      · rw [if_neg e2, if_neg (by omega)]
theorem M_write_loop {c : CD} {y0 : Mem} {q f m set : Nat} {Qp : Int32 → Mem → Prop} (hq : q < 4) (hf : f < 3) (hm2 : m ≤ 24) (hs : set < 4096) (hM0 : MC c y0) (h1 : y0 1 q = nI f) (hQ : ∀ y', (∀ k, k ≠ 3 → y' k = y0 k) → (∀ a, y' 3 a = if 60 * q ≤ a ∧ a < 60 * q + m then cutF f (dI (doesN c set (a - 60 * q))) else y0 3 a) → Qp (nI m) y') : ∀ (r i : Nat) (y : Mem), i + r = m → (∀ k, k ≠ 3 → y k = y0 k) → (∀ a, y 3 a = if 60 * q ≤ a ∧ a < 60 * q + i then cutF f (dI (doesN c set (a - 60 * q))) else y0 3 a) → b_X10_write_59 (r + 1) y (nI q) (nI m) (nI set) (nI i) Qp := by
  intro r
  induction r with
  | zero =>
    intro i y hi g1 g2
    have : i = m := by omega
    subst this
    rw [b_X10_write_59]; dsimp only
    exact ⟨fun _ => hQ y g1 g2, fun z => absurd (nI_le (Nat.le_refl _) (by omega)) z⟩
  | succ r ih =>
    intro i y hi g1 g2
    rw [b_X10_write_59]; dsimp only
    have hM : MC c y := hM0.f ⟨g1 7 (by omega), g1 8 (by omega), g1 9 (by omega)⟩
    rw [nI_clamp (show q < 2 ^ 31 by omega), g1 1 (by omega), h1, show (60 : Int32) = nI 60 from rfl, pk_mul, nI_add, nI_clamp (by omega), nI_1]
    refine ⟨fun z => absurd z (nI_ge (by omega) (by omega)), fun _ => ⟨vp_in_nI hq (by omega), M_doesBy hM hs (by omega) (M_cut hf ⟨vp_in_nI (by omega) (by omega), ?_⟩)⟩⟩
    refine ih (i + 1) _ (by omega) (fun k hk => by rw [up2_other _ _ _ hk]; exact g1 k hk) (fun a => ?_)
    rw [up2_row]
    by_cases e : a = 60 * q + i
    · rw [if_pos ⟨rfl, e⟩, if_pos (by omega), e, show 60 * q + i - 60 * q = i by omega]
    · rw [if_neg (fun z => e z.2), g2 a]
      by_cases e2 : 60 * q ≤ a ∧ a < 60 * q + i
      · rw [if_pos e2, if_pos (by omega)]
      · rw [if_neg e2, if_neg (by omega)]
theorem st_write : s_write Rel := by
  intro x xl y h v1 v2
  obtain ⟨n0, n1, t, b, s, hX, hY⟩ := h.1
  unfold p_X9_write
  rcases two_c v1 v2 30 4 with ⟨yr, q, hyr, hq, e1, e2⟩ | e
  · subst e1 e2
    have hin : vp_in (nI q) 4 := vp_in_nI hq (by omega)
    refine two_y (d_within 30 (by omega)) (d_within 4 (by omega)) hyr hq ⟨hin, fun k ek => ?_⟩
    rw [q_eq hq] at ek
    subst ek
    rcases h.2.1 q hq with ⟨a1, a2⟩ | ⟨f, n, a1, a2, a3, a4, a5, a6, a7⟩
    · refine X_lost a1 ⟨fun z => absurd z (by decide), fun _ => ?_⟩
      unfold p_X9_find p_X10_write
      refine two_y d_year d_sheet hyr hq ⟨hin, ?_⟩
      rw [nI_clamp (by omega), a2]
      exact ⟨fun z => absurd z nf_m1, fun _ => ⟨rfl, Rel_find h 1⟩⟩
    · refine X_nlost a5 a2 ⟨fun _ => X_kings hX hyr fun g h1 h2 h3 h4 w ew => ?_, fun z => absurd rfl z⟩
      have G1 : g (47 + 2 * q) = x (47 + 2 * q) := h2.2.2.2 _ (by omega)
      have G2 : g (47 + 2 * q + 1) = x (47 + 2 * q + 1) := h2.2.2.2 _ (by omega)
      obtain ⟨m, hm1, hm2, hm, em⟩ : ∃ m, m ≤ n ∧ m ≤ 24 ∧ (m = n ∨ m = 24) ∧ w = nI m := by
        rw [ew, G1, a5]
        by_cases e : 24 < n
        · exact ⟨24, by omega, by omega, Or.inr rfl, if_pos (show (24 : Int32) < nI n from nI_lt (a := 24) e (by omega))⟩
        · exact ⟨n, by omega, by omega, Or.inl rfl, if_neg (show ¬ (24 : Int32) < nI n from nI_nlt (a := 24) (by omega) (by omega))⟩
      have em2 : (if (24 : Int32) ≤ nI n then (24 : Int32) else nI n) = nI m := by
        by_cases e : 24 ≤ n
        · rw [if_pos (show (24 : Int32) ≤ nI n from nI_le (a := 24) e (by omega)), show m = 24 by omega]; rfl
        · rw [if_neg (show ¬ (24 : Int32) ≤ nI n from nI_ge (b := 24) (by omega) (by omega)), show m = n by omega]
      subst em
      refine ⟨m + 1, X_write_loop (c := cdOf (x 2) n0 (x 5) n1) (y0 := y) (xl0 := xl) hq a1 a2 hm1 hm2 (bindsN_lt h3.1.1.1 _ _ _ _) h3.1 (by rw [G1]; exact a3) (by rw [G1]; exact a5) (fun x' g1 g2 => ?_) m 0 g (by omega) (fun _ _ => rfl) (fun a => by rw [if_neg (Nat.not_lt_zero a)])⟩
      unfold p_X10_write
      refine two_y d_year d_sheet hyr hq ⟨hin, ?_⟩
      rw [nI_clamp (by omega), a4]
      refine ⟨fun _ => Y_find hY fun y1 f1 hM hRM => ⟨hin, ?_⟩, fun z => absurd (nI_pos' (by omega)) z⟩
      unfold p_X10_lesser
      rw [f1.1 2 (by omega) (by omega), a6, em2]
      refine M_bindsOf (what := 0) hM hRM hyr (by omega) ⟨m + 1, M_write_loop hq a1 hm2 (bindsN_lt hM.1 _ _ _ _) hM (by rw [f1.1 1 (by omega) (by omega)]; exact a4) (fun y' k1 k2 => ⟨rfl, ?_⟩) m 0 y1 (by omega) (fun _ _ => rfl) (fun a => by rw [if_neg (by omega)])⟩
      have hRel := h.q (xl' := xl) hY h1 h2 f1
      refine Rel_sheet hRel (fun k hk => g1 k (by omega)) (fun k b1 b2 b3 b4 => k1 k b3) (hRel.2.1.up (q := q) (fun k b1 b2 => g1 k b2) (fun p hp => ⟨by rw [k1 1 (by omega)], by rw [k1 2 (by omega)]⟩) (fun a ha => by rw [k2 a, if_neg (by omega)]) (Or.inr ⟨f, n, a1, a2, ?_, ?_, ?_, ?_, fun i hi => ?_⟩))
      · rw [g1 _ (by omega), G1]; exact a3
      · rw [k1 1 (by omega), f1.1 1 (by omega) (by omega)]; exact a4
      · rw [g1 _ (by omega), G1]; exact a5
      · rw [k1 2 (by omega), f1.1 2 (by omega) (by omega)]; exact a6
      · rw [g2 i, k2 (60 * q + i)]
        by_cases e : i < m
        · rw [if_pos e, if_pos (by omega), show 60 * q + i - 60 * q = i by omega]
        · rw [if_neg e, if_neg (by omega), G2, f1.1 3 (by omega) (by omega)]; exact a7 i hi
  · refine two_n (d_within 30 (by omega)) (d_within 4 (by omega)) e ?_
    unfold p_X10_write
    exact two_n d_year d_sheet e ⟨rfl, h⟩
/-! copy -/
def runs (v1 v2 : Int32) (n : Nat) : Prop := ∃ i m, i + m ≤ n ∧ v1 = nI i ∧ v2 = nI m
theorem X_hasRun {x : Mem} {k n : Nat} {v1 v2 : Int32} {Qp : Int32 → Prop} (h2 : x k 2 = nI n) (hn : n ≤ 60) (h1 : runs v1 v2 n → Qp 1) (h0 : ¬ runs v1 v2 n → Qp 0) : p_X8_hasRun x k v1 v2 Qp := by
  unfold p_X8_hasRun
  rw [h2]
  by_cases c1 : v1 < 0
  · rw [if_pos c1]
    refine h0 fun ⟨i, m, hle, e1, e2⟩ => ?_
    rw [e1] at c1; exact nI_pos (by omega) c1
  rw [if_neg c1]
  by_cases c2 : v2 < 0
  · rw [if_pos c2]
    refine h0 fun ⟨i, m, hle, e1, e2⟩ => ?_
    rw [e2] at c2; exact nI_pos (by omega) c2
  rw [if_neg c2]
  obtain ⟨i, hi, e1⟩ := nI_of c1
  obtain ⟨m, hm, e2⟩ := nI_of c2
  have key : runs v1 v2 n ↔ i + m ≤ n := by
    constructor
    · rintro ⟨i', m', hle, e1', e2'⟩
      have a := (nI_eq hi (by omega)).mp (e1.symm.trans e1')
      have b := (nI_eq hm (by omega)).mp (e2.symm.trans e2')
      omega
    · exact fun hle => ⟨i, m, hle, e1, e2⟩
  by_cases c3 : n < m
  · rw [if_pos (by rw [e2]; exact nI_lt c3 hm)]
    exact h0 fun z => by have := key.mp z; omega
  rw [if_neg (by rw [e2]; exact nI_nlt (by omega) (by omega)), e2, e1, pk_sub (by omega)]
  by_cases c4 : n - m < i
  · rw [if_pos (nI_lt c4 hi)]
    exact h0 fun z => by have := key.mp z; omega
  · rw [if_neg (nI_nlt (by omega) (by omega))]
    exact h1 (key.mpr (by omega))
theorem M_copy2 {y0 : Mem} {q j m : Nat} {mv : Nat → Int32} {Qp : Int32 → Mem → Prop} (hq : q < 4) (hj : j + m ≤ 60) (h4 : ∀ a, a < m → y0 4 a = mv a) (hQ : ∀ y', (∀ k, k ≠ 3 → y' k = y0 k) → (∀ a, y' 3 a = if 60 * q + j ≤ a ∧ a < 60 * q + j + m then mv (a - (60 * q + j)) else y0 3 a) → Qp 1 y') : ∀ (r i : Nat) (y : Mem), i + r = m → (∀ k, k ≠ 3 → y k = y0 k) → (∀ a, y 3 a = if 60 * q + j ≤ a ∧ a < 60 * q + j + i then mv (a - (60 * q + j)) else y0 3 a) → b_X10_copy_157 (r + 1) y (nI q) (nI j) (nI m) (nI i) Qp := by
  intro r
  induction r with
  | zero =>
    intro i y hi g1 g2
    have : i = m := by omega
    subst this
    rw [b_X10_copy_157]; dsimp only
    exact ⟨fun _ => hQ y g1 g2, fun z => absurd (nI_le (Nat.le_refl _) (by omega)) z⟩
  | succ r ih =>
    intro i y hi g1 g2
    rw [b_X10_copy_157]; dsimp only
    rw [nI_clamp (show i < 2 ^ 31 by omega), g1 4 (by omega), h4 i (by omega), show (60 : Int32) = nI 60 from rfl, pk_mul, nI_add, nI_add, nI_clamp (by omega), nI_1]
    refine ⟨fun z => absurd z (nI_ge (by omega) (by omega)), fun _ => ⟨vp_in_nI (by omega) (by omega), vp_in_nI (by omega) (by omega), ?_⟩⟩
    refine ih (i + 1) _ (by omega) (fun k hk => by rw [up2_other _ _ _ hk]; exact g1 k hk) (fun a => ?_)
    rw [up2_row]
    by_cases e : a = 60 * q + j + i
    · rw [if_pos ⟨rfl, e⟩, if_pos (by omega), e, show 60 * q + j + i - (60 * q + j) = i by omega]
    · rw [if_neg (fun z => e z.2), g2 a]
      by_cases e2 : 60 * q + j ≤ a ∧ a < 60 * q + j + i
      · rw [if_pos e2, if_pos (by omega)]
      · rw [if_neg e2, if_neg (by omega)]
theorem M_copy1 {y0 : Mem} {p i q j m : Nat} {Qp : Int32 → Mem → Prop} (hp : p < 4) (hi : i + m ≤ 60) (hq : q < 4) (hj : j + m ≤ 60) (hQ : ∀ y', (∀ k, k ≠ 3 → k ≠ 4 → y' k = y0 k) → (∀ a, y' 3 a = if 60 * q + j ≤ a ∧ a < 60 * q + j + m then y0 3 (60 * p + i + (a - (60 * q + j))) else y0 3 a) → Qp 1 y') : ∀ (r d : Nat) (y : Mem), d + r = m → (∀ k, k ≠ 4 → y k = y0 k) → (∀ a, a < d → y 4 a = y0 3 (60 * p + i + a)) → b_X10_copy_120 (r + 1) y (nI p) (nI i) (nI q) (nI j) (nI m) (nI d) Qp := by
  intro r
  induction r with
  | zero =>
    intro d y hd g1 g2
    have : d = m := by omega
    subst this
    rw [b_X10_copy_120]; dsimp only
    refine ⟨fun _ => ⟨d + 1, M_copy2 (y0 := y) (mv := fun a => y0 3 (60 * p + i + a)) hq hj g2 (fun y' k1 k2 => hQ y' (fun k a3 a4 => (k1 k a3).trans (g1 k a4)) (fun a => ?_)) d 0 y (by omega) (fun _ _ => rfl) (fun a => by rw [if_neg (by omega)])⟩, fun z => absurd (nI_le (Nat.le_refl _) (by omega)) z⟩
    rw [k2 a, g1 3 (by omega)]
  | succ r ih =>
    intro d y hd g1 g2
    rw [b_X10_copy_120]; dsimp only
    rw [nI_clamp (show d < 2 ^ 31 by omega), g1 3 (by omega), show (60 : Int32) = nI 60 from rfl, pk_mul, nI_add, nI_add, nI_clamp (by omega), nI_1]
    refine ⟨fun z => absurd z (nI_ge (by omega) (by omega)), fun _ => ⟨vp_in_nI (by omega) (by omega), vp_in_nI (by omega) (by omega), ?_⟩⟩
    refine ih (d + 1) _ (by omega) (fun k hk => by rw [up2_other _ _ _ hk]; exact g1 k hk) (fun a ha => ?_)
    rw [up2_row]
    by_cases e : a = d
    · rw [if_pos ⟨rfl, e⟩, e]
    · rw [if_neg (fun z => e z.2)]; exact g2 a (by omega)
theorem st_copy : s_copy Rel := by
  intro x xl y h v1 v2 v3 v4 v5
  unfold p_X9_copy
  rcases two_c v1 v3 4 4 with ⟨p, q, hp, hq, e1, e2⟩ | e
  · subst e1 e2
    have inp : vp_in (nI p) 4 := vp_in_nI hp (by omega)
    have inq : vp_in (nI q) 4 := vp_in_nI hq (by omega)
    refine two_y (d_within 4 (by omega)) (d_within 4 (by omega)) hp hq ⟨inp, fun k ek => ⟨inq, fun k' ek' => ?_⟩⟩
    rw [q_eq hp] at ek
    rw [q_eq hq] at ek'
    subst ek ek'
    have f1 : p_X10_copy y (nI p) v2 (nI q) v4 v5 (fun r2 y1 => (-10 : Int32) - 1 = r2 ∧ Rel (up2 x 0 13 1) xl y1) ↔ p_X10_copy y (nI p) v2 (nI q) v4 v5 (fun r2 y1 => (-10 : Int32) - 1 = r2 ∧ Rel (up2 x 0 13 1) xl y1) := Iff.rfl
    rcases h.2.1 p hp with ⟨a1, a2⟩ | ⟨f, n, a1, a2, a3, a4, a5, a6, a7⟩
    · refine X_lost a1 ⟨fun z => absurd z (by decide), fun _ => ?_⟩
      unfold b_X9_copy_51 p_X9_find p_X10_copy b_X10_copy_35
      refine two_y d_sheet d_sheet hp hq ⟨inp, ?_⟩
      rw [nI_clamp (by omega), a2]
      exact ⟨fun _ => ⟨rfl, Rel_find h 1⟩, fun z => absurd (by decide) z⟩
    · refine X_nlost a5 a2 ⟨fun _ => ?_, fun z => absurd rfl z⟩
      rcases h.2.1 q hq with ⟨c1, c2⟩ | ⟨f', n', c1, c2, c3, c4, c5, c6, c7⟩
      · refine X_lost c1 ⟨fun z => absurd z (by decide), fun _ => ?_⟩
        unfold b_X9_copy_51 p_X9_find p_X10_copy b_X10_copy_35
        refine two_y d_sheet d_sheet hp hq ⟨inp, ?_⟩
        rw [nI_clamp (show p < 2 ^ 31 by omega), nI_clamp (show q < 2 ^ 31 by omega), a4, c2]
        exact ⟨fun z => absurd z (nI_pos (by omega)), fun _ => ⟨inq, fun z => absurd z nf_m1, fun _ => ⟨rfl, Rel_find h 1⟩⟩⟩
      · refine X_nlost c5 c2 ⟨fun _ => ?_, fun z => absurd rfl z⟩
        rw [a3, c3]
        refine ⟨fun hff => ?_, fun hff => ?_⟩
        · have hff := (nI_eq (by omega) (by omega)).mp hff
          subst hff
          -- a run that is not there
          have no : ¬ (runs v2 v5 n ∧ runs v4 v5 n') → b_X9_copy_99 x (fun r x1 => p_X10_copy y (nI p) v2 (nI q) v4 v5 (fun r2 y1 => r = r2 ∧ Rel x1 xl y1)) := by
            intro hno
            unfold b_X9_copy_99 p_X9_find p_X10_copy b_X10_copy_111
            refine two_y d_sheet d_sheet hp hq ⟨inp, ?_⟩
            rw [nI_clamp (show p < 2 ^ 31 by omega), nI_clamp (show q < 2 ^ 31 by omega), a4, c4, a6, c6]
            have bad : (-10 : Int32) - 2 = (-10 : Int32) - 2 ∧ Rel (up2 x 0 13 2) xl (up2 y 0 4 2) := ⟨rfl, Rel_find h 2⟩
            refine ⟨fun z => absurd z (nI_pos (by omega)), fun _ => ⟨inq, fun _ => ⟨inp, inq, fun _ => ⟨fun _ => bad, fun g2 => ⟨fun _ => bad, fun g4 => ⟨fun _ => bad, fun g5 => ⟨inp, fun _ => bad, fun z => ⟨inq, fun w => ?_, fun _ => bad⟩⟩⟩⟩⟩, fun z => absurd rfl z⟩, fun z => absurd (nI_pos' (by omega)) z⟩⟩
            obtain ⟨i, hi, e2⟩ := nI_of g2
            obtain ⟨j, hj, e4⟩ := nI_of g4
            obtain ⟨m, hm, e5⟩ := nI_of g5
            rw [e2, e5, nI_l (by omega), nI_l (by omega), nI_l (by omega), lN_add, pk_lLT (by omega) (by omega)] at z
            rw [e4, e5, nI_l (by omega), nI_l (by omega), nI_l (by omega), lN_add, pk_lLE (by omega) (by omega)] at w
            exact absurd ⟨⟨i, m, by omega, e2, e5⟩, ⟨j, m, by omega, e4, e5⟩⟩ hno
          refine X_hasRun a5 a2 (fun r1 => ⟨fun z => absurd z (by decide), fun _ => X_hasRun c5 c2 (fun r2 => ⟨fun z => absurd z (by decide), fun _ => ?_⟩) (fun r2 => ⟨fun _ => no (fun z => r2 z.2), fun z => absurd rfl z⟩)⟩) (fun r1 => ⟨fun _ => no (fun z => r1 z.1), fun z => absurd rfl z⟩)
          obtain ⟨i, m, hi, e2, e5⟩ := r1
          obtain ⟨j, m', hj, e4, e5'⟩ := r2
          have hmm : m = m' := (nI_eq (by omega) (by omega)).mp (e5.symm.trans e5')
          subst hmm
          subst e2 e4 e5
          rw [nI_clamp (show i < 2 ^ 31 by omega), nI_clamp (show j < 2 ^ 31 by omega), nI_clamp (show m < 2 ^ 31 by omega)]
          refine ⟨nI_pos (by omega), nI_pos (by omega), nI_pos (by omega), by omega, by omega, ?_⟩
          unfold p_X10_copy
          refine two_y d_sheet d_sheet hp hq ⟨inp, ?_⟩
          rw [nI_clamp (show p < 2 ^ 31 by omega), nI_clamp (show q < 2 ^ 31 by omega), a4, c4, a6, c6, nI_l (by omega), nI_l (by omega), nI_l (by omega), nI_l (by omega), nI_l (by omega), lN_add, lN_add, pk_lLT (by omega) (by omega), pk_lLE (by omega) (by omega)]
          refine ⟨fun z => absurd z (nI_pos (by omega)), fun _ => ⟨inq, fun _ => ⟨inp, inq, fun _ => ⟨fun z => absurd z (nI_pos (by omega)), fun _ => ⟨fun z => absurd z (nI_pos (by omega)), fun _ => ⟨fun z => absurd z (nI_pos (by omega)), fun _ => ⟨inp, fun z => absurd z (by omega), fun _ => ⟨inq, fun _ => ⟨m + 1, ?_⟩, fun z => absurd (by omega) z⟩⟩⟩⟩⟩, fun z => absurd rfl z⟩, fun z => absurd (nI_pos' (by omega)) z⟩⟩
          refine M_copy1 hp (by omega) hq (by omega) (fun y' k1 k2 => ⟨rfl, ?_⟩) m 0 y (by omega) (fun _ _ => rfl) (fun a ha => absurd ha (Nat.not_lt_zero a))
          refine Rel_sheet h (fun k hk => upR_other _ _ (by omega)) (fun k b1 b2 b3 b4 => k1 k b3 b4) (h.2.1.up (q := q) (fun k b1 b2 => upR_other _ _ b2) (fun o ho => ⟨by rw [k1 1 (by omega) (by omega)], by rw [k1 2 (by omega) (by omega)]⟩) (fun a ha => by rw [k2 a, if_neg (by omega)]) (Or.inr ⟨f, n', c1, c2, ?_, ?_, ?_, ?_, fun d hd => ?_⟩))
          · rw [upR_other _ _ (by omega)]; exact c3
          · rw [k1 1 (by omega) (by omega)]; exact c4
          · rw [upR_other _ _ (by omega)]; exact c5
          · rw [k1 2 (by omega) (by omega)]; exact c6
          · rw [upR_self, k2 (60 * q + d)]
            by_cases e : j ≤ d ∧ d < j + m
            · rw [pk_cpy_in e.1 e.2, if_pos (by omega), a7 (i + (d - j)) (by omega), show 60 * q + d - (60 * q + j) = d - j by omega, show 60 * p + (i + (d - j)) = 60 * p + i + (d - j) by omega]
            · rw [pk_cpy_out (by omega), if_neg (by omega)]; exact c7 d hd
        · unfold p_X9_find p_X10_copy
          refine two_y d_sheet d_sheet hp hq ⟨inp, ?_⟩
          rw [nI_clamp (show p < 2 ^ 31 by omega), nI_clamp (show q < 2 ^ 31 by omega), a4, c4]
          exact ⟨fun z => absurd z (nI_pos (by omega)), fun _ => ⟨inq, fun _ => ⟨inp, inq, fun z => absurd z hff, fun _ => ⟨rfl, Rel_find h 4⟩⟩, fun z => absurd (nI_pos' (by omega)) z⟩⟩
  · refine two_n (d_within 4 (by omega)) (d_within 4 (by omega)) e ?_
    unfold p_X10_copy
    exact two_n d_sheet d_sheet e ⟨rfl, h⟩
