/-! PURE: when he does a deed; exemptions -/
theorem oL_64 : ∀ A, A < 64 → ∀ F, F < 64 → oLoop (fun d => A.testBit d) (fun d => F.testBit d) 6 0 0 = 7 ∨ (oLoop (fun d => A.testBit d) (fun d => F.testBit d) 6 0 0 = 0 ∧ A = 0) ∨ (oLoop (fun d => A.testBit d) (fun d => F.testBit d) 6 0 0 ≠ 0 ∧ oLoop (fun d => A.testBit d) (fun d => F.testBit d) 6 0 0 ≤ 6 ∧ A = 2 ^ (oLoop (fun d => A.testBit d) (fun d => F.testBit d) 6 0 0 - 1) ∧ F.testBit (oLoop (fun d => A.testBit d) (fun d => F.testBit d) 6 0 0 - 1) = false) := by decide +kernel
theorem oL_1 : ∀ d, d < 6 → ∀ F, F < 64 → F.testBit d = false → oLoop (fun e => (2 ^ d).testBit e) (fun e => F.testBit e) 6 0 0 = d + 1 := by decide +kernel
/-- the deed he likes best of those not forbidden -/
def bestF (f : Nat → Bool) (l : Nat → Nat) (n li mo : Nat) : Prop := (li = 0 → mo = 0 ∧ ∀ e, e < n → f e = false → l e = 0) ∧ (li ≠ 0 → li ≤ n ∧ f (li - 1) = false ∧ 0 < l (li - 1) ∧ mo = l (li - 1) ∧ ∀ e, e < n → f e = false → l e < l (li - 1) ∨ (l e = l (li - 1) ∧ li - 1 ≤ e))
theorem best_loop (f : Nat → Bool) (l : Nat → Nat) : ∀ r d li mo, d + r = 6 → bestF f l d li mo → ∃ mo', bestF f l 6 (dLoop (fun _ => false) f l r d 0 li mo) mo' := by
  intro r
  induction r with
  | zero =>
    intro d li mo hd hb
    have : d = 6 := by omega
    subst this
    unfold dLoop
    rw [if_pos rfl]
    exact ⟨mo, hb⟩
  | succ r ih =>
    intro d li mo hd hb
    unfold dLoop
    rw [if_neg (by simp)]
    by_cases q : mo < l d ∧ f d = false
    · rw [if_pos q]
      refine ih (d + 1) (d + 1) (l d) (by omega) ⟨fun h => absurd h (by omega), fun _ => ⟨Nat.le_refl _, q.2, by show 0 < l d; omega, rfl, fun e he hf => ?_⟩⟩
      show l e < l d ∨ (l e = l d ∧ d ≤ e)
      by_cases z : e = d
      · subst z; exact Or.inr ⟨rfl, Nat.le_refl _⟩
      · left
        by_cases w : li = 0
        · have := (hb.1 w).2 e (by omega) hf; omega
        · obtain ⟨-, -, -, b4, b5⟩ := hb.2 w
          rcases b5 e (by omega) hf with b | b <;> omega
    · rw [if_neg q]
      refine ih (d + 1) li mo (by omega) ⟨fun h => ?_, fun h => ?_⟩
      · obtain ⟨a1, a2⟩ := hb.1 h
        refine ⟨a1, fun e he hf => ?_⟩
        by_cases z : e = d
        · subst z
          rcases Nat.lt_or_ge mo (l e) with w | w
          · exact absurd ⟨w, hf⟩ q
          · omega
        · exact a2 e (by omega) hf
      · obtain ⟨b1, b2, b3, b4, b5⟩ := hb.2 h
        refine ⟨by omega, b2, b3, b4, fun e he hf => ?_⟩
        by_cases z : e = d
        · subst z
          rcases Nat.lt_or_ge mo (l e) with w | w
          · exact absurd ⟨w, hf⟩ q
          · omega
        · exact b5 e (by omega) hf
theorem best_uniq {f : Nat → Bool} {l : Nat → Nat} {a b ma mb : Nat} (h1 : bestF f l 6 a ma) (h2 : bestF f l 6 b mb) : a = b := by
  by_cases qa : a = 0
  · by_cases qb : b = 0
    · omega
    · obtain ⟨b1, b2, b3, b4, b5⟩ := h2.2 qb
      have := (h1.1 qa).2 (b - 1) (by omega) b2
      omega
  · obtain ⟨a1, a2, a3, a4, a5⟩ := h1.2 qa
    by_cases qb : b = 0
    · have := (h2.1 qb).2 (a - 1) (by omega) a2
      omega
    · obtain ⟨b1, b2, b3, b4, b5⟩ := h2.2 qb
      have c1 := a5 (b - 1) (by omega) b2
      have c2 := b5 (a - 1) (by omega) a2
      omega
theorem does_cases {c : CD} {S h : Nat} : doesN c S h = 7 ∨ ((∀ e, e < 6 → oB c S h e = false) ∧ doesN c S h ≤ 6 ∧ ∃ mo, bestF (fB c S h) (lk c h) 6 (doesN c S h) mo) ∨ (doesN c S h ≠ 0 ∧ doesN c S h ≤ 6 ∧ (∀ e, e < 6 → (oB c S h e = true ↔ e = doesN c S h - 1)) ∧ fB c S h (doesN c S h - 1) = false) := by
  have e1 : oLoop (oB c S h) (fB c S h) 6 0 0 = oLoop (fun d => (mk 6 (oB c S h)).testBit d) (fun d => (mk 6 (fB c S h)).testBit d) 6 0 0 := oLoop_congr 6 0 0 fun e _ he => by
    rw [mk_bit, mk_bit]; simp [show e < 6 by omega]
  have e2 := oL_64 (mk 6 (oB c S h)) (mk_lt 6 _) (mk 6 (fB c S h)) (mk_lt 6 _)
  rw [← e1] at e2
  have dl := dLoop_o (oB c S h) (fB c S h) (lk c h) 6 0 0 0 0
  rcases e2 with h7 | ⟨h0, hA⟩ | ⟨hn, hle, hA, hF⟩
  · left
    unfold doesN
    rw [dl.1 (by omega)]; exact h7
  · right; left
    have ed : doesN c S h = dLoop (fun _ => false) (fB c S h) (lk c h) 6 0 0 0 0 := dl.2 h0
    refine ⟨fun e he => ?_, ?_, ?_⟩
    · have : (mk 6 (oB c S h)).testBit e = false := by rw [hA]; simp
      rw [mk_bit] at this
      simpa [he] using this
    · rw [ed]; exact dLoop_no7 _ _ 6 0 0 0 rfl (by omega)
    · rw [ed]
      exact best_loop (fB c S h) (lk c h) 6 0 0 0 rfl ⟨fun _ => ⟨rfl, fun e he => absurd he (Nat.not_lt_zero _)⟩, fun z => absurd rfl z⟩
  · right; right
    have ed : doesN c S h = oLoop (oB c S h) (fB c S h) 6 0 0 := dl.1 hn
    rw [← ed] at hn hle hA hF
    refine ⟨hn, hle, fun e he => ?_, ?_⟩
    · have : (mk 6 (oB c S h)).testBit e = (2 ^ (doesN c S h - 1)).testBit e := by rw [hA]
      rw [mk_bit, bit2] at this
      simp only [he, decide_true, Bool.true_and] at this
      rw [this, decide_eq_true_iff]
      exact ⟨fun q => q.symm, fun q => q.symm⟩
    · rw [mk_bit] at hF
      simpa [show doesN c S h - 1 < 6 by omega] using hF
theorem does_o {c : CD} {S h d : Nat} (hd : d < 6) (h1 : ∀ e, e < 6 → (oB c S h e = true ↔ e = d)) (h2 : fB c S h d = false) : doesN c S h = d + 1 := by
  rcases does_cases (c := c) (S := S) (h := h) with q | ⟨q, -⟩ | ⟨q1, q2, q3, q4⟩
  · exfalso
    rcases does7_b.mp q with ⟨a, b, ha, hb, hn, o1, o2⟩ | ⟨a, ha, o1, o2⟩
    · have := (h1 a ha).mp o1
      have := (h1 b hb).mp o2
      omega
    · have := (h1 a ha).mp o1
      subst this
      rw [h2] at o2; cases o2
  · have := q d hd
    rw [(h1 d hd).mpr rfl] at this; cases this
  · have := (h1 _ (show doesN c S h - 1 < 6 by omega)).mp ((q3 _ (by omega)).mpr rfl)
    omega
theorem does_n {c : CD} {S h w mo : Nat} (h1 : ∀ e, e < 6 → oB c S h e = false) (h2 : bestF (fB c S h) (lk c h) 6 w mo) : doesN c S h = w := by
  rcases does_cases (c := c) (S := S) (h := h) with q | ⟨q, q2, mo', q3⟩ | ⟨q1, q2, q3, q4⟩
  · exfalso
    rcases does7_b.mp q with ⟨a, b, ha, hb, hn, o1, o2⟩ | ⟨a, ha, o1, o2⟩
    · rw [h1 a ha] at o1; cases o1
    · rw [h1 a ha] at o1; cases o1
  · exact best_uniq q3 h2
  · have := (q3 _ (show doesN c S h - 1 < 6 by omega)).mpr rfl
    rw [h1 _ (by omega)] at this; cases this
theorem hin0 {c : CD} (hc : CDok c) {h w S : Nat} (hw : w ≤ 6) : hin c h w S = 0 ↔ (∀ e, e < 6 → oB c S h e = true → e + 1 = w) ∧ (∀ e, e < 6 → fB c S h e = true → e + 1 ≠ w) := by
  have hk : hin c h w S = 0 ↔ ∀ l, l < kl c → (S.testBit l && (cov c l h && (if dl c l 0 = 1 then decide (dl c l 1 + 1 ≠ w) else decide (dl c l 1 + 1 = w)))) = false := by
    constructor
    · intro q l hl
      have : (hin c h w S).testBit l = false := by rw [q]; simp
      unfold hin at this
      rw [mk_bit] at this
      simpa [hl] using this
    · intro q
      apply Nat.eq_of_testBit_eq
      intro l
      unfold hin
      rw [mk_bit]
      by_cases hl : l < kl c
      · rw [q l hl]; simp
      · simp [hl]
  rw [hk]
  constructor
  · intro q
    refine ⟨fun e he ho => ?_, fun e he hf z => ?_⟩
    · obtain ⟨l, l1, l2, l3, l4, l5⟩ := oB_iff.mp ho
      have := q l l1
      rw [l2, l3, if_pos l4, l5] at this
      simpa using this
    · obtain ⟨l, l1, l2, l3, l4, l5⟩ := fB_iff.mp hf
      have := q l l1
      rw [l2, l3, if_neg (by omega), l5] at this
      simp at this
      omega
  · rintro ⟨q1, q2⟩ l hl
    rw [Bool.eq_false_iff]
    intro z
    simp only [Bool.and_eq_true] at z
    obtain ⟨z1, z2, z3⟩ := z
    have o := hc.2.2.1 l hl
    by_cases e : dl c l 0 = 1
    · rw [if_pos e] at z3
      have := q1 _ (show dl c l 1 < 6 by omega) (oB_iff.mpr ⟨l, hl, z1, z2, e, rfl⟩)
      simp at z3
      omega
    · rw [if_neg e] at z3
      have := q2 _ (show dl c l 1 < 6 by omega) (fB_iff.mpr ⟨l, hl, z1, z2, by omega, rfl⟩)
      simp at z3
      omega
/-- he does w (deed + 1; 0 nothing) -/
theorem does_w {c : CD} (hc : CDok c) {S h w : Nat} (hw : w ≤ 6) : doesN c S h = w ↔ hin c h w S = 0 ∧ ((w ≠ 0 ∧ oB c S h (w - 1) = true) ∨ ((w = 0 ∨ 0 < lk c h (w - 1)) ∧ ∀ e, e < 6 → pref c h e w = true → fB c S h e = true)) := by
  rw [hin0 hc hw]
  constructor
  · intro hd
    rcases does_cases (c := c) (S := S) (h := h) with q | ⟨q, q2, mo, q3⟩ | ⟨q1, q2, q3, q4⟩
    · omega
    · rw [hd] at q3
      refine ⟨⟨fun e he ho => absurd ho (by rw [q e he]; decide), fun e he hf z => ?_⟩, Or.inr ⟨?_, fun e he hp => ?_⟩⟩
      · have := (q3.2 (by omega)).2.1
        rw [show w - 1 = e by omega, hf] at this; cases this
      · by_cases z : w = 0
        · exact Or.inl z
        · exact Or.inr (q3.2 z).2.2.1
      · cases hf : fB c S h e with
        | true => rfl
        | false =>
          exfalso
          unfold pref at hp
          by_cases z : w = 0
          · rw [if_pos z, decide_eq_true_iff] at hp
            have := (q3.1 z).2 e he hf
            omega
          · rw [if_neg z] at hp
            have := (q3.2 z).2.2.2.2 e he hf
            simp only [Bool.or_eq_true, Bool.and_eq_true, decide_eq_true_eq] at hp
            omega
    · rw [hd] at q1 q2 q3 q4
      refine ⟨⟨fun e he ho => by have := (q3 e he).mp ho; omega, fun e he hf z => ?_⟩, Or.inl ⟨q1, (q3 _ (by omega)).mpr rfl⟩⟩
      rw [show w - 1 = e by omega, hf] at q4; cases q4
  · rintro ⟨⟨h1, h2⟩, (⟨h3, h4⟩ | ⟨h3, h4⟩)⟩
    · have := does_o (c := c) (S := S) (h := h) (d := w - 1) (by omega) (fun e he => ⟨fun ho => by have := h1 e he ho; omega, fun z => by subst z; exact h4⟩) (by
        rw [Bool.eq_false_iff]
        intro z
        exact h2 _ (by omega) z (by omega))
      omega
    · by_cases ho : w ≠ 0 ∧ oB c S h (w - 1) = true
      · have := does_o (c := c) (S := S) (h := h) (d := w - 1) (by omega) (fun e he => ⟨fun q => by have := h1 e he q; omega, fun z => by subst z; exact ho.2⟩) (by
          rw [Bool.eq_false_iff]
          intro z
          exact h2 _ (by omega) z (by omega))
        omega
      · have hno : ∀ e, e < 6 → oB c S h e = false := by
          intro e he
          rw [Bool.eq_false_iff]
          intro q
          have := h1 e he q
          exact ho ⟨by omega, by rw [show w - 1 = e by omega]; exact q⟩
        refine does_n (mo := if w = 0 then 0 else lk c h (w - 1)) hno ⟨fun z => ⟨if_pos z, fun e he hf => ?_⟩, fun z => ⟨by omega, ?_, by omega, if_neg z, fun e he hf => ?_⟩⟩
        · have := h4 e he
          unfold pref at this
          rw [if_pos z, decide_eq_true_iff, hf] at this
          rcases Nat.eq_zero_or_pos (lk c h e) with q | q
          · exact q
          · exact absurd (this q) (by simp)
        · rw [Bool.eq_false_iff]
          intro q
          exact h2 _ (by omega) q (by omega)
        · have := h4 e he
          unfold pref at this
          rw [if_neg z, hf] at this
          simp only [Bool.or_eq_true, Bool.and_eq_true, decide_eq_true_eq] at this
          have : ¬ (lk c h (w - 1) < lk c h e ∨ 0 < lk c h e ∧ lk c h e = lk c h (w - 1) ∧ e + 1 < w) := fun q => absurd (this q) (by simp)
          omega
theorem hin_sub {c : CD} {h w set m : Nat} (h0 : hin c h w (sd set m) = 0) {i : Nat} (hi : (hin c h w set).testBit i = true) : m.testBit i = true := by
  have : (hin c h w (sd set m)).testBit i = false := by rw [h0]; simp
  unfold hin at this hi
  rw [mk_bit, sd_bit] at this
  rw [mk_bit] at hi
  cases hm : m.testBit i with
  | true => rfl
  | false =>
    rw [hm] at this
    simp only [Bool.not_false, Bool.and_true] at this
    rw [this] at hi; cases hi
theorem hin_self {c : CD} (h w set : Nat) : hin c h w (sd set (hin c h w set)) = 0 := by
  apply Nat.eq_of_testBit_eq
  intro i
  have e1 : (hin c h w (sd set (hin c h w set))).testBit i = (decide (i < kl c) && (((sd set (hin c h w set)).testBit i) && (cov c i h && (if dl c i 0 = 1 then decide (dl c i 1 + 1 ≠ w) else decide (dl c i 1 + 1 = w))))) := by
    show (mk (kl c) _).testBit i = _
    rw [mk_bit]
  have e2 : (hin c h w set).testBit i = (decide (i < kl c) && (set.testBit i && (cov c i h && (if dl c i 0 = 1 then decide (dl c i 1 + 1 ≠ w) else decide (dl c i 1 + 1 = w))))) := by
    show (mk (kl c) _).testBit i = _
    rw [mk_bit]
  rw [e1, sd_bit, e2]
  generalize decide (i < kl c) = x1
  generalize set.testBit i = x2
  generalize (cov c i h && (if dl c i 0 = 1 then decide (dl c i 1 + 1 ≠ w) else decide (dl c i 1 + 1 = w))) = x3
  cases x1 <;> cases x2 <;> cases x3 <;> simp
theorem hin_le {c : CD} {h w set m : Nat} (h0 : hin c h w (sd set m) = 0) : hin c h w set ≤ m := by
  have : hin c h w set &&& m = hin c h w set := by
    apply Nat.eq_of_testBit_eq
    intro i
    rw [Nat.testBit_and]
    cases q : (hin c h w set).testBit i with
    | false => rfl
    | true => rw [hin_sub h0 q]; rfl
  rw [← this]
  exact Nat.and_le_right
theorem oB_mono {c : CD} {S S' h d : Nat} (hs : ∀ i, S.testBit i = true → S'.testBit i = true) (ho : oB c S h d = true) : oB c S' h d = true := by
  obtain ⟨l, l1, l2, l3⟩ := oB_iff.mp ho
  exact oB_iff.mpr ⟨l, l1, hs l l2, l3⟩
theorem fB_mono {c : CD} {S S' h d : Nat} (hs : ∀ i, S.testBit i = true → S'.testBit i = true) (ho : fB c S h d = true) : fB c S' h d = true := by
  obtain ⟨l, l1, l2, l3⟩ := fB_iff.mp ho
  exact fB_iff.mpr ⟨l, l1, hs l l2, l3⟩
theorem sol_hin {c : CD} (hc : CDok c) {h w set m : Nat} (hw : w ≤ 6) (hd : doesN c (sd set m) h = w) : doesN c (sd set (hin c h w set)) h = w := by
  rw [does_w hc hw] at hd ⊢
  refine ⟨hin_self h w set, ?_⟩
  have hs : ∀ i, (sd set m).testBit i = true → (sd set (hin c h w set)).testBit i = true := by
    intro i hi
    rw [sd_bit] at hi ⊢
    cases q : (hin c h w set).testBit i with
    | false => cases q2 : set.testBit i with
      | true => rfl
      | false => rw [q2] at hi; cases hi
    | true =>
      rw [hin_sub hd.1 q] at hi
      simp at hi
  rcases hd.2 with ⟨a, b⟩ | ⟨a, b⟩
  · exact Or.inl ⟨a, oB_mono hs b⟩
  · exact Or.inr ⟨a, fun e he hp => fB_mono hs (b e he hp)⟩
theorem sd0_iff {a b : Nat} : sd a b = 0 ↔ ∀ i, a.testBit i = true → b.testBit i = true := by
  constructor
  · intro h i hi
    have : (sd a b).testBit i = false := by rw [h]; simp
    rw [sd_bit, hi] at this
    simpa using this
  · intro h
    apply Nat.eq_of_testBit_eq
    intro i
    rw [sd_bit]
    cases hx : a.testBit i with
    | false => simp
    | true => rw [h i hx]; simp
theorem hin_set {c : CD} (h w set : Nat) : sd (hin c h w set) set = 0 := by
  rw [sd0_iff]
  intro i hi
  unfold hin at hi
  rw [mk_bit] at hi
  simp only [Bool.and_eq_true] at hi
  exact hi.2.1
theorem M_ex_loop {c : CD} {y : Mem} {h w set : Nat} {Qp : Int32 → Prop} (hM : MC c y) (hh : h < 24) (hw : w ≤ 6) (hs : set < 4096) (hQ : Qp (dI (exN c h w set))) : ∀ r i : Nat, i + r = 2 ^ kl c → b_X10_exemptOf_14 (r + 1) y (nI h) (dI w) (nI set) (dI (if hin c h w set < i then exN c h w set else 0)) (nI i) Qp := by
  have hc := hM.1
  have hk12 := hc.1
  have hp : 2 ^ kl c ≤ 4096 := Nat.pow_le_pow_right (n := 2) (by omega) hk12
  have hhl : hin c h w set < 2 ^ kl c := mk_lt _ _
  have hex : exN c h w set ≤ 4096 := by unfold exN; split <;> omega
  intro r
  induction r with
  | zero =>
    intro i hi
    have : i = 2 ^ kl c := by omega
    subst this
    rw [b_X10_exemptOf_14]; dsimp only
    rw [show (0 : Int32).toNatClampNeg = 0 by decide, hM.2.1, shl1 (by omega), if_pos hhl]
    exact ⟨vp_in_nI (n := 0) (by omega) (by omega), fun _ => hQ, fun h => absurd (nI_le (Nat.le_refl _) (by omega)) h⟩
  | succ r ih =>
    intro i hi
    have hn := ih (i + 1) (by omega)
    have hsl : sd set i < 2 ^ 12 := sd_lt hs
    rw [b_X10_exemptOf_14]; dsimp only
    unfold b_X10_exemptOf_56 b_X10_exemptOf_79 b_X10_exemptOf_81
    rw [show (0 : Int32).toNatClampNeg = 0 by decide, hM.2.1, shl1 (by omega), nI_sd (by omega) (by omega), nI_sd (by omega) (by omega), nI_1, nI_eq0 (show sd i set < 2 ^ 31 from Nat.lt_trans (sd_lt (n := 12) (by omega)) (by omega))]
    have same : ∀ b, b = (if hin c h w set < i + 1 then exN c h w set else 0) → b_X10_exemptOf_14 (r + 1) y (nI h) (dI w) (nI set) (dI b) (nI (i + 1)) Qp := fun b e => by rw [e]; exact hn
    refine ⟨vp_in_nI (n := 0) (by omega) (by omega), fun z => absurd z (nI_ge (by omega) (by omega)), fun _ => ⟨fun hsub => ⟨fun hb => ?_, fun hb => ?_⟩, fun hsub => ?_⟩⟩
    · have hb := (dI_m1 (by split <;> omega)).mp hb
      refine M_doesBy hM hsl hh ?_
      have hdl := doesN_le c (sd set i) h
      by_cases hd : doesN c (sd set i) h = w
      · rw [if_pos ((dI_inj (by omega) (by omega)).mpr hd), ← dI_s i]
        refine same _ ?_
        have h1 := hin_le ((does_w hc hw).mp hd).1
        have h2 := sol_hin hc hw hd
        have h3 : exN c h w set = hin c h w set + 1 := if_pos h2
        rw [if_pos (by omega), h3]
        rw [h3] at hb
        by_cases q : hin c h w set < i
        · rw [if_pos q] at hb; omega
        · omega
      · rw [if_neg (fun q => hd ((dI_inj (by omega) (by omega)).mp q))]
        refine same _ ?_
        by_cases q : hin c h w set < i
        · rw [if_pos q, if_pos (by omega)]
        · rw [if_neg q]
          by_cases q2 : hin c h w set < i + 1
          · rw [if_pos q2]
            have : i = hin c h w set := by omega
            rw [this] at hd
            exact (if_neg hd).symm
          · rw [if_neg q2]
    · have hb : (if hin c h w set < i then exN c h w set else 0) ≠ 0 := fun q => hb ((dI_m1 (by split <;> omega)).mpr q)
      have q : hin c h w set < i := by
        rcases Nat.lt_or_ge (hin c h w set) i with q | q
        · exact q
        · rw [if_neg (by omega)] at hb; exact absurd rfl hb
      rw [if_pos q] at hb
      have h3 : exN c h w set = hin c h w set + 1 := by
        unfold exN at hb ⊢
        split
        · rfl
        · rename_i z; rw [if_neg z] at hb; exact absurd rfl hb
      rw [if_pos q, h3, dI_s]
      refine M_ones (by omega) (M_ones (by omega) ⟨fun _ => ?_, fun z => ?_⟩)
      · rw [← dI_s (hin c h w set)]
        exact same _ (by rw [if_pos (by omega), h3])
      · refine M_doesBy hM hsl hh ?_
        have hdl := doesN_le c (sd set i) h
        by_cases hd : doesN c (sd set i) h = w
        · exfalso
          have h1 := pop_mono (n := 12) (a := hin c h w set) (b := i) (fun j _ hj => hin_sub ((does_w hc hw).mp hd).1 hj)
          have := pop_le 12 i
          exact z (nI_le h1 (by omega))
        · rw [if_neg (fun q => hd ((dI_inj (by omega) (by omega)).mp q)), ← dI_s (hin c h w set)]
          exact same _ (by rw [if_pos (by omega), h3])
    · refine same _ ?_
      by_cases q : hin c h w set < i
      · rw [if_pos q, if_pos (by omega)]
      · rw [if_neg q]
        have : hin c h w set ≠ i := fun z => hsub (by rw [← z]; exact hin_set h w set)
        rw [if_neg (by omega)]
theorem M_exemptOf {c : CD} {R : Nat → Nat} {la : Nat → Bool} {y : Mem} {year h w : Nat} {Qp : Int32 → Prop} (hM : MC c y) (hR : RM R la y) (hy : year < 30) (hh : h < 24) (hw : w ≤ 6) (hQ : Qp (dI (exN c h w (bindsN c R la year 0)))) : p_X10_exemptOf y (nI year) (nI h) (dI w) Qp :=
  M_bindsOf (what := 0) hM hR hy (by omega) ⟨2 ^ kl c + 1, M_ex_loop hM hh hw (bindsN_lt hM.1 _ _ _ _) hQ (2 ^ kl c) 0 (by omega)⟩
