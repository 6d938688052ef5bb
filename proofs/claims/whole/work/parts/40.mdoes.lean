/-! PURE: what the king does, by the reference -/
theorem ones_64 : ∀ a, a < 64 → ∀ b, b < 64 → 64 * a + b ≠ 0 → pop 12 ((64 * a + b) &&& (64 * a + b - 1)) + 1 = pop 12 (64 * a + b) ∧ (64 * a + b) &&& (64 * a + b - 1) < 64 * a + b := by decide +kernel
theorem pop0_64 : ∀ a, a < 64 → ∀ b, b < 64 → (pop 12 (64 * a + b) = 0 ↔ 64 * a + b = 0) := by decide +kernel
theorem M_ones_loop {Qp : Int32 → Prop} : ∀ (r m k : Nat), m < 4096 → pop 12 m = r → Qp (nI (k + r)) → b_X10_ones_4 (r + 1) (nI k) (nI m) Qp := by
  intro r
  induction r with
  | zero =>
    intro m k hm hp hQ
    have h0 : m = 0 := (by64 (P := fun m => pop 12 m = 0 ↔ m = 0) pop0_64 hm).mp hp
    subst h0
    rw [b_X10_ones_4]; dsimp only
    exact ⟨fun _ => hQ, fun h => absurd rfl h⟩
  | succ r ih =>
    intro m k hm hp hQ
    have h0 : m ≠ 0 := fun e => by rw [e] at hp; exact absurd hp (by simp [show pop 12 0 = 0 by decide])
    obtain ⟨h1, h2⟩ := by64 (P := fun m => m ≠ 0 → pop 12 (m &&& (m - 1)) + 1 = pop 12 m ∧ m &&& (m - 1) < m) ones_64 hm h0
    rw [b_X10_ones_4]; dsimp only
    refine ⟨fun h => absurd ((nI_eq0 (by omega)).mp h) h0, fun _ x2 e2 => ?_⟩
    rw [show (1 : Int32) = nI 1 from rfl, pk_sub (by omega), nI_and (by omega) (by omega)] at e2
    subst e2
    rw [nI_1]
    exact ih _ (k + 1) (by omega) (by omega) (by rw [show k + 1 + r = k + (r + 1) by omega]; exact hQ)
theorem M_ones {m : Nat} {Qp : Int32 → Prop} (hm : m < 4096) (hQ : Qp (nI (pop 12 m))) : p_X10_ones (nI m) Qp := ⟨pop 12 m + 1, M_ones_loop (pop 12 m) m 0 hm rfl (by rw [Nat.zero_add]; exact hQ)⟩
theorem M_isIn {s i : Nat} {Qp : Int32 → Prop} (hs : s < 2 ^ 31) (hi : i < 32) (hQ : Qp (b2 (s.testBit i))) : p_X10_isIn (nI s) (nI i) Qp := by
  unfold p_X10_isIn
  cases h : s.testBit i with
  | true => rw [if_pos ((isIn_1 hs hi).mpr h)]; rw [h] at hQ; exact hQ
  | false => rw [if_neg (fun z => by rw [(isIn_1 hs hi).mp z] at h; cases h)]; rw [h] at hQ; exact hQ
theorem M_in32 {v lo hi : Int32} {Qp : Int32 → Prop} (hQ : Qp (b2 (decide (lo ≤ v) && decide (v ≤ hi)))) : p_X10_in v.toInt64 lo.toInt64 hi.toInt64 Qp := by
  unfold p_X10_in
  by_cases c1 : v < lo
  · rw [if_pos (i2l_lt.mpr c1)]
    have : ¬ lo ≤ v := Int32.not_le.mpr c1
    simpa [b2, this] using hQ
  · rw [if_neg (fun z => c1 (i2l_lt.mp z))]
    have h1 : lo ≤ v := Int32.not_lt.mp c1
    by_cases c2 : hi < v
    · rw [if_pos (i2l_lt.mpr c2)]
      have : ¬ v ≤ hi := Int32.not_le.mpr c2
      simpa [b2, this] using hQ
    · rw [if_neg (fun z => c2 (i2l_lt.mp z))]
      have h2 : v ≤ hi := Int32.not_lt.mp c2
      simpa [b2, h1, h2] using hQ
theorem M_covers {c : CD} {y : Mem} {l h : Nat} {Qp : Int32 → Prop} (hM : MC c y) (hl : l < kl c) (hh : h < 24) (hQ : Qp (b2 (cov c l h))) : p_X10_covers y (nI l) (nI h) Qp := by
  have hk12 := hM.1.1
  obtain ⟨a0, a1, a2, a3, a4⟩ := hM.2.2.2.1 l hl
  obtain ⟨o0, o1, o2, o3, o4⟩ := hM.1.2.2.1 l hl
  unfold p_X10_covers
  rw [show (5 : Int32) = nI 5 from rfl, pk_mul, show (2 : Int32) = nI 2 from rfl, show (3 : Int32) = nI 3 from rfl, nI_add, nI_add, nI_clamp (by omega), nI_clamp (by omega), a2, a3]
  refine ⟨vp_in_nI (by omega) (by omega), fun x2 e2 => ⟨vp_in_nI (by omega) (by omega), fun x4 e4 => ?_⟩⟩
  subst e2; subst e4
  rw [nI_ltI (by omega) (by omega)]
  unfold cov at hQ
  refine ⟨fun c1 => ?_, fun c1 => ?_⟩
  · rw [if_neg (by omega)] at hQ
    by_cases c2 : dl c l 2 ≤ h
    · rw [if_pos (nI_le c2 (by omega))]
      simpa [b2, c2] using hQ
    · rw [if_neg (fun z => c2 ((nI_leI (by omega) (by omega)).mp z))]
      by_cases c3 : h ≤ dl c l 3
      · rw [if_neg (nI_nlt c3 (by omega))]
        simpa [b2, c2, c3] using hQ
      · rw [if_pos (nI_lt (by omega) (by omega))]
        simpa [b2, c2, c3] using hQ
  · rw [if_pos (by omega)] at hQ
    refine M_in32 ?_
    have e1 : decide (nI (dl c l 2) ≤ nI h) = decide (dl c l 2 ≤ h) := decide_eq_decide.mpr (nI_leI (by omega) (by omega))
    have e2 : decide (nI h ≤ nI (dl c l 3)) = decide (h ≤ dl c l 3) := decide_eq_decide.mpr (nI_leI (by omega) (by omega))
    rw [e1, e2]; exact hQ
theorem M_likes_loop {c : CD} {y : Mem} {d h : Nat} {Qp : Int32 → Prop} (hM : MC c y) (hd : d < 6) (hh : h < 24) (hQ : Qp (nI (lk c h d))) : ∀ r k : Nat, k + r = kw c → b_X10_likes_5 (r + 1) y (nI d) (nI h) (nI (sumTo k (fun w => if dw c w 0 = d ∧ dw c w 1 = h then dw c w 2 else 0))) (nI k) Qp := by
  have hk12 := hM.1.2.1
  intro r
  induction r with
  | zero =>
    intro k hk
    have : k = kw c := by omega
    subst this
    rw [b_X10_likes_5]; dsimp only
    rw [show (1 : Int32).toNatClampNeg = 1 by decide, hM.2.2.1]
    exact ⟨vp_in_nI (n := 1) (by omega) (by omega), fun _ => hQ, fun h => absurd (nI_le (Nat.le_refl _) (by omega)) h⟩
  | succ r ih =>
    intro k hk
    obtain ⟨a0, a1, a2⟩ := hM.2.2.2.2 k (by omega)
    obtain ⟨o0, o1, o2, o3⟩ := hM.1.2.2.2 k (by omega)
    rw [b_X10_likes_5]; dsimp only
    unfold b_X10_likes_59 b_X10_likes_60
    rw [show (1 : Int32).toNatClampNeg = 1 by decide, hM.2.2.1]
    refine ⟨vp_in_nI (n := 1) (by omega) (by omega), fun h => absurd h (nI_ge (by omega) (by omega)), fun _ => ?_⟩
    rw [show (3 : Int32) = nI 3 from rfl, pk_mul, nI_1 (3 * k), show (2 : Int32) = nI 2 from rfl, nI_add, nI_clamp (by omega), nI_clamp (by omega), nI_clamp (by omega), a0, a1, a2, nI_eq (by omega) (by omega), nI_eq (by omega) (by omega), nI_1]
    have hi := ih (k + 1) (by omega)
    rw [sumTo] at hi
    have same : ¬ (dw c k 0 = d ∧ dw c k 1 = h) → b_X10_likes_5 (r + 1) y (nI d) (nI h) (nI (sumTo k (fun w => if dw c w 0 = d ∧ dw c w 1 = h then dw c w 2 else 0)) + 0) (nI (k + 1)) Qp := by
      intro e
      rw [if_neg e] at hi
      rw [show (0 : Int32) = nI 0 from rfl, nI_add]
      exact hi
    refine ⟨vp_in_nI (by omega) (by omega), fun e => ⟨vp_in_nI (by omega) (by omega), fun e2 => ⟨vp_in_nI (by omega) (by omega), ?_⟩, fun e2 => same (fun z => e2 z.2)⟩, fun e => same (fun z => e z.1)⟩
    rw [if_pos ⟨e, e2⟩] at hi
    rw [nI_add]
    exact hi
theorem M_likes {c : CD} {y : Mem} {d h : Nat} {Qp : Int32 → Prop} (hM : MC c y) (hd : d < 6) (hh : h < 24) (hQ : Qp (nI (lk c h d))) : p_X10_likes y (nI d) (nI h) Qp := ⟨kw c + 1, M_likes_loop hM hd hh hQ (kw c) 0 (by omega)⟩
/-- without likes -/
def oLoop (o f : Nat → Bool) : Nat → Nat → Nat → Nat
  | 0, _, od => od
  | r + 1, d, od => if o d = true then (if f d = true ∨ od ≠ 0 then 7 else oLoop o f r (d + 1) (d + 1)) else oLoop o f r (d + 1) od
theorem oLoop_ne (o f : Nat → Bool) : ∀ r d od, od ≠ 0 → oLoop o f r d od ≠ 0 := by
  intro r
  induction r with
  | zero => intro d od h; exact h
  | succ r ih =>
    intro d od h
    unfold oLoop
    split
    · split
      · omega
      · exact ih _ _ (by omega)
    · exact ih _ _ h
theorem dLoop_o (o f : Nat → Bool) (l : Nat → Nat) : ∀ r d od li mo, (oLoop o f r d od ≠ 0 → dLoop o f l r d od li mo = oLoop o f r d od) ∧ (oLoop o f r d od = 0 → dLoop o f l r d od li mo = dLoop (fun _ => false) f l r d 0 li mo) := by
  intro r
  induction r with
  | zero =>
    intro d od li mo
    unfold oLoop dLoop
    exact ⟨fun h => if_neg h, fun h => by rw [h]⟩
  | succ r ih =>
    intro d od li mo
    unfold oLoop dLoop
    by_cases c1 : o d = true
    · rw [if_pos c1, if_pos c1]
      by_cases c2 : f d = true ∨ od ≠ 0
      · rw [if_pos c2, if_pos c2]; exact ⟨fun _ => rfl, fun h => absurd h (by omega)⟩
      · rw [if_neg c2, if_neg c2]
        have hne := oLoop_ne o f r (d + 1) (d + 1) (by omega)
        exact ⟨fun h => (ih _ _ _ _).1 h, fun h => absurd h hne⟩
    · rw [if_neg c1, if_neg c1, if_neg (show ¬ (false = true) by decide)]
      by_cases c2 : mo < l d ∧ f d = false
      · rw [if_pos c2, if_pos c2]; exact ih _ _ _ _
      · rw [if_neg c2, if_neg c2]; exact ih _ _ _ _
theorem oLoop_congr {o o' f f' : Nat → Bool} : ∀ r d od, (∀ e, d ≤ e → e < d + r → o e = o' e ∧ f e = f' e) → oLoop o f r d od = oLoop o' f' r d od := by
  intro r
  induction r with
  | zero => intro d od h; rfl
  | succ r ih =>
    intro d od h
    unfold oLoop
    rw [(h d (by omega) (by omega)).1, (h d (by omega) (by omega)).2]
    rw [ih (d + 1) (d + 1) (fun e h1 h2 => h e (by omega) (by omega)), ih (d + 1) od (fun e h1 h2 => h e (by omega) (by omega))]
def ovF (A : Nat) : Nat → Nat → Nat → Nat
  | 0, _, b => b
  | r + 1, d, b => ovF A r (d + 1) (if A.testBit d = true then d + 1 else b)
theorem clash_64 : ∀ A, A < 64 → ∀ F, F < 64 → (1 < pop 12 A ∨ A &&& F ≠ 0) → oLoop (fun d => A.testBit d) (fun d => F.testBit d) 6 0 0 = 7 := by decide +kernel
theorem noclash_64 : ∀ A, A < 64 → ∀ F, F < 64 → ¬ (1 < pop 12 A ∨ A &&& F ≠ 0) → ∀ b, b < 8 → ovF A 6 0 b = if oLoop (fun d => A.testBit d) (fun d => F.testBit d) 6 0 0 = 0 then b else oLoop (fun d => A.testBit d) (fun d => F.testBit d) 6 0 0 := by decide +kernel
/-- what is ordered by the first k laws -/
def oK (c : CD) (set h k d : Nat) : Bool := (List.range k).any (fun l => set.testBit l && (cov c l h && (decide (dl c l 0 = 1) && decide (dl c l 1 = d))))
def fK (c : CD) (set h k d : Nat) : Bool := (List.range k).any (fun l => set.testBit l && (cov c l h && (decide (dl c l 0 = 0) && decide (dl c l 1 = d))))
theorem oK_oB {c : CD} (set h d : Nat) : oK c set h (kl c) d = oB c set h d := by
  unfold oK oB
  rw [Bool.eq_iff_iff, List.any_eq_true, decide_eq_true_iff, and_ne0]
  constructor
  · rintro ⟨l, hl, hp⟩
    rw [List.mem_range] at hl
    simp only [Bool.and_eq_true, decide_eq_true_eq] at hp
    exact ⟨l, hp.1, by unfold om; rw [mk_bit]; simp [hl, hp.2.1, hp.2.2.1, hp.2.2.2]⟩
  · rintro ⟨l, h1, h2⟩
    unfold om at h2
    rw [mk_bit] at h2
    simp only [Bool.and_eq_true, decide_eq_true_eq] at h2
    exact ⟨l, List.mem_range.mpr h2.1, by simp [h1, h2.2.1.1, h2.2.1.2, h2.2.2]⟩
theorem fK_fB {c : CD} (set h d : Nat) : fK c set h (kl c) d = fB c set h d := by
  unfold fK fB
  rw [Bool.eq_iff_iff, List.any_eq_true, decide_eq_true_iff, and_ne0]
  constructor
  · rintro ⟨l, hl, hp⟩
    rw [List.mem_range] at hl
    simp only [Bool.and_eq_true, decide_eq_true_eq] at hp
    exact ⟨l, hp.1, by unfold bm; rw [mk_bit]; simp [hl, hp.2.1, hp.2.2.1, hp.2.2.2]⟩
  · rintro ⟨l, h1, h2⟩
    unfold bm at h2
    rw [mk_bit] at h2
    simp only [Bool.and_eq_true, decide_eq_true_eq] at h2
    exact ⟨l, List.mem_range.mpr h2.1, by simp [h1, h2.2.1.1, h2.2.1.2, h2.2.2]⟩
theorem oK_s (c : CD) (set h k : Nat) (h5 : dl c k 1 ≤ 5) : mk 6 (oK c set h (k + 1)) = mk 6 (oK c set h k) ||| (if set.testBit k = true ∧ cov c k h = true ∧ dl c k 0 = 1 then 2 ^ dl c k 1 else 0) := by
  apply Nat.eq_of_testBit_eq
  intro i
  rw [Nat.testBit_or, mk_bit, mk_bit]
  unfold oK
  rw [List.range_succ, List.any_append]
  by_cases e : set.testBit k = true ∧ cov c k h = true ∧ dl c k 0 = 1
  · rw [if_pos e, bit2]
    by_cases hi : i < 6
    · simp [hi, e.1, e.2.1, e.2.2]
    · have : dl c k 1 ≠ i := by omega
      simp [hi, this]
  · rw [if_neg e]
    have : (set.testBit k && (cov c k h && (decide (dl c k 0 = 1) && decide (dl c k 1 = i)))) = false := by
      rw [Bool.eq_false_iff]
      intro z
      simp only [Bool.and_eq_true, decide_eq_true_eq] at z
      exact e ⟨z.1, z.2.1, z.2.2.1⟩
    simp [this]
theorem fK_s (c : CD) (set h k : Nat) (h5 : dl c k 1 ≤ 5) : mk 6 (fK c set h (k + 1)) = mk 6 (fK c set h k) ||| (if set.testBit k = true ∧ cov c k h = true ∧ dl c k 0 = 0 then 2 ^ dl c k 1 else 0) := by
  apply Nat.eq_of_testBit_eq
  intro i
  rw [Nat.testBit_or, mk_bit, mk_bit]
  unfold fK
  rw [List.range_succ, List.any_append]
  by_cases e : set.testBit k = true ∧ cov c k h = true ∧ dl c k 0 = 0
  · rw [if_pos e, bit2]
    by_cases hi : i < 6
    · simp [hi, e.1, e.2.1, e.2.2]
    · have : dl c k 1 ≠ i := by omega
      simp [hi, this]
  · rw [if_neg e]
    have : (set.testBit k && (cov c k h && (decide (dl c k 0 = 0) && decide (dl c k 1 = i)))) = false := by
      rw [Bool.eq_false_iff]
      intro z
      simp only [Bool.and_eq_true, decide_eq_true_eq] at z
      exact e ⟨z.1, z.2.1, z.2.2.1⟩
    simp [this]
theorem M_ov_loop {y : Mem} {A : Nat} {Qp : Int32 → Prop} (hA : A < 64) : ∀ r d b : Nat, d + r = 6 → Qp (dI (ovF A r d b)) → b_X10_doesBy_206 (r + 1) y (nI A) (dI b) (nI d) Qp := by
  intro r
  induction r with
  | zero =>
    intro d b hd hQ
    have : d = 6 := by omega
    subst this
    rw [b_X10_doesBy_206]; dsimp only
    exact ⟨fun _ => hQ, fun h => absurd (nI_le (a := 6) (b := 6) (by omega) (by omega)) h⟩
  | succ r ih =>
    intro d b hd hQ
    rw [b_X10_doesBy_206]; dsimp only
    rw [ovF] at hQ
    refine ⟨fun h => absurd h (nI_ge (a := d) (b := 6) (by omega) (by omega)), fun _ => M_isIn (by omega) (by omega) ?_⟩
    unfold b_X10_doesBy_229
    dsimp only
    rw [nI_1]
    have e : (if b2 (A.testBit d) = (0 : Int32) then dI b else nI d) = dI (if A.testBit d = true then d + 1 else b) := by
      cases h : A.testBit d with
      | true => rw [if_neg (by decide), if_pos rfl, dI_s]
      | false => rw [if_pos (by decide), if_neg (by decide)]
    rw [e]
    exact ih (d + 1) _ (by omega) hQ
theorem M_lk_loop {c : CD} {y : Mem} {A F h : Nat} {Qp : Int32 → Prop} (hM : MC c y) (hh : h < 24) (hA : A < 64) (hF : F < 64) : ∀ r d li mo : Nat, d + r = 6 → li ≤ 6 → mo ≤ 108 → (∀ b, b = dLoop (fun _ => false) (fun d => F.testBit d) (lk c h) r d 0 li mo → Qp (dI (ovF A 6 0 b))) → b_X10_doesBy_135 (r + 1) y (nI h) (nI A) (nI F) (dI li) (nI mo) (nI d) Qp := by
  intro r
  induction r with
  | zero =>
    intro d li mo hd h1 h2 hQ
    have : d = 6 := by omega
    subst this
    rw [b_X10_doesBy_135]; dsimp only
    refine ⟨fun _ => ⟨7, M_ov_loop hA 6 0 li rfl (hQ li ?_)⟩, fun h => absurd (nI_le (a := 6) (b := 6) (by omega) (by omega)) h⟩
    rw [dLoop, if_pos rfl]
  | succ r ih =>
    intro d li mo hd h1 h2 hQ
    rw [b_X10_doesBy_135]; dsimp only
    rw [dLoop, if_neg (show ¬ (false = true) by decide)] at hQ
    have hl := lk_le hM.1 h d
    have next : ∀ like, like ≤ 108 → (mo < like → mo < lk c h d ∧ F.testBit d = false ∧ like = lk c h d) → (¬ mo < like → ¬ (mo < lk c h d ∧ F.testBit d = false)) → b_X10_doesBy_163 y (nI h) (nI A) (nI F) (dI li) (nI mo) (nI d) (nI like) (fun v2 v3 v4 v5 v6 v7 => b_X10_doesBy_135 (r + 1) y v2 v3 v4 v5 v6 v7 Qp) Qp := by
      intro like hlike e1 e2
      unfold b_X10_doesBy_163 b_X10_doesBy_179 b_X10_doesBy_195
      dsimp only
      rw [nI_1]
      by_cases e : mo < like
      · obtain ⟨a1, a2, a3⟩ := e1 e
        rw [if_neg (nI_ge e (by omega)), if_neg (nI_ge e (by omega)), a3, ← dI_s d]
        rw [if_pos ⟨a1, a2⟩] at hQ
        exact ih (d + 1) (d + 1) (lk c h d) (by omega) (by omega) hl hQ
      · rw [if_pos (nI_le (by omega) (by omega)), if_pos (nI_le (by omega) (by omega))]
        rw [if_neg (e2 e)] at hQ
        exact ih (d + 1) li mo (by omega) h1 h2 hQ
    refine ⟨fun h => absurd h (nI_ge (a := d) (b := 6) (by omega) (by omega)), fun _ => M_isIn (by omega) (by omega) ⟨fun hb => M_likes hM (by omega) hh (next _ hl (fun z => ⟨z, (b2_0 _).mp hb, rfl⟩) (fun z q => z q.1)), fun hb => ?_⟩⟩
    have hb2 : F.testBit d = true := by
      cases hz : F.testBit d with
      | true => rfl
      | false => exact absurd ((b2_0 _).mpr hz) hb
    exact next 0 (by omega) (fun z => absurd z (by omega)) (fun _ q => by rw [hb2] at q; cases q.2)
theorem M_does_loop {c : CD} {y : Mem} {set h : Nat} {Qp : Int32 → Prop} (hM : MC c y) (hs : set < 4096) (hh : h < 24) (hQ : Qp (dI (doesN c set h))) : ∀ r k : Nat, k + r = kl c → b_X10_doesBy_8 (r + 1) y (nI set) (nI h) (nI (mk 6 (oK c set h k))) (nI (mk 6 (fK c set h k))) (nI k) Qp := by
  have hk12 := hM.1.1
  intro r
  induction r with
  | zero =>
    intro k hk
    have : k = kl c := by omega
    subst this
    rw [b_X10_doesBy_8]; dsimp only
    rw [show (0 : Int32).toNatClampNeg = 0 by decide, hM.2.1]
    refine ⟨vp_in_nI (n := 0) (by omega) (by omega), fun _ => ?_, fun h => absurd (nI_le (Nat.le_refl _) (by omega)) h⟩
    have hA : mk 6 (oK c set h (kl c)) < 64 := mk_lt 6 _
    have hF : mk 6 (fK c set h (kl c)) < 64 := mk_lt 6 _
    have eo : ∀ e, 0 ≤ e → e < 0 + 6 → oB c set h e = (mk 6 (oK c set h (kl c))).testBit e ∧ fB c set h e = (mk 6 (fK c set h (kl c))).testBit e := by
      intro e _ he
      rw [mk_bit, mk_bit, oK_oB, fK_fB]
      simp [show e < 6 by omega]
    have eloop := oLoop_congr 6 0 0 eo
    obtain ⟨d1, d2⟩ := dLoop_o (oB c set h) (fB c set h) (lk c h) 6 0 0 0 0
    have efB : dLoop (fun _ => false) (fB c set h) (lk c h) 6 0 0 0 0 = dLoop (fun _ => false) (fun d => (mk 6 (fK c set h (kl c))).testBit d) (lk c h) 6 0 0 0 0 := by
      have : ∀ r d li mo, d + r = 6 → dLoop (fun _ => false) (fB c set h) (lk c h) r d 0 li mo = dLoop (fun _ => false) (fun d => (mk 6 (fK c set h (kl c))).testBit d) (lk c h) r d 0 li mo := by
        intro r
        induction r with
        | zero => intro d li mo _; rfl
        | succ r ih =>
          intro d li mo hd
          unfold dLoop
          rw [(eo d (by omega) (by omega)).2, ih _ _ _ (by omega), ih _ _ _ (by omega)]
          simp only [Bool.false_eq_true, if_false]
      exact this 6 0 0 0 rfl
    generalize mk 6 (oK c set h (kl c)) = A at hA eo eloop efB ⊢
    generalize mk 6 (fK c set h (kl c)) = F at hF eo eloop efB ⊢
    have hAF : A &&& F < 2 ^ 6 := Nat.and_lt_two_pow _ hF
    have hp := pop_le 12 A
    refine M_ones (by omega) ?_
    rw [show (1 : Int32) = nI 1 from rfl, nI_ltI (by omega) (by omega), nI_and (by omega) (by omega), nI_eq0 (by omega)]
    have clash : (1 < pop 12 A ∨ A &&& F ≠ 0) → Qp 6 := by
      intro hc
      have h7 := clash_64 A hA F hF hc
      have hd : doesN c set h = 7 := by unfold doesN; rw [d1 (by rw [eloop, h7]; omega), eloop, h7]
      rw [hd] at hQ
      exact hQ
    refine ⟨fun c1 => clash (Or.inl c1), fun c1 => ⟨fun c2 => ⟨7, M_lk_loop hM hh hA hF 6 0 0 0 rfl (by omega) (by omega) (fun b eb => ?_)⟩, fun c2 => clash (Or.inr c2)⟩⟩
    have hnc : ¬ (1 < pop 12 A ∨ A &&& F ≠ 0) := by rintro (z | z); exact c1 z; exact z c2
    have hb7 : b < 8 := by rw [eb]; have := dLoop_le (fun _ => false) (fun d => F.testBit d) (lk c h) 6 0 0 0 0 rfl (by omega) (by omega); omega
    have hov := noclash_64 A hA F hF hnc b hb7
    have hd : doesN c set h = ovF A 6 0 b := by
      rw [hov, ← eloop]
      unfold doesN
      by_cases e0 : oLoop (oB c set h) (fB c set h) 6 0 0 = 0
      · rw [if_pos e0, d2 e0, efB, eb]
      · rw [if_neg e0, d1 e0]
    rw [hd] at hQ
    exact hQ
  | succ r ih =>
    intro k hk
    obtain ⟨a0, a1, a2, a3, a4⟩ := hM.2.2.2.1 k (by omega)
    obtain ⟨o0, o1, o2, o3, o4⟩ := hM.1.2.2.1 k (by omega)
    have hi := ih (k + 1) (by omega)
    rw [oK_s c set h k o1, fK_s c set h k o1] at hi
    rw [b_X10_doesBy_8]; dsimp only
    rw [show (0 : Int32).toNatClampNeg = 0 by decide, hM.2.1]
    have hA : mk 6 (oK c set h k) < 64 := mk_lt 6 _
    have hF : mk 6 (fK c set h k) < 64 := mk_lt 6 _
    have hp : 2 ^ dl c k 1 < 64 := by have := Nat.pow_lt_pow_right (a := 2) (by omega) (show dl c k 1 < 6 by omega); omega
    have b55 : ∀ w : Nat, w < 64 → b_X10_doesBy_8 (r + 1) y (nI set) (nI h) (nI (mk 6 (oK c set h k) ||| (if dl c k 0 = 1 then w else 0))) (nI (mk 6 (fK c set h k) ||| (if dl c k 0 = 0 then w else 0))) (nI (k + 1)) Qp → b_X10_doesBy_55 y (nI set) (nI h) (nI (mk 6 (oK c set h k))) (nI (mk 6 (fK c set h k))) (nI k) (nI w) (fun v1 v2 v3 v4 v5 => b_X10_doesBy_8 (r + 1) y v1 v2 v3 v4 v5 Qp) Qp := by
      intro w hw hgo
      unfold b_X10_doesBy_55 b_X10_doesBy_77 b_X10_doesBy_99
      rw [show (5 : Int32) = nI 5 from rfl, pk_mul, nI_clamp (by omega), a0]
      have e1 : (if nI (dl c k 0) = (1 : Int32) then nI w else 0) = nI (if dl c k 0 = 1 then w else 0) := by
        by_cases e : dl c k 0 = 1
        · rw [if_pos (by rw [e]; rfl), if_pos e]
        · have ne : ¬ nI (dl c k 0) = (1 : Int32) := fun z => e ((nI_eq (a := dl c k 0) (b := 1) (by omega) (by omega)).mp z)
          rw [if_neg ne, if_neg e]; rfl
      have e2 : (if nI (dl c k 0) = (0 : Int32) then nI w else 0) = nI (if dl c k 0 = 0 then w else 0) := by
        by_cases e : dl c k 0 = 0
        · rw [if_pos (by rw [e]; rfl), if_pos e]
        · have ne : ¬ nI (dl c k 0) = (0 : Int32) := fun z => e ((nI_eq0 (by omega)).mp z)
          rw [if_neg ne, if_neg e]; rfl
      rw [e1, e2, nI_or (by omega) (by split <;> omega), nI_or (by omega) (by split <;> omega), nI_1]
      exact ⟨vp_in_nI (by omega) (by omega), vp_in_nI (by omega) (by omega), hgo⟩
    have b54 : ¬ (set.testBit k = true ∧ cov c k h = true) → b_X10_doesBy_54 y (nI set) (nI h) (nI (mk 6 (oK c set h k))) (nI (mk 6 (fK c set h k))) (nI k) (fun v1 v2 v3 v4 v5 => b_X10_doesBy_8 (r + 1) y v1 v2 v3 v4 v5 Qp) Qp := by
      intro e
      unfold b_X10_doesBy_54
      refine b55 0 (by omega) ?_
      rw [if_neg (fun z => e ⟨z.1, z.2.1⟩), if_neg (fun z => e ⟨z.1, z.2.1⟩)] at hi
      rw [show (if dl c k 0 = 1 then 0 else 0) = 0 by split <;> rfl, show (if dl c k 0 = 0 then 0 else 0) = 0 by split <;> rfl]
      exact hi
    refine ⟨vp_in_nI (n := 0) (by omega) (by omega), fun h => absurd h (nI_ge (by omega) (by omega)), fun _ => M_isIn (by omega) (by omega) ⟨fun hb => b54 (fun z => ?_), fun hb => M_covers hM (by omega) hh ⟨fun hc => b54 (fun z => ?_), fun hc => ?_⟩⟩⟩
    · rw [(b2_0 _).mp hb] at z; cases z.1
    · rw [(b2_0 _).mp hc] at z; cases z.2
    · have t1 : set.testBit k = true := by
        cases hz : set.testBit k with
        | true => rfl
        | false => exact absurd ((b2_0 _).mpr hz) hb
      have t2 : cov c k h = true := by
        cases hz : cov c k h with
        | true => rfl
        | false => exact absurd ((b2_0 _).mpr hz) hc
      rw [show (5 : Int32) = nI 5 from rfl, pk_mul, nI_1, nI_clamp (by omega), a1, shl1 (by omega)]
      refine ⟨vp_in_nI (by omega) (by omega), b55 _ hp ?_⟩
      simp only [t1, t2, true_and] at hi
      exact hi
theorem M_doesBy {c : CD} {y : Mem} {set h : Nat} {Qp : Int32 → Prop} (hM : MC c y) (hs : set < 4096) (hh : h < 24) (hQ : Qp (dI (doesN c set h))) : p_X10_doesBy y (nI set) (nI h) Qp := by
  refine ⟨kl c + 1, ?_⟩
  have := M_does_loop hM hs hh hQ (kl c) 0 (by omega)
  have e1 : mk 6 (oK c set h 0) = 0 := by
    apply Nat.eq_of_testBit_eq; intro i; rw [mk_bit]; simp [oK]
  have e2 : mk 6 (fK c set h 0) = 0 := by
    apply Nat.eq_of_testBit_eq; intro i; rw [mk_bit]; simp [fK]
  rw [e1, e2] at this
  exact this
