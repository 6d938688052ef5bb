/-! STEPS: order, the program's -/
theorem XR.congr {R R' : Nat → Nat} {la la' : Nat → Bool} {x : Mem} {k : Nat} (h : XR R la x k) (h1 : ∀ a, a < 12 → R a = R' a) (h2 : ∀ a, a < 12 → la a = la' a) : XR R' la' x k := by
  refine ⟨fun l hl => by rw [← h1 l hl]; exact h.1 l hl, fun l hl => by rw [← h1 l hl]; exact h.2.1 l hl, ?_⟩
  rw [h.2.2, mk_congr h2]
theorem X_drop {R : Nat → Nat} {la : Nat → Bool} {h : Mem} {k l : Nat} {Qp : Mem → Prop} (hR : XR R la h k) (hl : l < 12) (hQ : ∀ g, FrZ k h g → XR (fun a => if a = l then 0 else R a) (fun a => la a && !decide (a = l)) g k → Qp g) : p_X6_drop h k (nI l) Qp := by
  have hm := mk_lt 12 la
  have hp : 2 ^ l < 4096 := by have := Nat.pow_lt_pow_right (a := 2) (by omega) hl; omega
  refine ⟨vp_in_nI hl (by omega), fun g e => ?_⟩
  rw [nI_clamp (by omega), up2_other _ _ _ (show k ≠ k + 1 by omega), hR.2.2, shl1 (by omega), nI_sd (by omega) (by omega)] at e
  subst e
  refine hQ _ ⟨fun c h1 h2 => by rw [up2_other _ _ _ h1, up2_other _ _ _ h2], fun j hj => by rw [up2_row, if_neg (fun z => hj z.2), up2_other _ _ _ (by omega)]⟩ ⟨fun a ha => ?_, fun a ha => ?_, ?_⟩
  · show (if a = l then 0 else R a) ≤ 30
    have := hR.1 a ha
    split <;> omega
  · show _ = dI (if a = l then 0 else R a)
    rw [up2_other _ _ _ (show k + 1 ≠ k by omega), up2_row]
    by_cases q : a = l
    · rw [if_pos ⟨rfl, q⟩, if_pos q]; rfl
    · rw [if_neg (fun z => q z.2), if_neg q]; exact hR.2.1 a ha
  · rw [up2_row, if_pos ⟨rfl, rfl⟩]
    congr 1
    refine bits_eq (n := 12) (sd_lt hm) (mk_lt _ _) (fun i hi => ?_)
    rw [sd_bit, mk_bit, mk_bit, bit2]
    simp only [hi, decide_true, Bool.true_and]
    congr 2
    exact decide_eq_decide.mpr ⟨fun q => q.symm, fun q => q.symm⟩
def FO (x g : Mem) : Prop := ∀ k, k ≠ 29 → k ≠ 30 → k ≠ 32 → k ≠ 33 → k ≠ 34 → g k = x k
theorem FO.rf (x : Mem) : FO x x := fun _ _ _ _ _ _ => rfl
theorem FO.tr {x g f : Mem} (a : FO x g) (b : FO g f) : FO x f := fun k h1 h2 h3 h4 h5 => (b k h1 h2 h3 h4 h5).trans (a k h1 h2 h3 h4 h5)
theorem FrZ.o {h g : Mem} (f : FrZ 29 h g) : FO h g := fun k h1 h2 _ _ _ => f.1 k h1 h2
def BS (N : Nat) (st : Nat × List Nat) (g : Mem) : Prop := st.1 ≤ 20000 ∧ g 32 0 = dI st.1 ∧ (st.1 ≠ 0 → ∀ i, i < N → g 33 i = nI (st.2.getD i 0))
theorem BS.f {N : Nat} {st : Nat × List Nat} {x g : Mem} (h : BS N st x) (h1 : g 32 = x 32) (h2 : g 33 = x 33) : BS N st g := by
  unfold BS; rw [h1, h2]; exact h
theorem X_leaf {N joy : Nat} {pre : List Nat} {st : Nat × List Nat} {g : Mem} {rc : Mem → Int32 → Int32 → Int32 → Int32 → (Mem → Prop) → Prop} {Qp : Mem → Prop} (hN : N ≤ 4) (hl : pre.length = N) (hj : joy ≤ 10368) (hrow : ∀ i, i < pre.length → g 34 i = nI (pre.getD i 0)) (hBs : BS N st g) (hQ : ∀ g', FO g g' → (∀ k, k ≠ 32 → k ≠ 33 → g' k = g k) → BS N (stp st joy pre) g' → Qp g') : b_X5_tryNext_11 g (nI joy) rc Qp := by
  have h1 := hBs.1
  unfold b_X5_tryNext_11
  unfold stp at hQ
  rw [hBs.2.1, ← dI_s, dI_le (by omega) (by omega)]
  refine ⟨fun z => ?_, fun z => ⟨by decide, by decide, by decide, by decide, by decide, fun h7 e7 => ?_⟩⟩
  · rw [if_neg (by omega)] at hQ
    exact hQ g (FO.rf g) (fun _ _ _ => rfl) hBs
  · rw [if_pos (by omega)] at hQ
    have f : ∀ k, k ≠ 32 → k ≠ 33 → h7 k = g k := fun k a1 a2 => by rw [e7, upR_other _ _ a2, up2_other _ _ _ a1]
    refine hQ h7 (fun k _ _ a1 a2 _ => f k a1 a2) f ⟨by show joy + 1 ≤ 20000; omega, ?_, fun _ i hi => ?_⟩
    · rw [e7, upR_other _ _ (by omega), up2_row, if_pos ⟨rfl, rfl⟩]
    · rw [e7, upR_self, show (0 : Int32).toNatClampNeg = 0 by decide, show (4 : Int32).toNatClampNeg = 4 by decide, pk_cpy_in (by omega) (by omega), up2_other _ _ _ (by omega), show 0 + (i - 0) = i by omega]
      exact hrow i (by omega)
theorem getD_snoc (pre : List Nat) (a i : Nat) : (pre ++ [a]).getD i 0 = if i = pre.length then a else pre.getD i 0 := by
  induction pre generalizing i with
  | nil =>
    cases i with
    | zero => rfl
    | succ i => rfl
  | cons d pre ih =>
    cases i with
    | zero => rfl
    | succ i =>
      show (pre ++ [a]).getD i 0 = if i + 1 = pre.length + 1 then a else pre.getD i 0
      rw [ih i]
      by_cases q : i = pre.length
      · rw [if_pos q, if_pos (by omega)]
      · rw [if_neg q, if_neg (by omega)]
theorem X_try {c : CD} {b : LG} {N : Nat} (hN : N ≤ 4) : ∀ (k n left year joy : Nat) (R : Nat → Nat) (la : Nat → Bool) (pre : List Nat) (st : Nat × List Nat) (g : Mem) (Qp : Mem → Prop), pop 12 left = k → k + 1 ≤ n → left < 2 ^ kl c → pre.length + k = N → year + k ≤ 30 → joy + 2592 * k ≤ 10368 → XC c g → XL 24 b g → XR R la g 29 → (∀ a, left.testBit a = true → R a = 0 ∧ la a = false) → (∀ i, i < pre.length → g 34 i = nI (pre.getD i 0)) → BS N st g → (∀ g', FO g g' → XR R la g' 29 → (∀ i, i < pre.length → g' 34 i = g 34 i) → BS N ((perms k left).foldl (fOr c b R la year joy pre) st) g' → Qp g') → p_X5_tryNext n g (nI left) (nI year) (nI pre.length) (nI joy) Qp := by
  intro k
  induction k with
  | zero =>
    intro n left year joy R la pre st g Qp hp hn hl hpre hy hj hX hL hR hz hrow hBs hQ
    obtain ⟨n', rfl⟩ : ∃ n', n = n' + 1 := ⟨n - 1, by omega⟩
    have h0 : left = 0 := (pop_0 (kl4096 hX.1.1 hl)).mp hp
    subst h0
    rw [p_X5_tryNext]; dsimp only
    refine ⟨fun _ => X_leaf hN (by omega) (by omega) hrow hBs fun g' f1 f2 hBs' => ?_, fun z => absurd rfl z⟩
    refine hQ g' f1 (hR.f (f2 29 (by omega) (by omega)) (f2 30 (by omega) (by omega))) (fun i _ => by rw [f2 34 (by omega) (by omega)]) ?_
    have e : (perms 0 0).foldl (fOr c b R la year joy pre) st = stp st joy pre := by
      show fOr c b R la year joy pre st [] = stp st joy pre
      unfold fOr
      rw [List.append_nil]
      rfl
    rw [e]; exact hBs'
  | succ k ihk =>
    intro n left year joy R la pre st g Qp hp hn hl hpre hy hj hX hL hR hz hrow hBs hQ
    obtain ⟨n', rfl⟩ : ∃ n', n = n' + 1 := ⟨n - 1, by omega⟩
    have hc := hX.1.1
    have hl12 := kl4096 hc hl
    have hne : left ≠ 0 := fun z => by rw [z] at hp; have : pop 12 0 = 0 := by decide
                                       omega
    have loop : ∀ (r j : Nat) (st' : Nat × List Nat) (g1 : Mem), j + r = 12 → FO g g1 → XR R la g1 29 → (∀ i, i < pre.length → g1 34 i = g 34 i) → BS N st' g1 → (pfl (perms k) left r j).foldl (fOr c b R la year joy pre) st' = (perms (k + 1) left).foldl (fOr c b R la year joy pre) st → b_X5_tryNext_44 (r + 1) g1 (nI left) (nI year) (nI pre.length) (nI joy) (nI j) (p_X5_tryNext n') Qp := by
      intro r
      induction r with
      | zero =>
        intro j st' g1 hj f1 R1 w1 B1 e1
        have : j = 12 := by omega
        subst this
        rw [b_X5_tryNext_44]; dsimp only
        refine ⟨fun _ => hQ g1 f1 R1 w1 (by rw [← e1]; exact B1), fun z => absurd (nI_le (a := 12) (b := 12) (by omega) (by omega)) z⟩
      | succ r ihr =>
        intro j st' g1 hj f1 R1 w1 B1 e1
        rw [b_X5_tryNext_44]; dsimp only
        unfold b_X5_tryNext_135
        rw [isIn_1 (by omega) (by omega), nI_1 j]
        rw [pfl, List.foldl_append] at e1
        refine ⟨fun z => absurd z (nI_ge (a := j) (b := 12) (by omega) (by omega)), fun _ => ⟨fun z => ?_, fun z => ?_⟩⟩
        · rw [if_pos z, fold_cons] at e1
          obtain ⟨z1, z2⟩ := hz j z
          have hp2 : 2 ^ j < 4096 := by have := Nat.pow_lt_pow_right (a := 2) (by omega) (show j < 12 by omega); omega
          have hps := pop_sd z 12 (by omega)
          have hin : vp_in (nI pre.length) 4 := vp_in_nI (by omega) (by omega)
          refine ⟨hin, ?_⟩
          rw [nI_clamp (by omega)]
          have f2 : ∀ q, q ≠ 34 → up2 g1 34 pre.length (nI j) q = g1 q := fun q hq => up2_other _ _ _ hq
          have hL1 : XL 24 b (up2 g1 34 pre.length (nI j)) := hL.f ((f2 24 (by omega)).trans (f1 24 (by omega) (by omega) (by omega) (by omega) (by omega))) ((f2 25 (by omega)).trans (f1 25 (by omega) (by omega) (by omega) (by omega) (by omega))) ((f2 26 (by omega)).trans (f1 26 (by omega) (by omega) (by omega) (by omega) (by omega)))
          refine X_has hL1 (by omega) (by omega) (X_put (R1.f (f2 29 (by omega)) (f2 30 (by omega))) (by omega) (by omega) fun g2 F2 R2 => ?_)
          have eL : (fun a => la a || (hB b year j b.1 && decide (a = j))) = uM la b j year := by
            funext a
            unfold uM
            by_cases q : a = j
            · rw [if_pos q, decide_eq_true q, q, z2]; simp
            · rw [if_neg q, decide_eq_false q]; simp
          rw [eL] at R2
          have g2k : ∀ q, q ≠ 29 → q ≠ 30 → q ≠ 34 → g2 q = g1 q := fun q a1 a2 a3 => (F2.1 q a1 a2).trans (f2 q a3)
          have hX2 : XC c g2 := hX.f fun q a1 a2 => (g2k q (by omega) (by omega) (by omega)).trans (f1 q (by omega) (by omega) (by omega) (by omega) (by omega))
          have hL2 : XL 24 b g2 := hL1.f (F2.1 24 (by omega) (by omega)) (F2.1 25 (by omega) (by omega)) (F2.1 26 (by omega) (by omega))
          refine X_bindingKing hX2 R2 (by omega) (X_joyBy hX2 (bindsN_lt hc _ _ _ _) ?_)
          have hjn := joyN_le hc (bindsN c (uR R j year) (uM la b j year) year 0)
          rw [shl1 (by omega), nI_sd (by omega) (by omega), nI_1, nI_1, nI_add]
          have row34 : ∀ i, g2 34 i = if i = pre.length then nI j else g1 34 i := fun i => by
            rw [F2.1 34 (by omega) (by omega), up2_row]
            by_cases q : i = pre.length
            · rw [if_pos ⟨rfl, q⟩, if_pos q]
            · rw [if_neg (fun w => q w.2), if_neg q]
          have call := ihk n' (sd left (2 ^ j)) (year + 1) (joy + joyN c (bindsN c (uR R j year) (uM la b j year) year 0)) (uR R j year) (uM la b j year) (pre ++ [j]) st' g2 (fun h20 => p_X6_drop h20 29 (nI j) (fun h22 => b_X5_tryNext_44 (r + 1) h22 (nI left) (nI year) (nI pre.length) (nI joy) (nI (j + 1)) (p_X5_tryNext n') Qp)) (by omega) (by omega) (sd_lt hl) (by rw [List.length_append]; show pre.length + 1 + k = N; omega) (by omega) (by omega) hX2 hL2 R2 (fun a ha => ?_) (fun i hi => ?_) (B1.f (g2k 32 (by omega) (by omega) (by omega)) (g2k 33 (by omega) (by omega) (by omega))) (fun g3 F3 R3 w3 B3 => ?_)
          · rw [List.length_append] at call
            exact call
          · rw [bit_sd2] at ha
            obtain ⟨a1, a2⟩ := hz a ha.1
            unfold uR uM
            rw [if_neg ha.2, if_neg ha.2]
            exact ⟨a1, a2⟩
          · rw [List.length_append] at hi
            have hi' : i < pre.length + 1 := hi
            rw [row34 i, getD_snoc]
            by_cases q : i = pre.length
            · rw [if_pos q, if_pos q]
            · rw [if_neg q, if_neg q, w1 i (by omega)]; exact hrow i (by omega)
          · refine X_drop R3 (by omega) fun g4 F4 R4 => ?_
            refine ihr (j + 1) _ g4 (by omega) ?_ (R4.congr (fun a ha => ?_) (fun a ha => ?_)) (fun i hi => ?_) (B3.f (F4.1 32 (by omega) (by omega)) (F4.1 33 (by omega) (by omega))) e1
            · exact fun q a1 a2 a3 a4 a5 => ((F4.1 q a1 a2).trans (F3 q a1 a2 a3 a4 a5)).trans ((g2k q a1 a2 a5).trans (f1 q a1 a2 a3 a4 a5))
            · show (if a = j then 0 else uR R j year a) = R a
              unfold uR
              by_cases q : a = j
              · rw [if_pos q, q, z1]
              · rw [if_neg q, if_neg q]
            · show (uM la b j year a && !decide (a = j)) = la a
              unfold uM
              by_cases q : a = j
              · rw [if_pos q, decide_eq_true q, q, z2]; simp
              · rw [if_neg q, decide_eq_false q]; simp
            · have hi' : i < (pre ++ [j]).length := by rw [List.length_append]; show i < pre.length + 1; omega
              rw [F4.1 34 (by omega) (by omega), w3 i hi', row34 i, if_neg (by omega)]
              exact w1 i hi
        · rw [if_neg z] at e1
          exact ihr (j + 1) st' g1 (by omega) f1 R1 w1 B1 e1
    rw [p_X5_tryNext]; dsimp only
    refine ⟨fun z => absurd ((nI_eq0 (by omega)).mp z) hne, fun _ => ⟨fun _ => ⟨13, loop 12 0 st g rfl (FO.rf g) hR (fun _ _ => rfl) hBs rfl⟩, fun z => absurd (nI_lt (b := 4) (by omega) (by omega)) z⟩⟩
def oR (R : Nat → Nat) (laws a : Nat) : Nat := if laws.testBit a = true then 0 else R a
def oL (la : Nat → Bool) (laws a : Nat) : Bool := if laws.testBit a = true then false else la a
/-- the best row: how much + 1, the row -/
def bestO (c : CD) (b : LG) (R : Nat → Nat) (la : Nat → Bool) (laws year : Nat) : Nat × List Nat := (perms (pop 12 laws) laws).foldl (fOr c b (oR R laws) (oL la laws) year 0 []) (0, [])
theorem X_searchO {c : CD} {b : LG} {R : Nat → Nat} {la : Nat → Bool} {laws year : Nat} {x : Mem} {Qp : Mem → Prop} (hX : XC c x) (hL : XL 24 b x) (hR : XR R la x 29) (hl : laws < 2 ^ kl c) (h4 : pop 12 laws ≤ 4) (hy : year + pop 12 laws ≤ 30) (hQ : ∀ g, FO x g → BS (pop 12 laws) (bestO c b R la laws year) g → Qp g) : p_X5_search x (nI laws) (nI year) Qp := by
  have hl12 := kl4096 hX.1.1 hl
  have loop : ∀ (r j : Nat) (g : Mem), j + r = 12 → FO x g → g 32 0 = dI 0 → XR (fun a => if a < j ∧ laws.testBit a = true then 0 else R a) (fun a => if a < j ∧ laws.testBit a = true then false else la a) g 29 → b_X5_search_8 (r + 1) g (nI laws) (nI year) (nI j) Qp := by
    intro r
    induction r with
    | zero =>
      intro j g hj f1 e0 R1
      have : j = 12 := by omega
      subst this
      rw [b_X5_search_8]; dsimp only
      refine ⟨fun _ => ?_, fun z => absurd (nI_le (a := 12) (b := 12) (by omega) (by omega)) z⟩
      refine X_try (N := pop 12 laws) h4 (pop 12 laws) 6 laws year 0 (oR R laws) (oL la laws) [] (0, []) g _ rfl (by omega) hl (by show 0 + pop 12 laws = pop 12 laws; omega) hy (by omega) (hX.f fun q a1 a2 => f1 q (by omega) (by omega) (by omega) (by omega) (by omega)) (hL.f (f1 24 (by omega) (by omega) (by omega) (by omega) (by omega)) (f1 25 (by omega) (by omega) (by omega) (by omega) (by omega)) (f1 26 (by omega) (by omega) (by omega) (by omega) (by omega))) (R1.congr (fun a ha => ?_) (fun a ha => ?_)) (fun a ha => ?_) (fun i hi => absurd hi (Nat.not_lt_zero i)) ⟨Nat.zero_le _, e0, fun z => absurd rfl z⟩ (fun g' F _ _ B => hQ g' (f1.tr F) B)
      · show (if a < 12 ∧ laws.testBit a = true then 0 else R a) = oR R laws a
        unfold oR
        by_cases q : laws.testBit a = true
        · rw [if_pos ⟨ha, q⟩, if_pos q]
        · rw [if_neg (fun z => q z.2), if_neg q]
      · show (if a < 12 ∧ laws.testBit a = true then false else la a) = oL la laws a
        unfold oL
        by_cases q : laws.testBit a = true
        · rw [if_pos ⟨ha, q⟩, if_pos q]
        · rw [if_neg (fun z => q z.2), if_neg q]
      · unfold oR oL
        rw [if_pos ha, if_pos ha]
        exact ⟨rfl, rfl⟩
    | succ r ih =>
      intro j g hj f1 e0 R1
      rw [b_X5_search_8]; dsimp only
      unfold b_X5_search_32
      rw [isIn_1 (by omega) (by omega), nI_1]
      refine ⟨fun z => absurd z (nI_ge (a := j) (b := 12) (by omega) (by omega)), fun _ => ⟨fun z => X_drop R1 (by omega) fun g' F R2 => ih (j + 1) g' (by omega) (f1.tr F.o) (by rw [F.1 32 (by omega) (by omega)]; exact e0) (R2.congr (fun a ha => ?_) (fun a ha => ?_)), fun z => ih (j + 1) g (by omega) f1 e0 (R1.congr (fun a ha => ?_) (fun a ha => ?_))⟩⟩
      · show (if a = j then 0 else (if a < j ∧ laws.testBit a = true then 0 else R a)) = (if a < j + 1 ∧ laws.testBit a = true then 0 else R a)
        by_cases q : a = j
        · rw [if_pos q, if_pos ⟨by omega, by rw [q]; exact z⟩]
        · rw [if_neg q]
          by_cases q2 : a < j ∧ laws.testBit a = true
          · rw [if_pos q2, if_pos ⟨by omega, q2.2⟩]
          · rw [if_neg q2, if_neg (fun w => q2 ⟨by omega, w.2⟩)]
      · show ((if a < j ∧ laws.testBit a = true then false else la a) && !decide (a = j)) = (if a < j + 1 ∧ laws.testBit a = true then false else la a)
        by_cases q : a = j
        · rw [decide_eq_true q, if_pos (show a < j + 1 ∧ laws.testBit a = true from ⟨by omega, by rw [q]; exact z⟩)]; simp
        · rw [decide_eq_false q]
          by_cases q2 : a < j ∧ laws.testBit a = true
          · rw [if_pos q2, if_pos ⟨by omega, q2.2⟩]; rfl
          · rw [if_neg q2, if_neg (fun w => q2 ⟨by omega, w.2⟩)]; simp
      · show (if a < j ∧ laws.testBit a = true then 0 else R a) = (if a < j + 1 ∧ laws.testBit a = true then 0 else R a)
        by_cases q2 : a < j ∧ laws.testBit a = true
        · rw [if_pos q2, if_pos ⟨by omega, q2.2⟩]
        · rw [if_neg q2, if_neg (fun w => q2 ⟨by
            by_cases q : a = j
            · rw [q] at w; exact absurd w.2 z
            · omega, w.2⟩)]
      · show (if a < j ∧ laws.testBit a = true then false else la a) = (if a < j + 1 ∧ laws.testBit a = true then false else la a)
        by_cases q2 : a < j ∧ laws.testBit a = true
        · rw [if_pos q2, if_pos ⟨by omega, q2.2⟩]
        · rw [if_neg q2, if_neg (fun w => q2 ⟨by
            by_cases q : a = j
            · rw [q] at w; exact absurd w.2 z
            · omega, w.2⟩)]
  refine ⟨13, loop 12 0 _ rfl (fun q _ _ a3 _ _ => up2_other _ _ _ a3) (by rw [up2_row, if_pos ⟨rfl, rfl⟩]; rfl) ((hR.f (up2_other _ _ _ (by omega)) (up2_other _ _ _ (by omega))).congr (fun a ha => ?_) (fun a ha => ?_))⟩
  · show R a = if a < 0 ∧ laws.testBit a = true then 0 else R a
    rw [if_neg (fun z => absurd z.1 (Nat.not_lt_zero a))]
  · show la a = if a < 0 ∧ laws.testBit a = true then false else la a
    rw [if_neg (fun z => absurd z.1 (Nat.not_lt_zero a))]
