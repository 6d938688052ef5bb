/-! PURE: trials, breaches and reigns -/
abbrev LG : Type := Nat × (Nat → Nat) × (Nat → Nat)
def gok (g : LG) : Prop := g.1 ≤ 12 ∧ ∀ i, i < g.1 → g.2.1 i < 30 ∧ g.2.2 i < 12
/-- the year + 1 of the first trial of a law among the first so many -/
def rT (g : LG) (l : Nat) : Nat → Nat
  | 0 => 0
  | n + 1 => if rT g l n ≠ 0 then rT g l n else if g.2.2 n = l then g.2.1 n + 1 else 0
def hB (g : LG) (y l : Nat) : Nat → Bool
  | 0 => false
  | n + 1 => hB g y l n || (decide (g.2.1 n = y) && decide (g.2.2 n = l))
theorem hB_at {g : LG} {y l i : Nat} (h1 : g.2.1 i = y) (h2 : g.2.2 i = l) : ∀ n, i < n → hB g y l n = true := by
  intro n
  induction n with
  | zero => intro h; exact absurd h (Nat.not_lt_zero _)
  | succ n ih =>
    intro h
    rw [hB]
    by_cases e : i = n
    · subst e; simp [h1, h2]
    · rw [ih (by omega)]; rfl
theorem rT_le {g : LG} (hg : gok g) (l : Nat) : ∀ n, n ≤ g.1 → rT g l n ≤ 30 := by
  intro n
  induction n with
  | zero => intro _; exact Nat.zero_le _
  | succ n ih =>
    intro h
    have h1 := ih (by omega)
    have h2 := (hg.2 n (by omega)).1
    rw [rT]
    split
    · exact h1
    · split <;> omega
def RT (t : LG) (l : Nat) : Nat := rT t l t.1
def lT (t b : LG) (n l : Nat) : Bool := decide (rT t l n ≠ 0) && hB b (rT t l n - 1) l b.1
def LT (t b : LG) (l : Nat) : Bool := lT t b t.1 l
theorem LT_ne {t b : LG} {l : Nat} (h : LT t b l = true) : RT t l ≠ 0 := by
  unfold LT lT at h
  simp only [Bool.and_eq_true, decide_eq_true_eq] at h
  exact h.1
def XL (k : Nat) (g : LG) (x : Mem) : Prop := gok g ∧ x k 2 = nI g.1 ∧ ∀ i, i < g.1 → x (k + 1) i = nI (g.2.1 i) ∧ x (k + 2) i = nI (g.2.2 i)
def ML (kc kf : Nat) (g : LG) (y : Mem) : Prop := gok g ∧ y 0 kf = nI g.1 ∧ ∀ i, i < g.1 → y kc (2 * i) = nI (g.2.1 i) ∧ y kc (2 * i + 1) = nI (g.2.2 i)
theorem X_has_loop {g : LG} {x : Mem} {k y l : Nat} {Qp : Int32 → Prop} (hL : XL k g x) (hy : y < 30) (hl : l < 12) (hQ : Qp (b2 (hB g y l g.1))) : ∀ r i : Nat, i + r = g.1 → hB g y l i = false → b_X4_has_2 (r + 1) x k (nI y) (nI l) (nI i) Qp := by
  have hg := hL.1
  have h12 := hg.1
  intro r
  induction r with
  | zero =>
    intro i hi hb
    have : i = g.1 := by omega
    subst this
    rw [b_X4_has_2]; dsimp only
    rw [hL.2.1]
    rw [hb] at hQ
    exact ⟨fun _ => hQ, fun h => absurd (nI_le (Nat.le_refl _) (by omega)) h⟩
  | succ r ih =>
    intro i hi hb
    rw [b_X4_has_2]; dsimp only
    obtain ⟨e1, e2⟩ := hL.2.2 i (by omega)
    obtain ⟨o1, o2⟩ := hg.2 i (by omega)
    have hin : vp_in (nI i) 12 := vp_in_nI (by omega) (by omega)
    unfold b_X4_has_32
    rw [hL.2.1, nI_clamp (by omega), e1, e2, nI_eq (by omega) (by omega), nI_eq (by omega) (by omega), nI_1]
    have nx : ¬ (g.2.1 i = y ∧ g.2.2 i = l) → hB g y l (i + 1) = false := by
      intro z
      rw [hB, hb]
      by_cases a : g.2.1 i = y
      · have : ¬ g.2.2 i = l := fun q => z ⟨a, q⟩
        simp [this]
      · simp [a]
    refine ⟨fun h => absurd h (nI_ge (by omega) (by omega)), fun _ => ⟨hin, fun a => ⟨hin, fun b => ?_, fun b => ?_⟩, fun a => ?_⟩⟩
    · rw [hB_at a b g.1 (by omega)] at hQ; exact hQ
    · exact ih (i + 1) (by omega) (nx (fun z => b z.2))
    · exact ih (i + 1) (by omega) (nx (fun z => a z.1))
theorem X_has {g : LG} {x : Mem} {k y l : Nat} {Qp : Int32 → Prop} (hL : XL k g x) (hy : y < 30) (hl : l < 12) (hQ : Qp (b2 (hB g y l g.1))) : p_X4_has x k (nI y) (nI l) Qp := ⟨g.1 + 1, X_has_loop hL hy hl hQ g.1 0 (by omega) rfl⟩
/-- a reign of the program at the cells k and k + 1 -/
def XR (R : Nat → Nat) (la : Nat → Bool) (x : Mem) (k : Nat) : Prop := (∀ l, l < 12 → R l ≤ 30) ∧ (∀ l, l < 12 → x (k + 1) l = dI (R l)) ∧ x k 1 = nI (mk 12 la)
def FrZ (k : Nat) (h g : Mem) : Prop := (∀ c, c ≠ k → c ≠ k + 1 → g c = h c) ∧ ∀ j, j ≠ 1 → g k j = h k j
theorem FrZ.rf (k : Nat) (h : Mem) : FrZ k h h := ⟨fun _ _ _ => rfl, fun _ _ => rfl⟩
theorem FrZ.tr {k : Nat} {h g f : Mem} (a : FrZ k h g) (b : FrZ k g f) : FrZ k h f := ⟨fun c h1 h2 => (b.1 c h1 h2).trans (a.1 c h1 h2), fun j hj => (b.2 j hj).trans (a.2 j hj)⟩
theorem XL.fr {k kr : Nat} {g : LG} {x x' : Mem} (hL : XL k g x) (hf : FrZ kr x x') (hk : k + 2 < kr) : XL k g x' := by
  refine ⟨hL.1, ?_, fun i hi => ?_⟩
  · rw [hf.1 k (by omega) (by omega)]; exact hL.2.1
  · rw [hf.1 (k + 1) (by omega) (by omega), hf.1 (k + 2) (by omega) (by omega)]; exact hL.2.2 i hi
theorem X_put {R : Nat → Nat} {la : Nat → Bool} {h : Mem} {k l y : Nat} {z : Bool} {Qp : Mem → Prop} (hR : XR R la h k) (hl : l < 12) (hy : y < 30) (hQ : ∀ g, FrZ k h g → XR (fun a => if a = l then y + 1 else R a) (fun a => la a || (z && decide (a = l))) g k → Qp g) : p_X6_put h k (nI l) (nI y) (b2 z) Qp := by
  have hm := mk_lt 12 la
  have hp : 2 ^ l < 4096 := by have := Nat.pow_lt_pow_right (a := 2) (by omega) hl; omega
  have hb : ∀ a, a < 12 → (if a = l then y + 1 else R a) ≤ 30 := fun a ha => by have := hR.1 a ha; split <;> omega
  refine ⟨vp_in_nI hl (by omega), fun hz => hQ _ ?_ ⟨hb, fun a ha => ?_, ?_⟩, fun hz g e => hQ g ?_ ⟨hb, fun a ha => ?_, ?_⟩⟩
  · rw [nI_clamp (by omega)]
    exact ⟨fun c h1 h2 => by rw [up2_other _ _ _ h2], fun j hj => by rw [up2_other _ _ _ (by omega)]⟩
  · show _ = dI (if a = l then y + 1 else R a)
    rw [nI_clamp (by omega), up2_row]
    by_cases q : a = l
    · subst q; rw [if_pos ⟨rfl, rfl⟩, if_pos rfl, dI_s]
    · rw [if_neg (fun z => q z.2), if_neg q]; exact hR.2.1 a ha
  · rw [up2_other _ _ _ (by omega), hR.2.2]
    have := (b2_0 z).mp hz
    subst this
    simp
  · subst e
    rw [nI_clamp (by omega)]
    exact ⟨fun c h1 h2 => by rw [up2_other _ _ _ h1, up2_other _ _ _ h2], fun j hj => by rw [up2_row, if_neg (fun z => hj z.2), up2_other _ _ _ (by omega)]⟩
  · show _ = dI (if a = l then y + 1 else R a)
    subst e
    rw [up2_other _ _ _ (by omega), nI_clamp (by omega), up2_row]
    by_cases q : a = l
    · subst q; rw [if_pos ⟨rfl, rfl⟩, if_pos rfl, dI_s]
    · rw [if_neg (fun z => q z.2), if_neg q]; exact hR.2.1 a ha
  · subst e
    rw [up2_row, if_pos ⟨rfl, rfl⟩, up2_other _ _ _ (by omega), hR.2.2, shl1 (by omega), nI_or (by omega) (by omega)]
    have hz2 : z = true := by
      cases z with
      | true => rfl
      | false => exact absurd rfl hz
    subst hz2
    congr 1
    refine bits_eq (n := 12) (Nat.or_lt_two_pow hm hp) (mk_lt _ _) (fun i hi => ?_)
    rw [Nat.testBit_or, mk_bit, mk_bit, bit2]
    simp only [hi, decide_true, Bool.true_and]
    congr 1
    exact decide_eq_decide.mpr ⟨fun q => q.symm, fun q => q.symm⟩
theorem X_begin {h : Mem} {k : Nat} {Qp : Mem → Prop} (hQ : ∀ g, FrZ k h g → XR (fun _ => 0) (fun _ => false) g k → Qp g) : p_X6_begin h k Qp := by
  refine fill_spec (by omega) (hQ _ ⟨fun c h1 h2 => ?_, fun j hj => ?_⟩ ⟨fun _ _ => Nat.zero_le _, fun l hl => ?_, ?_⟩)
  · rw [up2_other _ _ _ h1, upR_other _ _ h2]
  · rw [up2_row, if_neg (fun z => hj z.2), upR_other _ _ (by omega)]
  · rw [up2_other _ _ _ (by omega), upR_self]
    unfold fillR
    rw [if_pos hl]; rfl
  · rw [up2_row, if_pos ⟨rfl, rfl⟩]; rfl
theorem retell_loop {t b : LG} {h : Mem} {k : Nat} {Qp : Mem → Prop} (hk : k = 27 ∨ k = 29) (ht : XL 21 t h) (hb : XL 24 b h) (hQ : ∀ g, FrZ k h g → XR (RT t) (LT t b) g k → Qp g) : ∀ r i : Nat, ∀ g, i + r = t.1 → FrZ k h g → XR (fun l => rT t l i) (fun l => lT t b i l) g k → b_X6_retell_6 (r + 1) g k (nI i) Qp := by
  have h12 := ht.1.1
  intro r
  induction r with
  | zero =>
    intro i g hi hf hR
    have : i = t.1 := by omega
    subst this
    rw [b_X6_retell_6]; dsimp only
    rw [(ht.fr hf (by omega)).2.1]
    exact ⟨fun _ => hQ g hf hR, fun z => absurd (nI_le (Nat.le_refl _) (by omega)) z⟩
  | succ r ih =>
    intro i g hi hf hR
    have ht' := ht.fr hf (by omega)
    have hb' := hb.fr hf (by omega)
    obtain ⟨e1, e2⟩ := ht'.2.2 i (by omega)
    obtain ⟨o1, o2⟩ := ht.1.2 i (by omega)
    have hin : vp_in (nI i) 12 := vp_in_nI (by omega) (by omega)
    have e3 : g (k + 1) (t.2.2 i) = dI (rT t (t.2.2 i) i) := hR.2.1 (t.2.2 i) o2
    have r30 : rT t (t.2.2 i) i ≤ 30 := hR.1 (t.2.2 i) o2
    rw [b_X6_retell_6]; dsimp only
    unfold b_X6_retell_57
    rw [ht'.2.1, nI_clamp (by omega), show g 23 i = nI (t.2.2 i) from e2, show g 22 i = nI (t.2.1 i) from e1, nI_clamp (by omega), e3]
    refine ⟨fun z => absurd z (nI_ge (by omega) (by omega)), fun _ => ⟨hin, vp_in_nI o2 (by omega), fun z => ⟨hin, hin, X_has hb' o1 o2 (X_put hR o2 o1 fun g' hf' hR' => ?_)⟩, fun z => ?_⟩⟩
    · have z := (dI_m1 (by omega)).mp z
      rw [nI_1]
      refine ih (i + 1) g' (by omega) (hf.tr hf') ?_
      have a1 : (fun a => if a = t.2.2 i then t.2.1 i + 1 else rT t a i) = fun a => rT t a (i + 1) := by
        funext a
        rw [rT]
        by_cases q : a = t.2.2 i
        · subst q; rw [if_pos rfl, if_neg (fun w => w z), if_pos rfl]
        · rw [if_neg q]
          by_cases w : rT t a i ≠ 0
          · rw [if_pos w]
          · rw [if_neg w, if_neg (show ¬ t.2.2 i = a from fun w => q w.symm)]; omega
      have a2 : (fun a => lT t b i a || (hB b (t.2.1 i) (t.2.2 i) b.1 && decide (a = t.2.2 i))) = fun a => lT t b (i + 1) a := by
        funext a
        have : (if a = t.2.2 i then t.2.1 i + 1 else rT t a i) = rT t a (i + 1) := congrFun a1 a
        unfold lT
        rw [← this]
        by_cases q : a = t.2.2 i
        · subst q; rw [if_pos rfl, z]; simp
        · rw [if_neg q]; simp [q]
      rw [a1, a2] at hR'
      exact hR'
    · rw [nI_1]
      refine ih (i + 1) g (by omega) hf ?_
      have z : rT t (t.2.2 i) i ≠ 0 := fun w => z ((dI_m1 (by omega)).mpr w)
      have a1 : ∀ a, rT t a (i + 1) = rT t a i := by
        intro a
        rw [rT]
        by_cases w : rT t a i ≠ 0
        · rw [if_pos w]
        · rw [if_neg w, if_neg (fun q => by subst q; exact w z)]; omega
      have a2 : (fun a => rT t a (i + 1)) = fun a => rT t a i := funext a1
      have a3 : (fun a => lT t b (i + 1) a) = fun a => lT t b i a := by
        funext a
        unfold lT
        rw [a1]
      rw [a2, a3]
      exact hR
theorem X_retell {t b : LG} {h : Mem} {k : Nat} {Qp : Mem → Prop} (hk : k = 27 ∨ k = 29) (ht : XL 21 t h) (hb : XL 24 b h) (hQ : ∀ g, FrZ k h g → XR (RT t) (LT t b) g k → Qp g) : p_X6_retell h k Qp :=
  X_begin fun g hf hR => ⟨t.1 + 1, retell_loop hk ht hb hQ t.1 0 g (by omega) hf (by
    have a2 : (fun l => lT t b 0 l) = fun _ => false := by funext l; unfold lT rT; simp
    rw [a2]; exact hR)⟩
theorem dI_le {a b : Nat} (ha : a < 2 ^ 30) (hb : b < 2 ^ 30) : dI a ≤ dI b ↔ a ≤ b := by
  rw [Int32.le_iff_toInt_le, dI_toInt ha, dI_toInt hb]; omega
theorem dI_lt {a b : Nat} (ha : a < 2 ^ 30) (hb : b < 2 ^ 30) : dI a < dI b ↔ a < b := by
  rw [Int32.lt_iff_toInt_lt, dI_toInt ha, dI_toInt hb]; omega
theorem tried_loop {R : Nat → Nat} {la : Nat → Bool} {x : Mem} {k a b : Nat} {Qp : Int32 → Prop} (hR : XR R la x k) (ha : a < 100) (hb : b < 100) (hQ : Qp (nI (mk 12 (fun l => decide (a ≤ R l) && decide (R l ≤ b))))) : ∀ r i : Nat, i + r = 12 → b_X6_triedBetween_5 (r + 1) x k (dI a) (dI b) (nI (mk i (fun l => decide (a ≤ R l) && decide (R l ≤ b)))) (nI i) Qp := by
  intro r
  induction r with
  | zero =>
    intro i hi
    have : i = 12 := by omega
    subst this
    rw [b_X6_triedBetween_5]; dsimp only
    exact ⟨fun _ => hQ, fun z => absurd (nI_le (a := 12) (b := 12) (by omega) (by omega)) z⟩
  | succ r ih =>
    intro i hi
    have h30 := hR.1 i (by omega)
    have hin : vp_in (nI i) 12 := vp_in_nI (by omega) (by omega)
    have hm := mk_le12 (n := i) (by omega) (fun l => decide (a ≤ R l) && decide (R l ≤ b))
    have hp : 2 ^ i < 4096 := by have := Nat.pow_lt_pow_right (a := 2) (by omega) (show i < 12 by omega); omega
    have hi := ih (i + 1) (by omega)
    rw [mk] at hi
    rw [b_X6_triedBetween_5]; dsimp only
    unfold b_X6_triedBetween_41
    rw [nI_clamp (by omega), hR.2.1 i (by omega), dI_lt (by omega) (by omega), nI_1, shl1 (by omega), nI_or (by omega) (by omega)]
    refine ⟨fun z => absurd z (nI_ge (a := i) (b := 12) (by omega) (by omega)), fun _ => ⟨hin, fun z => ?_, fun z => ⟨hin, ?_⟩⟩⟩
    · rw [if_neg (by simp [show ¬ a ≤ R i by omega])] at hi
      simpa using hi
    · by_cases w : R i ≤ b
      · rw [if_neg (fun q => absurd ((dI_lt (by omega) (by omega)).mp q) (by omega))]
        rw [if_pos (by simp [w, show a ≤ R i by omega])] at hi
        exact hi
      · rw [if_pos ((dI_lt (by omega) (by omega)).mpr (by omega))]
        rw [if_neg (by simp [w])] at hi
        simpa using hi
theorem X_tried {R : Nat → Nat} {la : Nat → Bool} {x : Mem} {k a b : Nat} {Qp : Int32 → Prop} (hR : XR R la x k) (ha : a < 100) (hb : b < 100) (hQ : Qp (nI (mk 12 (fun l => decide (a ≤ R l) && decide (R l ≤ b))))) : p_X6_triedBetween x k (dI a) (dI b) Qp := ⟨13, tried_loop hR ha hb hQ 12 0 rfl⟩
theorem X_lasting {R : Nat → Nat} {la : Nat → Bool} {x : Mem} {k year : Nat} {Qp : Int32 → Prop} (hR : XR R la x k) (hy : year < 30) (hQ : Qp (nI (mk 12 (fun l => decide (1 ≤ R l) && decide (R l ≤ year) && !la l)))) : p_X6_lasting x k (nI year) Qp := by
  unfold p_X6_lasting
  refine X_tried (a := 1) (b := year) hR (by omega) (by omega) ?_
  have h1 := mk_lt 12 (fun l => decide (1 ≤ R l) && decide (R l ≤ year))
  have h2 := mk_lt 12 la
  rw [hR.2.2, nI_sd (by omega) (by omega)]
  have e : sd (mk 12 (fun l => decide (1 ≤ R l) && decide (R l ≤ year))) (mk 12 la) = mk 12 (fun l => decide (1 ≤ R l) && decide (R l ≤ year) && !la l) := bits_eq (n := 12) (sd_lt h1) (mk_lt _ _) (fun i hi => by rw [sd_bit, mk_bit, mk_bit, mk_bit]; simp [hi])
  rw [e]; exact hQ
theorem X_bindingKing {c : CD} {R : Nat → Nat} {la : Nat → Bool} {x : Mem} {k year : Nat} {Qp : Int32 → Prop} (hX : XC c x) (hR : XR R la x k) (hy : year < 30) (hQ : Qp (nI (bindsN c R la year 0))) : p_X6_bindingKing x k (nI year) Qp := by
  unfold p_X6_bindingKing
  refine X_lasting hR hy ?_
  rw [← dI_s]
  refine X_tried hR (by omega) (by omega) ?_
  have h1 := mk_lt 12 (fun l => decide (1 ≤ R l) && decide (R l ≤ year) && !la l)
  have h2 := mk_lt 12 (fun l => decide (year + 1 ≤ R l) && decide (R l ≤ year + 1))
  rw [nI_or (by omega) (by omega)]
  have e : mk 12 (fun l => decide (1 ≤ R l) && decide (R l ≤ year) && !la l) ||| mk 12 (fun l => decide (year + 1 ≤ R l) && decide (R l ≤ year + 1)) = mk 12 (ba R la year 0) := bits_eq (n := 12) (Nat.or_lt_two_pow h1 h2) (mk_lt _ _) (fun i hi => by
    rw [Nat.testBit_or, mk_bit, mk_bit, mk_bit, Bool.eq_iff_iff]
    unfold ba
    cases la i <;> simp [hi] <;> omega)
  rw [e]
  refine X_standing hX (mk_lt _ _) ?_
  rw [stand_bnd hX.1.1]
  exact hQ
theorem X_bindingOthers {c : CD} {R : Nat → Nat} {la : Nat → Bool} {x : Mem} {k year : Nat} {Qp : Int32 → Prop} (hX : XC c x) (hR : XR R la x k) (hy : year < 30) (hQ : Qp (nI (bindsN c R la year 1))) : p_X6_bindingOthers x k (nI year) Qp := by
  unfold p_X6_bindingOthers
  refine X_lasting hR hy ?_
  have e : mk 12 (fun l => decide (1 ≤ R l) && decide (R l ≤ year) && !la l) = mk 12 (ba R la year 1) := mk_congr fun i hi => by
    rw [Bool.eq_iff_iff]
    unfold ba
    cases la i <;> simp <;> omega
  rw [e]
  refine X_standing hX (mk_lt _ _) ?_
  rw [stand_bnd hX.1.1]
  exact hQ
theorem X_lapsedBy {c : CD} {R : Nat → Nat} {la : Nat → Bool} {x : Mem} {k year : Nat} {Qp : Int32 → Prop} (hX : XC c x) (hR : XR R la x k) (hla : ∀ l, la l = true → R l ≠ 0) (hy : year < 30) (hQ : Qp (nI (bindsN c R la year 2))) : p_X6_lapsedBy x k (nI year) Qp := by
  have hk12 := hX.1.1.1
  unfold p_X6_lapsedBy
  rw [← dI_s]
  refine X_tried (a := 1) hR (by omega) (by omega) ?_
  refine X_all hX ?_
  have h1 := mk_lt 12 la
  have h2 := mk_lt 12 (fun l => decide (1 ≤ R l) && decide (R l ≤ year + 1))
  have h3 : 2 ^ kl c ≤ 4096 := Nat.pow_le_pow_right (n := 2) (by omega) hk12
  have h4 : mk 12 la &&& mk 12 (fun l => decide (1 ≤ R l) && decide (R l ≤ year + 1)) < 4096 := Nat.and_lt_two_pow (n := 12) _ h2
  rw [hR.2.2, nI_and (by omega) (by omega), nI_and (by omega) (by omega)]
  have e : mk 12 la &&& mk 12 (fun l => decide (1 ≤ R l) && decide (R l ≤ year + 1)) &&& (2 ^ kl c - 1) = bindsN c R la year 2 := by
    refine bits_eq (n := 12) (Nat.and_lt_two_pow (n := 12) _ (by omega)) (bindsN_lt hX.1.1 _ _ _ _) (fun i hi => ?_)
    unfold bindsN
    rw [Nat.testBit_and, Nat.testBit_and, mk_bit, mk_bit, mk_bit, Nat.testBit_two_pow_sub_one, Bool.eq_iff_iff]
    have := hla i
    simp [hi]
    constructor
    · rintro ⟨⟨a, b1, b2⟩, d⟩; exact ⟨d, a, b2⟩
    · rintro ⟨d, a, b⟩; exact ⟨⟨a, by have := this a; omega, b⟩, d⟩
  rw [e]; exact hQ
