/-! PURE: texts as the reference reads them -/
theorem i2l_toInt (x : Int32) : x.toInt64.toInt = x.toInt := Int32.toInt_toInt64 x
theorem i2l_lt {x y : Int32} : x.toInt64 < y.toInt64 ↔ x < y := by rw [Int64.lt_iff_toInt_lt, i2l_toInt, i2l_toInt, Int32.lt_iff_toInt_lt]
theorem M_within {v lo hi : Int32} {Qp : Int32 → Prop} (h1 : ¬ v < lo → ¬ hi < v → Qp (v - lo)) (h2 : ¬ (¬ v < lo ∧ ¬ hi < v) → Qp (-9)) : p_X10_within v lo hi Qp := by
  unfold p_X10_within p_X10_in
  by_cases c1 : v < lo
  · rw [if_pos (i2l_lt.mpr c1)]; dsimp only; rw [if_pos rfl]; exact h2 (fun z => z.1 c1)
  · rw [if_neg (fun z => c1 (i2l_lt.mp z))]
    by_cases c2 : hi < v
    · rw [if_pos (i2l_lt.mpr c2)]; dsimp only; rw [if_pos rfl]; exact h2 (fun z => z.2 c2)
    · rw [if_neg (fun z => c2 (i2l_lt.mp z))]; dsimp only; rw [if_neg (show ¬ (1 : Int32) = 0 by decide)]; exact h1 c1 c2
def tk (t : Nat) : Nat := if t = 0 then 1 else 4
def tac (t : Nat) : Nat := if t = 0 then 8 else 9
/-- the reference's word for a byte's value -/
def mv (t p : Nat) (v : Int32) : Int32 := if t = 0 ∧ p = 0 then 1 - v else if t = 1 ∧ p = 2 then v + 1 else v
theorem tk_sc (t : Nat) : isSC (tk t) := by unfold tk; split; exact Or.inl rfl; exact Or.inr rfl
theorem tk_0 : lenL (tk 0) = 5 ∧ ndd (tk 0) = 4 ∧ tac 0 = 8 := by decide
theorem tk_1 : lenL (tk 1) = 3 ∧ ndd (tk 1) = 3 ∧ tac 1 = 9 := by decide
def good (k p : Nat) (b : Int32) : Prop := ¬ b < tabF (tLe k) p ∧ ¬ tabF (tMo k) p < b
theorem neg_good {k p : Nat} (hk : isSC k) (hp : p < lenL k) : ¬ good k p (-1) := by
  intro h
  obtain ⟨t1, t2, t3, t4⟩ := tab_n hk hp
  rw [good, t1] at h
  exact h.1 (m1_lt (by omega))
theorem M_tellsOf {t p : Nat} {b : Int32} {Qp : Int32 → Prop} (ht : t < 2) (hp : p < ndd (tk t)) (h1 : good (tk t) p b → ∀ j : Nat, j < 200 → mv t p (b - tabF (tLe (tk t)) p) = nI j → Qp (nI j)) (h2 : ¬ good (tk t) p b → ∀ v : Int32, v < 0 → Qp v) : p_X10_tellsOf (nI t) (nI p) b Qp := by
  have hk := tk_sc t
  have hpl : p < lenL (tk t) := by have := (sc_len hk).2.2.2.2.2.2; omega
  obtain ⟨t1, t2, t3, t4⟩ := tab_n hk hpl
  have h9 : (-9 : Int32) < 0 := by decide
  have h8 : (-9 : Int32) + 1 < 0 := by decide
  have gd : ∀ lo hi : Int32, tabF (tLe (tk t)) p = lo → tabF (tMo (tk t)) p = hi → ((¬ b < lo ∧ ¬ hi < b) ↔ good (tk t) p b) := by
    intro lo hi e1 e2; unfold good; rw [e1, e2]
  have gj : good (tk t) p b → ∃ j, j ≤ moN (tk t) p - leN (tk t) p ∧ b - tabF (tLe (tk t)) p = nI j := by
    intro g
    have g' := g
    unfold good at g'
    rw [t1, t2] at g'
    obtain ⟨j, j1, j2, j3⟩ := in_range (by omega) g'.1 g'.2 t3
    exact ⟨j - leN (tk t) p, by omega, by rw [t1, j3, pk_sub j1]⟩
  unfold p_X10_tellsOf
  match t, ht with
  | 0, _ =>
    have hp4 : p < 4 := hp
    refine ⟨fun h => absurd h (by decide), fun _ => ?_⟩
    match p, hp4 with
    | 0, _ =>
      refine ⟨fun _ => ?_, fun h => absurd rfl h⟩
      have e1 : tabF (tLe (tk 0)) 0 = 109 := by decide
      have e2 : tabF (tMo (tk 0)) 0 = 110 := by decide
      by_cases c1 : b = 109
      · rw [if_pos c1]
        exact h1 (by unfold good; rw [e1, e2, c1]; decide) 1 (by omega) (by rw [c1, e1]; decide)
      · rw [if_neg c1]
        by_cases c2 : b = 110
        · rw [if_pos c2]
          exact h1 (by unfold good; rw [e1, e2, c2]; decide) 0 (by omega) (by rw [c2, e1]; decide)
        · rw [if_neg c2]
          refine h2 (fun g => ?_) _ h9
          obtain ⟨j, j1, j2⟩ := gj g
          have j1 : j ≤ 1 := j1
          rw [e1] at j2
          have hb : b = nI j + 109 := by rw [← j2]; exact (Int32.sub_add_cancel b 109).symm
          rcases (show j = 0 ∨ j = 1 by omega) with e | e
          · exact c1 (by rw [hb, e]; decide)
          · exact c2 (by rw [hb, e]; decide)
    | 1, _ =>
      refine ⟨fun h => absurd h (by decide), fun _ => ⟨fun _ => M_within (fun a1 a2 => ?_) (fun a1 => h2 (fun g => a1 ((gd 65 70 (by decide) (by decide)).mpr g)) _ h9), fun h => absurd rfl h⟩⟩
      obtain ⟨j, j1, j2⟩ := gj ((gd 65 70 (by decide) (by decide)).mp ⟨a1, a2⟩)
      have j1 : j ≤ 5 := j1
      rw [show tabF (tLe (tk 0)) 1 = 65 by decide] at j2
      rw [j2]
      exact h1 ((gd 65 70 (by decide) (by decide)).mp ⟨a1, a2⟩) j (by omega) (by rw [show tabF (tLe (tk 0)) 1 = 65 by decide, j2]; rfl)
    | 2, _ =>
      refine ⟨fun h => absurd h (by decide), fun _ => ⟨fun h => absurd h (by decide), fun _ => M_within (fun a1 a2 => ?_) (fun a1 => h2 (fun g => a1 ((gd 97 120 (by decide) (by decide)).mpr g)) _ h9)⟩⟩
      obtain ⟨j, j1, j2⟩ := gj ((gd 97 120 (by decide) (by decide)).mp ⟨a1, a2⟩)
      have j1 : j ≤ 23 := j1
      rw [show tabF (tLe (tk 0)) 2 = 97 by decide] at j2
      rw [j2]
      exact h1 ((gd 97 120 (by decide) (by decide)).mp ⟨a1, a2⟩) j (by omega) (by rw [show tabF (tLe (tk 0)) 2 = 97 by decide, j2]; rfl)
    | 3, _ =>
      refine ⟨fun h => absurd h (by decide), fun _ => ⟨fun h => absurd h (by decide), fun _ => M_within (fun a1 a2 => ?_) (fun a1 => h2 (fun g => a1 ((gd 97 120 (by decide) (by decide)).mpr g)) _ h9)⟩⟩
      obtain ⟨j, j1, j2⟩ := gj ((gd 97 120 (by decide) (by decide)).mp ⟨a1, a2⟩)
      have j1 : j ≤ 23 := j1
      rw [show tabF (tLe (tk 0)) 3 = 97 by decide] at j2
      rw [j2]
      exact h1 ((gd 97 120 (by decide) (by decide)).mp ⟨a1, a2⟩) j (by omega) (by rw [show tabF (tLe (tk 0)) 3 = 97 by decide, j2]; rfl)
  | 1, _ =>
    have hp3 : p < 3 := hp
    refine ⟨fun _ => ?_, fun h => absurd rfl h⟩
    match p, hp3 with
    | 0, _ =>
      refine ⟨fun _ => M_within (fun a1 a2 => ?_) (fun a1 => h2 (fun g => a1 ((gd 65 70 (by decide) (by decide)).mpr g)) _ h9), fun h => absurd rfl h⟩
      obtain ⟨j, j1, j2⟩ := gj ((gd 65 70 (by decide) (by decide)).mp ⟨a1, a2⟩)
      have j1 : j ≤ 5 := j1
      rw [show tabF (tLe (tk 1)) 0 = 65 by decide] at j2
      rw [j2]
      exact h1 ((gd 65 70 (by decide) (by decide)).mp ⟨a1, a2⟩) j (by omega) (by rw [show tabF (tLe (tk 1)) 0 = 65 by decide, j2]; rfl)
    | 1, _ =>
      refine ⟨fun h => absurd h (by decide), fun _ => ⟨fun _ => M_within (fun a1 a2 => ?_) (fun a1 => h2 (fun g => a1 ((gd 97 120 (by decide) (by decide)).mpr g)) _ h9), fun h => absurd rfl h⟩⟩
      obtain ⟨j, j1, j2⟩ := gj ((gd 97 120 (by decide) (by decide)).mp ⟨a1, a2⟩)
      have j1 : j ≤ 23 := j1
      rw [show tabF (tLe (tk 1)) 1 = 97 by decide] at j2
      rw [j2]
      exact h1 ((gd 97 120 (by decide) (by decide)).mp ⟨a1, a2⟩) j (by omega) (by rw [show tabF (tLe (tk 1)) 1 = 97 by decide, j2]; rfl)
    | 2, _ =>
      refine ⟨fun h => absurd h (by decide), fun _ => ⟨fun h => absurd h (by decide), fun _ => M_within (fun a1 a2 => ?_) (fun a1 => h2 (fun g => a1 ((gd 49 57 (by decide) (by decide)).mpr g)) _ h8)⟩⟩
      obtain ⟨j, j1, j2⟩ := gj ((gd 49 57 (by decide) (by decide)).mp ⟨a1, a2⟩)
      have j1 : j ≤ 8 := j1
      rw [show tabF (tLe (tk 1)) 2 = 49 by decide] at j2
      rw [j2, nI_1]
      exact h1 ((gd 49 57 (by decide) (by decide)).mp ⟨a1, a2⟩) (j + 1) (by omega) (by rw [show tabF (tLe (tk 1)) 2 = 49 by decide, j2, ← nI_1]; rfl)
/-- the text t: n bytes -/
def TX (t n : Nat) (bs : Nat → Int32) (y : Mem) : Prop := y 6 t = nI n ∧ n ≤ 71 ∧ ∀ a, a < n → y 5 (72 * t + a) = bs a
theorem M_here {t n a : Nat} {bs : Nat → Int32} {y : Mem} {Qp : Int32 → Prop} (ht : t < 2) (hT : TX t n bs y) (ha : y 0 7 = nI a) (ha2 : a ≤ n) (h1 : a < n → Qp (bs a)) (h2 : a = n → Qp (-1)) : p_X10_here y (nI t) Qp := by
  obtain ⟨e1, e2, e3⟩ := hT
  unfold p_X10_here
  rw [nI_clamp (by omega), e1, ha, nI_leI (by omega) (by omega), show (72 : Int32) = nI 72 from rfl, pk_mul, nI_add, nI_clamp (by omega)]
  refine ⟨vp_in_nI ht (by omega), fun c => h2 (by omega), fun c => ⟨vp_in_nI (by omega) (by omega), ?_⟩⟩
  rw [e3 a (by omega)]
  exact h1 (by omega)
/-- what reading changes: the place, how many, the rows of laws or wants -/
def FrM (t : Nat) (y y' : Mem) : Prop := (∀ k, k ≠ 0 → k ≠ 7 → k ≠ tac t → y' k = y k) ∧ (∀ j, j ≠ 7 → y' 0 j = y 0 j) ∧ (∀ j, j ≠ t → y' 7 j = y 7 j)
theorem FrM.rf (t : Nat) (y : Mem) : FrM t y y := ⟨fun _ _ _ _ => rfl, fun _ _ => rfl, fun _ _ => rfl⟩
theorem FrM.at {t : Nat} {y y' : Mem} (h : FrM t y y') (v : Int32) : FrM t y (up2 y' 0 7 v) := ⟨fun k h1 h2 h3 => by rw [up2_other _ _ _ h1]; exact h.1 k h1 h2 h3, fun j hj => by rw [up2_row, if_neg (fun z => hj z.2)]; exact h.2.1 j hj, fun j hj => by rw [up2_other _ _ _ (by omega)]; exact h.2.2 j hj⟩
theorem FrM.many {t : Nat} {y y' : Mem} (h : FrM t y y') (v : Int32) : FrM t y (up2 y' 7 t v) := ⟨fun k h1 h2 h3 => by rw [up2_other _ _ _ h2]; exact h.1 k h1 h2 h3, fun j hj => by rw [up2_other _ _ _ (by omega)]; exact h.2.1 j hj, fun j hj => by rw [up2_row, if_neg (fun z => hj z.2)]; exact h.2.2 j hj⟩
theorem tac_ne (t : Nat) : tac t ≠ 0 ∧ tac t ≠ 7 ∧ tac t ≠ 5 ∧ tac t ≠ 6 := by unfold tac; split <;> omega
theorem FrM.row {t : Nat} {y y' : Mem} (h : FrM t y y') (j : Nat) (v : Int32) : FrM t y (up2 y' (tac t) j v) := by
  obtain ⟨a1, a2, a3, a4⟩ := tac_ne t
  exact ⟨fun k h1 h2 h3 => by rw [up2_other _ _ _ h3]; exact h.1 k h1 h2 h3, fun j hj => by rw [up2_other _ _ _ (fun z => a1 z.symm)]; exact h.2.1 j hj, fun j hj => by rw [up2_other _ _ _ (fun z => a2 z.symm)]; exact h.2.2 j hj⟩
theorem TX.fr {t t2 n : Nat} {bs : Nat → Int32} {y y' : Mem} (hT : TX t2 n bs y) (hf : FrM t y y') : TX t2 n bs y' := by
  obtain ⟨a1, a2, a3, a4⟩ := tac_ne t
  unfold TX
  rw [hf.1 5 (by omega) (by omega) (fun z => a3 z.symm), hf.1 6 (by omega) (by omega) (fun z => a4 z.symm)]
  exact hT
/-- in the midst of a text: place, item, what is read so far, and what is to come -/
def MS (t n : Nat) (bs : Nat → Int32) (R : Nat × Nat × (Nat → Int32)) (y0 : Mem) (a item place : Nat) (P : Nat → Int32) (y : Mem) : Prop :=
  FrM t y0 y ∧ y 0 7 = nI a ∧ y 7 t = nI item ∧ a ≤ n ∧ item ≤ 12 ∧ place ≤ lenL (tk t) ∧ psF (tk t) bs n (n - a) a item place P = R ∧ (∀ i p, p < lenL (tk t) → i < item ∨ (i = item ∧ p < place) → y (tac t) (i * lenL (tk t) + p) = mv t p (P (i * lenL (tk t) + p))) ∧ (∀ j, item * lenL (tk t) + place ≤ j → P j = -1)
theorem psF_n (k : Nat) (bs : Nat → Int32) (n a item place : Nat) (P : Nat → Int32) (h : a = n) : psF k bs n (n - a) a item place P = if ndd k ≤ place then (0, item + 1, P) else (n + 1, 0, P) := by
  rw [show n - a = 0 by omega, psF]
theorem psF_s (k : Nat) (bs : Nat → Int32) (n a item place : Nat) (P : Nat → Int32) (h : a < n) : psF k bs n (n - a) a item place P = if ndd k ≤ place ∧ bs a = (59 : Int32) then psF k bs n (n - (a + 1)) (a + 1) (item + 1) 0 P else if item < 12 ∧ place < lenL k ∧ ¬ bs a < tabF (tLe k) place ∧ ¬ tabF (tMo k) place < bs a then psF k bs n (n - (a + 1)) (a + 1) item (place + 1) (upd P (item * lenL k + place) (bs a - tabF (tLe k) place)) else (a + 1, 0, P) := by
  rw [show n - a = (n - (a + 1)) + 1 by omega, psF]
