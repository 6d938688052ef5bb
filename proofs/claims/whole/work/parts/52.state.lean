/-! PURE: arguments, what is told, the program's state and the reference's -/
def ran (v : Int32) (n : Nat) : Bool := decide (v.toNatClampNeg < n ∧ v = nI v.toNatClampNeg)
theorem ran_y {j n : Nat} (h : j < n) (hn : n < 2 ^ 31) : ran (nI j) n = true := by
  unfold ran
  rw [nI_clamp (by omega)]
  exact decide_eq_true ⟨h, rfl⟩
theorem ran_n {v : Int32} {n : Nat} (h : ∀ j, j < n → v ≠ nI j) : ran v n = false := decide_eq_false fun z => h _ z.1 z.2
def dec (P : (Int32 → Prop) → Prop) (v : Int32) (n : Nat) : Prop := ∀ Qp : Int32 → Prop, (∀ j, j < n → v = nI j → Qp 1) → ((∀ j, j < n → v ≠ nI j) → Qp 0) → P Qp
theorem d_within {v : Int32} (n : Nat) (hn : n < 2 ^ 31) : dec (p_X9_within v (nI n)) v n := by
  intro Qp h1 h0
  unfold p_X9_within
  by_cases c1 : v < 0
  · rw [if_pos c1]
    refine h0 fun j hj e => ?_
    rw [e] at c1
    exact nI_pos (by omega) c1
  · rw [if_neg c1]
    obtain ⟨j, hj, e⟩ := nI_of c1
    subst e
    by_cases c2 : n ≤ j
    · rw [if_pos ((nI_leI hn hj).mpr c2)]
      refine h0 fun i hi e => ?_
      have := (nI_eq hj (by omega)).mp e
      omega
    · rw [if_neg (fun z => c2 ((nI_leI hn hj).mp z))]
      exact h1 j (by omega) rfl
theorem d_in {v hi : Int32} (n : Nat) (hn : n < 2 ^ 31) (hh : hi.toInt = (n : Int) - 1) : dec (p_X10_in v.toInt64 (0 : Int32).toInt64 hi.toInt64) v n := by
  intro Qp h1 h0
  refine M_in32 ?_
  by_cases c1 : v < 0
  · rw [decide_eq_false (Int32.not_le.mpr c1)]
    exact h0 fun j hj e => by rw [e] at c1; exact nI_pos (by omega) c1
  · obtain ⟨j, hj, e⟩ := nI_of c1
    subst e
    rw [decide_eq_true (nI_pos' hj)]
    by_cases c2 : j < n
    · have a2 : nI j ≤ hi := by rw [Int32.le_iff_toInt_le, nI_toInt hj, hh]; omega
      rw [decide_eq_true a2]
      exact h1 j c2 rfl
    · have a2 : ¬ nI j ≤ hi := by rw [Int32.le_iff_toInt_le, nI_toInt hj, hh]; omega
      rw [decide_eq_false a2]
      exact h0 fun i hi e => c2 (by have := (nI_eq hj (by omega)).mp e; omega)
theorem d_two {v : Int32} : dec (p_X10_isTwo v) v 2 := d_in (hi := 1) 2 (by omega) (by decide)
theorem d_year {v : Int32} : dec (p_X10_isYear v) v 30 := d_in (hi := 29) 30 (by omega) (by decide)
theorem d_hour {v : Int32} : dec (p_X10_isHour v) v 24 := d_in (hi := 23) 24 (by omega) (by decide)
theorem d_sheet {v : Int32} : dec (p_X10_isSheet v) v 4 := d_in (hi := 3) 4 (by omega) (by decide)
theorem d_isLaw {c : CD} {y : Mem} {v : Int32} (hM : MC c y) : dec (p_X10_isLaw y v) v (kl c) := fun _ h1 h0 => M_isLaw hM h1 (fun e => h0 fun j hj ej => e ⟨j, hj, ej⟩)
def decD (P : (Int32 → Prop) → Prop) (v : Int32) (n : Nat) : Prop := ∀ Qp : Int32 → Prop, (∀ w, w ≤ n → v = dI w → Qp 1) → ((∀ w, w ≤ n → v ≠ dI w) → Qp 0) → P Qp
theorem d_deedX {v : Int32} : decD (p_X9_isDeedOrNone v) v 6 := by
  intro Qp h1 h0
  refine ⟨fun e => h1 0 (by omega) (by rw [e]; rfl), fun e => d_within 6 (by omega) _ (fun j hj ej => ⟨fun z => absurd z (by decide), fun _ => h1 (j + 1) (by omega) (by rw [dI_s]; exact ej)⟩) (fun hn => ⟨fun _ => h0 fun w hw ew => ?_, fun z => absurd rfl z⟩)⟩
  cases w with
  | zero => exact e (by rw [ew]; rfl)
  | succ w => rw [dI_s] at ew; exact hn w (by omega) ew
theorem d_deedM {v hi : Int32} (n : Nat) (hn : n < 2 ^ 30) (hh : hi.toInt = (n : Int) - 1) : decD (p_X10_in v.toInt64 (-1 : Int32).toInt64 hi.toInt64) v n := by
  intro Qp h1 h0
  refine M_in32 ?_
  by_cases h : ∃ w, w ≤ n ∧ v = dI w
  · obtain ⟨w, hw, e⟩ := h
    have a1 : (-1 : Int32) ≤ v := by rw [e, Int32.le_iff_toInt_le, dI_toInt (by omega), show (-1 : Int32).toInt = -1 by decide]; omega
    have a2 : v ≤ hi := by rw [e, Int32.le_iff_toInt_le, dI_toInt (by omega), hh]; omega
    rw [decide_eq_true a1, decide_eq_true a2]
    exact h1 w hw e
  · have a3 : (decide ((-1 : Int32) ≤ v) && decide (v ≤ hi)) = false := by
      rw [Bool.eq_false_iff]
      intro z
      simp only [Bool.and_eq_true, decide_eq_true_eq] at z
      obtain ⟨z1, z2⟩ := z
      rw [Int32.le_iff_toInt_le, show (-1 : Int32).toInt = -1 by decide] at z1
      rw [Int32.le_iff_toInt_le, hh] at z2
      refine h ⟨(v.toInt + 1).toNat, by omega, ?_⟩
      apply Int32.toInt_inj.mp
      rw [dI_toInt (by omega)]
      omega
    rw [a3]
    exact h0 fun w hw e => h ⟨w, hw, e⟩
theorem one {P1 : (Int32 → Prop) → Prop} {v1 : Int32} {n : Nat} {B D : Prop} (h1 : dec P1 v1 n) (hB : (∀ j, j < n → v1 ≠ nI j) → B) (hD : ∀ j, j < n → v1 = nI j → D) : P1 (fun r => ((r = 0 → B) ∧ (¬ (r = 0) → D))) :=
  h1 _ (fun j hj e => ⟨fun z => absurd z (by decide), fun _ => hD j hj e⟩) (fun e => ⟨fun _ => hB e, fun z => absurd rfl z⟩)
theorem oneD {P1 : (Int32 → Prop) → Prop} {v1 : Int32} {n : Nat} {B D : Prop} (h1 : decD P1 v1 n) (hB : (∀ j, j ≤ n → v1 ≠ dI j) → B) (hD : ∀ j, j ≤ n → v1 = dI j → D) : P1 (fun r => ((r = 0 → B) ∧ (¬ (r = 0) → D))) :=
  h1 _ (fun j hj e => ⟨fun z => absurd z (by decide), fun _ => hD j hj e⟩) (fun e => ⟨fun _ => hB e, fun z => absurd rfl z⟩)
theorem two {P1 P2 : (Int32 → Prop) → Prop} {v1 v2 : Int32} {n m : Nat} {B D : Prop} (h1 : dec P1 v1 n) (h2 : dec P2 v2 m) (hB : ((∀ j, j < n → v1 ≠ nI j) ∨ ∀ j, j < m → v2 ≠ nI j) → B) (hD : ∀ j k, j < n → k < m → v1 = nI j → v2 = nI k → D) : P1 (fun r => ((r = 0 → B) ∧ (¬ (r = 0) → P2 (fun r' => ((r' = 0 → B) ∧ (¬ (r' = 0) → D)))))) :=
  one h1 (fun e => hB (Or.inl e)) (fun j hj e => one h2 (fun e2 => hB (Or.inr e2)) (fun k hk e2 => hD j k hj hk e e2))
/-- an answer by two numbers, or BAD -/
def a2 (n m : Nat) (f : Nat → Nat → Int32) (v1 v2 : Int32) : Int32 := if (ran v1 n && ran v2 m) = true then f v1.toNatClampNeg v2.toNatClampNeg else -2
theorem a2_y {n m j k : Nat} (f : Nat → Nat → Int32) (hj : j < n) (hk : k < m) (hn : n < 2 ^ 31) (hm : m < 2 ^ 31) : a2 n m f (nI j) (nI k) = f j k := by
  unfold a2
  rw [ran_y hj hn, ran_y hk hm, nI_clamp (by omega), nI_clamp (by omega)]
  rfl
theorem a2_n {n m : Nat} (f : Nat → Nat → Int32) {v1 v2 : Int32} (h : (∀ j, j < n → v1 ≠ nI j) ∨ ∀ j, j < m → v2 ≠ nI j) : a2 n m f v1 v2 = -2 := by
  unfold a2
  rcases h with h | h
  · rw [ran_n h]; rfl
  · rw [ran_n h, Bool.and_false]; rfl
/-- how many below n -/
def cntP (p : Nat → Bool) : Nat → Nat
  | 0 => 0
  | m + 1 => cntP p m + (p m).toNat
def fit (c : CD) (s : LG) (m : Nat) : Bool := decide (∀ k, k < s.1 → doesN c m (s.2.1 k) = s.2.2 k)
def fN (c : CD) (s : LG) (n : Nat) : Nat := cntP (fit c s) n
def cmF (c : CD) (s : LG) : Nat → Nat
  | 0 => 2 ^ kl c - 1
  | m + 1 => if fit c s m = true then cmF c s m &&& m else cmF c s m
def comN (c : CD) (s : LG) : Nat := if fN c s (2 ^ kl c) = 0 then 0 else cmF c s (2 ^ kl c)
def al (c : CD) (s : LG) (h k : Nat) : Nat := cntP (fun m => fit c s m && decide (doesN c m h = k)) (2 ^ kl c)
def mxF (f : Nat → Nat) : Nat → Nat
  | 0 => 0
  | k + 1 => if mxF f k < f k then f k else mxF f k
def mosN (c : CD) (s : LG) (h : Nat) : Nat := mxF (al c s h) 8
/-- the first hour with the least (and the least + 1) -/
def watF (f : Nat → Nat) : Nat → Nat × Nat
  | 0 => (0, 0)
  | h + 1 => if (watF f h).2 = 0 ∨ f h + 1 < (watF f h).2 then (h, f h + 1) else watF f h
def watN (c : CD) (s : LG) : Nat := (watF (mosN c s) 24).1
def sok (s : LG) : Prop := s.1 ≤ 8 ∧ ∀ i, i < s.1 → s.2.1 i < 24 ∧ s.2.2 i ≤ 6
def SX (s : LG) (x : Mem) : Prop := sok s ∧ x 35 2 = nI s.1 ∧ ∀ i, i < s.1 → x 36 i = nI (s.2.1 i) ∧ x 37 i = dI (s.2.2 i)
def SY (s : LG) (y : Mem) : Prop := y 0 21 = nI s.1 ∧ ∀ i, i < s.1 → y 17 (2 * i) = nI (s.2.1 i) ∧ y 17 (2 * i + 1) = dI (s.2.2 i)
def cacheX (c : CD) (s : LG) (x : Mem) : Prop := x 35 5 = nI (fN c s (2 ^ kl c)) ∧ x 35 6 = nI (comN c s) ∧ (∀ i, i < fN c s (2 ^ kl c) → ∃ m, x 38 i = nI m ∧ m < 2 ^ kl c ∧ fit c s m = true ∧ fN c s m = i) ∧ (x 35 9 = (-1 : Int32) ∨ x 35 9 = nI (watN c s))
def OKX (b0 : Nat → Int32) (n0 : Nat) (b1 : Nat → Int32) (n1 : Nat) (x : Mem) : Prop := XC (cdOf b0 n0 b1 n1) x ∧ PF (cdOf b0 n0 b1 n1) x ∧ x 1 8 = dI (prF 1 b0 n0).1 ∧ x 4 8 = dI (prF 4 b1 n1).1
def RX (n0 n1 : Nat) (t b s : LG) (x : Mem) : Prop := (x 1 2 = nI 4 ∧ x 1 3 = nI 12 ∧ x 4 2 = nI 3 ∧ x 4 3 = nI 12) ∧ (x 1 6 = nI n0 ∧ n0 ≤ 71 ∧ x 4 6 = nI n1 ∧ n1 ≤ 47) ∧ (XL 21 t x ∧ XL 24 b x ∧ XR (RT t) (LT t b) x 27) ∧ SX s x ∧ (∀ i, i < 4096 → x 39 i = 0) ∧ (x 0 12 = 0 → OKX (x 2) n0 (x 5) n1 x ∧ (x 35 3 = 0 → cacheX (cdOf (x 2) n0 (x 5) n1) s x))
def RY (b0 : Nat → Int32) (n0 : Nat) (b1 : Nat → Int32) (n1 : Nat) (t b s : LG) (y : Mem) : Prop := TX 0 n0 b0 y ∧ TX 1 n1 b1 y ∧ ML 10 11 t y ∧ ML 11 13 b y ∧ SY s y
def SHR (x y : Mem) : Prop := ∀ q, q < 4 → (x (47 + 2 * q) 2 = (-1 : Int32) ∧ y 1 q = (-1 : Int32)) ∨ ∃ f n, f < 3 ∧ n ≤ 60 ∧ x (47 + 2 * q) 1 = nI f ∧ y 1 q = nI f ∧ x (47 + 2 * q) 2 = nI n ∧ y 2 q = nI n ∧ ∀ i, i < n → x (47 + 2 * q + 1) i = y 3 (60 * q + i)
def Rel (x : Mem) (_ : MemL) (y : Mem) : Prop := (∃ n0 n1 t b s, RX n0 n1 t b s x ∧ RY (x 2) n0 (x 5) n1 t b s y) ∧ SHR x y ∧ x 0 13 = y 0 4
/-- what Rel takes beside RX -/
def FX (x g : Mem) : Prop := g 2 = x 2 ∧ g 5 = x 5 ∧ g 0 13 = x 0 13 ∧ ∀ k, 46 < k → g k = x k
theorem FX.rf (x : Mem) : FX x x := ⟨rfl, rfl, rfl, fun _ _ => rfl⟩
theorem FX.tr {x g f : Mem} (a : FX x g) (b : FX g f) : FX x f := ⟨b.1.trans a.1, b.2.1.trans a.2.1, b.2.2.1.trans a.2.2.1, fun k hk => (b.2.2.2 k hk).trans (a.2.2.2 k hk)⟩
theorem SY.q {s : LG} {y y' : Mem} (h : SY s y) (hf : FrQ y y') : SY s y' := by
  unfold SY
  rw [hf.2.2.2.2, hf.1 17 (by omega) (by omega)]; exact h
theorem RY.q {b0 b1 : Nat → Int32} {n0 n1 : Nat} {t b s : LG} {y y' : Mem} (h : RY b0 n0 b1 n1 t b s y) (hf : FrQ y y') : RY b0 n0 b1 n1 t b s y' := ⟨h.1.q hf, h.2.1.q hf, h.2.2.1.q hf (by omega), h.2.2.2.1.q hf (by omega), h.2.2.2.2.q hf⟩
theorem SHR.q {x g y y' : Mem} (h : SHR x y) (hx : ∀ k, 46 < k → g k = x k) (h1 : y' 1 = y 1) (h2 : y' 2 = y 2) (h3 : y' 3 = y 3) : SHR g y' := by
  intro q hq
  rw [hx (47 + 2 * q) (by omega), hx (47 + 2 * q + 1) (by omega), h1, h2, h3]
  exact h q hq
theorem Rel.q {x g y y' : Mem} {xl xl' : MemL} {n0 n1 : Nat} {t b s : LG} (h : Rel x xl y) (hY : RY (x 2) n0 (x 5) n1 t b s y) (hX : RX n0 n1 t b s g) (hF : FX x g) (hf : FrQ y y') : Rel g xl' y' := by
  refine ⟨⟨n0, n1, t, b, s, hX, ?_⟩, h.2.1.q hF.2.2.2 (hf.1 1 (by omega) (by omega)) (hf.1 2 (by omega) (by omega)) (hf.1 3 (by omega) (by omega)), ?_⟩
  · rw [hF.1, hF.2.1]; exact hY.q hf
  · rw [hF.2.2.1, hf.2.1]; exact h.2.2
/-- what RX takes -/
def Fr1 (x g : Mem) : Prop := (∀ k, k ≠ 0 → (k < 29 ∨ (34 < k ∧ k < 40)) → g k = x k) ∧ g 0 12 = x 0 12
theorem XC.f {c : CD} {x g : Mem} (hX : XC c x) (hf : ∀ k, 6 < k → k < 21 → g k = x k) : XC c g := by
  unfold XC XC0 at *
  rw [hf 7 (by omega) (by omega), hf 8 (by omega) (by omega), hf 9 (by omega) (by omega), hf 10 (by omega) (by omega), hf 11 (by omega) (by omega), hf 12 (by omega) (by omega), hf 14 (by omega) (by omega), hf 15 (by omega) (by omega), hf 16 (by omega) (by omega), hf 17 (by omega) (by omega), hf 18 (by omega) (by omega), hf 19 (by omega) (by omega), hf 20 (by omega) (by omega)]
  exact hX
theorem PF.f {c : CD} {h h' : Mem} (hp : PF c h) (hf : ∀ k, k ≠ 0 → k < 7 → h' k = h k) : PF c h' := by
  unfold PF
  rw [hf 1 (by omega) (by omega), hf 4 (by omega) (by omega), hf 3 (by omega) (by omega), hf 6 (by omega) (by omega)]
  exact hp
theorem XL.f {k : Nat} {g : LG} {x x' : Mem} (h : XL k g x) (h0 : x' k = x k) (h1 : x' (k + 1) = x (k + 1)) (h2 : x' (k + 2) = x (k + 2)) : XL k g x' := by
  unfold XL
  rw [h0, h1, h2]; exact h
theorem XR.f {R : Nat → Nat} {la : Nat → Bool} {k : Nat} {x x' : Mem} (h : XR R la x k) (h0 : x' k = x k) (h1 : x' (k + 1) = x (k + 1)) : XR R la x' k := by
  unfold XR
  rw [h0, h1]; exact h
theorem SX.f {s : LG} {x x' : Mem} (h : SX s x) (h0 : x' 35 2 = x 35 2) (h1 : x' 36 = x 36) (h2 : x' 37 = x 37) : SX s x' := by
  unfold SX
  rw [h0, h1, h2]; exact h
theorem cacheX.f {c : CD} {s : LG} {x x' : Mem} (h : cacheX c s x) (h0 : x' 35 = x 35) (h1 : x' 38 = x 38) : cacheX c s x' := by
  unfold cacheX
  rw [h0, h1]; exact h
theorem OKX.f {b0 b1 : Nat → Int32} {n0 n1 : Nat} {x g : Mem} (h : OKX b0 n0 b1 n1 x) (hf : ∀ k, k ≠ 0 → k < 21 → g k = x k) : OKX b0 n0 b1 n1 g := by
  refine ⟨h.1.f (fun k h1 h2 => hf k (by omega) h2), h.2.1.f (fun k h1 h2 => hf k h1 (by omega)), ?_, ?_⟩
  · rw [hf 1 (by omega) (by omega)]; exact h.2.2.1
  · rw [hf 4 (by omega) (by omega)]; exact h.2.2.2
theorem RX.f {n0 n1 : Nat} {t b s : LG} {x g : Mem} (h : RX n0 n1 t b s x) (hf : Fr1 x g) : RX n0 n1 t b s g := by
  obtain ⟨h1, h2, ⟨h3, h4, h5⟩, h6, h7, h8⟩ := h
  obtain ⟨f, f0⟩ := hf
  refine ⟨?_, ?_, ⟨h3.f (f 21 (by omega) (by omega)) (f 22 (by omega) (by omega)) (f 23 (by omega) (by omega)), h4.f (f 24 (by omega) (by omega)) (f 25 (by omega) (by omega)) (f 26 (by omega) (by omega)), h5.f (f 27 (by omega) (by omega)) (f 28 (by omega) (by omega))⟩, h6.f (by rw [f 35 (by omega) (by omega)]) (f 36 (by omega) (by omega)) (f 37 (by omega) (by omega)), ?_, ?_⟩
  · rw [f 1 (by omega) (by omega), f 4 (by omega) (by omega)]; exact h1
  · rw [f 1 (by omega) (by omega), f 4 (by omega) (by omega)]; exact h2
  · rw [f 39 (by omega) (by omega)]; exact h7
  · rw [f0, f 2 (by omega) (by omega), f 5 (by omega) (by omega), f 35 (by omega) (by omega)]
    intro z
    exact ⟨(h8 z).1.f (fun k a1 a2 => f k a1 (by omega)), fun w => ((h8 z).2 w).f (f 35 (by omega) (by omega)) (f 38 (by omega) (by omega))⟩
theorem psMem_o {h : Mem} {k c n : Nat} (R : Nat × Nat × (Nat → Int32)) (h1 : c ≠ k) (h2 : c ≠ k + 2) : psMem h k R n c = h c := by
  funext i
  unfold psMem
  rw [if_neg (fun z => h1 z.1), if_neg (fun z => h1 z.1), if_neg (fun z => h2 z.1)]
theorem psMem_k {h : Mem} {k i n : Nat} (R : Nat × Nat × (Nat → Int32)) (h1 : i ≠ 7) (h2 : i ≠ 8) : psMem h k R n k i = h k i := by
  unfold psMem
  rw [if_neg (fun z => h1 z.2), if_neg (fun z => h2 z.2), if_neg (fun z => absurd z.1 (by omega))]
theorem psMem_7 {h : Mem} {k n : Nat} (R : Nat × Nat × (Nat → Int32)) : psMem h k R n k 7 = nI R.2.1 := by
  unfold psMem
  rw [if_pos ⟨rfl, rfl⟩]
theorem psMem_8 {h : Mem} {k n : Nat} (R : Nat × Nat × (Nat → Int32)) : psMem h k R n k 8 = dI R.1 := by
  unfold psMem
  rw [if_neg (fun z => absurd z.2 (by omega)), if_pos ⟨rfl, rfl⟩]
theorem psMem_p {h : Mem} {k n i : Nat} (R : Nat × Nat × (Nat → Int32)) (hi : i < lenP k) (hn : n ≠ 0) : psMem h k R n (k + 2) i = R.2.2 i := by
  unfold psMem
  rw [if_neg (fun z => absurd z.1 (by omega)), if_neg (fun z => absurd z.1 (by omega)), if_pos ⟨rfl, hi, hn⟩]
theorem X_refresh {n0 n1 : Nat} {t b s : LG} {x : Mem} {Qp : Mem → Prop} (hR : RX n0 n1 t b s x) (hQ : ∀ g, RX n0 n1 t b s g → FX x g → OKX (x 2) n0 (x 5) n1 g → g 0 12 = 0 → Qp g) : p_X9_refresh x Qp := by
  obtain ⟨h1, h2, ⟨h3, h4, h5⟩, h6, h7, h8⟩ := hR
  refine ⟨fun z => hQ x ⟨h1, h2, ⟨h3, h4, h5⟩, h6, h7, h8⟩ (FX.rf x) (h8 z).1 z, fun _ => ?_⟩
  refine X_parse (k := 1) (n := n0) (Or.inl rfl) h2.1 h1.1 h1.2.1 h2.2.1 ?_
  refine X_parse (k := 4) (n := n1) (Or.inr rfl) ?_ ?_ ?_ h2.2.2.2 ?_
  · rw [psMem_o _ (by omega) (by omega)]; exact h2.2.2.1
  · rw [psMem_o _ (by omega) (by omega)]; exact h1.2.2.1
  · rw [psMem_o _ (by omega) (by omega)]; exact h1.2.2.2
  · rw [show psMem x 1 (prF 1 (x (1 + 1)) n0) n0 (4 + 1) = x 5 from psMem_o _ (by omega) (by omega)]
    show p_X0_layOut (psMem (psMem x 1 (prF 1 (x 2) n0) n0) 4 (prF 4 (x 5) n1) n1) _
    have eo : ∀ c, c ≠ 1 → c ≠ 3 → c ≠ 4 → c ≠ 6 → psMem (psMem x 1 (prF 1 (x 2) n0) n0) 4 (prF 4 (x 5) n1) n1 c = x c := fun c a1 a2 a3 a4 => by
      rw [psMem_o _ a3 a4, psMem_o _ a1 a2]
    have e1 : psMem (psMem x 1 (prF 1 (x 2) n0) n0) 4 (prF 4 (x 5) n1) n1 1 = psMem x 1 (prF 1 (x 2) n0) n0 1 := psMem_o _ (by omega) (by omega)
    have e3 : psMem (psMem x 1 (prF 1 (x 2) n0) n0) 4 (prF 4 (x 5) n1) n1 3 = psMem x 1 (prF 1 (x 2) n0) n0 3 := psMem_o _ (by omega) (by omega)
    have e4 : ∀ i, i ≠ 7 → i ≠ 8 → psMem (psMem x 1 (prF 1 (x 2) n0) n0) 4 (prF 4 (x 5) n1) n1 4 i = x 4 i := fun i a1 a2 => by
      rw [psMem_k _ a1 a2, psMem_o _ (by omega) (by omega)]
    have e6 : ∀ i, i < 36 → n1 ≠ 0 → psMem (psMem x 1 (prF 1 (x 2) n0) n0) 4 (prF 4 (x 5) n1) n1 6 i = (prF 4 (x 5) n1).2.2 i := fun i hi hn => psMem_p _ hi hn
    have e33 : ∀ i, i < 60 → n0 ≠ 0 → psMem x 1 (prF 1 (x 2) n0) n0 3 i = (prF 1 (x 2) n0).2.2 i := fun i hi hn => psMem_p _ hi hn
    have p0 : ∀ l, l < kl (cdOf (x 2) n0 (x 5) n1) → n0 ≠ 0 ∧ l < 12 := fun l hl => ⟨fun e => by subst e; exact absurd hl (Nat.not_lt_zero l), by have := (cd_ok (b0 := x 2) (n0 := n0) (b1 := x 5) (n1 := n1)).1; omega⟩
    have p1 : ∀ w, w < kw (cdOf (x 2) n0 (x 5) n1) → n1 ≠ 0 ∧ w < 12 := fun w hw => ⟨fun e => by subst e; exact absurd hw (Nat.not_lt_zero w), by have := (cd_ok (b0 := x 2) (n0 := n0) (b1 := x 5) (n1 := n1)).2.1; omega⟩
    generalize hE : psMem (psMem x 1 (prF 1 (x 2) n0) n0) 4 (prF 4 (x 5) n1) n1 = E at *
    have hP : PF (cdOf (x 2) n0 (x 5) n1) E := by
      refine ⟨cd_ok, ?_, ?_, fun l hl => ?_, fun w hw => ?_⟩
      · rw [e1, psMem_7]; rfl
      · rw [← hE, psMem_7]; rfl
      · obtain ⟨a0, a12⟩ := p0 l hl
        obtain ⟨⟨c0, -⟩, ⟨c1, -⟩, ⟨c2, -⟩, ⟨c3, -⟩, ⟨c4, -⟩⟩ := cd_law hl
        rw [e3, e33 _ (by omega) a0, e33 _ (by omega) a0, e33 _ (by omega) a0, e33 _ (by omega) a0, e33 _ (by omega) a0]
        exact ⟨c0, c1, c2, c3, c4⟩
      · obtain ⟨a0, a12⟩ := p1 w hw
        obtain ⟨⟨c0, -⟩, ⟨c1, -⟩, ⟨c2, -⟩⟩ := cd_want hw
        rw [e6 _ (by omega) a0, e6 _ (by omega) a0, e6 _ (by omega) a0]
        exact ⟨c0, c1, c2⟩
    have f18 : E 1 8 = dI (prF 1 (x 2) n0).1 := by rw [e1, psMem_8]
    have f48 : E 4 8 = dI (prF 4 (x 5) n1).1 := by rw [← hE, psMem_8]
    have g1 : ∀ i, i ≠ 7 → i ≠ 8 → E 1 i = x 1 i := fun i a1 a2 => by rw [e1, psMem_k _ a1 a2]
    refine X_layOut hP fun g hX hf => ?_
    have gk : ∀ k, k ≠ 0 → k ≠ 35 → (up2 (up2 g 35 3 (1 : Int32)) 0 12 (0 : Int32)) k = g k := fun k a1 a2 => by rw [up2_other _ _ _ a1, up2_other _ _ _ a2]
    have k35 : ∀ j, j ≠ 3 → (up2 (up2 g 35 3 (1 : Int32)) 0 12 (0 : Int32)) 35 j = x 35 j := fun j a => by rw [up2_other _ _ _ (by omega), up2_row, if_neg (fun z => a z.2), hf 35 (by omega), eo 35 (by omega) (by omega) (by omega) (by omega)]
    have k353 : (up2 (up2 g 35 3 (1 : Int32)) 0 12 (0 : Int32)) 35 3 = 1 := by rw [up2_other _ _ _ (by omega), up2_row, if_pos ⟨rfl, rfl⟩]
    have k0 : ∀ j, j ≠ 12 → (up2 (up2 g 35 3 (1 : Int32)) 0 12 (0 : Int32)) 0 j = x 0 j := fun j a => by rw [up2_row, if_neg (fun z => a z.2), up2_other _ _ _ (by omega), hf 0 (by omega), eo 0 (by omega) (by omega) (by omega) (by omega)]
    have k012 : (up2 (up2 g 35 3 (1 : Int32)) 0 12 (0 : Int32)) 0 12 = 0 := by rw [up2_row, if_pos ⟨rfl, rfl⟩]
    generalize up2 (up2 g 35 3 (1 : Int32)) 0 12 (0 : Int32) = G at gk k35 k353 k0 k012 ⊢
    have go : ∀ c, c ≠ 0 → c ≠ 35 → c ≠ 1 → c ≠ 3 → c ≠ 4 → c ≠ 6 → (c < 7 ∨ 20 < c) → G c = x c := fun c a0 a5 a1 a2 a3 a4 a6 => by rw [gk c a0 a5, hf c a6, eo c a1 a2 a3 a4]
    have gE : ∀ c, c ≠ 0 → c < 7 → G c = E c := fun c a0 a5 => by rw [gk c a0 (by omega), hf c (by omega)]
    have ok : OKX (x 2) n0 (x 5) n1 G := ⟨hX.f (fun k a1 a2 => gk k (by omega) (by omega)), hP.f gE, by rw [gE 1 (by omega) (by omega)]; exact f18, by rw [gE 4 (by omega) (by omega)]; exact f48⟩
    have G2 : G 2 = x 2 := go 2 (by omega) (by omega) (by omega) (by omega) (by omega) (by omega) (by omega)
    have G5 : G 5 = x 5 := go 5 (by omega) (by omega) (by omega) (by omega) (by omega) (by omega) (by omega)
    have G1 : ∀ i, i ≠ 7 → i ≠ 8 → G 1 i = x 1 i := fun i a1 a2 => by rw [gE 1 (by omega) (by omega)]; exact g1 i a1 a2
    have G4 : ∀ i, i ≠ 7 → i ≠ 8 → G 4 i = x 4 i := fun i a1 a2 => by rw [gE 4 (by omega) (by omega)]; exact e4 i a1 a2
    have gq : ∀ c, 20 < c → c ≠ 35 → G c = x c := fun c a1 a2 => go c (by omega) a2 (by omega) (by omega) (by omega) (by omega) (by omega)
    refine hQ G ⟨?_, ?_, ⟨h3.f (gq 21 (by omega) (by omega)) (gq 22 (by omega) (by omega)) (gq 23 (by omega) (by omega)), h4.f (gq 24 (by omega) (by omega)) (gq 25 (by omega) (by omega)) (gq 26 (by omega) (by omega)), h5.f (gq 27 (by omega) (by omega)) (gq 28 (by omega) (by omega))⟩, h6.f (k35 2 (by omega)) (gq 36 (by omega) (by omega)) (gq 37 (by omega) (by omega)), ?_, fun _ => ⟨?_, fun z => absurd (k353.symm.trans z) (by decide)⟩⟩ ⟨G2, G5, k0 13 (by omega), fun k hk => gq k (by omega) (by omega)⟩ ok k012
    · rw [G1 2 (by omega) (by omega), G1 3 (by omega) (by omega), G4 2 (by omega) (by omega), G4 3 (by omega) (by omega)]; exact h1
    · rw [G1 6 (by omega) (by omega), G4 6 (by omega) (by omega)]; exact h2
    · rw [gq 39 (by omega) (by omega)]; exact h7
    · rw [G2, G5]; exact ok
theorem X_kings {n0 n1 : Nat} {t b s : LG} {x : Mem} {year : Nat} {Qp : Int32 → Mem → Prop} (hR : RX n0 n1 t b s x) (hy : year < 30) (hQ : ∀ g, RX n0 n1 t b s g → FX x g → OKX (x 2) n0 (x 5) n1 g → g 0 12 = 0 → Qp (nI (bindsN (cdOf (x 2) n0 (x 5) n1) (RT t) (LT t b) year 0)) g) : p_X9_kingsLaws x (nI year) Qp :=
  X_refresh hR fun g h1 h2 h3 h4 => X_bindingKing h3.1 h1.2.2.1.2.2 hy (hQ g h1 h2 h3 h4)
theorem Y_find {b0 b1 : Nat → Int32} {n0 n1 : Nat} {t b s : LG} {y : Mem} {Qp : Mem → Prop} (h : RY b0 n0 b1 n1 t b s y) (hQ : ∀ y', FrQ y y' → MC (cdOf b0 n0 b1 n1) y' → RM (RT t) (LT t b) y' → Qp y') : p_X10_find y Qp := M_find h.1 h.2.1 h.2.2.1 h.2.2.2.1 hQ
theorem Y_reads {b0 b1 : Nat → Int32} {n0 n1 : Nat} {t b s : LG} {y : Mem} {Qp : Mem → Prop} (h : RY b0 n0 b1 n1 t b s y) (hQ : ∀ y', FrQ y y' → MC (cdOf b0 n0 b1 n1) y' → Qp y') : p_X10_reads y Qp := M_reads h.1 h.2.1 fun y' f c => hQ y' f.q c
