/-! STEPS: digest -/
def hsh (v : Int64) (r : Int32) : Int64 := ((31 : Int64) * v) + r.toInt64
def itH (f : Nat → Int32) : Nat → Nat → Int64 → Int64
  | 0, _, v => v
  | r + 1, k, v => itH f r (k + 1) (hsh v (f k))
def itO (f : Nat → Nat → Int32) (n : Nat) : Nat → Nat → Int64 → Int64
  | 0, _, v => v
  | r + 1, l, v => itO f n r (l + 1) (itH (f l) n 0 v)
def yrs3 (i : Nat) : Nat := ([0, 3, 29] : List Nat).getD i 0
def hrs3 (i : Nat) : Nat := ([0, 8, 20] : List Nat).getD i 0
theorem tab4 : ∀ i, i < 3 → tabF 4 i = nI (yrs3 i) ∧ yrs3 i < 30 := by decide
theorem tab5 : ∀ i, i < 3 → tabF 5 i = nI (hrs3 i) ∧ hrs3 i < 24 := by decide
def dgH (c : CD) (R : Nat → Nat) (la : Nat → Bool) (yr h : Nat) (v : Int64) : Int64 := ((31 : Int64) * (((31 : Int64) * (hsh (hsh (hsh v (fDo c R la yr h)) (telN (exN c h 2 (bindsN c R la yr 0)) 0)) (telN (exN c h 2 (bindsN c R la yr 0)) 1))) + fGo c h (bindsN c R la yr 0) 5 2 0)) + fGo c h (bindsN c R la yr 0) 5 2 1
def dgHs (c : CD) (R : Nat → Nat) (la : Nat → Bool) (yr : Nat) : Nat → Nat → Int64 → Int64
  | 0, _, v => v
  | r + 1, i, v => dgHs c R la yr r (i + 1) (dgH c R la yr (hrs3 i) v)
noncomputable def dgY (c : CD) (R : Nat → Nat) (la : Nat → Bool) (yr : Nat) (v : Int64) : Int64 := dgHs c R la yr 3 0 (hsh (hsh (hsh (hsh (hsh (hsh (itH (fBi c R la yr) 3 0 v) (fJo c R la yr 0)) (fJo c R la yr 1)) (fQu c R la yr 0)) (fQu c R la yr 1)) (fKe c R la yr 0)) (fKe c R la yr 1))
noncomputable def dgYs (c : CD) (R : Nat → Nat) (la : Nat → Bool) : Nat → Nat → Int64 → Int64
  | 0, _, v => v
  | r + 1, i, v => dgYs c R la r (i + 1) (dgY c R la (yrs3 i) v)
def dgT (b0 : Nat → Int32) (n0 : Nat) (b1 : Nat → Int32) (n1 : Nat) (v : Int64) : Int64 := itO (fWa (cdOf b0 n0 b1 n1)) 3 (kw (cdOf b0 n0 b1 n1)) 0 (itO (fLa (cdOf b0 n0 b1 n1)) 5 (kl (cdOf b0 n0 b1 n1)) 0 (hsh (hsh v (aFa b0 n0 b1 n1 0)) (aFa b0 n0 b1 n1 1)))
noncomputable def DGN (b0 : Nat → Int32) (n0 : Nat) (b1 : Nat → Int32) (n1 : Nat) (t b s : LG) (fd : Int32) : Int64 :=
  hsh (hsh (hsh (itH (fSe (cdOf b0 n0 b1 n1) s) 3 0 (hsh (hsh (dgYs (cdOf b0 n0 b1 n1) (RT t) (LT t b) 3 0 (dgT b0 n0 b1 n1 (itH (fun k => aCt (cdOf b0 n0 b1 n1) (RT t) (LT t b) n0 n1 t.1 b.1 s.1 fd (nI k)) 8 0 17))) (aOr (cdOf b0 n0 b1 n1) b (RT t) (LT t b) 3 2 (-1))) (aOr (cdOf b0 n0 b1 n1) b (RT t) (LT t b) 3 2 0))) (nI (watN (cdOf b0 n0 b1 n1) s))) (aYr (cdOf b0 n0 b1 n1) 7 20 0)) (aYr (cdOf b0 n0 b1 n1) 7 20 1)
/-! the program's -/
def IX (n0 n1 : Nat) (t b s : LG) (x g : Mem) : Prop := RX n0 n1 t b s g ∧ FX x g
section DgX
variable {n0 n1 : Nat} {t b s : LG} {x g : Mem} {xl : MemL} {Qp : Int32 → Mem → Prop}
theorem Z_count {k : Nat} (h : IX n0 n1 t b s x g) (hQ : ∀ g', IX n0 n1 t b s x g' → Qp (aCt (cdOf (x 2) n0 (x 5) n1) (RT t) (LT t b) n0 n1 t.1 b.1 s.1 (x 0 13) (nI k)) g') : p_X9_count g (nI k) Qp := X_count h.1 fun g' a1 a2 => by
  rw [h.2.1, h.2.2.1, h.2.2.2.1]; exact hQ g' ⟨a1, h.2.tr a2⟩
theorem Z_fault {v : Int32} (h : IX n0 n1 t b s x g) (hQ : ∀ g', IX n0 n1 t b s x g' → OKX (x 2) n0 (x 5) n1 g' → Qp (aFa (x 2) n0 (x 5) n1 v) g') (hv : v = 0 ∨ v = 1) : p_X9_fault g v Qp := by
  unfold p_X9_fault
  refine d_within 2 (by omega) _ (fun j hj e => ⟨fun z => absurd z (by decide), fun _ => ?_⟩) (fun e => ?_)
  · refine X_refresh h.1 fun g' a1 a2 a3 a4 => ?_
    rw [h.2.1, h.2.2.1] at a3
    have hQ := hQ g' ⟨a1, h.2.tr a2⟩ a3
    unfold p_X9_scriptOf
    subst e
    obtain rfl | rfl : j = 0 ∨ j = 1 := by omega
    · rw [if_pos (show nI 0 = (0 : Int32) from rfl)]
      show Qp (g' 1 8) g'
      rw [a3.2.2.1]; exact hQ
    · rw [if_neg (by decide)]
      show Qp (g' 4 8) g'
      rw [a3.2.2.2]; exact hQ
  · rcases hv with q | q
    · exact absurd q (e 0 (by omega))
    · exact absurd q (e 1 (by omega))
theorem IX.ok (h : IX n0 n1 t b s x g) (h12 : g 0 12 = 0) : OKX (x 2) n0 (x 5) n1 g := by
  have := (h.1.2.2.2.2.2 h12).1
  rw [h.2.1, h.2.2.1] at this; exact this
theorem Z_law {l k : Nat} (h : IX n0 n1 t b s x g) (hl : l < kl (cdOf (x 2) n0 (x 5) n1)) (hk : k < 5) (hQ : ∀ g', IX n0 n1 t b s x g' → OKX (x 2) n0 (x 5) n1 g' → Qp (fLa (cdOf (x 2) n0 (x 5) n1) l k) g') : p_X9_law g (nI l) (nI k) Qp := by
  refine X_refresh h.1 fun g' a1 a2 a3 a4 => ?_
  rw [h.2.1, h.2.2.1] at a3
  have hk12 := a3.1.1.1.1
  have hQ := hQ g' ⟨a1, h.2.tr a2⟩ a3
  rw [a3.1.1.2.1]
  exact two_y (d_within (kl (cdOf (x 2) n0 (x 5) n1)) (by omega)) (d_within 5 (by omega)) hl hk (X_lawPart a3.1 hl hk hQ)
theorem Z_want {l k : Nat} (h : IX n0 n1 t b s x g) (hl : l < kw (cdOf (x 2) n0 (x 5) n1)) (hk : k < 3) (hQ : ∀ g', IX n0 n1 t b s x g' → OKX (x 2) n0 (x 5) n1 g' → Qp (fWa (cdOf (x 2) n0 (x 5) n1) l k) g') : p_X9_want g (nI l) (nI k) Qp := by
  refine X_refresh h.1 fun g' a1 a2 a3 a4 => ?_
  rw [h.2.1, h.2.2.1] at a3
  have hk12 := a3.1.1.1.2.1
  have hQ := hQ g' ⟨a1, h.2.tr a2⟩ a3
  rw [a3.2.1.2.2.1]
  refine two_y (d_within (kw (cdOf (x 2) n0 (x 5) n1)) (by omega)) (d_within 3 (by omega)) hl hk ?_
  obtain ⟨c0, c1, c2⟩ := a3.2.1.2.2.2.2 l hl
  refine part4 (by omega) hk ?_
  unfold fWa at hQ
  obtain rfl | rfl | rfl : k = 0 ∨ k = 1 ∨ k = 2 := by omega
  · rw [if_neg (by decide), show l * 3 + 0 = l * 3 from rfl, c0]; exact hQ
  · rw [if_neg (by decide), c1]; exact hQ
  · rw [if_pos (by decide), c2, dI_1]; exact hQ
theorem Z_binds {yr k : Nat} (h : IX n0 n1 t b s x g) (hy : yr < 30) (hk : k < 3) (hQ : ∀ g', IX n0 n1 t b s x g' → Qp (fBi (cdOf (x 2) n0 (x 5) n1) (RT t) (LT t b) yr k) g') : p_X9_binds g (nI yr) (nI k) Qp := X_binds h.1 fun g' a1 a2 => by
  rw [h.2.1, h.2.2.1, a2_y _ hy hk (by omega) (by omega)]; exact hQ g' ⟨a1, h.2.tr a2⟩
theorem Z_joy {yr k : Nat} (h : IX n0 n1 t b s x g) (hy : yr < 30) (hk : k < 2) (hQ : ∀ g', IX n0 n1 t b s x g' → Qp (fJo (cdOf (x 2) n0 (x 5) n1) (RT t) (LT t b) yr k) g') : p_X9_joy g (nI yr) (nI k) Qp := X_joy h.1 fun g' a1 a2 => by
  rw [h.2.1, h.2.2.1, a2_y _ hy hk (by omega) (by omega)]; exact hQ g' ⟨a1, h.2.tr a2⟩
theorem Z_quarrels {yr k : Nat} (h : IX n0 n1 t b s x g) (hy : yr < 30) (hk : k < 2) (hQ : ∀ g', IX n0 n1 t b s x g' → Qp (fQu (cdOf (x 2) n0 (x 5) n1) (RT t) (LT t b) yr k) g') : p_X9_quarrels g (nI yr) (nI k) Qp := X_quarrels h.1 fun g' a1 a2 => by
  rw [h.2.1, h.2.2.1, a2_y _ hy hk (by omega) (by omega)]; exact hQ g' ⟨a1, h.2.tr a2⟩
theorem Z_keep {yr k : Nat} (h : IX n0 n1 t b s x g) (hy : yr < 30) (hk : k < 2) (hQ : ∀ g', IX n0 n1 t b s x g' → Qp (fKe (cdOf (x 2) n0 (x 5) n1) (RT t) (LT t b) yr k) g') : p_X9_keep g (nI yr) (nI k) Qp := X_keep h.1 fun g' a1 a2 => by
  rw [h.2.1, h.2.2.1, a2_y _ hy hk (by omega) (by omega)]; exact hQ g' ⟨a1, h.2.tr a2⟩
theorem Z_does {yr k : Nat} (h : IX n0 n1 t b s x g) (hy : yr < 30) (hk : k < 24) (hQ : ∀ g', IX n0 n1 t b s x g' → Qp (fDo (cdOf (x 2) n0 (x 5) n1) (RT t) (LT t b) yr k) g') : p_X9_does g (nI yr) (nI k) Qp := X_does h.1 fun g' a1 a2 => by
  rw [h.2.1, h.2.2.1, a2_y _ hy hk (by omega) (by omega)]; exact hQ g' ⟨a1, h.2.tr a2⟩
theorem Z_exempt {yr k q : Nat} (h : IX n0 n1 t b s x g) (hy : yr < 30) (hk : k < 24) (hq : q < 2) (hQ : ∀ g', IX n0 n1 t b s x g' → Qp (telN (exN (cdOf (x 2) n0 (x 5) n1) k 2 (bindsN (cdOf (x 2) n0 (x 5) n1) (RT t) (LT t b) yr 0)) q) g') : p_X9_exempt g (nI yr) (nI k) (dI 2) (nI q) Qp := X_exempt h.1 fun g' a1 a2 => by
  rw [h.2.1, h.2.2.1, aEx_y hy hk (by omega) hq]; exact hQ g' ⟨a1, h.2.tr a2⟩
theorem Z_gout {yr k q : Nat} {Qp : Int64 → Mem → MemL → Prop} (h : IX n0 n1 t b s x g) (hy : yr < 30) (hk : k < 24) (hq : q < 2) (hQ : ∀ g' gl, IX n0 n1 t b s x g' → Qp (fGo (cdOf (x 2) n0 (x 5) n1) k (bindsN (cdOf (x 2) n0 (x 5) n1) (RT t) (LT t b) yr 0) 5 2 q) g' gl) : p_X9_gout g xl (nI 5) (nI yr) (nI k) (dI 2) (nI q) Qp := X_gout h.1 fun g' gl a1 a2 => by
  rw [h.2.1, h.2.2.1, aGo_y (by omega) hy hk (by omega) hq]; exact hQ g' gl ⟨a1, h.2.tr a2⟩
theorem Z_order {v1 v2 v3 : Int32} (h : IX n0 n1 t b s x g) (hQ : ∀ g', IX n0 n1 t b s x g' → Qp (aOr (cdOf (x 2) n0 (x 5) n1) b (RT t) (LT t b) v1 v2 v3) g') : p_X9_order g v1 v2 v3 Qp := X_order h.1 fun g' a1 a2 => by
  rw [h.2.1, h.2.2.1]; exact hQ g' ⟨a1, h.2.tr a2⟩
theorem Z_sets {k : Nat} (h : IX n0 n1 t b s x g) (hk : k < 3) (hQ : ∀ g', IX n0 n1 t b s x g' → Qp (fSe (cdOf (x 2) n0 (x 5) n1) s k) g') : p_X9_sets g (nI k) Qp := X_sets h.1 fun g' a1 a2 => by
  rw [h.2.1, h.2.2.1, a1F_y _ hk (by omega)]; exact hQ g' ⟨a1, h.2.tr a2⟩
theorem Z_watch (h : IX n0 n1 t b s x g) (hQ : ∀ g', IX n0 n1 t b s x g' → Qp (nI (watN (cdOf (x 2) n0 (x 5) n1) s)) g') : p_X9_watch g Qp := X_watch h.1 fun g' a1 a2 => by
  rw [h.2.1, h.2.2.1]; exact hQ g' ⟨a1, h.2.tr a2⟩
theorem Z_years {v1 v2 v3 : Int32} (h : IX n0 n1 t b s x g) (hQ : ∀ g', IX n0 n1 t b s x g' → Qp (aYr (cdOf (x 2) n0 (x 5) n1) v1 v2 v3) g') : p_X9_years g v1 v2 v3 Qp := X_years h.1 fun g' a1 a2 => by
  rw [h.2.1, h.2.2.1]; exact hQ g' ⟨a1, h.2.tr a2⟩
/-! texts -/
section Texts
variable {QT : Int64 → Mem → Prop}
theorem X_t44 {K : Mem → Int64 → Int32 → Prop} {l : Nat} {D : Int64} (hl : l < kl (cdOf (x 2) n0 (x 5) n1)) (hK : ∀ g', IX n0 n1 t b s x g' → OKX (x 2) n0 (x 5) n1 g' → K g' D (nI (l + 1))) : ∀ (r k : Nat) (g : Mem) (v : Int64), k + r = 5 → IX n0 n1 t b s x g → OKX (x 2) n0 (x 5) n1 g → itH (fLa (cdOf (x 2) n0 (x 5) n1) l) r k v = D → b_X9_withTexts_44 (r + 1) g v (nI l) (nI k) K QT := by
  intro r
  induction r with
  | zero =>
    intro k g v hk h ho e
    have : k = 5 := by omega
    subst this
    rw [b_X9_withTexts_44]; dsimp only
    rw [nI_1]
    rw [itH] at e
    subst e
    exact ⟨fun _ => hK g h ho, fun z => absurd (nI_le (a := 5) (b := 5) (by omega) (by omega)) z⟩
  | succ r ih =>
    intro k g v hk h ho e
    rw [b_X9_withTexts_44]; dsimp only
    rw [nI_1 k]
    refine ⟨fun z => absurd z (nI_ge (a := k) (b := 5) (by omega) (by omega)), fun _ => Z_law h hl (by omega) fun g' h' ho' x5 e5 => ?_⟩
    subst e5
    exact ih (k + 1) g' _ (by omega) h' ho' e
theorem X_t96 {K : Mem → Int64 → Int32 → Prop} {l : Nat} {D : Int64} (hl : l < kw (cdOf (x 2) n0 (x 5) n1)) (hK : ∀ g', IX n0 n1 t b s x g' → OKX (x 2) n0 (x 5) n1 g' → K g' D (nI (l + 1))) : ∀ (r k : Nat) (g : Mem) (v : Int64), k + r = 3 → IX n0 n1 t b s x g → OKX (x 2) n0 (x 5) n1 g → itH (fWa (cdOf (x 2) n0 (x 5) n1) l) r k v = D → b_X9_withTexts_96 (r + 1) g v (nI l) (nI k) K QT := by
  intro r
  induction r with
  | zero =>
    intro k g v hk h ho e
    have : k = 3 := by omega
    subst this
    rw [b_X9_withTexts_96]; dsimp only
    rw [nI_1]
    rw [itH] at e
    subst e
    exact ⟨fun _ => hK g h ho, fun z => absurd (nI_le (a := 3) (b := 3) (by omega) (by omega)) z⟩
  | succ r ih =>
    intro k g v hk h ho e
    rw [b_X9_withTexts_96]; dsimp only
    rw [nI_1 k]
    refine ⟨fun z => absurd z (nI_ge (a := k) (b := 3) (by omega) (by omega)), fun _ => Z_want h hl (by omega) fun g' h' ho' x5 e5 => ?_⟩
    subst e5
    exact ih (k + 1) g' _ (by omega) h' ho' e
theorem X_t81 {D : Int64} (hQ : ∀ g', IX n0 n1 t b s x g' → QT D g') : ∀ (r l : Nat) (g : Mem) (v : Int64), l + r = kw (cdOf (x 2) n0 (x 5) n1) → IX n0 n1 t b s x g → OKX (x 2) n0 (x 5) n1 g → itO (fWa (cdOf (x 2) n0 (x 5) n1)) 3 r l v = D → b_X9_withTexts_81 (r + 1) g v (nI l) QT := by
  intro r
  induction r with
  | zero =>
    intro l g v hl h ho e
    have hk12 := ho.1.1.1.2.1
    have : l = kw (cdOf (x 2) n0 (x 5) n1) := by omega
    subst this
    rw [b_X9_withTexts_81]; dsimp only
    rw [ho.2.1.2.2.1]
    rw [itO] at e
    subst e
    exact ⟨fun _ => hQ g h, fun z => absurd (nI_le (Nat.le_refl _) (by omega)) z⟩
  | succ r ih =>
    intro l g v hl h ho e
    have hk12 := ho.1.1.1.2.1
    rw [b_X9_withTexts_81]; dsimp only
    rw [ho.2.1.2.2.1]
    rw [itO] at e
    exact ⟨fun z => absurd z (nI_ge (by omega) (by omega)), fun _ => ⟨4, X_t96 (by omega) (fun g' h' ho' => ih (l + 1) g' _ (by omega) h' ho' e) 3 0 g v rfl h ho rfl⟩⟩
theorem X_t29 {D : Int64} (hQ : ∀ g', IX n0 n1 t b s x g' → QT D g') : ∀ (r l : Nat) (g : Mem) (v : Int64), l + r = kl (cdOf (x 2) n0 (x 5) n1) → IX n0 n1 t b s x g → OKX (x 2) n0 (x 5) n1 g → itO (fWa (cdOf (x 2) n0 (x 5) n1)) 3 (kw (cdOf (x 2) n0 (x 5) n1)) 0 (itO (fLa (cdOf (x 2) n0 (x 5) n1)) 5 r l v) = D → b_X9_withTexts_29 (r + 1) g v (nI l) QT := by
  intro r
  induction r with
  | zero =>
    intro l g v hl h ho e
    have hk12 := ho.1.1.1.1
    have : l = kl (cdOf (x 2) n0 (x 5) n1) := by omega
    subst this
    rw [b_X9_withTexts_29]; dsimp only
    rw [ho.1.1.2.1]
    exact ⟨fun _ => ⟨kw (cdOf (x 2) n0 (x 5) n1) + 1, X_t81 hQ (kw (cdOf (x 2) n0 (x 5) n1)) 0 g v (by omega) h ho e⟩, fun z => absurd (nI_le (Nat.le_refl _) (by omega)) z⟩
  | succ r ih =>
    intro l g v hl h ho e
    have hk12 := ho.1.1.1.1
    rw [b_X9_withTexts_29]; dsimp only
    rw [ho.1.1.2.1]
    rw [itO.eq_def (fLa (cdOf (x 2) n0 (x 5) n1)) 5] at e
    exact ⟨fun z => absurd z (nI_ge (by omega) (by omega)), fun _ => ⟨6, X_t44 (by omega) (fun g' h' ho' => ih (l + 1) g' _ (by omega) h' ho' e) 5 0 g v rfl h ho rfl⟩⟩
theorem X_withTexts {v : Int64} (h : IX n0 n1 t b s x g) (hQ : ∀ g', IX n0 n1 t b s x g' → QT (dgT (x 2) n0 (x 5) n1 v) g') : p_X9_withTexts g v QT := by
  refine Z_fault h (fun g1 h1 _ x13 e13 => ?_) (Or.inl rfl)
  subst e13
  refine Z_fault h1 (fun g2 h2 o2 x16 e16 => ?_) (Or.inr rfl)
  subst e16
  exact ⟨kl (cdOf (x 2) n0 (x 5) n1) + 1, X_t29 hQ (kl (cdOf (x 2) n0 (x 5) n1)) 0 g2 _ (by omega) h2 o2 rfl⟩
end Texts
/-! years -/
section Years
variable {QY : Int64 → Mem → MemL → Prop}
theorem X_y144 {yr : Nat} {D : Int64} (hy : yr < 30) (hQ : ∀ g' gl, IX n0 n1 t b s x g' → QY D g' gl) : ∀ (r i : Nat) (g : Mem) (gl : MemL) (v : Int64), i + r = 3 → IX n0 n1 t b s x g → dgHs (cdOf (x 2) n0 (x 5) n1) (RT t) (LT t b) yr r i v = D → b_X9_withYear_144 (r + 1) g gl (nI yr) v (nI 3) (nI i) QY := by
  intro r
  induction r with
  | zero =>
    intro i g gl v hi h e
    have : i = 3 := by omega
    subst this
    rw [b_X9_withYear_144]; dsimp only
    rw [dgHs] at e
    subst e
    exact ⟨fun _ => hQ g gl h, fun z => absurd (nI_le (a := 3) (b := 3) (by omega) (by omega)) z⟩
  | succ r ih =>
    intro i g gl v hi h e
    obtain ⟨t1, t2⟩ := tab5 i (by omega)
    rw [b_X9_withYear_144]; dsimp only
    rw [nI_clamp (by omega), t1, nI_1]
    rw [dgHs] at e
    refine ⟨fun z => absurd z (nI_ge (by omega) (by omega)), fun _ => ⟨vp_in_nI (by omega) (by omega), Z_does h hy t2 fun g1 h1 x27 e27 => Z_exempt (q := 0) h1 hy t2 (by omega) fun g2 h2 x30 e30 => Z_exempt (q := 1) h2 hy t2 (by omega) fun g3 h3 x33 e33 => Z_gout (q := 0) h3 hy t2 (by omega) fun g4 gl4 h4 x36 e36 => Z_gout (q := 1) h4 hy t2 (by omega) fun g5 gl5 h5 x39 e39 => ?_⟩⟩
    subst e39 e36 e33 e30 e27
    exact ih (i + 1) g5 gl5 _ (by omega) h5 e
theorem X_y6 {yr : Nat} {D : Int64} (hy : yr < 30) (hQ : ∀ g' gl, IX n0 n1 t b s x g' → QY D g' gl) : ∀ (r k : Nat) (g : Mem) (gl : MemL) (v : Int64), k + r = 3 → IX n0 n1 t b s x g → dgHs (cdOf (x 2) n0 (x 5) n1) (RT t) (LT t b) yr 3 0 (hsh (hsh (hsh (hsh (hsh (hsh (itH (fBi (cdOf (x 2) n0 (x 5) n1) (RT t) (LT t b) yr) r k v) (fJo (cdOf (x 2) n0 (x 5) n1) (RT t) (LT t b) yr 0)) (fJo (cdOf (x 2) n0 (x 5) n1) (RT t) (LT t b) yr 1)) (fQu (cdOf (x 2) n0 (x 5) n1) (RT t) (LT t b) yr 0)) (fQu (cdOf (x 2) n0 (x 5) n1) (RT t) (LT t b) yr 1)) (fKe (cdOf (x 2) n0 (x 5) n1) (RT t) (LT t b) yr 0)) (fKe (cdOf (x 2) n0 (x 5) n1) (RT t) (LT t b) yr 1)) = D → b_X9_withYear_6 (r + 1) g gl (nI yr) v (nI k) QY := by
  intro r
  induction r with
  | zero =>
    intro k g gl v hk h e
    have : k = 3 := by omega
    subst this
    rw [b_X9_withYear_6]; dsimp only
    rw [itH] at e
    refine ⟨fun _ => Z_joy (k := 0) h hy (by omega) fun g1 h1 x1 e1 => Z_joy (k := 1) h1 hy (by omega) fun g2 h2 x2 e2 => Z_quarrels (k := 0) h2 hy (by omega) fun g3 h3 x3 e3 => Z_quarrels (k := 1) h3 hy (by omega) fun g4 h4 x4 e4 => Z_keep (k := 0) h4 hy (by omega) fun g5 h5 x5 e5 => Z_keep (k := 1) h5 hy (by omega) fun g6 h6 x6 e6 => ⟨4, ?_⟩, fun z => absurd (nI_le (a := 3) (b := 3) (by omega) (by omega)) z⟩
    subst e6 e5 e4 e3 e2 e1
    exact X_y144 hy hQ 3 0 g6 gl _ rfl h6 e
  | succ r ih =>
    intro k g gl v hk h e
    rw [b_X9_withYear_6]; dsimp only
    rw [nI_1]
    refine ⟨fun z => absurd z (nI_ge (a := k) (b := 3) (by omega) (by omega)), fun _ => Z_binds h hy (by omega) fun g1 h1 x1 e1 => ?_⟩
    subst e1
    exact ih (k + 1) g1 gl _ (by omega) h1 e
theorem X_withYear {yr : Nat} {v : Int64} {gl : MemL} (h : IX n0 n1 t b s x g) (hy : yr < 30) (hQ : ∀ g' gl, IX n0 n1 t b s x g' → QY (dgY (cdOf (x 2) n0 (x 5) n1) (RT t) (LT t b) yr v) g' gl) : p_X9_withYear g gl v (nI yr) QY := ⟨4, X_y6 hy hQ 3 0 g gl v rfl h rfl⟩
theorem X_d107 {D : Int64} (hQ : ∀ g' gl, IX n0 n1 t b s x g' → QY D g' gl) : ∀ (r k : Nat) (g : Mem) (gl : MemL) (v : Int64), k + r = 3 → IX n0 n1 t b s x g → hsh (hsh (hsh (itH (fSe (cdOf (x 2) n0 (x 5) n1) s) r k v) (nI (watN (cdOf (x 2) n0 (x 5) n1) s))) (aYr (cdOf (x 2) n0 (x 5) n1) 7 20 0)) (aYr (cdOf (x 2) n0 (x 5) n1) 7 20 1) = D → b_X9_digest_107 (r + 1) g gl v (nI k) QY := by
  intro r
  induction r with
  | zero =>
    intro k g gl v hk h e
    have : k = 3 := by omega
    subst this
    rw [b_X9_digest_107]; dsimp only
    rw [itH] at e
    refine ⟨fun _ => Z_watch h fun g1 h1 x1 e1 => Z_years h1 fun g2 h2 x2 e2 => Z_years h2 fun g3 h3 => ?_, fun z => absurd (nI_le (a := 3) (b := 3) (by omega) (by omega)) z⟩
    subst e2 e1
    have := hQ g3 gl h3
    rw [← e] at this
    exact this
  | succ r ih =>
    intro k g gl v hk h e
    rw [b_X9_digest_107]; dsimp only
    rw [nI_1]
    refine ⟨fun z => absurd z (nI_ge (a := k) (b := 3) (by omega) (by omega)), fun _ => Z_sets h (by omega) fun g1 h1 x1 e1 => ?_⟩
    subst e1
    exact ih (k + 1) g1 gl _ (by omega) h1 e
theorem X_d48 {D : Int64} (hQ : ∀ g' gl, IX n0 n1 t b s x g' → QY D g' gl) : ∀ (r i : Nat) (g : Mem) (gl : MemL) (v : Int64), i + r = 3 → IX n0 n1 t b s x g → hsh (hsh (hsh (itH (fSe (cdOf (x 2) n0 (x 5) n1) s) 3 0 (hsh (hsh (dgYs (cdOf (x 2) n0 (x 5) n1) (RT t) (LT t b) r i v) (aOr (cdOf (x 2) n0 (x 5) n1) b (RT t) (LT t b) 3 2 (-1))) (aOr (cdOf (x 2) n0 (x 5) n1) b (RT t) (LT t b) 3 2 0))) (nI (watN (cdOf (x 2) n0 (x 5) n1) s))) (aYr (cdOf (x 2) n0 (x 5) n1) 7 20 0)) (aYr (cdOf (x 2) n0 (x 5) n1) 7 20 1) = D → b_X9_digest_48 (r + 1) g gl v (nI 3) (nI i) QY := by
  intro r
  induction r with
  | zero =>
    intro i g gl v hi h e
    have : i = 3 := by omega
    subst this
    rw [b_X9_digest_48]; dsimp only
    rw [dgYs] at e
    refine ⟨fun _ => Z_order h fun g1 h1 x1 e1 => Z_order h1 fun g2 h2 x2 e2 => ⟨4, ?_⟩, fun z => absurd (nI_le (a := 3) (b := 3) (by omega) (by omega)) z⟩
    subst e2 e1
    exact X_d107 hQ 3 0 g2 gl _ rfl h2 e
  | succ r ih =>
    intro i g gl v hi h e
    obtain ⟨t1, t2⟩ := tab4 i (by omega)
    rw [b_X9_digest_48]; dsimp only
    rw [nI_clamp (by omega), t1, nI_1]
    exact ⟨fun z => absurd z (nI_ge (by omega) (by omega)), fun _ => ⟨vp_in_nI (by omega) (by omega), X_withYear h t2 fun g1 gl1 h1 => ih (i + 1) g1 gl1 _ (by omega) h1 e⟩⟩
theorem X_d6 {D : Int64} (hQ : ∀ g' gl, IX n0 n1 t b s x g' → QY D g' gl) : ∀ (r k : Nat) (g : Mem) (gl : MemL) (v : Int64), k + r = 8 → IX n0 n1 t b s x g → hsh (hsh (hsh (itH (fSe (cdOf (x 2) n0 (x 5) n1) s) 3 0 (hsh (hsh (dgYs (cdOf (x 2) n0 (x 5) n1) (RT t) (LT t b) 3 0 (dgT (x 2) n0 (x 5) n1 (itH (fun k => aCt (cdOf (x 2) n0 (x 5) n1) (RT t) (LT t b) n0 n1 t.1 b.1 s.1 (x 0 13) (nI k)) r k v))) (aOr (cdOf (x 2) n0 (x 5) n1) b (RT t) (LT t b) 3 2 (-1))) (aOr (cdOf (x 2) n0 (x 5) n1) b (RT t) (LT t b) 3 2 0))) (nI (watN (cdOf (x 2) n0 (x 5) n1) s))) (aYr (cdOf (x 2) n0 (x 5) n1) 7 20 0)) (aYr (cdOf (x 2) n0 (x 5) n1) 7 20 1) = D → b_X9_digest_6 (r + 1) g gl v (nI k) QY := by
  intro r
  induction r with
  | zero =>
    intro k g gl v hk h e
    have : k = 8 := by omega
    subst this
    rw [b_X9_digest_6]; dsimp only
    rw [itH] at e
    exact ⟨fun _ => X_withTexts h fun g1 h1 => ⟨4, X_d48 hQ 3 0 g1 gl _ rfl h1 e⟩, fun z => absurd (nI_le (a := 8) (b := 8) (by omega) (by omega)) z⟩
  | succ r ih =>
    intro k g gl v hk h e
    rw [b_X9_digest_6]; dsimp only
    rw [nI_1]
    refine ⟨fun z => absurd z (nI_ge (a := k) (b := 8) (by omega) (by omega)), fun _ => Z_count h fun g1 h1 x1 e1 => ?_⟩
    subst e1
    exact ih (k + 1) g1 gl _ (by omega) h1 e
theorem X_digest (hR : RX n0 n1 t b s x) (hQ : ∀ g gl, RX n0 n1 t b s g → FX x g → QY (DGN (x 2) n0 (x 5) n1 t b s (x 0 13)) g gl) : p_X9_digest x xl QY :=
  ⟨9, X_d6 (fun g' gl h => hQ g' gl h.1 h.2) 8 0 x xl _ rfl ⟨hR, FX.rf x⟩ rfl⟩
end Years
end DgX
