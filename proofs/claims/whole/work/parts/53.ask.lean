/-! STEPS: what binds, what he does, joy, quarrels, exemptions, what is kept, years by lot, counts, laws, wants, faults -/
section Ask
variable {n0 n1 : Nat} {b0 b1 : Nat → Int32} {t b s : LG} {x y : Mem} {v1 v2 v3 v4 : Int32} {Qp : Int32 → Mem → Prop}
def fBi (c : CD) (R : Nat → Nat) (la : Nat → Bool) (j k : Nat) : Int32 := nI (bindsN c R la j k)
theorem X_binds (hR : RX n0 n1 t b s x) (hQ : ∀ g, RX n0 n1 t b s g → FX x g → Qp (a2 30 3 (fBi (cdOf (x 2) n0 (x 5) n1) (RT t) (LT t b)) v1 v2) g) : p_X9_binds x v1 v2 Qp := by
  unfold p_X9_binds
  refine two (d_within 30 (by omega)) (d_within 3 (by omega)) (fun e => ?_) (fun j k hj hk e1 e2 => ?_)
  · have := hQ x hR (FX.rf x)
    rw [a2_n _ e] at this; exact this
  · subst e1 e2
    rw [a2_y _ hj hk (by omega) (by omega)] at hQ
    refine X_refresh hR fun g h1 h2 h3 h4 => ⟨fun z => ?_, fun z => ⟨fun z2 => ?_, fun z2 => ?_⟩⟩
    · have z := (nI_eq0 (by omega)).mp z
      subst z
      exact X_bindingKing h3.1 h1.2.2.1.2.2 hj (hQ g h1 h2)
    · have z2 := (nI_eq (b := 1) (by omega) (by omega)).mp z2
      subst z2
      exact X_bindingOthers h3.1 h1.2.2.1.2.2 hj (hQ g h1 h2)
    · have a : k ≠ 0 := fun w => z ((nI_eq0 (by omega)).mpr w)
      have a' : k ≠ 1 := fun w => z2 ((nI_eq (b := 1) (by omega) (by omega)).mpr w)
      have : k = 2 := by omega
      subst this
      exact X_lapsedBy h3.1 h1.2.2.1.2.2 (fun l => LT_ne) hj (hQ g h1 h2)
theorem M_binds (hR : RY b0 n0 b1 n1 t b s y) (hQ : ∀ y', FrQ y y' → Qp (a2 30 3 (fBi (cdOf b0 n0 b1 n1) (RT t) (LT t b)) v1 v2) y') : p_X10_binds y v1 v2 Qp := by
  unfold p_X10_binds
  refine Y_find hR fun y' f hM hRM => two d_year (d_in (hi := 2) 3 (by omega) (by decide)) (fun e => ?_) (fun j k hj hk e1 e2 => ?_)
  · have := hQ y' f
    rw [a2_n _ e] at this; exact this
  · subst e1 e2
    have := hQ y' f
    rw [a2_y _ hj hk (by omega) (by omega)] at this
    exact M_bindsOf hM hRM hj hk this
theorem st_binds : s_binds Rel := by
  intro x xl y h v1 v2
  obtain ⟨n0, n1, t, b, s, hX, hY⟩ := h.1
  exact X_binds hX fun g h1 h2 => M_binds hY fun y' f => ⟨rfl, h.q hY h1 h2 f⟩
def fDo (c : CD) (R : Nat → Nat) (la : Nat → Bool) (j k : Nat) : Int32 := dI (doesN c (bindsN c R la j 0) k)
theorem X_does (hR : RX n0 n1 t b s x) (hQ : ∀ g, RX n0 n1 t b s g → FX x g → Qp (a2 30 24 (fDo (cdOf (x 2) n0 (x 5) n1) (RT t) (LT t b)) v1 v2) g) : p_X9_does x v1 v2 Qp := by
  unfold p_X9_does
  refine two (d_within 30 (by omega)) (d_within 24 (by omega)) (fun e => ?_) (fun j k hj hk e1 e2 => ?_)
  · have := hQ x hR (FX.rf x)
    rw [a2_n _ e] at this; exact this
  · subst e1 e2
    rw [a2_y _ hj hk (by omega) (by omega)] at hQ
    exact X_kings hR hj fun g h1 h2 h3 h4 => X_deedBy h3.1.1 (bindsN_lt h3.1.1.1 _ _ _ _) hk (hQ g h1 h2)
theorem M_does (hR : RY b0 n0 b1 n1 t b s y) (hQ : ∀ y', FrQ y y' → Qp (a2 30 24 (fDo (cdOf b0 n0 b1 n1) (RT t) (LT t b)) v1 v2) y') : p_X10_does y v1 v2 Qp := by
  unfold p_X10_does
  refine Y_find hR fun y' f hM hRM => two d_year d_hour (fun e => ?_) (fun j k hj hk e1 e2 => ?_)
  · have := hQ y' f
    rw [a2_n _ e] at this; exact this
  · subst e1 e2
    have := hQ y' f
    rw [a2_y _ hj hk (by omega) (by omega)] at this
    exact M_bindsOf (what := 0) hM hRM hj (by omega) (M_doesBy hM (bindsN_lt hM.1 _ _ _ _) hk this)
theorem st_does : s_does Rel := by
  intro x xl y h v1 v2
  obtain ⟨n0, n1, t, b, s, hX, hY⟩ := h.1
  exact X_does hX fun g h1 h2 => M_does hY fun y' f => ⟨rfl, h.q hY h1 h2 f⟩
def fJo (c : CD) (R : Nat → Nat) (la : Nat → Bool) (j k : Nat) : Int32 := if k = 0 then nI (joyN c (bindsN c R la j 0)) else dI (clN c (bindsN c R la j 0))
theorem X_joy (hR : RX n0 n1 t b s x) (hQ : ∀ g, RX n0 n1 t b s g → FX x g → Qp (a2 30 2 (fJo (cdOf (x 2) n0 (x 5) n1) (RT t) (LT t b)) v1 v2) g) : p_X9_joy x v1 v2 Qp := by
  unfold p_X9_joy
  refine two (d_within 30 (by omega)) (d_within 2 (by omega)) (fun e => ?_) (fun j k hj hk e1 e2 => ?_)
  · have := hQ x hR (FX.rf x)
    rw [a2_n _ e] at this; exact this
  · subst e1 e2
    rw [a2_y _ hj hk (by omega) (by omega)] at hQ
    unfold fJo at hQ
    refine X_kings hR hj fun g h1 h2 h3 h4 => ⟨fun z => X_joyBy h3.1 (bindsN_lt h3.1.1.1 _ _ _ _) ?_, fun z => X_firstClash h3.1 (bindsN_lt h3.1.1.1 _ _ _ _) ?_⟩
    · rw [if_pos ((nI_eq0 (by omega)).mp z)] at hQ; exact hQ g h1 h2
    · rw [if_neg (fun w => z ((nI_eq0 (by omega)).mpr w))] at hQ; exact hQ g h1 h2
theorem M_joyOf {c : CD} {R : Nat → Nat} {la : Nat → Bool} {j k : Nat} {Qp : Int32 → Prop} (hM : MC c y) (hRM : RM R la y) (hj : j < 30) (hk : k < 2) (hQ : Qp (fJo c R la j k)) : p_X10_joyOf y (nI j) (nI k) Qp := by
  unfold fJo at hQ
  refine M_bindsOf (what := 0) hM hRM hj (by omega) ⟨fun z => M_joyBy hM (bindsN_lt hM.1 _ _ _ _) ?_, fun z => M_clashBy hM (bindsN_lt hM.1 _ _ _ _) ?_⟩
  · rw [if_pos ((nI_eq0 (by omega)).mp z)] at hQ; exact hQ
  · rw [if_neg (fun w => z ((nI_eq0 (by omega)).mpr w))] at hQ; exact hQ
theorem M_joy (hR : RY b0 n0 b1 n1 t b s y) (hQ : ∀ y', FrQ y y' → Qp (a2 30 2 (fJo (cdOf b0 n0 b1 n1) (RT t) (LT t b)) v1 v2) y') : p_X10_joy y v1 v2 Qp := by
  unfold p_X10_joy
  refine Y_find hR fun y' f hM hRM => two d_year d_two (fun e => ?_) (fun j k hj hk e1 e2 => ?_)
  · have := hQ y' f
    rw [a2_n _ e] at this; exact this
  · subst e1 e2
    have := hQ y' f
    rw [a2_y _ hj hk (by omega) (by omega)] at this
    exact M_joyOf hM hRM hj hk this
theorem st_joy : s_joy Rel := by
  intro x xl y h v1 v2
  obtain ⟨n0, n1, t, b, s, hX, hY⟩ := h.1
  exact X_joy hX fun g h1 h2 => M_joy hY fun y' f => ⟨rfl, h.q hY h1 h2 f⟩
def fQu (c : CD) (R : Nat → Nat) (la : Nat → Bool) (j k : Nat) : Int32 := if k = 0 then nI (sumTo (kl c) (qRow c (bindsN c R la j 0)) / 2) else dI (outF (qX c (bindsN c R la j 0)) (kl c) (kl c) 0)
theorem X_quarrels (hR : RX n0 n1 t b s x) (hQ : ∀ g, RX n0 n1 t b s g → FX x g → Qp (a2 30 2 (fQu (cdOf (x 2) n0 (x 5) n1) (RT t) (LT t b)) v1 v2) g) : p_X9_quarrels x v1 v2 Qp := by
  unfold p_X9_quarrels
  refine two (d_within 30 (by omega)) (d_within 2 (by omega)) (fun e => ?_) (fun j k hj hk e1 e2 => ?_)
  · have := hQ x hR (FX.rf x)
    rw [a2_n _ e] at this; exact this
  · subst e1 e2
    rw [a2_y _ hj hk (by omega) (by omega)] at hQ
    unfold fQu at hQ
    refine X_kings hR hj fun g h1 h2 h3 h4 => ⟨fun z => X_quarrelCount h3.1 (bindsN_lt h3.1.1.1 _ _ _ _) ?_, fun z => X_leastQuarrel h3.1 (bindsN_lt h3.1.1.1 _ _ _ _) ?_⟩
    · rw [if_pos ((nI_eq0 (by omega)).mp z)] at hQ; exact hQ g h1 h2
    · rw [if_neg (fun w => z ((nI_eq0 (by omega)).mpr w))] at hQ; exact hQ g h1 h2
theorem M_quarrels (hR : RY b0 n0 b1 n1 t b s y) (hQ : ∀ y', FrQ y y' → Qp (a2 30 2 (fQu (cdOf b0 n0 b1 n1) (RT t) (LT t b)) v1 v2) y') : p_X10_quarrels y v1 v2 Qp := by
  unfold p_X10_quarrels
  refine Y_find hR fun y' f hM hRM => two d_year d_two (fun e => ?_) (fun j k hj hk e1 e2 => ?_)
  · have := hQ y' f
    rw [a2_n _ e] at this; exact this
  · subst e1 e2
    have := hQ y' f
    rw [a2_y _ hj hk (by omega) (by omega)] at this
    exact M_quarrelsOf hM hRM hj hk this
theorem st_quarrels : s_quarrels Rel := by
  intro x xl y h v1 v2
  obtain ⟨n0, n1, t, b, s, hX, hY⟩ := h.1
  exact X_quarrels hX fun g h1 h2 => M_quarrels hY fun y' f => ⟨rfl, h.q hY h1 h2 f⟩
/-! exemptions -/
def rad (v : Int32) (n : Nat) : Bool := ran (v + 1) (n + 1)
theorem dI_1 (w : Nat) : dI w + 1 = nI w := Int32.sub_add_cancel (nI w) 1
theorem rad_y {w n : Nat} (h : w ≤ n) (hn : n < 2 ^ 30) : rad (dI w) n = true := by
  unfold rad
  rw [dI_1]
  exact ran_y (by omega) (by omega)
theorem rad_n {v : Int32} {n : Nat} (h : ∀ j, j ≤ n → v ≠ dI j) : rad v n = false := ran_n fun j hj e => h j (by omega) (by
  unfold dI
  rw [← e]
  exact (Int32.add_sub_cancel v 1).symm)
def telN (e q : Nat) : Int32 := if e = 0 ∨ q = 1 then dI e else nI (pop 12 (e - 1))
def aEx (c : CD) (R : Nat → Nat) (la : Nat → Bool) (v1 v2 v3 v4 : Int32) : Int32 := if (ran v1 30 && (ran v2 24 && (rad v3 6 && ran v4 2))) = true then telN (exN c v2.toNatClampNeg (v3 + 1).toNatClampNeg (bindsN c R la v1.toNatClampNeg 0)) v4.toNatClampNeg else -2
theorem aEx_y {c : CD} {R : Nat → Nat} {la : Nat → Bool} {j h w q : Nat} (hj : j < 30) (hh : h < 24) (hw : w ≤ 6) (hq : q < 2) : aEx c R la (nI j) (nI h) (dI w) (nI q) = telN (exN c h w (bindsN c R la j 0)) q := by
  unfold aEx
  rw [ran_y hj (by omega), ran_y hh (by omega), rad_y hw (by omega), ran_y hq (by omega), dI_1, nI_clamp (by omega), nI_clamp (by omega), nI_clamp (by omega), nI_clamp (by omega)]
  rfl
theorem exN_le {c : CD} (hc : CDok c) (h w set : Nat) : exN c h w set ≤ 4096 := by
  have := hin_lt hc h w set
  unfold exN
  split <;> omega
theorem M_tells {e q : Nat} {Qp : Int32 → Prop} (he : e ≤ 4096) (hq : q < 2) (hQ : Qp (telN e q)) : p_X10_tells (dI e) (nI q) Qp := by
  unfold telN at hQ
  refine ⟨fun z => ?_, fun z => ⟨fun z2 => ?_, fun z2 => ?_⟩⟩
  · rw [if_pos (Or.inl ((dI_m1 (by omega)).mp z))] at hQ; exact hQ
  · rw [if_pos (Or.inr ((nI_eq (b := 1) (by omega) (by omega)).mp z2))] at hQ; exact hQ
  · have a : e ≠ 0 := fun w => z ((dI_m1 (by omega)).mpr w)
    rw [if_neg (fun w => w.elim a (fun w => z2 ((nI_eq (b := 1) (by omega) (by omega)).mpr w)))] at hQ
    obtain ⟨d, rfl⟩ : ∃ d, e = d + 1 := ⟨e - 1, by omega⟩
    rw [dI_s]
    exact M_ones (by omega) hQ
theorem X_exempt (hR : RX n0 n1 t b s x) (hQ : ∀ g, RX n0 n1 t b s g → FX x g → Qp (aEx (cdOf (x 2) n0 (x 5) n1) (RT t) (LT t b) v1 v2 v3 v4) g) : p_X9_exempt x v1 v2 v3 v4 Qp := by
  unfold p_X9_exempt
  have bad : (ran v1 30 && (ran v2 24 && (rad v3 6 && ran v4 2))) = false → Qp (-2 : Int32) x := fun e => by
    have := hQ x hR (FX.rf x)
    unfold aEx at this
    rw [e] at this
    exact this
  refine one (d_within 30 (by omega)) (fun e => bad (by rw [ran_n e]; rfl)) (fun j hj e1 => one (d_within 24 (by omega)) (fun e => bad (by rw [ran_n e, Bool.false_and, Bool.and_false])) (fun h hh e2 => oneD d_deedX (fun e => bad (by rw [rad_n e, Bool.false_and, Bool.and_false, Bool.and_false])) (fun w hw e3 => one (d_within 2 (by omega)) (fun e => bad (by rw [ran_n e, Bool.and_false, Bool.and_false, Bool.and_false])) (fun q hq e4 => ?_))))
  subst e1 e2 e3 e4
  rw [aEx_y hj hh hw hq] at hQ
  refine X_kings hR hj fun g h1 h2 h3 h4 => X_leastExemption h3.1 (bindsN_lt h3.1.1.1 _ _ _ _) hh hw ?_
  have hQ := hQ g h1 h2
  have he := exN_le h3.1.1.1 h w (bindsN (cdOf (x 2) n0 (x 5) n1) (RT t) (LT t b) j 0)
  generalize exN (cdOf (x 2) n0 (x 5) n1) h w (bindsN (cdOf (x 2) n0 (x 5) n1) (RT t) (LT t b) j 0) = e at hQ he ⊢
  unfold telN at hQ
  refine ⟨fun z => ?_, fun z => ⟨fun z2 => ?_, fun z2 => ?_⟩⟩
  · rw [if_pos (Or.inl ((dI_m1 (by omega)).mp z))] at hQ; exact hQ
  · rw [if_pos (Or.inr ((nI_eq (b := 1) (by omega) (by omega)).mp z2))] at hQ; exact hQ
  · have a : e ≠ 0 := fun w => z ((dI_m1 (by omega)).mpr w)
    rw [if_neg (fun w => w.elim a (fun w => z2 ((nI_eq (b := 1) (by omega) (by omega)).mpr w)))] at hQ
    obtain ⟨d, rfl⟩ : ∃ d, e = d + 1 := ⟨e - 1, by omega⟩
    rw [dI_s]
    exact X_bitCount (by omega) hQ
theorem M_exempt (hR : RY b0 n0 b1 n1 t b s y) (hQ : ∀ y', FrQ y y' → Qp (aEx (cdOf b0 n0 b1 n1) (RT t) (LT t b) v1 v2 v3 v4) y') : p_X10_exempt y v1 v2 v3 v4 Qp := by
  unfold p_X10_exempt
  refine Y_find hR fun y' f hM hRM => ?_
  have hQ := hQ y' f
  have bad : (ran v1 30 && (ran v2 24 && (rad v3 6 && ran v4 2))) = false → Qp (-2 : Int32) y' := fun e => by
    unfold aEx at hQ
    rw [e] at hQ
    exact hQ
  refine one d_year (fun e => bad (by rw [ran_n e]; rfl)) (fun j hj e1 => one d_hour (fun e => bad (by rw [ran_n e, Bool.false_and, Bool.and_false])) (fun h hh e2 => oneD (d_deedM (hi := 5) 6 (by omega) (by decide)) (fun e => bad (by rw [rad_n e, Bool.false_and, Bool.and_false, Bool.and_false])) (fun w hw e3 => one d_two (fun e => bad (by rw [ran_n e, Bool.and_false, Bool.and_false, Bool.and_false])) (fun q hq e4 => ?_))))
  subst e1 e2 e3 e4
  rw [aEx_y hj hh hw hq] at hQ
  exact M_exemptOf hM hRM hj hh hw (M_tells (exN_le hM.1 _ _ _) hq hQ)
theorem st_exempt : s_exempt Rel := by
  intro x xl y h v1 v2 v3 v4
  obtain ⟨n0, n1, t, b, s, hX, hY⟩ := h.1
  exact X_exempt hX fun g h1 h2 => M_exempt hY fun y' f => ⟨rfl, h.q hY h1 h2 f⟩
/-! what is kept -/
noncomputable def bestN (c : CD) (set : Nat) : Nat := Classical.epsilon (fun q => isBest c set q)
theorem bestN_eq {c : CD} {set q : Nat} (h : isBest c set q) : bestN c set = q := best_one (Classical.epsilon_spec (p := fun q => isBest c set q) ⟨q, h⟩) h
noncomputable def fKe (c : CD) (R : Nat → Nat) (la : Nat → Bool) (j k : Nat) : Int32 := if k = 0 then nI (bestN c (bindsN c R la j 0)) else nI (joyN c (bestN c (bindsN c R la j 0)))
theorem X_keep (hR : RX n0 n1 t b s x) (hQ : ∀ g, RX n0 n1 t b s g → FX x g → Qp (a2 30 2 (fKe (cdOf (x 2) n0 (x 5) n1) (RT t) (LT t b)) v1 v2) g) : p_X9_keep x v1 v2 Qp := by
  unfold p_X9_keep
  refine two (d_within 30 (by omega)) (d_within 2 (by omega)) (fun e => ?_) (fun j k hj hk e1 e2 => ?_)
  · have := hQ x hR (FX.rf x)
    rw [a2_n _ e] at this; exact this
  · subst e1 e2
    rw [a2_y _ hj hk (by omega) (by omega)] at hQ
    unfold fKe at hQ
    refine X_kings hR hj fun g h1 h2 h3 h4 => X_search h3.1 (mk_lt _ _) fun g' q hf hb e0 e1 => ?_
    have f1 : Fr1 g g' := ⟨fun k _ hk => hf k (by omega), by rw [hf 0 (by omega)]⟩
    have f2 : FX g g' := ⟨hf 2 (by omega), hf 5 (by omega), by rw [hf 0 (by omega)], fun k hk => hf k (by omega)⟩
    have := hQ g' (h1.f f1) (h2.tr f2)
    rw [bestN_eq hb] at this
    by_cases z : k = 0
    · rw [if_pos z] at this
      rw [if_pos ((nI_eq0 (by omega)).mpr z), e0]; exact this
    · rw [if_neg z] at this
      rw [if_neg (fun w => z ((nI_eq0 (by omega)).mp w)), e1]; exact this
theorem M_keep (hR : RY b0 n0 b1 n1 t b s y) (hQ : ∀ y', FrQ y y' → Qp (a2 30 2 (fKe (cdOf b0 n0 b1 n1) (RT t) (LT t b)) v1 v2) y') : p_X10_keep y v1 v2 Qp := by
  unfold p_X10_keep
  refine Y_find hR fun y' f hM hRM => two d_year d_two (fun e => ?_) (fun j k hj hk e1 e2 => ?_)
  · have := hQ y' f
    rw [a2_n _ e] at this; exact this
  · subst e1 e2
    refine M_keepOf hM hRM hj fun y2 q f2 hb e17 => ?_
    have := hQ y2 (f.tr f2.q)
    rw [a2_y _ hj hk (by omega) (by omega)] at this
    unfold fKe at this
    rw [bestN_eq hb] at this
    by_cases z : k = 0
    · rw [if_pos z] at this
      rw [if_pos ((nI_eq0 (by omega)).mpr z)]; exact this
    · rw [if_neg z] at this
      rw [if_neg (fun w => z ((nI_eq0 (by omega)).mp w)), e17]; exact this
theorem st_keep : s_keep Rel := by
  intro x xl y h v1 v2
  obtain ⟨n0, n1, t, b, s, hX, hY⟩ := h.1
  exact X_keep hX fun g h1 h2 => M_keep hY fun y' f => ⟨rfl, h.q hY h1 h2 f⟩
end Ask
