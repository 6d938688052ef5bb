/-! STEPS: digest, the reference's; the start -/
theorem RM.j {R : Nat → Nat} {la : Nat → Bool} {y y' : Mem} (h : RM R la y) (hf : FrJ y y') : RM R la y' := ⟨h.1, fun l hl => by rw [hf.1 12 (by omega), hf.1 13 (by omega)]; exact h.2 l hl⟩
section DgM
variable {c : CD} {R : Nat → Nat} {la : Nat → Bool} {y : Mem} {Qp : Int64 → Mem → Prop}
theorem M_tellsHour {yr h : Nat} {v : Int64} {Qp : Int64 → Prop} (hM : MC c y) (hR : RM R la y) (hy : yr < 30) (hh : h < 24) (hQ : Qp (dgH c R la yr h v)) : p_X10_tellsHour y v (nI yr) (nI h) Qp := by
  refine M_bindsOf (what := 0) hM hR hy (by omega) (M_doesBy hM (bindsN_lt hM.1 _ _ _ _) hh fun x5 e5 => M_exemptOf (w := 2) hM hR hy hh (by omega) (M_tells (q := 0) (exN_le hM.1 _ _ _) (by omega) fun x10 e10 => M_tells (q := 1) (exN_le hM.1 _ _ _) (by omega) fun x13 e13 => M_goutOf (cc := 5) (w := 2) (v := 0) hM hR hy hh (by omega) (by omega) (by omega) fun x16 e16 => M_goutOf (cc := 5) (w := 2) (v := 1) hM hR hy hh (by omega) (by omega) (by omega) ?_))
  subst e16 e13 e10 e5
  exact hQ
theorem M_y6 {yr : Nat} {D : Int64} (hM : MC c y) (hR : RM R la y) (hy : yr < 30) (hQ : ∀ y', FrJ y y' → Qp D y') : ∀ (r k : Nat) (v : Int64), k + r = 3 → dgHs c R la yr 3 0 (hsh (hsh (hsh (hsh (hsh (hsh (itH (fBi c R la yr) r k v) (fJo c R la yr 0)) (fJo c R la yr 1)) (fQu c R la yr 0)) (fQu c R la yr 1)) (fKe c R la yr 0)) (fKe c R la yr 1)) = D → b_X10_tellsYear_6 (r + 1) y (nI yr) v (nI k) Qp := by
  intro r
  induction r with
  | zero =>
    intro k v hk e
    have : k = 3 := by omega
    subst this
    rw [b_X10_tellsYear_6]; dsimp only
    rw [itH] at e
    refine ⟨fun _ => M_joyOf (k := 0) hM hR hy (by omega) fun x1 e1 => M_joyOf (k := 1) hM hR hy (by omega) fun x2 e2 => M_quarrelsOf (v := 0) hM hR hy (by omega) fun x3 e3 => M_quarrelsOf (v := 1) hM hR hy (by omega) fun x4 e4 => M_keepOf hM hR hy fun y' q f' hb e17 x5 e5 x6 e6 => ?_, fun z => absurd (nI_le (a := 3) (b := 3) (by omega) (by omega)) z⟩
    have hM' : MC c y' := hM.f ⟨f'.1 7 (by omega), f'.1 8 (by omega), f'.1 9 (by omega)⟩
    have hR' := hR.j f'
    have k0 : fKe c R la yr 0 = nI q := by unfold fKe; rw [if_pos rfl, bestN_eq hb]
    have k1 : fKe c R la yr 1 = nI (joyN c q) := by unfold fKe; rw [if_neg (by omega), bestN_eq hb]
    rw [e17] at e6
    rw [k0, k1] at e
    refine M_tellsHour (h := 0) hM' hR' hy (by omega) (M_tellsHour (h := 8) hM' hR' hy (by omega) (M_tellsHour (h := 20) hM' hR' hy (by omega) ?_))
    subst e6 e5 e4 e3 e2 e1
    have := hQ y' f'
    rw [← e] at this
    exact this
  | succ r ih =>
    intro k v hk e
    rw [b_X10_tellsYear_6]; dsimp only
    rw [nI_1]
    refine ⟨fun z => absurd z (nI_ge (a := k) (b := 3) (by omega) (by omega)), fun _ => M_bindsOf hM hR hy (by omega) fun x1 e1 => ?_⟩
    subst e1
    exact ih (k + 1) _ (by omega) e
theorem M_tellsYear {yr : Nat} {v : Int64} (hM : MC c y) (hR : RM R la y) (hy : yr < 30) (hQ : ∀ y', FrJ y y' → Qp (dgY c R la yr v) y') : p_X10_tellsYear y v (nI yr) Qp := ⟨4, M_y6 hM hR hy hQ 3 0 v rfl rfl⟩
theorem M_d76 {l : Nat} {D : Int64} {K : Mem → Int64 → Int32 → Prop} (hM : MC c y) (hl : l < kl c) (hK : K y D (nI (l + 1))) : ∀ (r k : Nat) (v : Int64), k + r = 5 → itH (fLa c l) r k v = D → b_X10_digest_76 (r + 1) y v (nI l) (nI k) K Qp := by
  have hk12 := hM.1.1
  intro r
  induction r with
  | zero =>
    intro k v hk e
    have : k = 5 := by omega
    subst this
    rw [b_X10_digest_76]; dsimp only
    rw [nI_1]
    rw [itH] at e
    subst e
    exact ⟨fun _ => hK, fun z => absurd (nI_le (a := 5) (b := 5) (by omega) (by omega)) z⟩
  | succ r ih =>
    intro k v hk e
    obtain ⟨a0, a1, a2, a3, a4⟩ := hM.2.2.2.1 l hl
    have ev : y 8 (5 * l + k) = fLa c l k := by
      unfold fLa
      obtain rfl | rfl | rfl | rfl | rfl : k = 0 ∨ k = 1 ∨ k = 2 ∨ k = 3 ∨ k = 4 := by omega
      · exact a0
      · exact a1
      · exact a2
      · exact a3
      · exact a4
    rw [b_X10_digest_76]; dsimp only
    rw [nI_1 k]
    refine ⟨fun z => absurd z (nI_ge (a := k) (b := 5) (by omega) (by omega)), fun _ => ?_⟩
    rw [show (5 : Int32) = nI 5 from rfl, pk_mul, nI_add, nI_clamp (by omega), ev]
    refine ⟨vp_in_nI (by omega) (by omega), fun x1 e1 => ?_⟩
    subst e1
    exact ih (k + 1) _ (by omega) e
theorem M_d128 {l : Nat} {D : Int64} {K : Mem → Int64 → Int32 → Prop} (hM : MC c y) (hl : l < kw c) (hK : K y D (nI (l + 1))) : ∀ (r k : Nat) (v : Int64), k + r = 3 → itH (fWa c l) r k v = D → b_X10_digest_128 (r + 1) y v (nI l) (nI k) K Qp := by
  have hk12 := hM.1.2.1
  intro r
  induction r with
  | zero =>
    intro k v hk e
    have : k = 3 := by omega
    subst this
    rw [b_X10_digest_128]; dsimp only
    rw [nI_1]
    rw [itH] at e
    subst e
    exact ⟨fun _ => hK, fun z => absurd (nI_le (a := 3) (b := 3) (by omega) (by omega)) z⟩
  | succ r ih =>
    intro k v hk e
    obtain ⟨a0, a1, a2⟩ := hM.2.2.2.2 l hl
    have ev : y 9 (3 * l + k) = fWa c l k := by
      unfold fWa
      obtain rfl | rfl | rfl : k = 0 ∨ k = 1 ∨ k = 2 := by omega
      · exact a0
      · exact a1
      · exact a2
    rw [b_X10_digest_128]; dsimp only
    rw [nI_1 k]
    refine ⟨fun z => absurd z (nI_ge (a := k) (b := 3) (by omega) (by omega)), fun _ => ?_⟩
    rw [show (3 : Int32) = nI 3 from rfl, pk_mul, nI_add, nI_clamp (by omega), ev]
    refine ⟨vp_in_nI (by omega) (by omega), fun x1 e1 => ?_⟩
    subst e1
    exact ih (k + 1) _ (by omega) e
end DgM
section DgM2
variable {n0 n1 : Nat} {b0 b1 : Nat → Int32} {t b s : LG} {y0 : Mem} {Qp : Int64 → Mem → Prop}
theorem M_d215 {D : Int64} (h8 : sok s) (hQ : ∀ y', FrQ y0 y' → Qp D y') : ∀ (r k : Nat) (y : Mem) (v : Int64), k + r = 3 → RY b0 n0 b1 n1 t b s y → FrQ y0 y → MC (cdOf b0 n0 b1 n1) y → hsh (hsh (hsh (itH (fSe (cdOf b0 n0 b1 n1) s) r k v) (nI (watN (cdOf b0 n0 b1 n1) s))) (aYr (cdOf b0 n0 b1 n1) 7 20 0)) (aYr (cdOf b0 n0 b1 n1) 7 20 1) = D → b_X10_digest_215 (r + 1) y v (nI k) Qp := by
  intro r
  induction r with
  | zero =>
    intro k y v hk hY hf hM e
    have : k = 3 := by omega
    subst this
    rw [b_X10_digest_215]; dsimp only
    rw [itH] at e
    refine ⟨fun _ => M_watchNow hM h8 hY.2.2.2.2 fun y1 f1 x1 e1 => M_years (hY.q (Fr18.q f1)) fun y2 f2 x2 e2 => M_years ((hY.q (Fr18.q f1)).q f2) fun y3 f3 => ?_, fun z => absurd (nI_le (a := 3) (b := 3) (by omega) (by omega)) z⟩
    subst e2 e1
    have := hQ y3 (((hf.tr (Fr18.q f1)).tr f2).tr f3)
    rw [← e] at this
    exact this
  | succ r ih =>
    intro k y v hk hY hf hM e
    rw [b_X10_digest_215]; dsimp only
    rw [nI_1]
    refine ⟨fun z => absurd z (nI_ge (a := k) (b := 3) (by omega) (by omega)), fun _ => M_setsOf hM h8 hY.2.2.2.2 (by omega) fun x1 e1 => ?_⟩
    subst e1
    exact ih (k + 1) y _ (by omega) hY hf hM e
theorem M_d115 {D : Int64} {y : Mem} (h8 : sok s) (hY : RY b0 n0 b1 n1 t b s y) (hf : FrQ y0 y) (hM : MC (cdOf b0 n0 b1 n1) y) (hR : RM (RT t) (LT t b) y) (hQ : ∀ y', FrQ y0 y' → Qp D y') : ∀ (r l : Nat) (v : Int64), l + r = kw (cdOf b0 n0 b1 n1) → hsh (hsh (hsh (itH (fSe (cdOf b0 n0 b1 n1) s) 3 0 (hsh (hsh (dgYs (cdOf b0 n0 b1 n1) (RT t) (LT t b) 3 0 (itO (fWa (cdOf b0 n0 b1 n1)) 3 r l v)) (aOr (cdOf b0 n0 b1 n1) b (RT t) (LT t b) 3 2 (-1))) (aOr (cdOf b0 n0 b1 n1) b (RT t) (LT t b) 3 2 0))) (nI (watN (cdOf b0 n0 b1 n1) s))) (aYr (cdOf b0 n0 b1 n1) 7 20 0)) (aYr (cdOf b0 n0 b1 n1) 7 20 1) = D → b_X10_digest_115 (r + 1) y v (nI l) Qp := by
  have hk12 := hM.1.2.1
  intro r
  induction r with
  | zero =>
    intro l v hl e
    have : l = kw (cdOf b0 n0 b1 n1) := by omega
    subst this
    rw [b_X10_digest_115]; dsimp only
    rw [show (1 : Int32).toNatClampNeg = 1 by decide, hM.2.2.1]
    rw [itO] at e
    refine ⟨vp_in_nI (n := 1) (by omega) (by omega), fun _ => M_tellsYear (yr := 0) hM hR (by omega) fun y1 f1 => ?_, fun z => absurd (nI_le (Nat.le_refl _) (by omega)) z⟩
    have hM1 : MC (cdOf b0 n0 b1 n1) y1 := hM.f ⟨f1.1 7 (by omega), f1.1 8 (by omega), f1.1 9 (by omega)⟩
    refine M_tellsYear (yr := 3) hM1 (hR.j f1) (by omega) fun y2 f2 => ?_
    have hM2 : MC (cdOf b0 n0 b1 n1) y2 := hM1.f ⟨f2.1 7 (by omega), f2.1 8 (by omega), f2.1 9 (by omega)⟩
    refine M_tellsYear (yr := 29) hM2 ((hR.j f1).j f2) (by omega) fun y3 f3 => ?_
    have hY3 : RY b0 n0 b1 n1 t b s y3 := ((hY.q f1.q).q f2.q).q f3.q
    have hf3 := ((hf.tr f1.q).tr f2.q).tr f3.q
    refine M_order hY3 fun y4 f4 hM4 x1 e1 => M_order (hY3.q f4) fun y5 f5 hM5 x2 e2 => ⟨4, ?_⟩
    subst e2 e1
    exact M_d215 h8 hQ 3 0 y5 _ rfl ((hY3.q f4).q f5) ((hf3.tr f4).tr f5) hM5 e
  | succ r ih =>
    intro l v hl e
    rw [b_X10_digest_115]; dsimp only
    rw [show (1 : Int32).toNatClampNeg = 1 by decide, hM.2.2.1]
    rw [itO] at e
    exact ⟨vp_in_nI (n := 1) (by omega) (by omega), fun z => absurd z (nI_ge (by omega) (by omega)), fun _ => ⟨4, M_d128 hM (by omega) (ih (l + 1) _ (by omega) e) 3 0 v rfl rfl⟩⟩
theorem M_d63 {D : Int64} {y : Mem} (h8 : sok s) (hY : RY b0 n0 b1 n1 t b s y) (hf : FrQ y0 y) (hM : MC (cdOf b0 n0 b1 n1) y) (hR : RM (RT t) (LT t b) y) (hQ : ∀ y', FrQ y0 y' → Qp D y') : ∀ (r l : Nat) (v : Int64), l + r = kl (cdOf b0 n0 b1 n1) → hsh (hsh (hsh (itH (fSe (cdOf b0 n0 b1 n1) s) 3 0 (hsh (hsh (dgYs (cdOf b0 n0 b1 n1) (RT t) (LT t b) 3 0 (itO (fWa (cdOf b0 n0 b1 n1)) 3 (kw (cdOf b0 n0 b1 n1)) 0 (itO (fLa (cdOf b0 n0 b1 n1)) 5 r l v))) (aOr (cdOf b0 n0 b1 n1) b (RT t) (LT t b) 3 2 (-1))) (aOr (cdOf b0 n0 b1 n1) b (RT t) (LT t b) 3 2 0))) (nI (watN (cdOf b0 n0 b1 n1) s))) (aYr (cdOf b0 n0 b1 n1) 7 20 0)) (aYr (cdOf b0 n0 b1 n1) 7 20 1) = D → b_X10_digest_63 (r + 1) y v (nI l) Qp := by
  have hk12 := hM.1.1
  intro r
  induction r with
  | zero =>
    intro l v hl e
    have : l = kl (cdOf b0 n0 b1 n1) := by omega
    subst this
    rw [b_X10_digest_63]; dsimp only
    rw [show (0 : Int32).toNatClampNeg = 0 by decide, hM.2.1]
    exact ⟨vp_in_nI (n := 0) (by omega) (by omega), fun _ => ⟨kw (cdOf b0 n0 b1 n1) + 1, M_d115 h8 hY hf hM hR hQ (kw (cdOf b0 n0 b1 n1)) 0 v (by omega) e⟩, fun z => absurd (nI_le (Nat.le_refl _) (by omega)) z⟩
  | succ r ih =>
    intro l v hl e
    rw [b_X10_digest_63]; dsimp only
    rw [show (0 : Int32).toNatClampNeg = 0 by decide, hM.2.1]
    exact ⟨vp_in_nI (n := 0) (by omega) (by omega), fun z => absurd z (nI_ge (by omega) (by omega)), fun _ => ⟨6, M_d76 hM (by omega) (ih (l + 1) _ (by omega) e) 5 0 v rfl rfl⟩⟩
theorem M_d6 {D : Int64} {fd : Int32} (h8 : sok s) (hQ : ∀ y', FrQ y0 y' → Qp D y') : ∀ (r k : Nat) (y : Mem) (v : Int64), k + r = 8 → RY b0 n0 b1 n1 t b s y → y 0 4 = fd → FrQ y0 y → hsh (hsh (hsh (itH (fSe (cdOf b0 n0 b1 n1) s) 3 0 (hsh (hsh (dgYs (cdOf b0 n0 b1 n1) (RT t) (LT t b) 3 0 (dgT b0 n0 b1 n1 (itH (fun k => aCt (cdOf b0 n0 b1 n1) (RT t) (LT t b) n0 n1 t.1 b.1 s.1 fd (nI k)) r k v))) (aOr (cdOf b0 n0 b1 n1) b (RT t) (LT t b) 3 2 (-1))) (aOr (cdOf b0 n0 b1 n1) b (RT t) (LT t b) 3 2 0))) (nI (watN (cdOf b0 n0 b1 n1) s))) (aYr (cdOf b0 n0 b1 n1) 7 20 0)) (aYr (cdOf b0 n0 b1 n1) 7 20 1) = D → b_X10_digest_6 (r + 1) y v (nI k) Qp := by
  intro r
  induction r with
  | zero =>
    intro k y v hk hY hfd hf e
    have : k = 8 := by omega
    subst this
    rw [b_X10_digest_6]; dsimp only
    rw [itH] at e
    refine ⟨fun _ => M_readsText (t := 0) (by omega) hY.1 fun y1 f1 _ x1 e1 => ?_, fun z => absurd (nI_le (a := 8) (b := 8) (by omega) (by omega)) z⟩
    have q1 : FrQ y y1 := f1.q (by omega)
    have hY1 := hY.q q1
    refine M_readsText (t := 1) (by omega) hY1.2.1 fun y2 f2 _ x2 e2 => ?_
    have q2 : FrQ y1 y2 := f2.q (by omega)
    have hY2 := hY1.q q2
    refine Y_find hY2 fun y3 f3 hM hR => ⟨kl (cdOf b0 n0 b1 n1) + 1, ?_⟩
    subst e2 e1
    exact M_d63 h8 (hY2.q f3) (((hf.tr q1).tr q2).tr f3) hM hR hQ (kl (cdOf b0 n0 b1 n1)) 0 _ (by omega) e
  | succ r ih =>
    intro k y v hk hY hfd hf e
    rw [b_X10_digest_6]; dsimp only
    rw [nI_1]
    refine ⟨fun z => absurd z (nI_ge (a := k) (b := 8) (by omega) (by omega)), fun _ => M_count hY fun y1 f1 x1 e1 => ?_⟩
    rw [hfd] at e1
    subst e1
    exact ih (k + 1) y1 _ (by omega) (hY.q f1) (by rw [f1.2.1]; exact hfd) (hf.tr f1) e
theorem M_digest (h8 : sok s) (hY : RY b0 n0 b1 n1 t b s y0) (hQ : ∀ y', FrQ y0 y' → Qp (DGN b0 n0 b1 n1 t b s (y0 0 4)) y') : p_X10_digest y0 Qp := ⟨9, M_d6 h8 hQ 8 0 y0 _ rfl hY rfl (FrQ.rf y0) rfl⟩
end DgM2
theorem st_digest : s_digest Rel := by
  intro x xl y h
  obtain ⟨n0, n1, t, b, s, hX, hY⟩ := h.1
  exact X_digest hX fun g gl h1 h2 => M_digest hX.2.2.2.1.1 hY fun y' f => ⟨by rw [h.2.2], h.q hY h1 h2 f⟩
/-! the start -/
def lg0 : LG := (0, fun _ => 0, fun _ => 0)
theorem Rel_0 : Rel iX0 iXL0 iM0 := by
  have no : ∀ {P : Nat → Prop} (i : Nat), i < 0 → P i := fun i hi => absurd hi (Nat.not_lt_zero i)
  have g0 : gok lg0 := ⟨Nat.zero_le _, fun i hi => absurd hi (Nat.not_lt_zero i)⟩
  have m0 : mk 12 (LT lg0 lg0) = 0 := by
    rw [mk_congr (q := fun _ => false) (fun i _ => by unfold LT lT; rfl)]
    decide
  refine ⟨⟨0, 0, lg0, lg0, lg0, ⟨⟨rfl, rfl, rfl, rfl⟩, ⟨rfl, by omega, rfl, by omega⟩, ⟨⟨g0, rfl, fun i hi => absurd hi (Nat.not_lt_zero i)⟩, ⟨g0, rfl, fun i hi => absurd hi (Nat.not_lt_zero i)⟩, ⟨fun l _ => Nat.zero_le _, fun l hl => ?_, by rw [m0]; rfl⟩⟩, ⟨⟨Nat.zero_le _, fun i hi => absurd hi (Nat.not_lt_zero i)⟩, rfl, fun i hi => absurd hi (Nat.not_lt_zero i)⟩, fun i _ => rfl, fun _ => ⟨⟨⟨⟨cd_ok, rfl, fun l hl => absurd hl (Nat.not_lt_zero l), fun h hh d hd => ⟨rfl, rfl, rfl⟩⟩, fun l hl => absurd hl (Nat.not_lt_zero l), fun h hh => ⟨rfl, rfl⟩⟩, ⟨cd_ok, rfl, rfl, fun l hl => absurd hl (Nat.not_lt_zero l), fun w hw => absurd hw (Nat.not_lt_zero w)⟩, rfl, rfl⟩, fun z => absurd z (by decide)⟩⟩, ⟨rfl, by omega, fun a ha => absurd ha (Nat.not_lt_zero a)⟩, ⟨rfl, by omega, fun a ha => absurd ha (Nat.not_lt_zero a)⟩, ⟨g0, rfl, fun i hi => absurd hi (Nat.not_lt_zero i)⟩, ⟨g0, rfl, fun i hi => absurd hi (Nat.not_lt_zero i)⟩, rfl, fun i hi => absurd hi (Nat.not_lt_zero i)⟩, fun q hq => Or.inl ?_, rfl⟩
  · show fillR (fun _ => (0 : Int32)) 12 (-1 : Int32) l = dI 0
    unfold fillR
    rw [if_pos hl]; rfl
  · obtain rfl | rfl | rfl | rfl : q = 0 ∨ q = 1 ∨ q = 2 ∨ q = 3 := by omega
    · exact ⟨rfl, by decide⟩
    · exact ⟨rfl, by decide⟩
    · exact ⟨rfl, by decide⟩
    · exact ⟨rfl, by decide⟩
