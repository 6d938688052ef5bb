/-! STEPS: the hour to watch, whole -/
theorem X_watch {n0 n1 : Nat} {t b s : LG} {x : Mem} {Qp : Int32 → Mem → Prop} (hR : RX n0 n1 t b s x) (hQ : ∀ g, RX n0 n1 t b s g → FX x g → Qp (nI (watN (cdOf (x 2) n0 (x 5) n1) s)) g) : p_X9_watch x Qp := by
  refine X_refresh hR fun g h1 h2 h3 h4 => X_sift h1 h4 fun g' h1' h2' h4' h5' => ?_
  have hF := h2.tr h2'
  have hok := (h1'.2.2.2.2.2 h4').1
  have hca := (h1'.2.2.2.2.2 h4').2 h5'
  rw [hF.1, hF.2.1] at hok hca
  refine ⟨fun z => ⟨25, X_hw_loop (v := 0) hok.1 hca (fun G hH h9 => ?_) 24 0 g' rfl ⟨fun _ _ _ _ => rfl, fun _ _ => rfl, h1'.2.2.2.2.1⟩ (fun _ => z) (fun q => absurd rfl q)⟩, fun z => ?_⟩
  · obtain ⟨r1, r2, ⟨r3, r4, r5⟩, r6, r7, r8⟩ := h1'
    have fk : ∀ k, k ≠ 35 → k ≠ 39 → k ≠ 40 → G k = g' k := hH.1
    refine hQ G ⟨?_, ?_, ⟨r3.f (fk 21 (by omega) (by omega) (by omega)) (fk 22 (by omega) (by omega) (by omega)) (fk 23 (by omega) (by omega) (by omega)), r4.f (fk 24 (by omega) (by omega) (by omega)) (fk 25 (by omega) (by omega) (by omega)) (fk 26 (by omega) (by omega) (by omega)), r5.f (fk 27 (by omega) (by omega) (by omega)) (fk 28 (by omega) (by omega) (by omega))⟩, r6.f (hH.2.1 2 (by omega)) (fk 36 (by omega) (by omega) (by omega)) (fk 37 (by omega) (by omega) (by omega)), hH.2.2, fun _ => ⟨?_, fun _ => ?_⟩⟩ (hF.tr ⟨fk 2 (by omega) (by omega) (by omega), fk 5 (by omega) (by omega) (by omega), by rw [fk 0 (by omega) (by omega) (by omega)], fun k hk => fk k (by omega) (by omega) (by omega)⟩)
    · rw [fk 1 (by omega) (by omega) (by omega), fk 4 (by omega) (by omega) (by omega)]; exact r1
    · rw [fk 1 (by omega) (by omega) (by omega), fk 4 (by omega) (by omega) (by omega)]; exact r2
    · rw [fk 2 (by omega) (by omega) (by omega), fk 5 (by omega) (by omega) (by omega), hF.1, hF.2.1]; exact hok.f fun k a1 a2 => fk k (by omega) (by omega) (by omega)
    · rw [fk 2 (by omega) (by omega) (by omega), fk 5 (by omega) (by omega) (by omega), hF.1, hF.2.1]
      exact ⟨by rw [hH.2.1 5 (by omega)]; exact hca.1, by rw [hH.2.1 6 (by omega)]; exact hca.2.1, by rw [fk 38 (by omega) (by omega) (by omega)]; exact hca.2.2.1, Or.inr h9⟩
  · rcases hca.2.2.2 with q | q
    · exact absurd q z
    · rw [q]; exact hQ g' h1' hF
/-! the reference's -/
def alP (c : CD) (s : LG) (h o n : Nat) : Nat := cntP (fun m => fit c s m && decide (doesN c m h = o)) n
section WatchM
variable {c : CD} {s : LG} {y : Mem} {Qp : Int32 → Mem → Prop}
theorem alP_le (hc : CDok c) {n : Nat} (hn : n ≤ 2 ^ kl c) (h o : Nat) : alP c s h o n ≤ 4096 := by
  have hp : 2 ^ kl c ≤ 4096 := Nat.pow_le_pow_right (n := 2) (by omega) hc.1
  exact Nat.le_trans (cntP_le _ _) (by omega)
theorem M_w104 {Y : Mem} {k best : Nat} {K : Mem → Int32 → Int32 → Int32 → Prop} (hc : CDok c) (hk : k < 24) (hal : ∀ o, o < 8 → Y 18 (8 * k + o) = nI (al c s k o)) (hK : K Y (nI (watF (mosN c s) (k + 1)).1) (dI (watF (mosN c s) (k + 1)).2) (nI (k + 1))) (hb : best = (watF (mosN c s) k).1) (hw : (watF (mosN c s) k).2 ≤ 4097) : ∀ r o, o + r = 8 → b_X10_watchNow_104 (r + 1) Y (nI best) (dI (watF (mosN c s) k).2) (nI k) (nI (mxF (al c s k) o)) (nI o) K Qp := by
  have hal2 : ∀ o, al c s k o ≤ 4096 := fun o => alP_le (s := s) hc (Nat.le_refl _) k o
  have hmx : ∀ n, mxF (al c s k) n ≤ 4096 := fun n => mxF_le _ _ _ fun o _ => hal2 o
  intro r
  induction r with
  | zero =>
    intro o ho
    have : o = 8 := by omega
    subst this
    rw [b_X10_watchNow_104]; dsimp only
    refine ⟨fun _ => ?_, fun z => absurd (nI_le (a := 8) (b := 8) (by omega) (by omega)) z⟩
    unfold b_X10_watchNow_169 b_X10_watchNow_181 b_X10_watchNow_193
    rw [nI_1]
    have hm := hmx 8
    have em : mosN c s k = mxF (al c s k) 8 := rfl
    rw [watF] at hK
    by_cases q : (watF (mosN c s) k).2 = 0 ∨ mosN c s k + 1 < (watF (mosN c s) k).2
    · rw [if_pos q, dI_s] at hK
      have e1 : (if dI (watF (mosN c s) k).2 = (-1 : Int32) then (1 : Int32) else (if dI (watF (mosN c s) k).2 ≤ nI (mxF (al c s k) 8) then (0 : Int32) else (1 : Int32))) = 1 := by
        by_cases q0 : (watF (mosN c s) k).2 = 0
        · rw [if_pos ((dI_m1 (by omega)).mpr q0)]
        · rw [if_neg (fun w => q0 ((dI_m1 (by omega)).mp w)), if_neg]
          rw [← dI_s, dI_le (by omega) (by omega)]; omega
      rw [e1, if_neg (by decide), if_neg (by decide)]
      exact hK
    · rw [if_neg q] at hK
      have e1 : (if dI (watF (mosN c s) k).2 = (-1 : Int32) then (1 : Int32) else (if dI (watF (mosN c s) k).2 ≤ nI (mxF (al c s k) 8) then (0 : Int32) else (1 : Int32))) = 0 := by
        rw [if_neg (fun w => q (Or.inl ((dI_m1 (by omega)).mp w))), if_pos]
        rw [← dI_s, dI_le (by omega) (by omega)]; omega
      rw [e1, if_pos rfl, if_pos rfl, hb]
      exact hK
  | succ r ih =>
    intro o ho
    rw [b_X10_watchNow_104]; dsimp only
    unfold b_X10_watchNow_145
    have hi := ih (o + 1) (by omega)
    have h1 := hal2 o
    have h2 := hmx o
    rw [mxF] at hi
    rw [show (8 : Int32) = nI 8 from rfl, pk_mul, nI_add, nI_clamp (by omega), hal o (by omega), nI_leI (a := al c s k o) (b := mxF (al c s k) o) (by omega) (by omega), nI_1]
    refine ⟨fun z => absurd z (nI_ge (by omega) (by omega)), fun _ => ⟨vp_in_nI (by omega) (by omega), fun z => ?_, fun z => ⟨vp_in_nI (by omega) (by omega), ?_⟩⟩⟩
    · rw [if_neg (by omega)] at hi; exact hi
    · rw [if_pos (by omega)] at hi; exact hi
theorem watF_b {hc : CDok c} : ∀ k, (watF (mosN c s) k).2 ≤ 4097 ∧ (watF (mosN c s) k).1 < 24 + k := by
  intro k
  cases k with
  | zero => exact ⟨Nat.zero_le _, by show 0 < 24 + 0; omega⟩
  | succ k =>
    have h1 := (watF_le (mosN c s) k).1
    have h2 := mosN_le hc s k
    have h3 := watF_lt (mosN c s) k
    exact ⟨by omega, by omega⟩
theorem M_w92 {Y : Mem} (hc : CDok c) (hal : ∀ h, h < 24 → ∀ o, o < 8 → Y 18 (8 * h + o) = nI (al c s h o)) (hQ : Qp (nI (watN c s)) Y) : ∀ r k, k + r = 24 → b_X10_watchNow_92 (r + 1) Y (nI (watF (mosN c s) k).1) (dI (watF (mosN c s) k).2) (nI k) Qp := by
  intro r
  induction r with
  | zero =>
    intro k hk
    have : k = 24 := by omega
    subst this
    rw [b_X10_watchNow_92]; dsimp only
    exact ⟨fun _ => hQ, fun z => absurd (nI_le (a := 24) (b := 24) (by omega) (by omega)) z⟩
  | succ r ih =>
    intro k hk
    rw [b_X10_watchNow_92]; dsimp only
    exact ⟨fun z => absurd z (nI_ge (a := k) (b := 24) (by omega) (by omega)), fun _ => ⟨9, M_w104 hc (by omega) (hal k (by omega)) (ih (k + 1) (by omega)) rfl (watF_b (hc := hc) k).1 8 0 rfl⟩⟩
theorem M_w46 {Y0 : Mem} {m : Nat} {K : Mem → Int32 → Prop} (hM : MC c Y0) (hm : m < 2 ^ kl c) (hf : fit c s m = true) (hK : ∀ Y, (∀ k, k ≠ 18 → Y k = Y0 k) → (∀ h, h < 24 → ∀ o, o < 8 → Y 18 (8 * h + o) = nI (alP c s h o (m + 1))) → K Y (nI (m + 1))) : ∀ (r j : Nat) (Y : Mem), j + r = 24 → (∀ k, k ≠ 18 → Y k = Y0 k) → (∀ h, h < 24 → ∀ o, o < 8 → Y 18 (8 * h + o) = nI (if h < j then alP c s h o (m + 1) else alP c s h o m)) → b_X10_watchNow_46 (r + 1) Y (nI m) (nI j) K Qp := by
  have hc := hM.1
  have hp : 2 ^ kl c ≤ 4096 := Nat.pow_le_pow_right (n := 2) (by omega) hc.1
  intro r
  induction r with
  | zero =>
    intro j Y hj g1 g2
    have : j = 24 := by omega
    subst this
    rw [b_X10_watchNow_46]; dsimp only
    unfold b_X10_watchNow_80
    rw [nI_1]
    exact ⟨fun _ => hK Y g1 (fun h hh o ho => by have := g2 h hh o ho; rw [if_pos hh] at this; exact this), fun z => absurd (nI_le (a := 24) (b := 24) (by omega) (by omega)) z⟩
  | succ r ih =>
    intro j Y hj g1 g2
    have hMY : MC c Y := hM.f ⟨g1 7 (by omega), g1 8 (by omega), g1 9 (by omega)⟩
    have hd := doesN_le c m j
    rw [b_X10_watchNow_46]; dsimp only
    refine ⟨fun z => absurd z (nI_ge (a := j) (b := 24) (by omega) (by omega)), fun _ => M_doesBy hMY (by omega) (by omega) ?_⟩
    have e0 : (((8 : Int32) * nI j) + dI (doesN c m j)) + (1 : Int32) = nI (8 * j + doesN c m j) := by
      rw [Int32.add_assoc, dI_1, show (8 : Int32) = nI 8 from rfl, pk_mul, nI_add]
    rw [e0, nI_clamp (by omega), g2 j (by omega) _ (by omega), if_neg (by omega), nI_1, nI_1]
    refine ⟨vp_in_nI (by omega) (by omega), vp_in_nI (by omega) (by omega), fun Y1 e1 => ih (j + 1) Y1 (by omega) (fun k hk => by rw [e1, up2_other _ _ _ hk]; exact g1 k hk) (fun h hh o ho => ?_)⟩
    rw [e1, up2_row]
    by_cases e : h = j
    · subst e
      by_cases e2 : o = doesN c m h
      · rw [if_pos ⟨rfl, by omega⟩, if_pos (by omega)]
        show nI (alP c s h (doesN c m h) m + 1) = nI (alP c s h o m + (fit c s m && decide (doesN c m h = o)).toNat)
        rw [hf, e2]; simp
      · rw [if_neg (by omega), g2 h hh o ho, if_neg (by omega), if_pos (by omega)]
        show nI (alP c s h o m) = nI (alP c s h o m + (fit c s m && decide (doesN c m h = o)).toNat)
        rw [decide_eq_false (fun z => e2 z.symm), Bool.and_false]; rfl
    · rw [if_neg (by omega), g2 h hh o ho]
      by_cases e3 : h < j
      · rw [if_pos e3, if_pos (by omega)]
      · rw [if_neg e3, if_neg (by omega)]
theorem M_w24 {y0 : Mem} (hM : MC c y0) (h8 : sok s) (hs : SY s y0) (hQ : ∀ y', (∀ k, k ≠ 18 → y' k = y0 k) → Qp (nI (watN c s)) y') : ∀ (r m : Nat) (Y : Mem), m + r = 2 ^ kl c → (∀ k, k ≠ 18 → Y k = y0 k) → (∀ h, h < 24 → ∀ o, o < 8 → Y 18 (8 * h + o) = nI (alP c s h o m)) → b_X10_watchNow_24 (r + 1) Y (nI m) Qp := by
  have hc := hM.1
  have hk12 := hc.1
  have hp : 2 ^ kl c ≤ 4096 := Nat.pow_le_pow_right (n := 2) (by omega) hc.1
  intro r
  induction r with
  | zero =>
    intro m Y hm g1 g2
    have : m = 2 ^ kl c := by omega
    subst this
    rw [b_X10_watchNow_24]; dsimp only
    rw [show (0 : Int32).toNatClampNeg = 0 by decide, g1 7 (by omega), hM.2.1, shl1 (by omega)]
    exact ⟨vp_in_nI (n := 0) (by omega) (by omega), fun _ => ⟨25, M_w92 hc g2 (hQ Y g1) 24 0 rfl⟩, fun z => absurd (nI_le (Nat.le_refl _) (by omega)) z⟩
  | succ r ih =>
    intro m Y hm g1 g2
    have hMY : MC c Y := hM.f ⟨g1 7 (by omega), g1 8 (by omega), g1 9 (by omega)⟩
    have hsY : SY s Y := by unfold SY; rw [g1 0 (by omega), g1 17 (by omega)]; exact hs
    rw [b_X10_watchNow_24]; dsimp only
    unfold b_X10_watchNow_80
    rw [show (0 : Int32).toNatClampNeg = 0 by decide, g1 7 (by omega), hM.2.1, shl1 (by omega), nI_1]
    refine ⟨vp_in_nI (n := 0) (by omega) (by omega), fun z => absurd z (nI_ge (by omega) (by omega)), fun _ => M_isSeen hMY h8 hsY (by omega) ⟨fun z => ih (m + 1) Y (by omega) g1 (fun h hh o ho => ?_), fun z => ⟨25, M_w46 hMY (by omega) ?_ (fun Y2 k1 k2 => ih (m + 1) Y2 (by omega) (fun k hk => (k1 k hk).trans (g1 k hk)) k2) 24 0 Y rfl (fun _ _ => rfl) (fun h hh o ho => by rw [if_neg (by omega)]; exact g2 h hh o ho)⟩⟩⟩
    · have z := (b2_0 _).mp z
      rw [g2 h hh o ho]
      show nI (alP c s h o m) = nI (alP c s h o m + (fit c s m && decide (doesN c m h = o)).toNat)
      rw [z]; rfl
    · cases e : fit c s m with
      | true => rfl
      | false => exact absurd ((b2_0 _).mpr e) z
theorem M_w2 {y0 : Mem} (hM : MC c y0) (h8 : sok s) (hs : SY s y0) (hQ : ∀ y', (∀ k, k ≠ 18 → y' k = y0 k) → Qp (nI (watN c s)) y') : ∀ (r i : Nat) (Y : Mem), i + r = 192 → (∀ k, k ≠ 18 → Y k = y0 k) → (∀ a, a < i → Y 18 a = 0) → b_X10_watchNow_2 (r + 1) Y (nI i) Qp := by
  intro r
  induction r with
  | zero =>
    intro i Y hi g1 g2
    have : i = 192 := by omega
    subst this
    rw [b_X10_watchNow_2]; dsimp only
    refine ⟨fun _ => ⟨2 ^ kl c + 1, M_w24 hM h8 hs hQ (2 ^ kl c) 0 Y (by omega) g1 (fun h hh o ho => ?_)⟩, fun z => absurd (nI_le (a := 192) (b := 192) (by omega) (by omega)) z⟩
    rw [g2 _ (by omega)]; rfl
  | succ r ih =>
    intro i Y hi g1 g2
    rw [b_X10_watchNow_2]; dsimp only
    rw [nI_clamp (by omega), nI_1]
    refine ⟨fun z => absurd z (nI_ge (a := i) (b := 192) (by omega) (by omega)), fun _ => ⟨vp_in_nI (by omega) (by omega), ih (i + 1) _ (by omega) (fun k hk => by rw [up2_other _ _ _ hk]; exact g1 k hk) (fun a ha => ?_)⟩⟩
    rw [up2_row]
    by_cases e : a = i
    · rw [if_pos ⟨rfl, e⟩]
    · rw [if_neg (fun z => e z.2)]; exact g2 a (by omega)
theorem M_watchNow (hM : MC c y) (h8 : sok s) (hs : SY s y) (hQ : ∀ y', (∀ k, k ≠ 18 → y' k = y k) → Qp (nI (watN c s)) y') : p_X10_watchNow y Qp := ⟨193, M_w2 hM h8 hs hQ 192 0 y rfl (fun _ _ => rfl) (fun a ha => absurd ha (Nat.not_lt_zero a))⟩
end WatchM
theorem Fr18.q {y y' : Mem} (h : ∀ k, k ≠ 18 → y' k = y k) : FrQ y y' := ⟨fun k h1 h2 => h k (by omega), by rw [h 0 (by omega)], by rw [h 0 (by omega)], by rw [h 0 (by omega)], by rw [h 0 (by omega)]⟩
theorem st_watch : s_watch Rel := by
  intro x xl y h
  obtain ⟨n0, n1, t, b, s, hX, hY⟩ := h.1
  exact X_watch hX fun g h1 h2 => Y_reads hY fun y1 f1 hM => M_watchNow hM hX.2.2.2.1.1 (hY.q f1).2.2.2.2 fun y2 f2 => ⟨rfl, h.q hY h1 h2 (f1.tr (Fr18.q f2))⟩
