/-! STEPS: the hour to watch, the program's -/
def tlN (F : Nat → Nat) (cv i p : Nat) : Nat := sumTo i (fun j => (decide (F j &&& cv = p)).toNat)
def akN (c : CD) (h : Nat) (F : Nat → Nat) (cv N k o : Nat) : Nat := sumTo N (fun j => (decide (rk 12 cv (F j &&& cv) < k) && decide (doesN c (F j) h = o)).toNat)
theorem toNat1 (b : Bool) : b.toNat ≤ 1 := by cases b <;> decide
theorem sumTo_b {n : Nat} {f : Nat → Nat} (h : ∀ i, f i ≤ 1) : sumTo n f ≤ n := by
  have := sumTo_le (n := n) (b := 1) (f := f) (fun i _ => h i)
  omega
theorem sumTo_z (n : Nat) : sumTo n (fun _ => 0) = 0 := by
  induction n with
  | zero => rfl
  | succ n ih => rw [sumTo, ih]
theorem ak_step {c : CD} {h : Nat} {F : Nat → Nat} {N k cur : Nat} (hF : ∀ j, j < N → F j < 4096) (hcv : cvm c h < 4096) (hs : cur &&& cvm c h = cur) (hr : rk 12 (cvm c h) cur = k) (hl : cur < 4096) (o : Nat) : akN c h F (cvm c h) N (k + 1) o = akN c h F (cvm c h) N k o + (if doesN c cur h = o then tlN F (cvm c h) N cur else 0) := by
  have key : ∀ j, j < N → (decide (rk 12 (cvm c h) (F j &&& cvm c h) < k + 1) && decide (doesN c (F j) h = o)).toNat = (decide (rk 12 (cvm c h) (F j &&& cvm c h) < k) && decide (doesN c (F j) h = o)).toNat + (if doesN c cur h = o then (decide (F j &&& cvm c h = cur)).toNat else 0) := fun j hj => by
    have hl2 : F j &&& cvm c h < 4096 := Nat.lt_of_le_of_lt Nat.and_le_right hcv
    by_cases e : F j &&& cvm c h = cur
    · have d : doesN c (F j) h = doesN c cur h := by rw [← e, does_cut]
      rw [e, hr, d]
      by_cases q : doesN c cur h = o
      · simp [q]
      · simp [q]
    · have hne : rk 12 (cvm c h) (F j &&& cvm c h) ≠ k := fun z => e (rk_inj 12 _ _ _ hl2 hl (by rw [Nat.and_assoc, Nat.and_self]) hs (by rw [z, hr]))
      have : decide (rk 12 (cvm c h) (F j &&& cvm c h) < k + 1) = decide (rk 12 (cvm c h) (F j &&& cvm c h) < k) := decide_eq_decide.mpr (by omega)
      rw [this, decide_eq_false e]
      split <;> rfl
  unfold akN
  rw [sumTo_congr key, sumTo_add]
  congr 1
  by_cases q : doesN c cur h = o
  · rw [if_pos q]
    unfold tlN
    exact sumTo_congr fun j _ => by rw [if_pos q]
  · rw [if_neg q, sumTo_congr (g := fun _ => 0) (fun j _ => by rw [if_neg q]), sumTo_z]
section Most
variable {c : CD} {s : LG} {g : Mem} {h N : Nat} {F : Nat → Nat} {Qp : Int32 → Mem → Prop}
theorem X_most_loop (hX : XC c g) (hh : h < 24) (hN : N ≤ 4096) (hF : ∀ j, j < N → F j < 4096) (hQ : ∀ g', (∀ k, k ≠ 39 → k ≠ 40 → g' k = g k) → (∀ i, i < 4096 → g' 39 i = 0) → Qp (nI (mxF (akN c h F (cvm c h) N (2 ^ pop 12 (cvm c h))) 8)) g') : ∀ (r k cur : Nat) (G : Mem), k + r = 2 ^ pop 12 (cvm c h) → cur < 4096 → (k < 2 ^ pop 12 (cvm c h) → cur &&& cvm c h = cur ∧ rk 12 (cvm c h) cur = k) → (∀ q, q ≠ 39 → q ≠ 40 → G q = g q) → (∀ p, p < 4096 → G 39 p = nI (if p &&& cvm c h = p ∧ ¬ rk 12 (cvm c h) p < k then tlN F (cvm c h) N p else 0)) → (∀ o, o < 8 → G 40 o = nI (akN c h F (cvm c h) N k o)) → b_X2_mostAlike_67 (r + 1) G (nI h) (nI (cvm c h)) (nI (mxF (akN c h F (cvm c h) N k) 8)) (nI cur) (nI (2 ^ pop 12 (cvm c h))) (nI k) Qp := by
  have hcv := cvm_lt hX.1.1 h
  have hpp : 2 ^ pop 12 (cvm c h) ≤ 2 ^ 12 := Nat.pow_le_pow_right (by omega) (pop_le 12 _)
  have hak : ∀ k o, akN c h F (cvm c h) N k o ≤ 4096 := fun k o => Nat.le_trans (sumTo_b fun i => toNat1 _) hN
  have htl : ∀ p, tlN F (cvm c h) N p ≤ 4096 := fun p => Nat.le_trans (sumTo_b fun i => toNat1 _) hN
  have hmx : ∀ k, mxF (akN c h F (cvm c h) N k) 8 ≤ 4096 := fun k => mxF_le _ _ _ fun o _ => hak k o
  intro r
  induction r with
  | zero =>
    intro k cur G hk hl hc g1 g2 g3
    have : k = 2 ^ pop 12 (cvm c h) := by omega
    subst this
    rw [b_X2_mostAlike_67]; dsimp only
    refine ⟨fun _ => hQ G g1 fun i hi => ?_, fun z => absurd (nI_le (Nat.le_refl _) (by omega)) z⟩
    rw [g2 i hi, if_neg (fun z => z.2 (rk_lt 12 _ _))]; rfl
  | succ r ih =>
    intro k cur G hk hl hc g1 g2 g3
    obtain ⟨hs, hr⟩ := hc (by omega)
    have hXG : XC c G := hX.f fun q a1 a2 => g1 q (by omega) (by omega)
    have step := ak_step (c := c) (h := h) (F := F) (N := N) hF hcv hs hr hl
    have hT := htl cur
    rw [b_X2_mostAlike_67]; dsimp only
    unfold b_X2_mostAlike_134
    rw [nI_clamp (by omega), g2 cur hl, if_pos ⟨hs, by omega⟩, nI_eq0 (by omega), nx_I hcv hl, nI_1]
    have nxt : k + 1 < 2 ^ pop 12 (cvm c h) → nx 12 (cvm c h) cur &&& cvm c h = nx 12 (cvm c h) cur ∧ rk 12 (cvm c h) (nx 12 (cvm c h) cur) = k + 1 := fun q => ⟨nx_sub _ _ _, by rw [nx_rk 12 _ _ hcv hs (by omega), hr]⟩
    have tal : ∀ p, p < 4096 → p ≠ cur → (if p &&& cvm c h = p ∧ ¬ rk 12 (cvm c h) p < k then tlN F (cvm c h) N p else 0) = (if p &&& cvm c h = p ∧ ¬ rk 12 (cvm c h) p < k + 1 then tlN F (cvm c h) N p else 0) := fun p hp hne => by
      by_cases e : p &&& cvm c h = p
      · have hne2 : rk 12 (cvm c h) p ≠ k := fun z => hne (rk_inj 12 _ _ _ hp hl e hs (by rw [z, hr]))
        by_cases e2 : rk 12 (cvm c h) p < k
        · rw [if_neg (fun z => z.2 e2), if_neg (fun z => z.2 (by omega))]
        · rw [if_pos ⟨e, e2⟩, if_pos ⟨e, by omega⟩]
      · rw [if_neg (fun z => e z.1), if_neg (fun z => e z.1)]
    have cur0 : (if cur &&& cvm c h = cur ∧ ¬ rk 12 (cvm c h) cur < k + 1 then tlN F (cvm c h) N cur else 0) = 0 := if_neg (fun z => z.2 (by omega))
    refine ⟨fun z => absurd z (nI_ge (by omega) (by omega)), fun _ => ⟨vp_in_nI hl (by omega), fun z => ?_, fun z => X_deedBy hXG.1 hl hh ?_⟩⟩
    · have same : ∀ o, akN c h F (cvm c h) N (k + 1) o = akN c h F (cvm c h) N k o := fun o => by
        rw [step o, z]; split <;> rfl
      rw [← mxF_congr (fun o _ => same o)]
      refine ih (k + 1) _ G (by omega) (nx_lt (n := 12) hcv) nxt g1 (fun p hp => ?_) (fun o ho => by rw [same o]; exact g3 o ho)
      by_cases e : p = cur
      · rw [g2 p hp, e, cur0, if_pos ⟨hs, by omega⟩, z]
      · rw [g2 p hp, tal p hp e]
    · have hd := doesN_le c cur h
      have hin8 : vp_in (nI (doesN c cur h)) 8 := vp_in_nI (by omega) (by omega)
      have hA := hak k (doesN c cur h)
      rw [dI_1, nI_clamp (by omega), g3 _ (by omega), nI_add]
      have up := mxF_up (f := akN c h F (cvm c h) N k) (g := akN c h F (cvm c h) N (k + 1)) (n := 8) (o := doesN c cur h) (by omega) (fun o _ ho => by rw [step o, if_neg (fun z => ho z.symm)]; omega) (by rw [step _]; omega)
      have eo : akN c h F (cvm c h) N (k + 1) (doesN c cur h) = akN c h F (cvm c h) N k (doesN c cur h) + tlN F (cvm c h) N cur := by rw [step _, if_pos rfl]
      refine ⟨hin8, vp_in_nI hl (by omega), hin8, fun G1 e1 => ⟨hin8, fun x21 e21 => ⟨vp_in_nI hl (by omega), ?_⟩⟩⟩
      have v40 : G1 40 (doesN c cur h) = nI (akN c h F (cvm c h) N (k + 1) (doesN c cur h)) := by rw [e1, up2_row, if_pos ⟨rfl, rfl⟩, eo]
      have hA1 := hak (k + 1) (doesN c cur h)
      have hM := hmx k
      have ex : x21 = nI (mxF (akN c h F (cvm c h) N (k + 1)) 8) := by
        rw [e21, v40, up]
        by_cases q : mxF (akN c h F (cvm c h) N k) 8 < akN c h F (cvm c h) N (k + 1) (doesN c cur h)
        · rw [if_pos q, if_pos (nI_lt q (by omega))]
        · rw [if_neg q, if_neg (nI_nlt (by omega) (by omega))]
      rw [ex]
      refine ih (k + 1) _ _ (by omega) (nx_lt (n := 12) hcv) nxt (fun q a1 a2 => ?_) (fun p hp => ?_) (fun o ho => ?_)
      · rw [up2_other _ _ _ a1, e1, up2_other _ _ _ a2]; exact g1 q a1 a2
      · rw [up2_row]
        by_cases e : p = cur
        · rw [if_pos ⟨rfl, e⟩, e, cur0]; rfl
        · rw [if_neg (fun z => e z.2), e1, up2_other _ _ _ (by omega), g2 p hp, tal p hp e]
      · rw [up2_other _ _ _ (by omega)]
        by_cases e : o = doesN c cur h
        · rw [e]; exact v40
        · rw [e1, up2_row, if_neg (fun z => e z.2), g3 o ho, step o, if_neg (fun z => e z.symm)]; rfl
theorem X_tally_loop (hX : XC c g) (hh : h < 24) (hN : N ≤ 4096) (hF : ∀ j, j < N → F j < 4096 ∧ g 38 j = nI (F j)) (h5 : g 35 5 = nI N) (hQ : ∀ g', (∀ k, k ≠ 39 → k ≠ 40 → g' k = g k) → (∀ i, i < 4096 → g' 39 i = 0) → Qp (nI (mxF (akN c h F (cvm c h) N (2 ^ pop 12 (cvm c h))) 8)) g') : ∀ (r i : Nat) (G : Mem), i + r = N → (∀ q, q ≠ 39 → G q = g q) → (∀ p, p < 4096 → G 39 p = nI (tlN F (cvm c h) i p)) → b_X2_mostAlike_9 (r + 1) G (nI h) (nI (cvm c h)) (nI i) Qp := by
  have hcv := cvm_lt hX.1.1 h
  have hpop := pop_le 12 (cvm c h)
  intro r
  induction r with
  | zero =>
    intro i G hi g1 g2
    have : i = N := by omega
    subst this
    rw [b_X2_mostAlike_9]; dsimp only
    rw [g1 35 (by omega), h5]
    refine ⟨fun _ => fill_spec (by omega) (X_bitCount hcv fun x6 e6 => ?_), fun z => absurd (nI_le (Nat.le_refl _) (by omega)) z⟩
    rw [e6, shl1 (by omega)]
    have z0 : ∀ o, akN c h F (cvm c h) i 0 o = 0 := fun o => by
      unfold akN
      rw [sumTo_congr (g := fun _ => 0) (fun j _ => by simp), sumTo_z]
    have m0 : mxF (akN c h F (cvm c h) i 0) 8 = 0 := by
      have := mxF_le (akN c h F (cvm c h) i 0) 0 8 (fun k _ => by rw [z0 k]; omega)
      omega
    refine ⟨2 ^ pop 12 (cvm c h) + 1, ?_⟩
    have rk0 : ∀ n cv, rk n cv 0 = 0 := fun n => by
      induction n with
      | zero => intro cv; rfl
      | succ n ihn => intro cv; rw [rk, show 0 / 2 = 0 by omega, ihn]; split <;> rfl
    have := X_most_loop (F := F) hX hh hN (fun j hj => (hF j hj).1) hQ (2 ^ pop 12 (cvm c h)) 0 0 (upR G 40 (fillR (G 40) 8 0)) (by omega) (by omega) (fun _ => ⟨Nat.zero_and _, rk0 12 _⟩) (fun q a1 a2 => by rw [upR_other _ _ a2]; exact g1 q a1) (fun p hp => ?_) (fun o ho => ?_)
    · rw [m0] at this; exact this
    · rw [upR_other _ _ (by omega), g2 p hp]
      by_cases e : p &&& cvm c h = p
      · rw [if_pos ⟨e, by omega⟩]
      · rw [if_neg (fun z => e z.1)]
        congr 1
        unfold tlN
        rw [sumTo_congr (g := fun _ => 0) (fun j _ => ?_), sumTo_z]
        rw [decide_eq_false (fun z => e (by rw [← z, Nat.and_assoc, Nat.and_self]))]; rfl
    · rw [upR_self, z0 o]; unfold fillR; rw [if_pos ho]; rfl
  | succ r ih =>
    intro i G hi g1 g2
    obtain ⟨f1, f2⟩ := hF i (by omega)
    have hl : F i &&& cvm c h < 4096 := Nat.lt_of_le_of_lt Nat.and_le_right hcv
    rw [b_X2_mostAlike_9]; dsimp only
    rw [g1 35 (by omega), h5, nI_clamp (by omega), g1 38 (by omega), f2, nI_and (by omega) (by omega), nI_clamp (by omega), g2 _ hl, nI_1, nI_1]
    refine ⟨fun z => absurd z (nI_ge (by omega) (by omega)), fun _ => ⟨vp_in_nI (by omega) (by omega), vp_in_nI hl (by omega), vp_in_nI hl (by omega), fun G1 e1 => ih (i + 1) G1 (by omega) (fun q hq => by rw [e1, up2_other _ _ _ hq]; exact g1 q hq) (fun p hp => ?_)⟩⟩
    show _ = nI (tlN F (cvm c h) i p + (decide (F i &&& cvm c h = p)).toNat)
    rw [e1, up2_row]
    by_cases e : p = F i &&& cvm c h
    · rw [if_pos ⟨rfl, e⟩, decide_eq_true e.symm, e]; rfl
    · rw [if_neg (fun z => e z.2), decide_eq_false (fun z => e z.symm), g2 p hp]; rfl
theorem X_mostAlike (hX : XC c g) (hh : h < 24) (hca : cacheX c s g) (ht : ∀ i, i < 4096 → g 39 i = 0) (hQ : ∀ g', (∀ k, k ≠ 39 → k ≠ 40 → g' k = g k) → (∀ i, i < 4096 → g' 39 i = 0) → Qp (nI (mosN c s h)) g') : p_X2_mostAlike g (nI h) Qp := by
  have hc := hX.1.1
  have hp : 2 ^ kl c ≤ 4096 := Nat.pow_le_pow_right (n := 2) (by omega) hc.1
  have hf := fN_le (c := c) (s := s) (m := 2 ^ kl c)
  obtain ⟨c1, c2, c3, c4⟩ := hca
  have hF : ∀ i, i < fN c s (2 ^ kl c) → ((g 38 i).toNatClampNeg < 2 ^ kl c ∧ fit c s ((g 38 i).toNatClampNeg) = true ∧ fN c s ((g 38 i).toNatClampNeg) = i) ∧ g 38 i = nI ((g 38 i).toNatClampNeg) := fun i hi => by
    obtain ⟨q, q1, q2, q3, q4⟩ := c3 i hi
    rw [q1, nI_clamp (by omega)]
    exact ⟨⟨q2, q3, q4⟩, rfl⟩
  refine X_coveringLaws hX hh ⟨fN c s (2 ^ kl c) + 1, ?_⟩
  refine X_tally_loop (F := fun i => (g 38 i).toNatClampNeg) (N := fN c s (2 ^ kl c)) hX hh (by omega) (fun j hj => ⟨by have := (hF j hj).1.1; omega, (hF j hj).2⟩) c1 (fun g' f1 f2 => ?_) _ 0 g (by omega) (fun _ _ => rfl) (fun p hp => by rw [ht p hp]; rfl)
  have e : mxF (akN c h (fun i => (g 38 i).toNatClampNeg) (cvm c h) (fN c s (2 ^ kl c)) (2 ^ pop 12 (cvm c h))) 8 = mosN c s h := by
    unfold mosN
    refine mxF_congr fun o _ => ?_
    unfold al
    rw [← sum_fit (F := fun i => (g 38 i).toNatClampNeg) (N := 2 ^ kl c) (fun i hi => (hF i hi).1) (fun m => decide (doesN c m h = o)) (2 ^ kl c) (Nat.le_refl _)]
    unfold akN
    refine sumTo_congr fun j _ => ?_
    rw [decide_eq_true (rk_lt 12 _ _)]; rfl
  rw [e]
  exact hQ g' f1 f2
/-- while the hour is sought -/
def HW (g G : Mem) : Prop := (∀ k, k ≠ 35 → k ≠ 39 → k ≠ 40 → G k = g k) ∧ (∀ j, j ≠ 9 → G 35 j = g 35 j) ∧ ∀ i, i < 4096 → G 39 i = 0
theorem mosN_le {c : CD} (hc : CDok c) (s : LG) (h : Nat) : mosN c s h ≤ 4096 := mxF_le _ _ _ fun o _ => by
  have hp : 2 ^ kl c ≤ 4096 := Nat.pow_le_pow_right (n := 2) (by omega) hc.1
  exact Nat.le_trans (cntP_le _ _) hp
theorem X_hw_loop (hX : XC c g) (hca : cacheX c s g) (hQ : ∀ G, HW g G → G 35 9 = nI (watN c s) → Qp (nI (watN c s)) G) : ∀ (r k : Nat) (G : Mem) (v : Int32), k + r = 24 → HW g G → (k = 0 → G 35 9 = (-1 : Int32)) → (k ≠ 0 → G 35 9 = nI (watF (mosN c s) k).1 ∧ v = nI ((watF (mosN c s) k).2 - 1)) → b_X2_hourToWatch_17 (r + 1) G v (nI k) Qp := by
  have hc := hX.1.1
  intro r
  induction r with
  | zero =>
    intro k G v hk hH h0 h1
    have : k = 24 := by omega
    subst this
    rw [b_X2_hourToWatch_17]; dsimp only
    refine ⟨fun _ => ?_, fun z => absurd (nI_le (a := 24) (b := 24) (by omega) (by omega)) z⟩
    rw [(h1 (by omega)).1]
    exact hQ G hH (h1 (by omega)).1
  | succ r ih =>
    intro k G v hk hH h0 h1
    have hXG : XC c G := hX.f fun q a1 a2 => hH.1 q (by omega) (by omega) (by omega)
    have hm := mosN_le hc s k
    rw [b_X2_hourToWatch_17]; dsimp only
    unfold b_X2_hourToWatch_53 b_X2_hourToWatch_61
    rw [nI_1]
    refine ⟨fun z => absurd z (nI_ge (a := k) (b := 24) (by omega) (by omega)), fun _ => X_isLikeBefore hXG (by omega) ⟨fun z => ?_, fun z => ?_⟩⟩
    · have cG : cacheX c s (upR G 35 (g 35)) := ⟨by rw [upR_self]; exact hca.1, by rw [upR_self]; exact hca.2.1, by rw [upR_other _ _ (by omega), hH.1 38 (by omega) (by omega) (by omega)]; exact hca.2.2.1, by rw [upR_self]; exact hca.2.2.2⟩
      have run : ∀ {K : Int32 → Mem → Prop}, (∀ g', (∀ q, q ≠ 39 → q ≠ 40 → g' q = G q) → (∀ i, i < 4096 → g' 39 i = 0) → K (nI (mosN c s k)) g') → p_X2_mostAlike G (nI k) K := fun {K} hK => by
        have hp : 2 ^ kl c ≤ 4096 := Nat.pow_le_pow_right (n := 2) (by omega) hc.1
        have cc : ∃ w, cacheX c s (up2 G 35 9 w) := ⟨g 35 9, by rw [up2_row, if_neg (by omega), hH.2.1 5 (by omega)]; exact hca.1, by rw [up2_row, if_neg (by omega), hH.2.1 6 (by omega)]; exact hca.2.1, by rw [up2_other _ _ _ (by omega), hH.1 38 (by omega) (by omega) (by omega)]; exact hca.2.2.1, by rw [up2_row, if_pos ⟨rfl, rfl⟩]; exact hca.2.2.2⟩
        refine X_coveringLaws hXG (by omega) ⟨fN c s (2 ^ kl c) + 1, ?_⟩
        have hf := fN_le (c := c) (s := s) (m := 2 ^ kl c)
        have hF : ∀ i, i < fN c s (2 ^ kl c) → ((G 38 i).toNatClampNeg < 2 ^ kl c ∧ fit c s ((G 38 i).toNatClampNeg) = true ∧ fN c s ((G 38 i).toNatClampNeg) = i) ∧ G 38 i = nI ((G 38 i).toNatClampNeg) := fun i hi => by
          obtain ⟨q, q1, q2, q3, q4⟩ := hca.2.2.1 i hi
          rw [hH.1 38 (by omega) (by omega) (by omega), q1, nI_clamp (by omega)]
          exact ⟨⟨q2, q3, q4⟩, rfl⟩
        refine X_tally_loop (F := fun i => (G 38 i).toNatClampNeg) (N := fN c s (2 ^ kl c)) hXG (by omega) (by omega) (fun j hj => ⟨by have := (hF j hj).1.1; omega, (hF j hj).2⟩) (by rw [hH.2.1 5 (by omega)]; exact hca.1) (fun g' f1 f2 => ?_) _ 0 G (by omega) (fun _ _ => rfl) (fun p hp => by rw [hH.2.2 p hp]; rfl)
        have e : mxF (akN c k (fun i => (G 38 i).toNatClampNeg) (cvm c k) (fN c s (2 ^ kl c)) (2 ^ pop 12 (cvm c k))) 8 = mosN c s k := by
          unfold mosN
          refine mxF_congr fun o _ => ?_
          unfold al
          rw [← sum_fit (F := fun i => (G 38 i).toNatClampNeg) (N := 2 ^ kl c) (fun i hi => (hF i hi).1) (fun m => decide (doesN c m k = o)) (2 ^ kl c) (Nat.le_refl _)]
          unfold akN
          refine sumTo_congr fun j _ => ?_
          rw [decide_eq_true (rk_lt 12 _ _)]; rfl
        rw [e]
        exact hK g' f1 f2
      refine run fun g' f1 f2 => ?_
      have H' : HW g g' := ⟨fun q a1 a2 a3 => (f1 q a2 a3).trans (hH.1 q a1 a2 a3), fun j hj => by rw [f1 35 (by omega) (by omega)]; exact hH.2.1 j hj, f2⟩
      have Hup : HW g (up2 g' 35 9 (nI k)) := ⟨fun q a1 a2 a3 => by rw [up2_other _ _ _ a1]; exact H'.1 q a1 a2 a3, fun j hj => by rw [up2_row, if_neg (fun w => hj w.2)]; exact H'.2.1 j hj, fun i hi => by rw [up2_other _ _ _ (by omega)]; exact f2 i hi⟩
      have u9 : up2 g' 35 9 (nI k) 35 9 = nI k := by rw [up2_row, if_pos ⟨rfl, rfl⟩]
      rw [f1 35 (by omega) (by omega)]
      by_cases k0 : k = 0
      · have w : watF (mosN c s) (k + 1) = (k, mosN c s k + 1) := by rw [watF, if_pos (Or.inl (by rw [k0]; rfl))]
        refine ⟨fun _ => ih (k + 1) _ _ (by omega) Hup (fun q => absurd q (by omega)) (fun _ => by rw [w]; exact ⟨u9, rfl⟩), fun q => absurd (h0 k0) q⟩
      · obtain ⟨h9, hv⟩ := h1 k0
        obtain ⟨k', rfl⟩ : ∃ k', k = k' + 1 := ⟨k - 1, by omega⟩
        obtain ⟨w1, w2⟩ := watF_le (mosN c s) k'
        have w3 := watF_lt (mosN c s) k'
        have hm' := mosN_le hc s k'
        refine ⟨fun q => absurd (h9.symm.trans q) (m1_ne (by omega)), fun _ => ?_⟩
        rw [hv, nI_leI (by omega) (by omega)]
        refine ⟨fun q => ih (k' + 1 + 1) g' _ (by omega) H' (fun q => absurd q (by omega)) (fun _ => ?_), fun q => ih (k' + 1 + 1) _ _ (by omega) Hup (fun q => absurd q (by omega)) (fun _ => ?_)⟩
        · have w : watF (mosN c s) (k' + 1 + 1) = watF (mosN c s) (k' + 1) := by rw [watF, if_neg (by omega)]
          rw [w]
          exact ⟨by rw [f1 35 (by omega) (by omega)]; exact h9, rfl⟩
        · have w : watF (mosN c s) (k' + 1 + 1) = (k' + 1, mosN c s (k' + 1) + 1) := by rw [watF, if_pos (by omega)]
          rw [w]
          exact ⟨u9, rfl⟩
    · have hl : lkB c k = true := by
        cases e : lkB c k with
        | true => rfl
        | false => exact absurd ((b2_0 _).mpr e) z
      have k0 : k ≠ 0 := fun e => by
        rw [e] at hl
        unfold lkB at hl
        simp at hl
      obtain ⟨k', rfl⟩ : ∃ k', k = k' + 1 := ⟨k - 1, by omega⟩
      obtain ⟨w1, w2⟩ := watF_le (mosN c s) k'
      have ml := mos_like (s := s) hl
      rw [show k' + 1 - 1 = k' by omega] at ml
      have w : watF (mosN c s) (k' + 1 + 1) = watF (mosN c s) (k' + 1) := by rw [watF, if_neg (by omega)]
      exact ih (k' + 1 + 1) G v (by omega) hH (fun q => absurd q (by omega)) (fun _ => by rw [w]; exact h1 k0)
end Most
