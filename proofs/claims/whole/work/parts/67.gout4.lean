/-! STEPS: gout -/
def loN (a b v : Nat) : Int64 := if v = 0 then lN (a / Nat.gcd a b) else lN (b / Nat.gcd a b)
def fGo (c : CD) (h A cc w v : Nat) : Int64 := loN (aXN c h A cc w) (16 ^ LN c h A) v
theorem LN_le {c : CD} (hc : CDok c) (h A : Nat) : LN c h A + rN c h A ≤ 12 := by
  rw [LN_rN]
  exact Nat.le_trans (pop_le _ _) hc.1
theorem p16 (n : Nat) : 16 ^ n = 2 ^ (4 * n) := by rw [Nat.pow_mul]
theorem p16_lt {n : Nat} (h : n ≤ 12) : 16 ^ n < 2 ^ 63 := by rw [p16]; exact Nat.pow_lt_pow_right (by omega) (by omega)
section Reckon
variable {c : CD} {h A cc : Nat} {G : Mem} {hl : MemL} {Qp : Mem → MemL → Prop}
theorem X_fin {a L : Nat} (hL : L ≤ 12) (ha : a ≤ 16 ^ L) (h0 : hl 41 0 = lN a) (h1 : hl 41 1 = lN (16 ^ L)) (hQ : ∀ hl', hl' 41 0 = lN (a / Nat.gcd a (16 ^ L)) → hl' 41 1 = lN (16 ^ L / Nat.gcd a (16 ^ L)) → Qp G hl') : b_X1_reckon_162 G hl Qp := by
  have := p16_lt hL
  rw [p16] at h1 hQ
  exact ⟨49, X_lower_loop (hl0 := hl) 48 0 a (4 * L) hl rfl (by omega) (by omega) h0 h1 (fun _ _ => rfl) (fun hl' _ a0 a1 => hQ hl' a0 a1)⟩
theorem PW.up {v : Int64} {j : Nat} (hP : PW cc hl) : PW cc (up2L hl 41 j v) := fun k hk => by
  rw [up2L_other _ _ _ (by omega), up2L_other _ _ _ (by omega)]; exact hP k hk
theorem X_clash117 (hX : XC c G) (hh : h < 24) (hcc : cc ≤ 16) (hO : OCN c h A G) (hQ : ∀ hl', hl' 41 0 = lN (aXN c h A cc 7 / Nat.gcd (aXN c h A cc 7) (16 ^ LN c h A)) → hl' 41 1 = lN (16 ^ LN c h A / Nat.gcd (aXN c h A cc 7) (16 ^ LN c h A)) → Qp G hl') : ∀ (r w : Nat) (hl : MemL), w + r = 7 → PW cc hl → hl 41 1 = lN (16 ^ LN c h A) → hl 41 0 = lN (16 ^ LN c h A - sumTo w (wsN c h A cc)) → b_X1_reckon_117 (r + 1) G hl (nI h) (dI w) Qp := by
  have hc := hX.1.1
  have hL := LN_le hc h A
  have hws := (ws_le hc (h := h) (A := A) hcc).1
  intro r
  induction r with
  | zero =>
    intro w hl hw hP h1 h0
    have : w = 7 := by omega
    subst this
    rw [b_X1_reckon_117]; dsimp only
    refine ⟨fun _ => X_fin (a := aXN c h A cc 7) (L := LN c h A) (by omega) (aXN_le hc hcc (by omega)) h0 h1 hQ, fun z => absurd (show (6 : Int32) ≤ dI 7 by decide) z⟩
  | succ r ih =>
    intro w hl hw hP h1 h0
    rw [b_X1_reckon_117]; dsimp only
    refine ⟨fun z => ?_, fun _ => X_waysTo hX hh hcc hP hO (by omega) ?_⟩
    · rw [show (6 : Int32) = dI 7 from rfl, dI_le (by omega) (by omega)] at z; omega
    · rw [dI_1, ← dI_s w]
      have hle : sumTo w (wsN c h A cc) + wsN c h A cc w ≤ sumTo 7 (wsN c h A cc) := by
        have e := sumTo_split (w + 1) (wsN c h A cc) (7 - (w + 1))
        have e2 : sumTo (w + 1) (wsN c h A cc) = sumTo w (wsN c h A cc) + wsN c h A cc w := rfl
        rw [show w + 1 + (7 - (w + 1)) = 7 by omega, e2] at e
        omega
      refine ih (w + 1) _ (by omega) hP.up ?_ ?_
      · rw [up2L_row, if_neg (by omega)]; exact h1
      · rw [up2L_row, if_pos ⟨rfl, rfl⟩, h0, lN_sub (by omega), sumTo]
        congr 1; omega
theorem X_reckon_loop {w : Nat} {x : Mem} (hX : XC c x) (hA : A < 2 ^ kl c) (hh : h < 24) (hcc : cc ≤ 16) (hw : w ≤ 7) (hP : PW cc hl) (hQ : ∀ g hl', (∀ k, k ≠ 42 → k ≠ 43 → g k = x k) → hl' 41 0 = lN (aXN c h A cc w / Nat.gcd (aXN c h A cc w) (16 ^ LN c h A)) → hl' 41 1 = lN (16 ^ LN c h A / Nat.gcd (aXN c h A cc w) (16 ^ LN c h A)) → Qp g hl') : ∀ (r d : Nat) (G : Mem), d + r = 6 → (∀ k, k ≠ 42 → k ≠ 43 → G k = x k) → (∀ e, e < d → G 42 e = nI (cG A (grN c h) (2 * e) (kl c)) ∧ G 43 e = nI (cG A (grN c h) (2 * e + 1) (kl c))) → b_X1_reckon_12 (r + 1) G hl (nI A) (nI h) (dI w) (nI (sumTo (2 * d) (fun g => cG A (grN c h) g (kl c)))) (nI d) Qp := by
  have hc := hX.1.1
  have hA12 := kl4096 hc hA
  have hL := LN_le hc h A
  intro r
  induction r with
  | zero =>
    intro d G hd g1 g2
    have : d = 6 := by omega
    subst this
    have hXG : XC c G := hX.f fun k a1 a2 => g1 k (by omega) (by omega)
    have hO : OCN c h A G := g2
    have eL : sumTo (2 * 6) (fun g => cG A (grN c h) g (kl c)) = LN c h A := rfl
    rw [b_X1_reckon_12]; dsimp only
    rw [eL, if_neg (show ¬ (12 : Int32) < nI (LN c h A) from nI_nlt (a := 12) (by omega) (by omega)), nI_clamp (by omega), (hP (LN c h A) (by omega)).1]
    refine ⟨fun _ => ⟨vp_in_nI (by omega) (by omega), fun z => fun hl6 e6 => ⟨8, ?_⟩, fun z => ?_⟩, fun z => absurd (nI_le (a := 6) (b := 6) (by omega) (by omega)) z⟩
    · have hw7 : w = 7 := by rw [show (6 : Int32) = dI 7 from rfl, dI_inj (by omega) (by omega)] at z; exact z
      subst hw7
      rw [up2L_row hl, if_pos ⟨rfl, rfl⟩] at e6
      subst e6
      refine X_clash117 hXG hh hcc hO (fun hl' a0 a1 => hQ G hl' g1 a0 a1) 7 0 _ rfl hP.up.up ?_ ?_
      · rw [up2L_row, if_neg (by omega), up2L_row, if_pos ⟨rfl, rfl⟩]
      · rw [up2L_row, if_pos ⟨rfl, rfl⟩]; rfl
    · have hw7 : w ≠ 7 := fun q => z (by rw [q]; rfl)
      refine X_waysTo hXG hh hcc hP.up hO (by omega) ?_
      have ea : aXN c h A cc w = wsN c h A cc w := by unfold aXN; rw [if_neg hw7]
      refine X_fin (a := aXN c h A cc w) (L := LN c h A) (by omega) (aXN_le hc hcc hw) ?_ ?_ (fun hl' a0 a1 => hQ G hl' g1 a0 a1)
      · rw [up2L_row, if_pos ⟨rfl, rfl⟩, ea]
      · rw [up2L_row, if_neg (by omega), up2L_row, if_pos ⟨rfl, rfl⟩]
  | succ r ih =>
    intro d G hd g1 g2
    have hXG : XC c G := hX.f fun k a1 a2 => g1 k (by omega) (by omega)
    have c1 := cG_12 hc A h (2 * d)
    have c2 := cG_12 hc A h (2 * d + 1)
    have ho := om_lt hc h d
    have hb := bm_lt hc h d
    have l1 : A &&& om c h d < 4096 := Nat.lt_of_le_of_lt Nat.and_le_left hA12
    have l2 : A &&& bm c h d < 4096 := Nat.lt_of_le_of_lt Nat.and_le_left hA12
    have in6 : vp_in (nI d) 6 := vp_in_nI (by omega) (by omega)
    rw [b_X1_reckon_12]; dsimp only
    refine ⟨fun z => absurd z (nI_ge (a := d) (b := 6) (by omega) (by omega)), fun _ => X_ordersOf hXG hh (by omega) ?_⟩
    rw [nI_and (by omega) (by omega)]
    refine X_bitCount l1 ⟨in6, ?_⟩
    rw [cG_o hc hA (by omega), nI_clamp (by omega)]
    refine X_bansOf (hXG.f fun k a1 a2 => up2_other _ _ _ (by omega)) hh (by omega) ?_
    rw [nI_and (by omega) (by omega)]
    refine X_bitCount l2 ⟨in6, in6, in6, fun x19 e19 => ?_⟩
    rw [cG_f hc hA (by omega)] at e19 ⊢
    rw [up2_other _ _ _ (show 42 ≠ 43 by omega), up2_row G, if_pos ⟨rfl, rfl⟩, up2_row _ 43 d 43 d, if_pos ⟨rfl, rfl⟩, nI_add, nI_add] at e19
    rw [e19, nI_1]
    have hi := ih (d + 1) (up2 (up2 G 42 d (nI (cG A (grN c h) (2 * d) (kl c)))) 43 d (nI (cG A (grN c h) (2 * d + 1) (kl c)))) (by omega) (fun k a1 a2 => by rw [up2_other _ _ _ a2, up2_other _ _ _ a1]; exact g1 k a1 a2) (fun e he => ?_)
    · rw [show 2 * (d + 1) = 2 * d + 1 + 1 by omega, sumTo, sumTo, Nat.add_assoc] at hi
      exact hi
    · rw [up2_other _ _ _ (show 42 ≠ 43 by omega), up2_row, up2_row]
      by_cases q : e = d
      · rw [if_pos ⟨rfl, q⟩, if_pos ⟨rfl, q⟩, q]; exact ⟨rfl, rfl⟩
      · rw [if_neg (fun z => q z.2), if_neg (fun z => q z.2), up2_other _ _ _ (show 43 ≠ 42 by omega)]; exact g2 e (by omega)
theorem X_reckon {w : Nat} {x : Mem} (hX : XC c x) (hA : A < 2 ^ kl c) (hh : h < 24) (hcc : cc ≤ 16) (hw : w ≤ 7) (hQ : ∀ g hl', (∀ k, k ≠ 42 → k ≠ 43 → g k = x k) → hl' 41 0 = lN (aXN c h A cc w / Nat.gcd (aXN c h A cc w) (16 ^ LN c h A)) → hl' 41 1 = lN (16 ^ LN c h A / Nat.gcd (aXN c h A cc w) (16 ^ LN c h A)) → Qp g hl') : p_X1_reckon x hl (nI A) (nI h) (nI cc) (dI w) Qp :=
  X_layPowers hcc fun hl' hP => ⟨7, X_reckon_loop hX hA hh hcc hw hP hQ 6 0 x rfl (fun _ _ _ => rfl) (fun e he => absurd he (Nat.not_lt_zero e))⟩
end Reckon
/-! the reference's -/
theorem M_part_loop {v0 v2 : Int64} {v4 : Int32} {Qp : Int64 → Prop} {g : Nat} (hg : 0 < g) (hg2 : g < 2 ^ 63) (hQ : Qp ((if v4 = 0 then v0 else v2) / lN g)) : ∀ n a b : Nat, b < n → a < 2 ^ 63 → b < 2 ^ 63 → Nat.gcd a b = g → b_X10_part_6 n v0 v2 v4 (lN a) (lN b) Qp := by
  intro n
  induction n with
  | zero => intro a b hb; omega
  | succ n ih =>
    intro a b hb ha hb2 hgc
    rw [b_X10_part_6]; dsimp only
    unfold b_X10_part_41
    rw [show (0 : Int64) = lN 0 from rfl, pk_lEQ hb2 (by omega)]
    refine ⟨fun z => ?_, fun z => ⟨z, ?_⟩⟩
    · rw [z, Nat.gcd_zero_right] at hgc
      subst hgc
      exact ⟨fun q => by rw [pk_lEQ ha (by omega)] at q; omega, hQ⟩
    · rw [pk_lRem ha (by omega) hb2]
      have hm := Nat.mod_lt a (show 0 < b by omega)
      refine ih b (a % b) (by omega) hb2 (by omega) ?_
      rw [← hgc, Nat.gcd_comm a b, Nat.gcd_rec b a, Nat.gcd_comm]
theorem M_part {a b v : Nat} {Qp : Int64 → Prop} (ha : a < 2 ^ 63) (hb : b < 2 ^ 63) (hb0 : 0 < b) (hv : v < 2) (hQ : Qp (loN a b v)) : p_X10_part (lN a) (lN b) (nI v) Qp := by
  have hg : 0 < Nat.gcd a b := Nat.gcd_pos_of_pos_right a hb0
  have hg2 : Nat.gcd a b ≤ b := Nat.gcd_le_right a hb0
  refine ⟨b + 1, M_part_loop hg (by omega) ?_ (b + 1) a b (by omega) ha hb rfl⟩
  unfold loN at hQ
  by_cases q : v = 0
  · rw [if_pos q] at hQ; rw [if_pos ((nI_eq0 (by omega)).mpr q), pk_lDiv ha hg (by omega)]; exact hQ
  · rw [if_neg q] at hQ; rw [if_neg (fun w => q ((nI_eq0 (by omega)).mp w)), pk_lDiv hb hg (by omega)]; exact hQ
theorem lo_scale {a b k v : Nat} (hk : 0 < k) : loN (a * k) (b * k) v = loN a b v := by
  unfold loN
  rw [Nat.gcd_mul_right, Nat.mul_div_mul_right _ _ hk, Nat.mul_div_mul_right _ _ hk]
section GoutM
variable {c : CD} {h A cc w v : Nat} {y : Mem} {Qp : Int64 → Prop}
theorem M_105 {m : Nat} {v7 v9 : Int64} {v4 v5 : Int32} {K : Int32 → Int32 → Int32 → Int32 → Int32 → Int64 → Int64 → Int32 → Prop} (hM : MC c y) (hA : A < 4096) (hm : m < 4096) (hcc : cc ≤ 16) (hK : K (nI cc) (nI h) v4 v5 (nI A) (v7 + lN (wgt cc A m (kl c))) v9 (nI (m + 1))) : ∀ r l, l + r = kl c → b_X10_goutOf_105 (r + 1) y (nI cc) (nI h) v4 v5 (nI A) v7 v9 (nI m) (lN (wgt cc A m l)) (nI l) K Qp := by
  have hk12 := hM.1.1
  intro r
  induction r with
  | zero =>
    intro l hl
    have : l = kl c := by omega
    subst this
    rw [b_X10_goutOf_105]; dsimp only
    unfold b_X10_goutOf_168
    rw [show (0 : Int32).toNatClampNeg = 0 by decide, hM.2.1, nI_1]
    exact ⟨vp_in_nI (n := 0) (by omega) (by omega), fun _ => hK, fun z => absurd (nI_le (Nat.le_refl _) (by omega)) z⟩
  | succ r ih =>
    intro l hl
    have hi := ih (l + 1) (by omega)
    rw [wgt, ← lN_mul] at hi
    rw [b_X10_goutOf_105]; dsimp only
    unfold b_X10_goutOf_152
    rw [show (0 : Int32).toNatClampNeg = 0 by decide, hM.2.1, nI_1, show (16 : Int32) = nI 16 from rfl, pk_sub hcc, nI_l (by omega), nI_l (by omega)]
    refine ⟨vp_in_nI (n := 0) (by omega) (by omega), fun z => absurd z (nI_ge (by omega) (by omega)), fun _ => M_isIn (by omega) (by omega) ⟨fun z => ?_, fun z => M_isIn (by omega) (by omega) ?_⟩⟩
    · have z := (b2_0 _).mp z
      rw [if_neg (by rw [z]; decide)] at hi
      exact hi
    · have z : A.testBit l = true := by
        cases e : A.testBit l with
        | true => rfl
        | false => exact absurd ((b2_0 _).mpr e) z
      rw [if_pos z] at hi
      cases e : m.testBit l with
      | true => rw [if_pos e] at hi; rw [if_neg (show ¬ b2 true = 0 by decide)]; exact hi
      | false => rw [if_neg (by rw [e]; decide)] at hi; rw [if_pos (show b2 false = 0 by decide)]; exact hi
theorem M_59 (hM : MC c y) (hA : A < 4096) (hh : h < 24) (hcc : cc ≤ 16) (hw : w ≤ 7) (hv : v < 2) {B : Nat} (hB : 0 < B) (hB2 : B < 2 ^ 63) (hS : sumW c h A cc w < 2 ^ 63) (hQ : Qp (loN (sumW c h A cc w) B v)) : ∀ r m, m + r = 2 ^ kl c → b_X10_goutOf_59 (r + 1) y (nI cc) (nI h) (dI w) (nI v) (nI A) (lN (sumTo m (fun m => if sd m A = 0 ∧ doesN c (sd A m) h = w then wgt cc A m (kl c) else 0))) (lN B) (nI m) Qp := by
  have hc := hM.1
  have hk12 := hc.1
  have hp : 2 ^ kl c ≤ 4096 := Nat.pow_le_pow_right (n := 2) (by omega) hc.1
  intro r
  induction r with
  | zero =>
    intro m hm
    have : m = 2 ^ kl c := by omega
    subst this
    rw [b_X10_goutOf_59]; dsimp only
    rw [show (0 : Int32).toNatClampNeg = 0 by decide, hM.2.1, shl1 (by omega)]
    exact ⟨vp_in_nI (n := 0) (by omega) (by omega), fun _ => M_part hS hB2 hB hv hQ, fun z => absurd (nI_le (Nat.le_refl _) (by omega)) z⟩
  | succ r ih =>
    intro m hm
    have hi := ih (m + 1) (by omega)
    rw [sumTo] at hi
    have s1 : sd m A < 2 ^ 12 := sd_lt (n := 12) (by omega)
    have s2 : sd A m < 2 ^ 12 := sd_lt (n := 12) hA
    have hd := doesN_le c (sd A m) h
    rw [b_X10_goutOf_59]; dsimp only
    unfold b_X10_goutOf_168
    rw [show (0 : Int32).toNatClampNeg = 0 by decide, hM.2.1, shl1 (by omega), nI_sd (by omega) (by omega), nI_sd (by omega) (by omega), nI_1, nI_eq0 (by omega)]
    refine ⟨vp_in_nI (n := 0) (by omega) (by omega), fun z => absurd z (nI_ge (by omega) (by omega)), fun _ => ⟨fun z => M_doesBy hM (by omega) hh ⟨fun z2 => ⟨kl c + 1, ?_⟩, fun z2 => ?_⟩, fun z => ?_⟩⟩
    · have z2 := (dI_inj (by omega) (by omega)).mp z2
      rw [if_pos ⟨z, z2⟩, ← lN_add] at hi
      exact M_105 hM hA (by omega) hcc hi (kl c) 0 (by omega)
    · rw [if_neg (fun q => z2 (by rw [q.2])), Nat.add_zero] at hi; exact hi
    · rw [if_neg (fun q => z q.1), Nat.add_zero] at hi; exact hi
theorem M_17 (hM : MC c y) (hA : A < 2 ^ kl c) (hh : h < 24) (hcc : cc ≤ 16) (hw : w ≤ 7) (hv : v < 2) (hQ : Qp (fGo c h A cc w v)) : ∀ r l, l + r = kl c → b_X10_goutOf_17 (r + 1) y (nI cc) (nI h) (dI w) (nI v) (nI A) (0 : Int64) (lN (16 ^ pop l A)) (nI l) Qp := by
  have hc := hM.1
  have hk12 := hc.1
  have hA12 := kl4096 hc hA
  have hL := LN_le hc h A
  intro r
  induction r with
  | zero =>
    intro l hl
    have : l = kl c := by omega
    subst this
    rw [b_X10_goutOf_17]; dsimp only
    rw [show (0 : Int32).toNatClampNeg = 0 by decide, hM.2.1]
    refine ⟨vp_in_nI (n := 0) (by omega) (by omega), fun _ => ⟨2 ^ kl c + 1, ?_⟩, fun z => absurd (nI_le (Nat.le_refl _) (by omega)) z⟩
    have hr : 0 < 16 ^ rN c h A := Nat.pow_pos (by omega)
    have eS := sumW_a hc (h := h) (A := A) (w := w) hcc hw
    have le := aXN_le hc (h := h) (A := A) (w := w) hcc hw
    have eB : 16 ^ pop (kl c) A = 16 ^ LN c h A * 16 ^ rN c h A := by rw [← LN_rN, Nat.pow_add]
    have hlt : 16 ^ pop (kl c) A < 2 ^ 63 := p16_lt (Nat.le_trans (pop_le _ _) hk12)
    have hS : sumW c h A cc w ≤ 16 ^ pop (kl c) A := by rw [eS, eB]; exact Nat.mul_le_mul_right _ le
    refine M_59 hM hA12 hh hcc hw hv (Nat.pow_pos (by omega)) hlt (by omega) ?_ (2 ^ kl c) 0 (by omega)
    rw [eS, eB, lo_scale hr]
    exact hQ
  | succ r ih =>
    intro l hl
    have hi := ih (l + 1) (by omega)
    rw [pop] at hi
    rw [b_X10_goutOf_17]; dsimp only
    unfold b_X10_goutOf_47
    rw [show (0 : Int32).toNatClampNeg = 0 by decide, hM.2.1, nI_1]
    refine ⟨vp_in_nI (n := 0) (by omega) (by omega), fun z => absurd z (nI_ge (by omega) (by omega)), fun _ => M_isIn (by omega) (by omega) ?_⟩
    cases e : A.testBit l with
    | true =>
      rw [e, show pop l A + true.toNat = pop l A + 1 from rfl, Nat.pow_succ, ← lN_mul] at hi
      rw [if_neg (show ¬ b2 true = 0 by decide)]; exact hi
    | false =>
      rw [e, show pop l A + false.toNat = pop l A from rfl] at hi
      rw [if_pos (show b2 false = 0 by decide), show (1 : Int64) = lN 1 from rfl, lN_mul, Nat.mul_one]; exact hi
theorem M_goutOf {R : Nat → Nat} {la : Nat → Bool} {year : Nat} (hM : MC c y) (hR : RM R la y) (hy : year < 30) (hh : h < 24) (hcc : cc ≤ 16) (hw : w ≤ 7) (hv : v < 2) (hQ : Qp (fGo c h (bindsN c R la year 0) cc w v)) : p_X10_goutOf y (nI cc) (nI year) (nI h) (dI w) (nI v) Qp :=
  M_bindsOf (what := 0) hM hR hy (by omega) ⟨kl c + 1, M_17 hM (mk_lt _ _) hh hcc hw hv hQ (kl c) 0 (by omega)⟩
end GoutM
def aGo (c : CD) (R : Nat → Nat) (la : Nat → Bool) (v1 v2 v3 v4 v5 : Int32) : Int64 := if (ran v1 17 && (ran v2 30 && (ran v3 24 && (rad v4 7 && ran v5 2)))) = true then fGo c v3.toNatClampNeg (bindsN c R la v2.toNatClampNeg 0) v1.toNatClampNeg (v4 + 1).toNatClampNeg v5.toNatClampNeg else (-9223372036854775806 : Int64)
theorem aGo_y {c : CD} {R : Nat → Nat} {la : Nat → Bool} {cc yr h w q : Nat} (h1 : cc < 17) (h2 : yr < 30) (h3 : h < 24) (h4 : w ≤ 7) (h5 : q < 2) : aGo c R la (nI cc) (nI yr) (nI h) (dI w) (nI q) = fGo c h (bindsN c R la yr 0) cc w q := by
  unfold aGo
  rw [ran_y h1 (by omega), ran_y h2 (by omega), ran_y h3 (by omega), rad_y h4 (by omega), ran_y h5 (by omega), dI_1, nI_clamp (by omega), nI_clamp (by omega), nI_clamp (by omega), nI_clamp (by omega), nI_clamp (by omega)]
  exact if_pos rfl
section Gout
variable {n0 n1 : Nat} {b0 b1 : Nat → Int32} {t b s : LG} {x y : Mem} {xl : MemL} {v1 v2 v3 v4 v5 : Int32}
theorem X_gout {Qp : Int64 → Mem → MemL → Prop} (hR : RX n0 n1 t b s x) (hQ : ∀ g gl, RX n0 n1 t b s g → FX x g → Qp (aGo (cdOf (x 2) n0 (x 5) n1) (RT t) (LT t b) v1 v2 v3 v4 v5) g gl) : p_X9_gout x xl v1 v2 v3 v4 v5 Qp := by
  unfold p_X9_gout
  have bad : (ran v1 17 && (ran v2 30 && (ran v3 24 && (rad v4 7 && ran v5 2)))) = false → Qp (-9223372036854775806 : Int64) x xl := fun e => by
    have := hQ x xl hR (FX.rf x)
    unfold aGo at this
    rw [e] at this
    exact this
  refine one (d_within 17 (by omega)) (fun e => bad (by rw [ran_n e]; rfl)) (fun cc h1 e1 => one (d_within 30 (by omega)) (fun e => bad (by rw [ran_n e, Bool.false_and, Bool.and_false])) (fun yr h2 e2 => one (d_within 24 (by omega)) (fun e => bad (by rw [ran_n e, Bool.false_and, Bool.and_false, Bool.and_false])) (fun h h3 e3 => ?_)))
  have body : ∀ w, w ≤ 7 → v4 = dI w → b_X9_gout_46 x xl v1 v2 v3 v4 v5 Qp := fun w hw e4 => by
    unfold b_X9_gout_46
    refine one (d_within 2 (by omega)) (fun e => bad (by rw [ran_n e, Bool.and_false, Bool.and_false, Bool.and_false, Bool.and_false])) (fun q hq e5 => ?_)
    subst e1 e2 e3 e4 e5
    rw [aGo_y h1 h2 h3 hw hq] at hQ
    unfold fGo loN at hQ
    refine X_kings hR h2 fun g k1 k2 k3 k4 => X_reckon k3.1 (mk_lt _ _) h3 (by omega) hw fun g' hl' f1 a0 a1 => ?_
    have F1 : Fr1 g g' := ⟨fun k _ hk => f1 k (by omega) (by omega), by rw [f1 0 (by omega) (by omega)]⟩
    have F2 : FX g g' := ⟨f1 2 (by omega) (by omega), f1 5 (by omega) (by omega), by rw [f1 0 (by omega) (by omega)], fun k hk => f1 k (by omega) (by omega)⟩
    have := hQ g' hl' (k1.f F1) (k2.tr F2)
    by_cases z : q = 0
    · rw [if_pos z] at this
      rw [if_pos ((nI_eq0 (by omega)).mpr z), a0]; exact this
    · rw [if_neg z] at this
      rw [if_neg (fun w => z ((nI_eq0 (by omega)).mp w)), a1]; exact this
  refine d_deedX _ (fun w hw e4 => ⟨fun z => absurd z (by decide), fun _ => body w (by omega) e4⟩) (fun e => ⟨fun _ => ⟨fun z => body 7 (by omega) (by rw [z]; rfl), fun z => bad ?_⟩, fun z => absurd rfl z⟩)
  rw [rad_n (fun w hw e4 => ?_), Bool.false_and, Bool.and_false, Bool.and_false, Bool.and_false]
  by_cases q : w = 7
  · exact z (by rw [e4, q]; rfl)
  · exact e w (by omega) e4
theorem M_gout {Qp : Int64 → Mem → Prop} (hR : RY b0 n0 b1 n1 t b s y) (hQ : ∀ y', FrQ y y' → Qp (aGo (cdOf b0 n0 b1 n1) (RT t) (LT t b) v1 v2 v3 v4 v5) y') : p_X10_gout y v1 v2 v3 v4 v5 Qp := by
  unfold p_X10_gout
  refine Y_find hR fun y' f hM hRM => ?_
  have hQ := hQ y' f
  have bad : (ran v1 17 && (ran v2 30 && (ran v3 24 && (rad v4 7 && ran v5 2)))) = false → b_X10_gout_57 y' v1 v2 v3 v4 v5 Qp := fun e => by
    unfold aGo at hQ
    rw [e] at hQ
    exact ⟨fun _ => hQ, fun z => absurd rfl z⟩
  refine one (d_in (hi := 16) 17 (by omega) (by decide)) (fun e => bad (by rw [ran_n e]; rfl)) (fun cc h1 e1 => one d_year (fun e => bad (by rw [ran_n e, Bool.false_and, Bool.and_false])) (fun yr h2 e2 => one d_hour (fun e => bad (by rw [ran_n e, Bool.false_and, Bool.and_false, Bool.and_false])) (fun h h3 e3 => oneD (d_deedM (hi := 6) 7 (by omega) (by decide)) (fun e => bad (by rw [rad_n e, Bool.false_and, Bool.and_false, Bool.and_false, Bool.and_false])) (fun w hw e4 => one d_two (fun e => bad (by rw [ran_n e, Bool.and_false, Bool.and_false, Bool.and_false, Bool.and_false])) (fun q hq e5 => ?_)))))
  subst e1 e2 e3 e4 e5
  rw [aGo_y h1 h2 h3 hw hq] at hQ
  exact ⟨fun z => absurd z (by decide), fun _ => M_goutOf hM hRM h2 h3 (by omega) hw hq hQ⟩
theorem st_gout : s_gout Rel := by
  intro x xl y h v1 v2 v3 v4 v5
  obtain ⟨n0, n1, t, b, s, hX, hY⟩ := h.1
  exact X_gout hX fun g gl h1 h2 => M_gout hY fun y' f => ⟨rfl, h.q hY h1 h2 f⟩
end Gout
