/-! PURE: gout, the program's -/
theorem up2L_row (h : MemL) (k j c i : Nat) (v : Int64) : up2L h k j v c i = if c = k ∧ i = j then v else h c i := by
  unfold up2L
  by_cases hc : c = k
  · subst hc
    rw [show Nat.beq c c = true from Nat.beq_refl c]
    show vp_updL (h c) j v i = _
    by_cases hi : i = j
    · subst hi; rw [pk_uLs, if_pos ⟨rfl, rfl⟩]
    · rw [pk_uLn hi, if_neg (fun z => hi z.2)]
  · rw [beq_ne hc, if_neg (fun z => hc z.1)]; rfl
theorem up2L_other {k c : Nat} (h : MemL) (j : Nat) (v : Int64) (hc : c ≠ k) : up2L h k j v c = h c := by
  funext i
  rw [up2L_row, if_neg (fun z => hc z.1)]
theorem lN_tn {n : Nat} (h : n < 2 ^ 64) : (lN n).toBitVec.toNat = n := Nat.mod_eq_of_lt h
theorem lN_odd {a : Nat} (ha : a < 2 ^ 63) : (lN a &&& (1 : Int64) = (1 : Int64)) ↔ a % 2 = 1 := by
  have e : lN a &&& (1 : Int64) = lN (a % 2) := by
    apply Int64.toBitVec_inj.mp
    apply BitVec.eq_of_toNat_eq
    rw [Int64.toBitVec_and, BitVec.toNat_and, lN_tn (by omega), lN_tn (by omega), show (Int64.toBitVec (1 : Int64)).toNat = 1 from by decide, Nat.and_one_is_mod]
  rw [e, show (1 : Int64) = lN 1 from rfl, pk_lEQ (by omega) (by omega)]
theorem gcd_odd {a : Nat} (h : a % 2 = 1) (e : Nat) : Nat.gcd a (2 ^ e) = 1 := by
  have h2 : Nat.Coprime a 2 := by
    show Nat.gcd a 2 = 1
    rw [Nat.gcd_comm, Nat.gcd_rec, h]; rfl
  exact Nat.Coprime.pow_right e h2
theorem X_lower_loop {hl0 : MemL} {Qp : MemL → Prop} : ∀ (r k a e : Nat) (hl : MemL), k + r = 48 → e ≤ r → a < 2 ^ 63 → hl 41 0 = lN a → hl 41 1 = lN (2 ^ e) → (∀ q, q ≠ 41 → hl q = hl0 q) → (∀ hl', (∀ q, q ≠ 41 → hl' q = hl0 q) → hl' 41 0 = lN (a / Nat.gcd a (2 ^ e)) → hl' 41 1 = lN (2 ^ e / Nat.gcd a (2 ^ e)) → Qp hl') → b_X1_lower_2 (r + 1) hl (nI k) Qp := by
  intro r
  induction r with
  | zero =>
    intro k a e hl hk he ha h0 h1 hf hQ
    have : k = 48 := by omega
    subst this
    have : e = 0 := by omega
    subst this
    rw [b_X1_lower_2]; dsimp only
    rw [Nat.pow_zero, Nat.gcd_one_right, Nat.div_one, Nat.div_one] at hQ
    exact ⟨fun _ => hQ hl hf h0 h1, fun z => absurd (nI_le (a := 48) (b := 48) (by omega) (by omega)) z⟩
  | succ r ih =>
    intro k a e hl hk he ha h0 h1 hf hQ
    have he2 : 2 ^ e < 2 ^ 63 := Nat.pow_lt_pow_right (by omega) (by omega)
    rw [b_X1_lower_2]; dsimp only
    rw [h0, h1, lN_odd ha, lN_odd he2, nI_1]
    refine ⟨fun z => absurd z (nI_ge (a := k) (b := 48) (by omega) (by omega)), fun _ => ⟨fun z => ?_, fun z => ⟨fun z2 => ?_, fun z2 => ⟨by decide, by decide, fun hl' e' => ?_⟩⟩⟩⟩
    · rw [gcd_odd z, Nat.div_one, Nat.div_one] at hQ
      exact hQ hl hf h0 h1
    · have : e = 0 := by
        cases e with
        | zero => rfl
        | succ e => rw [Nat.pow_succ] at z2; omega
      subst this
      rw [Nat.pow_zero, Nat.gcd_one_right, Nat.div_one, Nat.div_one] at hQ
      exact hQ hl hf h0 h1
    · obtain ⟨e1, rfl⟩ : ∃ e1, e = e1 + 1 := by
        cases e with
        | zero => exact absurd rfl z2
        | succ e => exact ⟨e, rfl⟩
      obtain ⟨a1, rfl⟩ : ∃ a1, a = a1 * 2 := ⟨a / 2, by omega⟩
      rw [Nat.pow_succ, Nat.gcd_mul_right, Nat.mul_div_mul_right _ _ (by omega), Nat.mul_div_mul_right _ _ (by omega)] at hQ
      rw [up2L_row hl, if_neg (by omega), h1, show (2 : Int64) = lN 2 from rfl, pk_lDiv (by omega) (by omega) (by omega), pk_lDiv he2 (by omega) (by omega), show a1 * 2 / 2 = a1 by omega, Nat.pow_succ, show 2 ^ e1 * 2 / 2 = 2 ^ e1 by omega] at e'
      refine ih (k + 1) a1 e1 hl' (by omega) (by omega) (by omega) ?_ ?_ (fun q hq => ?_) hQ
      · rw [e', up2L_row, if_neg (by omega), up2L_row, if_pos ⟨rfl, rfl⟩]
      · rw [e', up2L_row, if_pos ⟨rfl, rfl⟩]
      · rw [e', up2L_other _ _ _ hq, up2L_other _ _ _ hq]; exact hf q hq
def PW (cc : Nat) (hl : MemL) : Prop := ∀ k, k ≤ 12 → hl 44 k = lN (16 ^ k) ∧ hl 45 k = lN (cc ^ k)
theorem X_pow_loop {cc : Nat} {Qp : MemL → Prop} (hcc : cc ≤ 16) (hQ : ∀ hl', PW cc hl' → Qp hl') : ∀ (r k : Nat) (hl : MemL), k + r = 13 → 0 < k → (∀ j, j < k → hl 44 j = lN (16 ^ j) ∧ hl 45 j = lN (cc ^ j)) → b_X1_layPowers_16 (r + 1) hl (nI cc) (nI k) Qp := by
  intro r
  induction r with
  | zero =>
    intro k hl hk h0 hj
    have : k = 13 := by omega
    subst this
    rw [b_X1_layPowers_16]; dsimp only
    exact ⟨fun _ => hQ hl fun k hk => hj k (by omega), fun z => absurd (nI_lt (a := 12) (b := 13) (by omega) (by omega)) z⟩
  | succ r ih =>
    intro k hl hk h0 hj
    obtain ⟨k1, rfl⟩ : ∃ k1, k = k1 + 1 := ⟨k - 1, by omega⟩
    obtain ⟨a1, a2⟩ := hj k1 (by omega)
    rw [b_X1_layPowers_16]; dsimp only
    rw [nI_pred, nI_clamp (by omega), nI_clamp (by omega), up2L_other _ _ _ (show 45 ≠ 44 by omega), a1, a2, nI_l (by omega), show (16 : Int64) = lN 16 from rfl, lN_mul, lN_mul, nI_1]
    refine ⟨fun z => absurd z (nI_nlt (b := k1 + 1) (a := 12) (by omega) (by omega)), fun _ => ⟨vp_in_nI (by omega) (by omega), vp_in_nI (by omega) (by omega), vp_in_nI (by omega) (by omega), vp_in_nI (by omega) (by omega), fun hl' e' => ih (k1 + 1 + 1) hl' (by omega) (by omega) (fun j hj2 => ?_)⟩⟩
    rw [e', up2L_row, up2L_row, if_neg (by omega), up2L_row, up2L_row]
    by_cases q : j = k1 + 1
    · rw [if_pos ⟨rfl, q⟩, if_pos ⟨rfl, q⟩, q, Nat.pow_succ, Nat.pow_succ, Nat.mul_comm 16, Nat.mul_comm cc]; exact ⟨rfl, rfl⟩
    · rw [if_neg (fun z => q z.2), if_neg (fun z => q z.2), if_neg (by omega)]; exact hj j (by omega)
theorem X_layPowers {cc : Nat} {hl : MemL} {Qp : MemL → Prop} (hcc : cc ≤ 16) (hQ : ∀ hl', PW cc hl' → Qp hl') : p_X1_layPowers hl (nI cc) Qp := by
  refine ⟨vp_in_nI (n := 0) (by omega) (by omega), vp_in_nI (n := 0) (by omega) (by omega), 13, ?_⟩
  rw [show (0 : Int32).toNatClampNeg = 0 by decide]
  refine X_pow_loop hcc hQ 12 1 _ rfl (by omega) (fun j hj => ?_)
  have : j = 0 := by omega
  subst this
  rw [up2L_other _ _ _ (show 44 ≠ 45 by omega), up2L_row, if_pos ⟨rfl, rfl⟩, up2L_row, if_pos ⟨rfl, rfl⟩]
  exact ⟨rfl, rfl⟩
theorem pop_cnt (m : Nat) : ∀ n, pop n m = cntP (fun l => m.testBit l) n := by
  intro n
  induction n with
  | zero => rfl
  | succ n ih => rw [pop, cntP, ih]
theorem pop_kl {c : CD} (hc : CDok c) {m : Nat} (hm : m < 2 ^ kl c) : pop 12 m = pop (kl c) m := by
  have := pop_cut hm (12 - kl c)
  rw [show kl c + (12 - kl c) = 12 by have := hc.1; omega] at this
  exact this
theorem cG_o {c : CD} (hc : CDok c) {h A d : Nat} (hA : A < 2 ^ kl c) (hd : d < 6) : pop 12 (A &&& om c h d) = cG A (grN c h) (2 * d) (kl c) := by
  rw [pop_kl hc (Nat.lt_of_le_of_lt Nat.and_le_left hA), pop_cnt]
  unfold cG
  refine cntP_congr fun l hl => ?_
  rw [Nat.testBit_and]
  congr 1
  unfold om
  rw [mk_bit, b_eq (a := decide (grN c h l = 2 * d)) (b := decide (l < kl c) && (decide (dl c l 0 = 1) && decide (dl c l 1 = d) && cov c l h))]
  rw [decide_eq_true_iff, grN_o hc hl hd]
  simp only [Bool.and_eq_true, decide_eq_true_eq]
  exact ⟨fun ⟨a, b, e⟩ => ⟨hl, ⟨b, e⟩, a⟩, fun ⟨_, ⟨b, e⟩, a⟩ => ⟨a, b, e⟩⟩
theorem cG_f {c : CD} (hc : CDok c) {h A d : Nat} (hA : A < 2 ^ kl c) (hd : d < 6) : pop 12 (A &&& bm c h d) = cG A (grN c h) (2 * d + 1) (kl c) := by
  rw [pop_kl hc (Nat.lt_of_le_of_lt Nat.and_le_left hA), pop_cnt]
  unfold cG
  refine cntP_congr fun l hl => ?_
  rw [Nat.testBit_and]
  congr 1
  unfold bm
  rw [mk_bit, b_eq (a := decide (grN c h l = 2 * d + 1)) (b := decide (l < kl c) && (decide (dl c l 0 = 0) && decide (dl c l 1 = d) && cov c l h))]
  rw [decide_eq_true_iff, grN_f hc hl hd]
  simp only [Bool.and_eq_true, decide_eq_true_eq]
  exact ⟨fun ⟨a, b, e⟩ => ⟨hl, ⟨b, e⟩, a⟩, fun ⟨_, ⟨b, e⟩, a⟩ => ⟨a, b, e⟩⟩
theorem cG_12 {c : CD} (hc : CDok c) (A h g : Nat) : cG A (grN c h) g (kl c) ≤ 12 := Nat.le_trans (cntP_le _ _) hc.1
/-- orders and bans of the set in the hour, counted -/
def OCN (c : CD) (h A : Nat) (G : Mem) : Prop := ∀ d, d < 6 → G 42 d = nI (cG A (grN c h) (2 * d) (kl c)) ∧ G 43 d = nI (cG A (grN c h) (2 * d + 1) (kl c))
def phL (c : CD) (h w : Nat) : Nat → Nat := phF (fun _ => 1) (fun e => if e + 1 = w then 1 else if pref c h e w = true then 2 else 0)
theorem phL_0 (c : CD) (h : Nat) : phL c h 0 = ph0 c h := by
  unfold phL ph0
  congr 1
theorem phL_s (c : CD) (h u : Nat) : phL c h (u + 1) = ph2 c h u := by
  unfold phL ph2
  congr 1
  funext e
  by_cases q : e = u
  · rw [if_pos (by omega), if_pos q]
  · rw [if_neg (by omega), if_neg q]
section Ways
variable {c : CD} {h A cc : Nat} {G : Mem} {hl : MemL} {Qp : Int64 → Prop}
theorem X_some {k : Nat} (hcc : cc ≤ 16) (hP : PW cc hl) (hk : k ≤ 12) (hQ : Qp (lN (VN cc 2 k))) : p_X1_some hl (nI k) Qp := by
  refine ⟨vp_in_nI (by omega) (by omega), vp_in_nI (by omega) (by omega), ?_⟩
  rw [nI_clamp (by omega), (hP k hk).1, (hP k hk).2, lN_sub (Nat.pow_le_pow_left hcc k)]
  exact hQ
theorem X_liked_loop {w : Nat} (hX : XC c G) (hh : h < 24) (hcc : cc ≤ 16) (hP : PW cc hl) (hO : OCN c h A G) (hw : w ≤ 6) (hQ : Qp (lN (VX c h A cc (phL c h w)))) : ∀ r d, d + r = 6 → b_X1_waysLiked_6 (r + 1) G hl (nI h) (dI w) (lN (prodTo (2 * d) (fun g => VN cc (phL c h w g) (cG A (grN c h) g (kl c))))) (nI d) Qp := by
  intro r
  induction r with
  | zero =>
    intro d hd
    have : d = 6 := by omega
    subst this
    rw [b_X1_waysLiked_6]; dsimp only
    exact ⟨fun _ => hQ, fun z => absurd (nI_le (a := 6) (b := 6) (by omega) (by omega)) z⟩
  | succ r ih =>
    intro d hd
    obtain ⟨o1, o2⟩ := hO d (by omega)
    have c1 := cG_12 hX.1.1 A h (2 * d)
    have c2 := cG_12 hX.1.1 A h (2 * d + 1)
    have hi := ih (d + 1) (by omega)
    rw [show 2 * (d + 1) = 2 * d + 1 + 1 by omega, prodTo, prodTo, ← lN_mul, ← lN_mul] at hi
    have f1 : VN cc (phL c h w (2 * d)) (cG A (grN c h) (2 * d) (kl c)) = cc ^ cG A (grN c h) (2 * d) (kl c) := by unfold phL; rw [phF_o _ _ (by omega)]; rfl
    have f2 : phL c h w (2 * d + 1) = if d + 1 = w then 1 else if pref c h d w = true then 2 else 0 := by unfold phL; rw [phF_b _ _ (by omega)]
    rw [f1, f2] at hi
    rw [b_X1_waysLiked_6]; dsimp only
    unfold b_X1_waysLiked_103
    rw [nI_clamp (show d < 2 ^ 31 by omega), o1, o2, nI_clamp (by omega), nI_clamp (by omega), (hP _ c1).2, (hP _ c2).1, (hP _ c2).2, nI_1]
    have in6 : vp_in (nI d) 6 := vp_in_nI (by omega) (by omega)
    have inb : vp_in (nI (cG A (grN c h) (2 * d + 1) (kl c))) 13 := vp_in_nI (by omega) (by omega)
    have ed : (nI d = dI w) ↔ d + 1 = w := by rw [← dI_s, dI_inj (by omega) (by omega)]
    refine ⟨fun z => absurd z (nI_ge (a := d) (b := 6) (by omega) (by omega)), fun _ => ⟨in6, vp_in_nI (by omega) (by omega), fun x4 e4 => ?_⟩⟩
    subst e4
    refine ⟨fun z => ⟨in6, inb, fun x17 e17 => ?_⟩, fun z => X_prefers hX hh (by omega) hw ⟨fun z2 => ⟨in6, inb, fun x11 e11 => ?_⟩, fun z2 => ⟨in6, X_some hcc hP c2 ?_⟩⟩⟩
    · rw [if_pos (ed.mp z)] at hi
      rw [e17]; exact hi
    · rw [if_neg (fun q => z (ed.mpr q)), if_neg (by rw [(b2_0 _).mp z2]; decide)] at hi
      rw [e11]; exact hi
    · have hp : pref c h d w = true := by
        cases e : pref c h d w with
        | true => rfl
        | false => exact absurd ((b2_0 _).mpr e) z2
      rw [if_neg (fun q => z (ed.mpr q)), if_pos hp] at hi
      exact hi
theorem X_waysLiked {w : Nat} (hX : XC c G) (hh : h < 24) (hcc : cc ≤ 16) (hP : PW cc hl) (hO : OCN c h A G) (hw : w ≤ 6) (hQ : Qp (lN (VX c h A cc (phL c h w)))) : p_X1_waysLiked G hl (nI h) (dI w) Qp := ⟨7, X_liked_loop hX hh hcc hP hO hw hQ 6 0 rfl⟩
theorem prod_pair (f : Nat → Nat) : ∀ n, prodTo (2 * n) f = prodTo n (fun d => f (2 * d) * f (2 * d + 1)) := by
  intro n
  induction n with
  | zero => rfl
  | succ n ih => rw [show 2 * (n + 1) = 2 * n + 1 + 1 by omega, prodTo, prodTo, prodTo, ih, Nat.mul_assoc]
theorem X_ordered_loop {u : Nat} (hc : CDok c) (hP : PW cc hl) (hO : OCN c h A G) (hu : u < 6) {S : Nat} (hQ : Qp (lN (S * prodTo 6 (fun d => if d = u then 1 else cc ^ cG A (grN c h) (2 * d) (kl c) * 16 ^ cG A (grN c h) (2 * d + 1) (kl c))))) : ∀ r d, d + r = 6 → b_X1_waysOrdered_26 (r + 1) G hl (nI u) (lN (S * prodTo d (fun d => if d = u then 1 else cc ^ cG A (grN c h) (2 * d) (kl c) * 16 ^ cG A (grN c h) (2 * d + 1) (kl c)))) (nI d) Qp := by
  intro r
  induction r with
  | zero =>
    intro d hd
    have : d = 6 := by omega
    subst this
    rw [b_X1_waysOrdered_26]; dsimp only
    exact ⟨fun _ => hQ, fun z => absurd (nI_le (a := 6) (b := 6) (by omega) (by omega)) z⟩
  | succ r ih =>
    intro d hd
    obtain ⟨o1, o2⟩ := hO d (by omega)
    have c1 := cG_12 hc A h (2 * d)
    have c2 := cG_12 hc A h (2 * d + 1)
    have hi := ih (d + 1) (by omega)
    rw [prodTo] at hi
    rw [b_X1_waysOrdered_26]; dsimp only
    unfold b_X1_waysOrdered_67
    rw [nI_clamp (show d < 2 ^ 31 by omega), o1, o2, nI_clamp (by omega), nI_clamp (by omega), (hP _ c1).2, (hP _ c2).1, nI_1, nI_eq (show d < 2 ^ 31 by omega) (show u < 2 ^ 31 by omega), lN_mul, lN_mul]
    have in6 : vp_in (nI d) 6 := vp_in_nI (by omega) (by omega)
    refine ⟨fun z => absurd z (nI_ge (a := d) (b := 6) (by omega) (by omega)), fun _ => ⟨fun z => ?_, fun z => ⟨in6, vp_in_nI (by omega) (by omega), in6, vp_in_nI (by omega) (by omega), fun x7 e7 => ?_⟩⟩⟩
    · rw [if_pos z, Nat.mul_one] at hi; exact hi
    · rw [if_neg z, ← Nat.mul_assoc] at hi
      rw [e7]; exact hi
theorem X_waysOrdered {u : Nat} (hc : CDok c) (hcc : cc ≤ 16) (hP : PW cc hl) (hO : OCN c h A G) (hu : u < 6) (hQ : Qp (lN (VX c h A cc (ph1 u)))) : p_X1_waysOrdered G hl (nI u) Qp := by
  obtain ⟨o1, o2⟩ := hO u hu
  have c1 := cG_12 hc A h (2 * u)
  have c2 := cG_12 hc A h (2 * u + 1)
  unfold p_X1_waysOrdered
  rw [nI_clamp (show u < 2 ^ 31 by omega), o1, o2]
  refine ⟨vp_in_nI hu (by omega), X_some hcc hP c1 ⟨vp_in_nI hu (by omega), vp_in_nI (by omega) (by omega), fun x13 e13 => ⟨7, ?_⟩⟩⟩
  rw [nI_clamp (by omega), (hP _ c2).2, lN_mul] at e13
  subst e13
  have := X_ordered_loop (S := VN cc 2 (cG A (grN c h) (2 * u) (kl c)) * cc ^ cG A (grN c h) (2 * u + 1) (kl c)) (Qp := Qp) hc hP hO hu ?_ 6 0 rfl
  · rw [show prodTo 0 (fun d => if d = u then 1 else cc ^ cG A (grN c h) (2 * d) (kl c) * 16 ^ cG A (grN c h) (2 * d + 1) (kl c)) = 1 from rfl, Nat.mul_one] at this
    exact this
  · have e : VX c h A cc (ph1 u) = VN cc 2 (cG A (grN c h) (2 * u) (kl c)) * cc ^ cG A (grN c h) (2 * u + 1) (kl c) * prodTo 6 (fun d => if d = u then 1 else cc ^ cG A (grN c h) (2 * d) (kl c) * 16 ^ cG A (grN c h) (2 * d + 1) (kl c)) := by
      unfold VX
      rw [show 12 = 2 * 6 from rfl, prod_pair]
      obtain ⟨P, hPP⟩ := prod_one (fun d => VN cc (ph1 u (2 * d)) (cG A (grN c h) (2 * d) (kl c)) * VN cc (ph1 u (2 * d + 1)) (cG A (grN c h) (2 * d + 1) (kl c))) u 6 hu
      rw [hPP (fun d => VN cc (ph1 u (2 * d)) (cG A (grN c h) (2 * d) (kl c)) * VN cc (ph1 u (2 * d + 1)) (cG A (grN c h) (2 * d + 1) (kl c))) (fun _ _ _ => rfl), hPP (fun d => if d = u then 1 else cc ^ cG A (grN c h) (2 * d) (kl c) * 16 ^ cG A (grN c h) (2 * d + 1) (kl c)) (fun d hd hne => by
        show (if d = u then 1 else _) = _
        unfold ph1
        rw [if_neg hne, phF_o _ _ hd, phF_b _ _ hd, if_neg hne, if_neg hne]
        rfl)]
      show P * (VN cc (ph1 u (2 * u)) (cG A (grN c h) (2 * u) (kl c)) * VN cc (ph1 u (2 * u + 1)) (cG A (grN c h) (2 * u + 1) (kl c))) = _ * (P * (if u = u then 1 else _))
      unfold ph1
      rw [if_pos rfl, phF_o _ _ hu, phF_b _ _ hu, if_pos rfl, if_pos rfl, Nat.mul_one, Nat.mul_comm P]
      rfl
    rw [e] at hQ
    exact hQ
theorem X_waysTo {w : Nat} (hX : XC c G) (hh : h < 24) (hcc : cc ≤ 16) (hP : PW cc hl) (hO : OCN c h A G) (hw : w ≤ 6) (hQ : Qp (lN (wsN c h A cc w))) : p_X1_waysTo G hl (nI h) (dI w) Qp := by
  unfold wsN at hQ
  unfold p_X1_waysTo b_X1_waysTo_34
  cases w with
  | zero =>
    rw [if_pos rfl] at hQ
    exact ⟨fun _ => X_waysLiked (w := 0) hX hh hcc hP hO (by omega) (by rw [phL_0]; exact hQ), fun z => absurd rfl z⟩
  | succ u =>
    rw [if_neg (by omega), show u + 1 - 1 = u by omega] at hQ
    rw [dI_s]
    have ep : pref c h u 0 = decide (0 < lk c h u) := by unfold pref; rw [if_pos rfl]
    refine ⟨fun z => absurd z (m1_ne (by omega)), fun _ => X_prefers (w := 0) hX hh (by omega) (by omega) ⟨fun z => X_waysOrdered hX.1.1 hcc hP hO (by omega) ?_, fun z => ?_⟩⟩
    · have := (b2_0 _).mp z
      rw [ep, decide_eq_false_iff_not] at this
      rw [if_neg this] at hQ
      rw [show (0 : Int64) = lN 0 from rfl, lN_add]; exact hQ
    · have : 0 < lk c h u := by
        by_cases q : 0 < lk c h u
        · exact q
        · exact absurd ((b2_0 _).mpr (by rw [ep, decide_eq_false q])) z
      rw [if_pos this] at hQ
      have lik := X_waysLiked (w := u + 1) (Qp := fun r7 => p_X1_waysOrdered G hl (nI u) (fun r1 => Qp (r1 + r7))) hX hh hcc hP hO (by omega) (by
        rw [phL_s]
        refine X_waysOrdered hX.1.1 hcc hP hO (by omega) ?_
        rw [lN_add]; exact hQ)
      rw [dI_s] at lik
      exact lik
end Ways
