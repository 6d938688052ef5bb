/-! STEPS: order -/
theorem all_mask {k : Nat} (hk : k ≤ 12) (v : Int32) : (v &&& (nI (2 ^ k - 1) ^^^ (-1 : Int32)) = 0) ↔ ∃ n, n < 2 ^ k ∧ v = nI n := by
  have hp : 2 ^ k ≤ 4096 := Nat.pow_le_pow_right (n := 2) (by omega) hk
  have hp0 := Nat.two_pow_pos k
  have hv : v.toBitVec.toNat < 2 ^ 32 := v.toBitVec.isLt
  have e : v = nI v.toBitVec.toNat := i32_ext (by rw [pk_tn hv])
  generalize v.toBitVec.toNat = m at hv e
  have z : nI m &&& (nI (2 ^ k - 1) ^^^ (-1 : Int32)) = nI (sd m (2 ^ k - 1)) := nI_sd hv (by omega)
  have hs : sd m (2 ^ k - 1) < 2 ^ 32 := sd_lt hv
  have z0 : nI (sd m (2 ^ k - 1)) = 0 ↔ sd m (2 ^ k - 1) = 0 := by
    constructor
    · intro q
      have := congrArg (fun u => u.toBitVec.toNat) q
      rw [show (nI (sd m (2 ^ k - 1))).toBitVec.toNat = sd m (2 ^ k - 1) from pk_tn hs] at this
      exact this
    · intro q; rw [q]; rfl
  rw [e, z, z0, sd0_iff]
  constructor
  · intro q
    refine ⟨m, lt_of_bits fun i hi => ?_, rfl⟩
    rw [Bool.eq_false_iff]
    intro w
    have := q i w
    rw [Nat.testBit_two_pow_sub_one] at this
    simp at this
    omega
  · rintro ⟨n, hn, en⟩ i hi
    have hmn : m = n := by
      have := congrArg (fun u => u.toBitVec.toNat) en
      rw [show (nI m).toBitVec.toNat = m from pk_tn hv, show (nI n).toBitVec.toNat = n from pk_tn (by omega)] at this
      exact this
    rw [hmn] at hi
    rw [Nat.testBit_two_pow_sub_one]
    simp [lt_kl hn hi]
theorem bc_any {v : Int32} {Qp : Int32 → Prop} (h : ∀ r, Qp r) : p_J6_bitCount v Qp := by
  intro x1 e1 x2 e2 x3 e3 x4 e4 x5 e5
  exact h _
def okO (c : CD) (v1 v2 v3 : Int32) : Bool := ran v1 (2 ^ kl c) && (decide (1 ≤ pop 12 v1.toNatClampNeg ∧ pop 12 v1.toNatClampNeg ≤ 4) && (ran v2 30 && (decide (v2.toNatClampNeg + pop 12 v1.toNatClampNeg ≤ 30) && rad v3 4)))
def aOr (c : CD) (b : LG) (R : Nat → Nat) (la : Nat → Bool) (v1 v2 v3 : Int32) : Int32 := if okO c v1 v2 v3 = true then ansO (bestO c b R la v1.toNatClampNeg v2.toNatClampNeg) (pop 12 v1.toNatClampNeg) (v3 + 1).toNatClampNeg else -2
section Ord
variable {n0 n1 : Nat} {b0 b1 : Nat → Int32} {t b s : LG} {x y : Mem} {v1 v2 v3 : Int32} {Qp : Int32 → Mem → Prop}
theorem aOr_y {c : CD} {R : Nat → Nat} {la : Nat → Bool} {m yr w : Nat} (hc : CDok c) (hm : m < 2 ^ kl c) (h1 : 1 ≤ pop 12 m) (h4 : pop 12 m ≤ 4) (hy : yr < 30) (h30 : yr + pop 12 m ≤ 30) (hw : w ≤ 4) : aOr c b R la (nI m) (nI yr) (dI w) = ansO (bestO c b R la m yr) (pop 12 m) w := by
  have hp : 2 ^ kl c ≤ 4096 := Nat.pow_le_pow_right (n := 2) (by omega) hc.1
  unfold aOr okO
  rw [ran_y hm (by omega), ran_y hy (by omega), rad_y hw (by omega), dI_1, nI_clamp (by omega), nI_clamp (by omega), nI_clamp (by omega), decide_eq_true (show 1 ≤ pop 12 m ∧ pop 12 m ≤ 4 from ⟨h1, h4⟩), decide_eq_true h30]
  exact if_pos rfl
theorem aOr_n {c : CD} {R : Nat → Nat} {la : Nat → Bool} (h : okO c v1 v2 v3 = false) : aOr c b R la v1 v2 v3 = -2 := by
  unfold aOr
  rw [h]; rfl
theorem okO_1 {c : CD} (h : ∀ j, j < 2 ^ kl c → v1 ≠ nI j) : okO c v1 v2 v3 = false := by unfold okO; rw [ran_n h, Bool.false_and]
theorem okO_2 {c : CD} {m : Nat} (hm : m < 4096) (h : ¬ (1 ≤ pop 12 m ∧ pop 12 m ≤ 4)) : okO c (nI m) v2 v3 = false := by unfold okO; rw [nI_clamp (by omega), decide_eq_false h, Bool.false_and, Bool.and_false]
theorem okO_3 {c : CD} (h : ∀ j, j < 30 → v2 ≠ nI j) : okO c v1 v2 v3 = false := by unfold okO; rw [ran_n h, Bool.false_and, Bool.and_false, Bool.and_false]
theorem okO_4 {c : CD} {m yr : Nat} (hm : m < 4096) (hy : yr < 30) (h : ¬ yr + pop 12 m ≤ 30) : okO c (nI m) (nI yr) v3 = false := by unfold okO; rw [nI_clamp (show m < 2 ^ 31 by omega), nI_clamp (show yr < 2 ^ 31 by omega), decide_eq_false h, Bool.false_and, Bool.and_false, Bool.and_false, Bool.and_false]
theorem okO_5 {c : CD} (h : ∀ j, j ≤ 4 → v3 ≠ dI j) : okO c v1 v2 v3 = false := by unfold okO; rw [rad_n h, Bool.and_false, Bool.and_false, Bool.and_false, Bool.and_false]
theorem dI_range (v : Int32) : (¬ v < (-1 : Int32) ∧ v < (4 : Int32)) ↔ ∃ w, w ≤ 4 ∧ v = dI w := by
  constructor
  · rintro ⟨h1, h2⟩
    rw [Int32.not_lt, Int32.le_iff_toInt_le, show (-1 : Int32).toInt = -1 by decide] at h1
    rw [Int32.lt_iff_toInt_lt, show (4 : Int32).toInt = 4 by decide] at h2
    refine ⟨(v.toInt + 1).toNat, by omega, ?_⟩
    apply Int32.toInt_inj.mp
    rw [dI_toInt (by omega)]
    omega
  · rintro ⟨w, hw, e⟩
    subst e
    rw [Int32.not_lt, Int32.le_iff_toInt_le, show (-1 : Int32).toInt = -1 by decide, Int32.lt_iff_toInt_lt, show (4 : Int32).toInt = 4 by decide, dI_toInt (by omega)]
    omega
theorem best_pos {c : CD} {b : LG} {R : Nat → Nat} {la : Nat → Bool} {laws year : Nat} (h1 : 1 ≤ pop 12 laws) (h4 : pop 12 laws ≤ 4) : (bestO c b R la laws year).1 ≠ 0 := by
  intro s0
  have hpos : 0 < (perms (pop 12 laws) laws).length := by
    rw [perms_ok h1 h4]
    unfold rowsOf
    rw [List.length_map]
    obtain e | e | e | e : pop 12 laws = 1 ∨ pop 12 laws = 2 ∨ pop 12 laws = 3 ∨ pop 12 laws = 4 := by omega
    · rw [e]; decide
    · rw [e]; decide
    · rw [e]; decide
    · rw [e]; decide
  have := fold_take (g := fOr c b (oR R laws) (oL la laws) year 0 []) [] (perms (pop 12 laws) laws) ((perms (pop 12 laws) laws).length - 1) (0, []) (by omega)
  rw [show (perms (pop 12 laws) laws).length - 1 + 1 = (perms (pop 12 laws) laws).length by omega, List.take_length] at this
  unfold bestO at s0
  rw [this] at s0
  unfold fOr stp at s0
  split at s0
  · simp at s0
  · rename_i hle
    rw [s0] at hle
    exact hle (Nat.zero_le _)
theorem X_order (hR : RX n0 n1 t b s x) (hQ : ∀ g, RX n0 n1 t b s g → FX x g → Qp (aOr (cdOf (x 2) n0 (x 5) n1) b (RT t) (LT t b) v1 v2 v3) g) : p_X9_order x v1 v2 v3 Qp := by
  refine X_refresh hR fun g h1 h2 h3 h4 => ?_
  have hc := h3.1.1.1
  have hp : 2 ^ kl (cdOf (x 2) n0 (x 5) n1) ≤ 4096 := Nat.pow_le_pow_right (n := 2) (by omega) hc.1
  have bad : okO (cdOf (x 2) n0 (x 5) n1) v1 v2 v3 = false → Qp (-2 : Int32) g := fun e => by
    have := hQ g h1 h2
    rw [aOr_n e] at this; exact this
  by_cases hv : ∃ m, m < 2 ^ kl (cdOf (x 2) n0 (x 5) n1) ∧ v1 = nI m
  · obtain ⟨m, hm, e1⟩ := hv
    subst e1
    have hm12 := kl4096 hc hm
    have hpl := pop_le 12 m
    refine X_bitCount hm12 (X_all h3.1 ⟨fun _ => ?_, fun z => absurd ((all_mask hc.1 _).mpr ⟨m, hm, rfl⟩) z⟩)
    refine ⟨fun z => bad (okO_2 hm12 (fun q => ?_)), fun z => ⟨fun z2 => ?_, fun z2 => bad (okO_2 hm12 (fun q => z2 (nI_le (b := 4) q.2 (by omega))))⟩⟩
    · rw [show (1 : Int32) = nI 1 from rfl, nI_ltI (by omega) (by omega)] at z; omega
    · rw [show (1 : Int32) = nI 1 from rfl, nI_ltI (by omega) (by omega)] at z
      rw [show (4 : Int32) = nI 4 from rfl, nI_leI (by omega) (by omega)] at z2
      refine one (d_within 30 (by omega)) (fun e => bad (okO_3 e)) (fun yr hy e2 => ?_)
      subst e2
      rw [nI_add, show (30 : Int32) = nI 30 from rfl, nI_ltI (by omega) (by omega)]
      refine ⟨fun z3 => bad (okO_4 hm12 hy (by omega)), fun z3 => ⟨fun z4 => bad (okO_5 (fun w hw e => ?_)), fun z4 => ⟨fun z5 => ?_, fun z5 => bad (okO_5 (fun w hw e => ?_))⟩⟩⟩
      · exact ((dI_range v3).mpr ⟨w, hw, e⟩).1 z4
      · obtain ⟨w, hw, e3⟩ := (dI_range v3).mp ⟨z4, z5⟩
        subst e3
        rw [aOr_y hc hm (by omega) z2 hy (by omega) hw] at hQ
        have lt : dI w < nI (pop 12 m) ↔ w ≤ pop 12 m := by rw [← dI_s, dI_lt (by omega) (by omega)]; omega
        rw [lt]
        refine ⟨fun z6 => X_retell (t := t) (b := b) (Or.inr rfl) h1.2.2.1.1 h1.2.2.1.2.1 fun g1 f1 R1 => ?_, fun z6 => ?_⟩
        · have hX1 : XC (cdOf (x 2) n0 (x 5) n1) g1 := h3.1.f fun k a1 a2 => f1.1 k (by omega) (by omega)
          have hL1 : XL 24 b g1 := h1.2.2.1.2.1.f (f1.1 24 (by omega) (by omega)) (f1.1 25 (by omega) (by omega)) (f1.1 26 (by omega) (by omega))
          refine X_searchO hX1 hL1 R1 hm z2 (by omega) fun g2 f2 B2 => ?_
          have fk : ∀ k, k ≠ 29 → k ≠ 30 → k ≠ 32 → k ≠ 33 → k ≠ 34 → g2 k = g k := fun k a1 a2 a3 a4 a5 => (f2 k a1 a2 a3 a4 a5).trans (f1.1 k a1 a2)
          have F1 : Fr1 g g2 := ⟨fun k _ hk => fk k (by omega) (by omega) (by omega) (by omega) (by omega), by rw [fk 0 (by omega) (by omega) (by omega) (by omega) (by omega)]⟩
          have F2 : FX g g2 := ⟨fk 2 (by omega) (by omega) (by omega) (by omega) (by omega), fk 5 (by omega) (by omega) (by omega) (by omega) (by omega), by rw [fk 0 (by omega) (by omega) (by omega) (by omega) (by omega)], fun k hk => fk k (by omega) (by omega) (by omega) (by omega) (by omega)⟩
          have hQ := hQ g2 (h1.f F1) (h2.tr F2)
          unfold ansO at hQ
          refine ⟨fun z7 => ?_, fun z7 => ?_⟩
          · rw [if_pos ((dI_m1 (by omega)).mp z7)] at hQ
            rw [B2.2.1]; exact hQ
          · have w0 : w ≠ 0 := fun q => z7 ((dI_m1 (by omega)).mpr q)
            obtain ⟨i, rfl⟩ : ∃ i, w = i + 1 := ⟨w - 1, by omega⟩
            rw [if_neg w0, if_pos z6, show i + 1 - 1 = i by omega] at hQ
            rw [dI_s, nI_clamp (by omega), B2.2.2 (best_pos (by omega) z2) i (by omega)]
            exact ⟨vp_in_nI (by omega) (by omega), hQ⟩
        · have hQ := hQ g h1 h2
          unfold ansO at hQ
          rw [if_neg (by omega), if_neg z6] at hQ
          exact hQ
      · exact z5 ((dI_range v3).mpr ⟨w, hw, e⟩).2
  · refine bc_any fun r3 => X_all h3.1 ⟨fun z => absurd ((all_mask hc.1 _).mp z) hv, fun _ => bad (okO_1 fun j hj e => hv ⟨j, hj, e⟩)⟩
theorem M_order (hR : RY b0 n0 b1 n1 t b s y) (hQ : ∀ y', FrQ y y' → MC (cdOf b0 n0 b1 n1) y' → Qp (aOr (cdOf b0 n0 b1 n1) b (RT t) (LT t b) v1 v2 v3) y') : p_X10_order y v1 v2 v3 Qp := by
  refine Y_find hR fun y' f hM hRM => ?_
  have hc := hM.1
  have hk12 := hc.1
  have hp : 2 ^ kl (cdOf b0 n0 b1 n1) ≤ 4096 := Nat.pow_le_pow_right (n := 2) (by omega) hc.1
  have bad : okO (cdOf b0 n0 b1 n1) v1 v2 v3 = false → Qp (-2 : Int32) y' := fun e => by
    have := hQ y' f hM
    rw [aOr_n e] at this; exact this
  have bad39 : okO (cdOf b0 n0 b1 n1) v1 v2 v3 = false → b_X10_order_39 y' v1 v2 v3 Qp := fun e => ⟨fun _ => bad e, fun z => absurd rfl z⟩
  rw [show (0 : Int32).toNatClampNeg = 0 by decide, hM.2.1, shl1 (by omega)]
  refine ⟨fun z => bad39 (okO_1 fun j hj e => ?_), fun z => ⟨vp_in_nI (n := 0) (by omega) (by omega), fun z1 => bad39 (okO_1 fun j hj e => ?_), fun z1 => ?_⟩⟩
  · rw [e] at z; exact nI_pos (by omega) z
  · rw [e, nI_leI (by omega) (by omega)] at z1; omega
  · obtain ⟨m, hm31, e1⟩ := nI_of z
    subst e1
    rw [nI_leI (by omega) hm31] at z1
    have hm : m < 2 ^ kl (cdOf b0 n0 b1 n1) := by omega
    have hm12 : m < 4096 := by omega
    have hpl := pop_le 12 m
    refine M_ones hm12 (M_in32 (lo := 1) (hi := 4) ?_)
    by_cases hn : 1 ≤ pop 12 m ∧ pop 12 m ≤ 4
    · rw [decide_eq_true (show (1 : Int32) ≤ nI (pop 12 m) from nI_le (a := 1) hn.1 (by omega)), decide_eq_true (show nI (pop 12 m) ≤ (4 : Int32) from nI_le (b := 4) hn.2 (by omega))]
      refine ⟨fun z => absurd z (by decide), fun _ => ?_⟩
      unfold b_X10_order_40
      refine ⟨fun z => absurd z (by decide), fun _ => one d_year (fun e => bad (okO_3 e)) (fun yr hy e2 => M_ones hm12 ?_)⟩
      subst e2
      rw [nI_add, show (30 : Int32) = nI 30 from rfl, nI_ltI (by omega) (by omega)]
      refine ⟨fun z3 => bad (okO_4 hm12 hy (by omega)), fun z3 => oneD (d_deedM (hi := 3) 4 (by omega) (by decide)) (fun e => bad (okO_5 e)) (fun w hw e3 => ?_)⟩
      subst e3
      have hR' := hR.q f
      refine M_orderOf hR'.1 hR'.2.1 hR'.2.2.1 hR'.2.2.2.1 hM hRM hm hn.1 hn.2 (by omega) hw fun y2 f2 hM2 _ => ?_
      have := hQ y2 (f.tr f2) hM2
      rw [aOr_y hc hm hn.1 hn.2 hy (by omega) hw] at this
      exact this
    · have a3 : (decide ((1 : Int32) ≤ nI (pop 12 m)) && decide (nI (pop 12 m) ≤ (4 : Int32))) = false := by
        rw [Bool.eq_false_iff]
        intro q
        simp only [Bool.and_eq_true, decide_eq_true_eq] at q
        rw [show (1 : Int32) = nI 1 from rfl, show (4 : Int32) = nI 4 from rfl, nI_leI (by omega) (by omega), nI_leI (by omega) (by omega)] at q
        exact hn q
      rw [a3]
      exact ⟨fun _ => bad39 (okO_2 hm12 hn), fun z => absurd rfl z⟩
theorem st_order : s_order Rel := by
  intro x xl y h v1 v2 v3
  obtain ⟨n0, n1, t, b, s, hX, hY⟩ := h.1
  exact X_order hX fun g h1 h2 => M_order hY fun y' f _ => ⟨rfl, h.q hY h1 h2 f⟩
end Ord
