/-! PURE: the search itself -/
theorem FrK.tr {x g f : Mem} (a : FrK x g) (b : FrK g f) : FrK x f := fun k hk => (b k hk).trans (a k hk)
theorem kl4096 {c : CD} (hc : CDok c) {m : Nat} (h : m < 2 ^ kl c) : m < 4096 := Nat.lt_of_lt_of_le h (Nat.pow_le_pow_right (n := 2) (j := 12) (by omega) hc.1)
theorem choose_base {c : CD} {x : Mem} {D : Nat → Prop} {ch law : Nat} {rc : Mem → Int32 → Int32 → Int32 → (Mem → Prop) → Prop} {Qp : Mem → Prop} (hX : XC c x) (hI : InvK c 0 ch law) (hS : St c D x) (hQ : ∀ g, FrK x g → St c (fun m => D m ∨ ExtP c 0 ch m) g → Qp g) : b_X3_choose_28 x (nI ch) rc Qp := by
  have hc := hX.1.1
  have hm := kl4096 hc hI.2.1
  have h0 : clN c ch = 0 := (cl0_iff hc).mpr fun a b _ _ h1 h2 => hI.2.2.2 a b h1 (Or.inl h2)
  unfold b_X3_choose_28
  refine X_joyBy hX hm (X_weigh hm hc hS fun g hf hg => hQ g hf (hg.to (fun m h => ?_) (fun m h => Or.inl ?_)))
  · rcases h with h | h
    · exact Or.inl h
    · rw [h]; exact Or.inr ⟨hm, fun _ q => q, fun _ q => Or.inl q, h0⟩
  · rcases h with h | h
    · exact Or.inl h
    · right
      apply Nat.eq_of_testBit_eq
      intro i
      rw [Bool.eq_iff_iff]
      refine ⟨fun q => ?_, fun q => h.2.1 i q⟩
      rcases h.2.2.1 i q with w | w
      · exact w
      · simp at w
theorem X_choose {c : CD} : ∀ (n : Nat) (law left ch : Nat) (D : Nat → Prop) (x : Mem) (Qp : Mem → Prop), 13 ≤ n + law → law ≤ 12 → InvK c left ch law → XC c x → St c D x → (∀ g, FrK x g → St c (fun m => D m ∨ ExtP c left ch m) g → Qp g) → p_X3_choose n x (nI left) (nI ch) (nI law) Qp := by
  intro n
  induction n with
  | zero => intro law left ch D x Qp h1 h2; omega
  | succ n ih =>
    intro law left ch D x Qp hn hl hI hX hS hQ
    have hc := hX.1.1
    have hk12 := hc.1
    have hm1 := kl4096 hc hI.1
    have hm2 := kl4096 hc hI.2.1
    have p1 := pop_le 12 ch
    have p2 := pop_le 12 left
    rw [p_X3_choose]; dsimp only
    refine X_bitCount hm2 (X_bitCount hm1 ?_)
    rw [nI_add]
    refine ⟨fun _ => ⟨fun h12 => ?_, fun h12 => ⟨fun h0 => ?_, fun h0 => ?_⟩⟩, fun hp => hQ x (fun _ _ => rfl) ?_⟩
    · have hl12 : 12 ≤ law := by
        rcases Nat.lt_or_ge law 12 with q | q
        · exact absurd h12 (nI_ge (a := law) (b := 12) q (by omega))
        · exact q
      have z : left = 0 := by
        apply Nat.eq_of_testBit_eq
        intro i
        rw [Nat.zero_testBit, Bool.eq_false_iff]
        intro q
        have := lt_kl hI.1 q
        have := (hI.2.2.1 i q).1
        omega
      subst z
      exact choose_base hX hI hS hQ
    · have z : left = 0 := (nI_eq0 (by omega)).mp h0
      subst z
      exact choose_base hX hI hS hQ
    · have hl12 : law < 12 := by
        rcases Nat.lt_or_ge law 12 with q | q
        · exact q
        · exact absurd (nI_le (a := 12) (b := law) q (by omega)) h12
      intro x14 e14 x15 e15
      rw [shl1 (by omega)] at e14
      subst e14
      have hp2 : 2 ^ law < 4096 := by have := Nat.pow_lt_pow_right (a := 2) (by omega) hl12; omega
      rw [nI_sd (by omega) (by omega)] at e15
      subst e15
      have hsl : sd left (2 ^ law) < 2 ^ 12 := sd_lt hm1
      rw [nI_eq (by omega) (by omega)]
      refine ⟨fun e => ?_, fun e => ?_⟩
      · have hb : left.testBit law = false := by
          rw [Bool.eq_false_iff]
          intro q
          rw [← e] at q
          exact ((bit_sd2 _ _ _).mp q).2 rfl
        unfold b_X3_choose_94
        rw [nI_1]
        have hI2 := inv_wo hI
        rw [e] at hI2
        rw [e]
        exact ih (law + 1) left ch D x _ (by omega) (by omega) hI2 hX hS hQ
      · have hb : left.testBit law = true := by
          cases q : left.testBit law with
          | true => rfl
          | false =>
            exfalso
            apply e
            apply Nat.eq_of_testBit_eq
            intro i
            rw [Bool.eq_iff_iff, bit_sd2]
            exact ⟨fun z => z.1, fun z => ⟨z, fun w => by rw [w, q] at z; cases z⟩⟩
        have hlk := lt_kl hI.1 hb
        refine X_rivalsWithin hX hlk hm1 ?_
        have hrl : rvm c law &&& left < 4096 := Nat.and_lt_two_pow (n := 12) _ hm1
        rw [nI_sd (by omega) (by omega), nI_or (by omega) (by omega), nI_1, nI_eq0 (by omega)]
        refine ih (law + 1) _ _ D x _ (by omega) (by omega) (inv_with hc hI hb) hX hS fun g hf hg => ⟨fun z => hQ g hf ?_, fun z => ?_⟩
        · refine hg.to (fun m h => ?_) (fun m h => ?_)
          · rcases h with h | h
            · exact Or.inl h
            · exact Or.inr ((ext_with hc hI hb).mpr h).1
          · rcases h with h | h
            · exact Or.inl (Or.inl h)
            · cases q : m.testBit law with
              | true => exact Or.inl (Or.inr ((ext_with hc hI hb).mp ⟨h, q⟩))
              | false =>
                right
                have hmk : m ||| 2 ^ law < 4096 := Nat.or_lt_two_pow (n := 12) h.1 hp2
                refine ⟨m ||| 2 ^ law, Or.inr ((ext_with hc hI hb).mp ⟨⟨hmk, fun i hi => (bit_or2 _ _ _).mpr (Or.inl (h.2.1 i hi)), fun i hi => ?_, ?_⟩, (bit_or2 _ _ _).mpr (Or.inr rfl)⟩), Or.inl ?_⟩
                · rcases (bit_or2 _ _ _).mp hi with w | w
                  · exact h.2.2.1 i w
                  · rw [w]; exact Or.inr hb
                · have nr : ∀ b, b < kl c → m.testBit b = true → riv c law b = false := by
                    intro b hbk hmb
                    rcases h.2.2.1 b hmb with w | w
                    · rw [riv_sym hc hlk hbk]; exact hI.2.2.2 b law w (Or.inr hb)
                    · have t : (rvm c law &&& left).testBit b = false := by rw [z]; simp
                      unfold rvm at t
                      rw [Nat.testBit_and, mk_bit, w] at t
                      simpa [hbk] using t
                  refine (cl0_iff hc).mpr fun a b ha hbk h1 h2 => ?_
                  rcases (bit_or2 _ _ _).mp h1 with w1 | w1
                  · rcases (bit_or2 _ _ _).mp h2 with w2 | w2
                    · exact (cl0_iff hc).mp h.2.2.2 a b ha hbk w1 w2
                    · rw [w2, riv_sym hc ha hlk]; exact nr a ha w1
                  · rcases (bit_or2 _ _ _).mp h2 with w2 | w2
                    · rw [w1]; exact nr b hbk w2
                    · rw [w1, w2]; exact riv_irr hc hlk
                · exact pop_strict (fun i _ hi => (bit_or2 _ _ _).mpr (Or.inl hi)) law hl12 q ((bit_or2 _ _ _).mpr (Or.inr rfl))
        · unfold b_X3_choose_94
          rw [nI_1]
          refine ih (law + 1) _ _ _ g _ (by omega) (by omega) (inv_wo hI) (hX.k hf) hg fun g2 hf2 hg2 => hQ g2 (hf.tr hf2) (hg2.to (fun m h => ?_) (fun m h => Or.inl ?_))
          · rcases h with (h | h) | h
            · exact Or.inl h
            · exact Or.inr ((ext_with hc hI hb).mpr h).1
            · exact Or.inr ((ext_wo hI hb).mpr h).1
          · rcases h with h | h
            · exact Or.inl (Or.inl h)
            · cases q : m.testBit law with
              | true => exact Or.inl (Or.inr ((ext_with hc hI hb).mp ⟨h, q⟩))
              | false => exact Or.inr ((ext_wo hI hb).mp ⟨h, q⟩)
    · rcases hS with ⟨h1, h2⟩ | ⟨b, hb, hD, e0, e1, e2, hall⟩
      · exfalso
        apply hp
        rw [h1, ← dI_s, dI_le (by omega) (by omega)]
        omega
      · right
        have pb := pop_le 12 b
        rw [e2, dI_s, nI_leI (by omega) (by omega)] at hp
        refine ⟨b, hb, Or.inl hD, e0, e1, e2, fun m hm => ?_⟩
        rcases hm with h | h
        · exact hall m h
        · have := ext_pop h
          right
          unfold better
          omega
/-- the best set of those that can be kept -/
def isBest (c : CD) (set b : Nat) : Prop := ExtP c set 0 b ∧ ∀ m, ExtP c set 0 m → m = b ∨ better c b m
theorem best_one {c : CD} {set a b : Nat} (h1 : isBest c set a) (h2 : isBest c set b) : a = b := by
  rcases h1.2 b h2.1 with q | q
  · exact q.symm
  · rcases h2.2 a h1.1 with r | r
    · exact r
    · unfold better at q r
      omega
theorem X_search {c : CD} {x : Mem} {set : Nat} {Qp : Mem → Prop} (hX : XC c x) (hs : set < 2 ^ kl c) (hQ : ∀ g b, FrK x g → isBest c set b → g 31 0 = nI b → g 31 1 = nI (joyN c b) → Qp g) : p_X3_search x (nI set) Qp := by
  have hc := hX.1.1
  have hf0 : FrK x (up2 (up2 (up2 x 31 0 (0 : Int32)) 31 1 (0 : Int32)) 31 2 (-1 : Int32)) := fun k hk => by rw [up2_other _ _ _ hk, up2_other _ _ _ hk, up2_other _ _ _ hk]
  unfold p_X3_search
  refine X_choose (c := c) 14 0 set 0 (fun _ => False) _ _ (by omega) (by omega) ⟨hs, Nat.two_pow_pos _, fun i hi => ⟨Nat.zero_le _, by simp⟩, fun a b ha _ => by simp at ha⟩ (hX.k hf0) (Or.inl ⟨by rw [up2_row, if_pos ⟨rfl, rfl⟩]; rfl, fun _ h => h⟩) fun g hf hg => ?_
  rcases hg with ⟨h1, h2⟩ | ⟨b, hb, hD, e0, e1, e2, hall⟩
  · exact absurd (Or.inr ⟨by omega, fun i hi => by simp at hi, fun i hi => by simp at hi, (cl0_iff hc).mpr fun a b _ _ h _ => by simp at h⟩) (h2 0)
  · refine hQ g b (hf0.tr hf) ⟨?_, fun m hm => hall m (Or.inr hm)⟩ e0 e1
    rcases hD with h | h
    · exact h.elim
    · exact h
