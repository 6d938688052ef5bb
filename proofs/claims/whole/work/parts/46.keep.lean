/-! PURE: the most laws that can be kept together -/
def better (c : CD) (m n : Nat) : Prop := pop 12 n < pop 12 m ∨ (pop 12 m = pop 12 n ∧ (joyN c n < joyN c m ∨ (joyN c m = joyN c n ∧ m < n)))
theorem better_tr {c : CD} {a b d : Nat} (h1 : better c a b) (h2 : better c b d) : better c a d := by
  unfold better at *
  omega
/-- the best of the sets D: s its size + 1, 0 where there is none yet -/
def St (c : CD) (D : Nat → Prop) (x : Mem) : Prop := (x 31 2 = dI 0 ∧ ∀ m, ¬ D m) ∨ ∃ b, b < 4096 ∧ D b ∧ x 31 0 = nI b ∧ x 31 1 = nI (joyN c b) ∧ x 31 2 = dI (pop 12 b + 1) ∧ ∀ m, D m → m = b ∨ better c b m
def FrK (x g : Mem) : Prop := ∀ k, k ≠ 31 → g k = x k
theorem XC.k {c : CD} {x g : Mem} (hX : XC c x) (hf : FrK x g) : XC c g := by
  unfold XC XC0 at *
  rw [hf 7 (by omega), hf 8 (by omega), hf 9 (by omega), hf 10 (by omega), hf 11 (by omega), hf 12 (by omega), hf 14 (by omega), hf 15 (by omega), hf 16 (by omega), hf 17 (by omega), hf 18 (by omega), hf 19 (by omega), hf 20 (by omega)]
  exact hX
theorem X_weigh {c : CD} {x : Mem} {D : Nat → Prop} {m : Nat} {Qp : Mem → Prop} (hm : m < 4096) (hc : CDok c) (hS : St c D x) (hQ : ∀ g, FrK x g → St c (fun q => D q ∨ q = m) g → Qp g) : p_X3_weigh x (nI m) (nI (joyN c m)) Qp := by
  have hj := joyN_le hc m
  have hpm := pop_le 12 m
  have take : St c (fun q => D q ∨ q = m) (up2 (up2 (up2 x 31 0 (nI m)) 31 1 (nI (joyN c m))) 31 2 (nI (pop 12 m))) ∨ ∃ q, D q ∧ ¬ better c m q ∧ q ≠ m := by
    by_cases h : ∀ q, D q → q = m ∨ better c m q
    · left; right
      refine ⟨m, hm, Or.inr rfl, ?_, ?_, ?_, ?_⟩
      · rw [up2_row, if_neg (by omega), up2_row, if_neg (by omega), up2_row, if_pos ⟨rfl, rfl⟩]
      · rw [up2_row, if_neg (by omega), up2_row, if_pos ⟨rfl, rfl⟩]
      · rw [up2_row, if_pos ⟨rfl, rfl⟩, dI_s]
      · rintro q (hq | hq)
        · exact h q hq
        · exact Or.inl hq
    · right
      apply Classical.byContradiction
      intro hn
      apply h
      intro q hq
      by_cases e : q = m
      · exact Or.inl e
      · right
        apply Classical.byContradiction
        intro hb
        exact hn ⟨q, hq, hb, e⟩
  have frk : FrK x (up2 (up2 (up2 x 31 0 (nI m)) 31 1 (nI (joyN c m))) 31 2 (nI (pop 12 m))) := fun k hk => by
    rw [up2_other _ _ _ hk, up2_other _ _ _ hk, up2_other _ _ _ hk]
  refine X_bitCount hm ?_
  unfold b_X3_weigh_18 b_X3_weigh_59
  rcases hS with ⟨h1, h2⟩ | ⟨b, hb, hD, e0, e1, e2, hall⟩
  · rw [h1]
    have n1 : ¬ nI (pop 12 m) = dI 0 := by rw [← dI_s, dI_inj (by omega) (by omega)]; omega
    have n2 : ¬ nI (pop 12 m) ≤ dI 0 := by rw [← dI_s, dI_le (by omega) (by omega)]; omega
    rw [if_neg n1, if_neg n2]
    refine ⟨fun z => absurd z (by decide), fun _ => hQ _ frk ?_⟩
    rcases take with t | ⟨q, hq, -⟩
    · exact t
    · exact absurd hq (h2 q)
  · have hjb := joyN_le hc b
    have hpb := pop_le 12 b
    have keep : (b = m ∨ better c b m) → St c (fun q => D q ∨ q = m) x := by
      intro h
      right
      refine ⟨b, hb, Or.inl hD, e0, e1, e2, ?_⟩
      rintro q (hq | hq)
      · exact hall q hq
      · subst hq
        rcases h with h | h
        · exact Or.inl h.symm
        · exact Or.inr h
    have tk : better c m b → St c (fun q => D q ∨ q = m) (up2 (up2 (up2 x 31 0 (nI m)) 31 1 (nI (joyN c m))) 31 2 (nI (pop 12 m))) := by
      intro h
      rcases take with t | ⟨q, hq, h1, h2⟩
      · exact t
      · exfalso
        rcases hall q hq with r | r
        · subst r; exact h1 h
        · exact h1 (better_tr h r)
    rw [e0, e1, e2]
    have c1 : nI (pop 12 m) = dI (pop 12 b + 1) ↔ pop 12 m = pop 12 b := by rw [dI_s, nI_eq (by omega) (by omega)]
    have c2 : nI (pop 12 m) ≤ dI (pop 12 b + 1) ↔ pop 12 m ≤ pop 12 b := by rw [dI_s, nI_leI (by omega) (by omega)]
    have c3 : nI (joyN c b) < nI (joyN c m) ↔ joyN c b < joyN c m := by rw [Int32.lt_iff_toInt_lt, nI_toInt (by omega), nI_toInt (by omega)]; omega
    have c4 : nI (joyN c m) = nI (joyN c b) ↔ joyN c m = joyN c b := nI_eq (by omega) (by omega)
    have c5 : nI b ≤ nI m ↔ b ≤ m := nI_leI (by omega) (by omega)
    by_cases q1 : pop 12 m = pop 12 b
    · rw [if_pos (c1.mpr q1)]
      by_cases q2 : joyN c b < joyN c m
      · rw [if_pos (c3.mpr q2)]
        exact ⟨fun z => absurd z (by decide), fun _ => hQ _ frk (tk (Or.inr ⟨q1, Or.inl q2⟩))⟩
      · rw [if_neg (fun z => q2 (c3.mp z))]
        by_cases q3 : joyN c m = joyN c b
        · rw [if_pos (c4.mpr q3)]
          by_cases q4 : b ≤ m
          · rw [if_pos (c5.mpr q4)]
            refine ⟨fun _ => hQ _ (fun _ _ => rfl) (keep ?_), fun z => absurd rfl z⟩
            unfold better; omega
          · rw [if_neg (fun z => q4 (c5.mp z))]
            exact ⟨fun z => absurd z (by decide), fun _ => hQ _ frk (tk (Or.inr ⟨q1, Or.inr ⟨q3, by omega⟩⟩))⟩
        · rw [if_neg (fun z => q3 (c4.mp z))]
          refine ⟨fun _ => hQ _ (fun _ _ => rfl) (keep ?_), fun z => absurd rfl z⟩
          unfold better; omega
    · rw [if_neg (fun z => q1 (c1.mp z))]
      by_cases q2 : pop 12 m ≤ pop 12 b
      · rw [if_pos (c2.mpr q2)]
        refine ⟨fun _ => hQ _ (fun _ _ => rfl) (keep ?_), fun z => absurd rfl z⟩
        unfold better; omega
      · rw [if_neg (fun z => q2 (c2.mp z))]
        refine ⟨fun z => absurd z (by decide), fun _ => hQ _ frk (tk ?_)⟩
        unfold better; omega
