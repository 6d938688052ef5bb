/-! STEPS: order, the reference's -/
section Unf
variable {n : Nat} {y0 : Mem} {Qp : Mem → Prop}
theorem M_unf54 {k : Nat} {f : Nat → Nat} {K : Mem → Int32 → Int32 → Prop} (hn : n ≤ 4) (hk : k < n) (hf : ∀ i, i < n → f i ≤ 100) (hK : ∀ Y, (∀ q, q ≠ 15 → Y q = y0 q) → (∀ i, i < n → Y 15 i = nI (if k < i ∧ i < n ∧ f k ≤ f i then f i + 1 else f i)) → K Y (nI n) (dI k)) : ∀ (r j : Nat) (Y : Mem), j + r = n → k < j → (∀ q, q ≠ 15 → Y q = y0 q) → (∀ i, i < n → Y 15 i = nI (if k < i ∧ i < j ∧ f k ≤ f i then f i + 1 else f i)) → b_X10_unfolds_54 (r + 1) Y (nI n) (nI k) (nI j) K Qp := by
  have fk := hf k hk
  intro r
  induction r with
  | zero =>
    intro j Y hj hkj g1 g2
    have : j = n := by omega
    subst this
    rw [b_X10_unfolds_54]; dsimp only
    rw [show nI k + (-1 : Int32) = dI k from (Int32.sub_eq_add_neg _ _).symm]
    exact ⟨fun _ => hK Y g1 g2, fun z => absurd (nI_le (Nat.le_refl _) (by omega)) z⟩
  | succ r ih =>
    intro j Y hj hkj g1 g2
    have fj := hf j (by omega)
    rw [b_X10_unfolds_54]; dsimp only
    unfold b_X10_unfolds_90
    rw [nI_clamp (by omega), nI_clamp (by omega), g2 j (by omega), g2 k hk, if_neg (show ¬ (k < j ∧ j < j ∧ f k ≤ f j) by omega), if_neg (show ¬ (k < k ∧ k < j ∧ f k ≤ f k) by omega), nI_1]
    have in4 : vp_in (nI j) 4 := vp_in_nI (by omega) (by omega)
    refine ⟨fun z => absurd z (nI_ge (by omega) (by omega)), fun _ => ⟨in4, in4, vp_in_nI (by omega) (by omega), in4, ih (j + 1) _ (by omega) (by omega) (fun q hq => by rw [up2_other _ _ _ hq]; exact g1 q hq) (fun i hi => ?_)⟩⟩
    rw [up2_row]
    by_cases e : i = j
    · subst e
      rw [if_pos ⟨rfl, rfl⟩]
      by_cases q : f i < f k
      · rw [if_pos (nI_lt q (by omega)), if_neg (by omega), show (0 : Int32) = nI 0 from rfl, nI_add]; rfl
      · rw [if_neg (nI_nlt (by omega) (by omega)), if_pos (by omega), nI_1]
    · rw [if_neg (fun z => e z.2), g2 i hi]
      by_cases q : k < i ∧ i < j ∧ f k ≤ f i
      · rw [if_pos q, if_pos (by omega)]
      · rw [if_neg q, if_neg (by omega)]
theorem M_unf43 (hn : n ≤ 4) : ∀ (k : Nat) (f : Nat → Nat) (Y : Mem), k ≤ n → (∀ q, q ≠ 15 → Y q = y0 q) → (∀ i, i < n → Y 15 i = nI (f i) ∧ f i ≤ 100 - k) → (∀ Y', (∀ q, q ≠ 15 → Y' q = y0 q) → (∀ i, i < n → Y' 15 i = nI (insF n k f i)) → Qp Y') → b_X10_unfolds_43 (k + 1) Y (nI n) (dI k) Qp := by
  intro k
  induction k with
  | zero =>
    intro f Y hk g1 g2 hQ
    rw [b_X10_unfolds_43]; dsimp only
    exact ⟨fun _ => hQ Y g1 (fun i hi => (g2 i hi).1), fun z => absurd (show dI 0 < 0 by decide) z⟩
  | succ k ih =>
    intro f Y hk g1 g2 hQ
    rw [b_X10_unfolds_43]; dsimp only
    rw [dI_s, nI_1]
    refine ⟨fun z => absurd z (nI_pos (by omega)), fun _ => ⟨n - (k + 1) + 1, M_unf54 (y0 := y0) (f := f) hn (by omega) (fun i hi => by have := (g2 i hi).2; omega) (fun Y1 k1 k2 => ?_) (n - (k + 1)) (k + 1) Y (by omega) (by omega) g1 (fun i hi => by rw [if_neg (by omega)]; exact (g2 i hi).1)⟩⟩
    refine ih (fun j => if k < j ∧ j < n ∧ f k ≤ f j then f j + 1 else f j) Y1 (by omega) k1 (fun i hi => ⟨k2 i hi, ?_⟩) (fun Y' a1 a2 => hQ Y' a1 (fun i hi => a2 i hi))
    have := (g2 i hi).2
    show (if k < i ∧ i < n ∧ f k ≤ f i then f i + 1 else f i) ≤ 100 - k
    split <;> omega
theorem M_unf7 (hn : n ≤ 4) : ∀ (k rest : Nat) (f : Nat → Nat) (Y : Mem), k ≤ n → rest < 1000 → (∀ q, q ≠ 15 → Y q = y0 q) → (∀ i, k ≤ i → i < n → Y 15 i = nI (f i) ∧ f i ≤ 4) → (∀ Y', (∀ q, q ≠ 15 → Y' q = y0 q) → (∀ i, i < n → Y' 15 i = nI (insF n n (dgF n k rest f) i)) → Qp Y') → b_X10_unfolds_7 (k + 1) Y (nI n) (nI rest) (dI k) Qp := by
  intro k
  induction k with
  | zero =>
    intro rest f Y hk hr g1 g2 hQ
    rw [b_X10_unfolds_7]; dsimp only
    refine ⟨fun _ => ⟨n + 1, ?_⟩, fun z => absurd (show dI 0 < 0 by decide) z⟩
    exact M_unf43 (y0 := y0) hn n f Y (Nat.le_refl _) g1 (fun i hi => ⟨(g2 i (by omega) hi).1, by have := (g2 i (by omega) hi).2; omega⟩) (fun Y' a1 a2 => hQ Y' a1 a2)
  | succ k ih =>
    intro rest f Y hk hr g1 g2 hQ
    have hm := Nat.mod_lt rest (show 0 < n - k by omega)
    have hd := Nat.div_le_self rest (n - k)
    rw [b_X10_unfolds_7]; dsimp only
    rw [dI_s, pk_sub (show k ≤ n by omega), pk_rem (by omega) (by omega) (by omega), pk_div (by omega) (by omega) (by omega), nI_clamp (by omega), show nI k + (-1 : Int32) = dI k from (Int32.sub_eq_add_neg _ _).symm]
    have hne : ¬ nI (n - k) = 0 := nI_ne0 (by omega) (by omega)
    refine ⟨fun z => absurd z (nI_pos (by omega)), fun _ => ⟨hne, vp_in_nI (by omega) (by omega), hne, ih (rest / (n - k)) (fun i => if i = k then rest % (n - k) else f i) _ (by omega) (by omega) (fun q hq => by rw [up2_other _ _ _ hq]; exact g1 q hq) (fun i h1 h2 => ?_) hQ⟩⟩
    rw [up2_row]
    show _ = nI (if i = k then rest % (n - k) else f i) ∧ (if i = k then rest % (n - k) else f i) ≤ 4
    by_cases e : i = k
    · rw [if_pos ⟨rfl, e⟩, if_pos e]; exact ⟨rfl, by omega⟩
    · rw [if_neg (fun z => e z.2), if_neg e]; exact g2 i (by omega) h2
theorem M_unfolds {code : Nat} (hn : n ≤ 4) (hc : code < 1000) (hQ : ∀ Y', (∀ q, q ≠ 15 → Y' q = y0 q) → (∀ i, i < n → Y' 15 i = nI (rowF n code i)) → Qp Y') : p_X10_unfolds y0 (nI n) (nI code) Qp :=
  ⟨n + 1, M_unf7 (y0 := y0) hn n code (fun _ => 0) y0 (Nat.le_refl _) hc (fun _ _ => rfl) (fun i h1 h2 => absurd h2 (by omega)) hQ⟩
end Unf
theorem getD_mem {α : Type} (d : α) : ∀ (L : List α) (k : Nat), k < L.length → L.getD k d ∈ L := by
  intro L
  induction L with
  | nil => intro k h; exact absurd h (Nat.not_lt_zero k)
  | cons a L ih =>
    intro k h
    cases k with
    | zero => exact List.mem_cons_self
    | succ k =>
      rw [List.length_cons] at h
      exact List.mem_cons_of_mem _ (ih k (by omega))
theorem getD_map {α β : Type} (f : α → β) (d : α) (d' : β) : ∀ (L : List α) (k : Nat), k < L.length → (L.map f).getD k d' = f (L.getD k d) := by
  intro L
  induction L with
  | nil => intro k h; exact absurd h (Nat.not_lt_zero k)
  | cons a L ih =>
    intro k h
    cases k with
    | zero => rfl
    | succ k =>
      rw [List.length_cons] at h
      exact ih k (by omega)
theorem getD_range : ∀ n k, k < n → (List.range n).getD k 0 = k := by
  intro n k h
  rw [List.getD_eq_getElem?_getD, List.getElem?_range h]
  rfl
/-- the row of a number, and its laws -/
theorem seq_at {m code k : Nat} (h1 : 1 ≤ pop 12 m) (h4 : pop 12 m ≤ 4) (hc : code < (perms (pop 12 m) m).length) (hk : k < pop 12 m) : ((perms (pop 12 m) m).getD code []).getD k 0 = (bf m 12 0).getD (rowF (pop 12 m) code k) 0 ∧ rowF (pop 12 m) code k < pop 12 m := by
  rw [perms_ok h1 h4] at hc ⊢
  unfold rowsOf at hc ⊢
  rw [List.length_map] at hc
  obtain ⟨r1, r2⟩ := rows_ok (pop 12 m) (by omega) code hc
  rw [getD_map _ [] [] _ _ hc, ← r1, List.map_map, getD_map _ 0 0 _ _ (by rw [List.length_range]; exact hk), getD_range _ _ hk]
  exact ⟨rfl, r2 k hk⟩
theorem bf_nil {m : Nat} : ∀ r j, (∀ i, j ≤ i → m.testBit i = false) → bf m r j = [] := by
  intro r
  induction r with
  | zero => intro j _; rfl
  | succ r ih => intro j h; rw [bf, if_neg (by rw [h j (Nat.le_refl _)]; decide)]; exact ih (j + 1) (fun i hi => h i (by omega))
theorem pop_up (m n : Nat) : ∀ d, pop n m ≤ pop (n + d) m := by
  intro d
  induction d with
  | zero => exact Nat.le_refl _
  | succ d ih => show _ ≤ pop (n + d) m + _; omega
theorem M_find2 {n0 n1 : Nat} {b0 b1 : Nat → Int32} {t b : LG} {y : Mem} {Qp : Mem → Prop} (h0 : TX 0 n0 b0 y) (h1 : TX 1 n1 b1 y) (ht : ML 10 11 t y) (hb : ML 11 13 b y) (hQ : ∀ y', FrQ y y' → y' 16 = y 16 → MC (cdOf b0 n0 b1 n1) y' → RM (RT t) (LT t b) y' → Qp y') : p_X10_find y Qp := by
  refine M_reads h0 h1 fun y1 f1 c1 => ⟨13, M_find_loop (t := t) (b := b) (ht.q f1.q (by omega)) (hb.q f1.q (by omega)) (fun y2 I2 => hQ y2 (f1.q.tr I2.1.q) ((I2.1 16 (by omega) (by omega)).trans (f1.1 16 (by omega) (by omega) (by omega) (by omega))) (c1.f ⟨I2.1 7 (by omega) (by omega), I2.1 8 (by omega) (by omega), I2.1 9 (by omega) (by omega)⟩) ⟨fun l _ => rT_le ht.1 l t.1 (Nat.le_refl _), I2.2⟩) 12 0 y1 rfl ⟨fun _ _ _ => rfl, fun a ha => absurd ha (Nat.not_lt_zero a)⟩⟩
def ansO (st : Nat × List Nat) (N w : Nat) : Int32 := if w = 0 then dI st.1 else if w ≤ N then nI (st.2.getD (w - 1) 0) else -1
section OrdM
variable {c : CD} {b : LG} {laws N year w : Nat} {Qp : Int32 → Mem → Prop}
theorem M_195 {Y0 : Mem} {code J cn : Nat} {row : Nat → Nat} {s : List Nat} {K : Mem → Int32 → Int32 → Int32 → Int32 → Int32 → Int32 → Prop} (hN : N ≤ 4) (h15 : ∀ k, k < N → row k < N ∧ Y0 15 k = nI (row k) ∧ Y0 14 (row k) = nI (s.getD k 0)) (hK : ∀ Y, (∀ q, q ≠ 16 → Y q = Y0 q) → (∀ i, i < N → Y 16 i = nI (s.getD i 0)) → K Y (nI year) (dI w) (nI N) (nI cn) (nI J) (nI (code + 1))) : ∀ (r k : Nat) (Y : Mem), k + r = N → (∀ q, q ≠ 16 → Y q = Y0 q) → (∀ i, i < k → Y 16 i = nI (s.getD i 0)) → b_X10_orderOf_195 (r + 1) Y (nI year) (dI w) (nI N) (nI cn) (nI J) (nI code) (nI k) K Qp := by
  intro r
  induction r with
  | zero =>
    intro k Y hk g1 g2
    have : k = N := by omega
    subst this
    rw [b_X10_orderOf_195]; dsimp only
    unfold b_X10_orderOf_227
    rw [nI_1]
    exact ⟨fun _ => hK Y g1 g2, fun z => absurd (nI_le (Nat.le_refl _) (by omega)) z⟩
  | succ r ih =>
    intro k Y hk g1 g2
    obtain ⟨a1, a2, a3⟩ := h15 k (by omega)
    rw [b_X10_orderOf_195]; dsimp only
    rw [nI_clamp (show k < 2 ^ 31 by omega), g1 15 (by omega), g1 14 (by omega), a2, nI_clamp (by omega), a3, nI_1]
    refine ⟨fun z => absurd z (nI_ge (by omega) (by omega)), fun _ => ⟨vp_in_nI (by omega) (by omega), vp_in_nI (by omega) (by omega), vp_in_nI (by omega) (by omega), ih (k + 1) _ (by omega) (fun q hq => by rw [up2_other _ _ _ hq]; exact g1 q hq) (fun i hi => ?_)⟩⟩
    rw [up2_row]
    by_cases e : i = k
    · rw [if_pos ⟨rfl, e⟩, e]
    · rw [if_neg (fun z => e z.2)]; exact g2 i (by omega)
theorem M_150 {Y : Mem} {code cn : Nat} {R : Nat → Nat} {la : Nat → Bool} {st : Nat × List Nat} {row : Nat → Nat} {s : List Nat} {K : Mem → Int32 → Int32 → Int32 → Int32 → Int32 → Int32 → Prop} (hM : MC c Y) (hR : RM R la Y) (hN : N ≤ 4) (hy : year + N ≤ 30) (h15 : ∀ k, k < N → row k < N ∧ Y 15 k = nI (row k) ∧ Y 14 (row k) = nI (s.getD k 0)) (hst : st.1 ≤ 20000) (h16 : st.1 ≠ 0 → ∀ i, i < N → Y 16 i = nI (st.2.getD i 0)) (hK : ∀ Y', (∀ q, q ≠ 16 → Y' q = Y q) → ((stp st (sumTo N (fun k => joyN c (bindsN c R la (year + k) 0))) s).1 ≠ 0 → ∀ i, i < N → Y' 16 i = nI ((stp st (sumTo N (fun k => joyN c (bindsN c R la (year + k) 0))) s).2.getD i 0)) → K Y' (nI year) (dI w) (nI N) (nI cn) (dI (stp st (sumTo N (fun k => joyN c (bindsN c R la (year + k) 0))) s).1) (nI (code + 1))) : ∀ r k, k + r = N → b_X10_orderOf_150 (r + 1) Y (nI year) (dI w) (nI N) (nI cn) (dI st.1) (nI code) (nI (sumTo k (fun k => joyN c (bindsN c R la (year + k) 0)))) (nI k) K Qp := by
  have hj : ∀ k, sumTo k (fun k => joyN c (bindsN c R la (year + k) 0)) ≤ k * 2592 := fun k => sumTo_le fun i _ => joyN_le hM.1 _
  intro r
  induction r with
  | zero =>
    intro k hk
    have : k = N := by omega
    subst this
    have hjk := hj k
    have hk4 : k * 2592 ≤ 4 * 2592 := Nat.mul_le_mul_right _ hN
    rw [b_X10_orderOf_150]; dsimp only
    unfold stp at hK
    refine ⟨fun _ => ⟨fun z => ?_, fun z => ?_⟩, fun z => absurd (nI_le (Nat.le_refl _) (by omega)) z⟩
    · rw [← dI_s, dI_le (by omega) (by omega)] at z
      rw [if_neg (by omega)] at hK
      unfold b_X10_orderOf_227
      rw [nI_1]
      exact hK Y (fun _ _ => rfl) h16
    · rw [← dI_s, dI_le (by omega) (by omega)] at z
      rw [if_pos (by omega), dI_s] at hK
      exact ⟨k + 1, M_195 (Y0 := Y) (s := s) hN h15 (fun Y' a1 a2 => hK Y' a1 (fun _ => a2)) k 0 Y (by omega) (fun _ _ => rfl) (fun i hi => absurd hi (Nat.not_lt_zero i))⟩
  | succ r ih =>
    intro k hk
    have hi := ih (k + 1) (by omega)
    rw [sumTo, ← nI_add] at hi
    rw [b_X10_orderOf_150]; dsimp only
    rw [nI_add year k, nI_1]
    exact ⟨fun z => absurd z (nI_ge (by omega) (by omega)), fun _ => M_bindsOf (what := 0) hM hR (by omega) (by omega) (M_joyBy hM (bindsN_lt hM.1 _ _ _ _) hi)⟩
theorem M_94 {Y0 : Mem} {code cn : Nat} {R : Nat → Nat} {la : Nat → Bool} {v6 : Int32} {row : Nat → Nat} {s : List Nat} {K : Mem → Int32 → Int32 → Int32 → Int32 → Int32 → Int32 → Prop} (hb : ML 11 13 b Y0) (hN : N ≤ 4) (hy : year + N ≤ 30) (hs : s.length = N) (hs12 : ∀ k, k < N → s.getD k 0 < 12) (h15 : ∀ k, k < N → row k < N ∧ Y0 15 k = nI (row k) ∧ Y0 14 (row k) = nI (s.getD k 0)) (hK : ∀ Y, (∀ q, q ≠ 12 → q ≠ 13 → Y q = Y0 q) → RM (RQ R year s) (LQ b la year s) Y → ∃ n, b_X10_orderOf_150 n Y (nI year) (dI w) (nI N) (nI cn) v6 (nI code) (0 : Int32) (0 : Int32) K Qp) : ∀ (r k : Nat) (Y : Mem), k + r = N → (∀ q, q ≠ 12 → q ≠ 13 → Y q = Y0 q) → RM (RQ R year (s.take k)) (LQ b la year (s.take k)) Y → b_X10_orderOf_94 (r + 1) Y (nI year) (dI w) (nI N) (nI cn) v6 (nI code) (nI k) K Qp := by
  intro r
  induction r with
  | zero =>
    intro k Y hk g1 g2
    have : k = N := by omega
    subst this
    rw [List.take_of_length_le (by omega)] at g2
    rw [b_X10_orderOf_94]; dsimp only
    exact ⟨fun _ => hK Y g1 g2, fun z => absurd (nI_le (Nat.le_refl _) (by omega)) z⟩
  | succ r ih =>
    intro k Y hk g1 g2
    obtain ⟨a1, a2, a3⟩ := h15 k (by omega)
    have ha := hs12 k (by omega)
    rw [b_X10_orderOf_94]; dsimp only
    rw [up2_other _ _ _ (show 15 ≠ 12 by omega), up2_other _ _ _ (show 14 ≠ 12 by omega), nI_clamp (show k < 2 ^ 31 by omega), g1 15 (by omega) (by omega), g1 14 (by omega) (by omega), a2, nI_clamp (show row k < 2 ^ 31 by omega), a3, nI_clamp (show s.getD k 0 < 2 ^ 31 by omega), nI_add, nI_1]
    have in4 : vp_in (nI k) 4 := vp_in_nI (by omega) (by omega)
    have inr : vp_in (nI (row k)) 4 := vp_in_nI (by omega) (by omega)
    have hb' : ML 11 13 b (up2 Y 12 (s.getD k 0) (nI (year + k))) := hb.keep (by rw [up2_other _ _ _ (by omega)]; exact g1 11 (by omega) (by omega)) (by rw [up2_other _ _ _ (by omega), g1 0 (by omega) (by omega)])
    refine ⟨fun z => absurd z (nI_ge (by omega) (by omega)), fun _ => ⟨in4, inr, vp_in_nI ha (by omega), in4, inr, M_breaks (R := year + k + 1) hb' ha (by omega) (by rw [up2_row, if_pos ⟨rfl, rfl⟩, dI_s]) fun Y1 f1 e13 => ?_⟩⟩
    have eb : bB b (year + k + 1) (s.getD k 0) b.1 = hB b (year + k) (s.getD k 0) b.1 := by
      unfold bB
      rw [decide_eq_true (show year + k + 1 ≠ 0 by omega), Bool.true_and]; rfl
    rw [eb] at e13
    have hlen : (s.take k).length = k := by rw [List.length_take]; omega
    refine ih (k + 1) Y1 (by omega) (fun q q1 q2 => ?_) ?_
    · funext i
      rw [f1 q i (by omega), up2_other _ _ _ q1, g1 q q1 q2]
    · rw [take_snoc 0 s k (by omega), RQ_snoc, LQ_snoc, hlen]
      refine ⟨fun l hl => ?_, fun l hl => ?_⟩
      · unfold uR
        have := g2.1 l hl
        split <;> omega
      · unfold uR uM
        by_cases q : l = s.getD k 0
        · rw [if_pos q, if_pos q, f1 12 l (by omega), up2_row, if_pos ⟨rfl, q⟩, dI_s, q]
          exact ⟨rfl, e13⟩
        · rw [if_neg q, if_neg q, f1 12 l (by omega), f1 13 l (fun z => q z.2), up2_row, if_neg (fun z => q z.2), up2_other _ _ _ (show 13 ≠ 12 by omega)]
          exact g2.2 l hl
theorem M_76 {n0 n1 : Nat} {b0 b1 : Nat → Int32} {t : LG} {y1 : Mem} (h0 : TX 0 n0 b0 y1) (h1 : TX 1 n1 b1 y1) (ht : ML 10 11 t y1) (hb : ML 11 13 b y1) (hM : MC (cdOf b0 n0 b1 n1) y1) (hl : laws < 2 ^ kl (cdOf b0 n0 b1 n1)) (hN1 : 1 ≤ pop 12 laws) (hN : pop 12 laws ≤ 4) (hy : year + pop 12 laws ≤ 30) (hw : w ≤ 4) (h14 : ∀ i, i < pop 12 laws → y1 14 i = nI ((bf laws 12 0).getD i 0)) (hQ : ∀ y', FrQ y1 y' → MC (cdOf b0 n0 b1 n1) y' → RM (RT t) (LT t b) y' → Qp (ansO (bestO (cdOf b0 n0 b1 n1) b (RT t) (LT t b) laws year) (pop 12 laws) w) y') : ∀ (r code : Nat) (st : Nat × List Nat) (R : Nat → Nat) (la : Nat → Bool) (Y : Mem), code + r = (perms (pop 12 laws) laws).length → st = ((perms (pop 12 laws) laws).take code).foldl (fOr (cdOf b0 n0 b1 n1) b (oR (RT t) laws) (oL (LT t b) laws) year 0 []) (0, []) → st.1 ≤ 20000 → (∀ q, q ≠ 12 → q ≠ 13 → q ≠ 15 → q ≠ 16 → Y q = y1 q) → RM R la Y → (∀ a, laws.testBit a = false → R a = RT t a ∧ la a = LT t b a) → (st.1 ≠ 0 → ∀ i, i < pop 12 laws → Y 16 i = nI (st.2.getD i 0)) → b_X10_orderOf_76 (r + 1) Y (nI year) (dI w) (nI (pop 12 laws)) (nI (perms (pop 12 laws) laws).length) (dI st.1) (nI code) Qp := by
  have hl12 := kl4096 hM.1 hl
  have hlen : (perms (pop 12 laws) laws).length ≤ 24 := by
    rw [perms_ok hN1 hN]
    unfold rowsOf
    rw [List.length_map]
    obtain e | e | e | e : pop 12 laws = 1 ∨ pop 12 laws = 2 ∨ pop 12 laws = 3 ∨ pop 12 laws = 4 := by omega
    · rw [e]; decide
    · rw [e]; decide
    · rw [e]; decide
    · rw [e]; decide
  intro r
  induction r with
  | zero =>
    intro code st R la Y hc est hst g1 hR hoff h16
    have : code = (perms (pop 12 laws) laws).length := by omega
    subst this
    rw [List.take_length] at est
    have hf : FrQ y1 Y := ⟨fun k a1 a2 => g1 k (by omega) (by omega) (by omega) (by omega), by rw [g1 0 (by omega) (by omega) (by omega) (by omega)], by rw [g1 0 (by omega) (by omega) (by omega) (by omega)], by rw [g1 0 (by omega) (by omega) (by omega) (by omega)], by rw [g1 0 (by omega) (by omega) (by omega) (by omega)]⟩
    rw [b_X10_orderOf_76]; dsimp only
    refine ⟨fun _ => M_find2 (h0.q hf) (h1.q hf) (ht.q hf (by omega)) (hb.q hf (by omega)) fun y' f' e16 hM' hR' => ?_, fun z => absurd (nI_le (Nat.le_refl _) (by omega)) z⟩
    have hQ := hQ y' (hf.tr f') hM' hR'
    have eb : bestO (cdOf b0 n0 b1 n1) b (RT t) (LT t b) laws year = st := est.symm
    rw [eb] at hQ
    unfold ansO at hQ
    by_cases w0 : w = 0
    · rw [if_pos w0] at hQ
      exact ⟨fun _ => hQ, fun z => absurd ((dI_m1 (by omega)).mpr w0) z⟩
    · rw [if_neg w0] at hQ
      obtain ⟨i, rfl⟩ : ∃ i, w = i + 1 := ⟨w - 1, by omega⟩
      rw [dI_s]
      refine ⟨fun z => absurd z (m1_ne (by omega)), fun _ => ⟨fun z => ?_, fun z => ⟨vp_in_nI (by omega) (by omega), ?_⟩⟩⟩
      · rw [nI_leI (by omega) (by omega)] at z
        rw [if_neg (by omega)] at hQ
        exact hQ
      · rw [nI_leI (by omega) (by omega)] at z
        rw [if_pos (by omega), show i + 1 - 1 = i by omega] at hQ
        have s0 : st.1 ≠ 0 := by
          intro s0
          have hpos : 0 < (perms (pop 12 laws) laws).length := by
            rw [perms_ok hN1 hN]
            unfold rowsOf
            rw [List.length_map]
            obtain e | e | e | e : pop 12 laws = 1 ∨ pop 12 laws = 2 ∨ pop 12 laws = 3 ∨ pop 12 laws = 4 := by omega
            · rw [e]; decide
            · rw [e]; decide
            · rw [e]; decide
            · rw [e]; decide
          have := fold_take (g := fOr (cdOf b0 n0 b1 n1) b (oR (RT t) laws) (oL (LT t b) laws) year 0 []) [] (perms (pop 12 laws) laws) ((perms (pop 12 laws) laws).length - 1) (0, []) (by omega)
          rw [show (perms (pop 12 laws) laws).length - 1 + 1 = (perms (pop 12 laws) laws).length by omega, List.take_length, ← est] at this
          rw [this] at s0
          unfold fOr stp at s0
          split at s0
          · simp at s0
          · rename_i hle
            rw [s0] at hle
            exact hle (Nat.zero_le _)
        rw [nI_clamp (by omega), e16, h16 s0 i (by omega)]
        exact hQ
  | succ r ih =>
    intro code st R la Y hc est hst g1 hR hoff h16
    have hcl : code < (perms (pop 12 laws) laws).length := by omega
    obtain ⟨p1, p2, p3⟩ := perm_spec (pop 12 laws) laws _ hl12 rfl (getD_mem [] _ code hcl)
    have sat := fun k hk => seq_at (m := laws) (code := code) (k := k) hN1 hN hcl hk
    have s12 : ∀ k, k < pop 12 laws → ((perms (pop 12 laws) laws).getD code []).getD k 0 < 12 := fun k hk => by
      have hb := (p1 _).mp (getD_mem 0 _ k (by omega))
      rcases Nat.lt_or_ge (((perms (pop 12 laws) laws).getD code []).getD k 0) 12 with q | q
      · exact q
      · rw [bit_ge (n := 12) hl12 q] at hb; cases hb
    have nxt := fold_take (g := fOr (cdOf b0 n0 b1 n1) b (oR (RT t) laws) (oL (LT t b) laws) year 0 []) [] (perms (pop 12 laws) laws) code (0, []) hcl
    rw [← est] at nxt
    generalize hs : (perms (pop 12 laws) laws).getD code [] = s at p1 p2 p3 sat s12 nxt
    rw [b_X10_orderOf_76]; dsimp only
    refine ⟨fun z => absurd z (nI_ge (by omega) (by omega)), fun _ => M_unfolds hN (by omega) fun Y2 k1 k2 => ⟨pop 12 laws + 1, ?_⟩⟩
    have y2 : ∀ q, q ≠ 12 → q ≠ 13 → q ≠ 15 → q ≠ 16 → Y2 q = y1 q := fun q a1 a2 a3 a4 => (k1 q a3).trans (g1 q a1 a2 a3 a4)
    have h15 : ∀ k, k < pop 12 laws → rowF (pop 12 laws) code k < pop 12 laws ∧ Y2 15 k = nI (rowF (pop 12 laws) code k) ∧ Y2 14 (rowF (pop 12 laws) code k) = nI (s.getD k 0) := fun k hk => by
      obtain ⟨q1, q2⟩ := sat k hk
      refine ⟨q2, k2 k hk, ?_⟩
      rw [y2 14 (by omega) (by omega) (by omega) (by omega), h14 _ q2, q1]
    have hR2 : RM R la Y2 := by
      refine ⟨hR.1, fun l hl => ?_⟩
      rw [k1 12 (by omega), k1 13 (by omega)]; exact hR.2 l hl
    refine M_94 (b := b) (R := R) (la := la) (s := s) (row := rowF (pop 12 laws) code) (hb.keep (y2 11 (by omega) (by omega) (by omega) (by omega)) (by rw [y2 0 (by omega) (by omega) (by omega) (by omega)])) hN hy p3 s12 h15 (fun Y3 m1 m2 => ⟨pop 12 laws + 1, ?_⟩) (pop 12 laws) 0 Y2 (by omega) (fun _ _ _ => rfl) hR2
    have y3 : ∀ q, q ≠ 12 → q ≠ 13 → q ≠ 15 → q ≠ 16 → Y3 q = y1 q := fun q a1 a2 a3 a4 => (m1 q a1 a2).trans (y2 q a1 a2 a3 a4)
    have hM3 : MC (cdOf b0 n0 b1 n1) Y3 := hM.f ⟨y3 7 (by omega) (by omega) (by omega) (by omega), y3 8 (by omega) (by omega) (by omega) (by omega), y3 9 (by omega) (by omega) (by omega) (by omega)⟩
    have eJ : jqF (cdOf b0 n0 b1 n1) b (oR (RT t) laws) (oL (LT t b) laws) year s = sumTo (pop 12 laws) (fun k => joyN (cdOf b0 n0 b1 n1) (bindsN (cdOf b0 n0 b1 n1) (RQ R year s) (LQ b la year s) (year + k) 0)) := by
      rw [J_eq s _ _ _ p2 (fun x hx => by unfold oR; rw [if_pos ((p1 x).mp hx)]), p3]
      refine sumTo_congr fun k _ => ?_
      congr 1
      refine binds_eq fun l _ => ?_
      by_cases e : l ∈ s
      · unfold ba
        rw [RQ_same s (oR (RT t) laws) R year e, LQ_same s (oL (LT t b) laws) la year e]
      · have hbf : laws.testBit l = false := by
          cases q : laws.testBit l with
          | false => rfl
          | true => exact absurd ((p1 l).mpr q) e
        unfold ba
        rw [RQ_out s _ _ e, LQ_out s _ _ e, RQ_out s _ _ e, LQ_out s _ _ e, (hoff l hbf).1, (hoff l hbf).2]
        unfold oR oL
        rw [if_neg (by rw [hbf]; decide), if_neg (by rw [hbf]; decide)]
    have eF : fOr (cdOf b0 n0 b1 n1) b (oR (RT t) laws) (oL (LT t b) laws) year 0 [] st s = stp st (sumTo (pop 12 laws) (fun k => joyN (cdOf b0 n0 b1 n1) (bindsN (cdOf b0 n0 b1 n1) (RQ R year s) (LQ b la year s) (year + k) 0))) s := by
      unfold fOr
      rw [eJ, Nat.zero_add]; rfl
    rw [eF] at nxt
    have hjk : sumTo (pop 12 laws) (fun k => joyN (cdOf b0 n0 b1 n1) (bindsN (cdOf b0 n0 b1 n1) (RQ R year s) (LQ b la year s) (year + k) 0)) ≤ pop 12 laws * 2592 := sumTo_le fun i _ => joyN_le hM.1 _
    have hk4 : pop 12 laws * 2592 ≤ 4 * 2592 := Nat.mul_le_mul_right _ hN
    refine M_150 (s := s) (row := rowF (pop 12 laws) code) hM3 m2 hN hy (fun k hk => ?_) hst (fun z i hi => ?_) (fun Y4 n2 n3 => ?_) (pop 12 laws) 0 (by omega)
    · obtain ⟨q1, q2, q3⟩ := h15 k hk
      rw [m1 15 (by omega) (by omega), m1 14 (by omega) (by omega)]
      exact ⟨q1, q2, q3⟩
    · rw [m1 16 (by omega) (by omega), k1 16 (by omega)]; exact h16 z i hi
    · refine ih (code + 1) _ (RQ R year s) (LQ b la year s) Y4 (by omega) nxt.symm ?_ (fun q a1 a2 a3 a4 => (n2 q a4).trans (y3 q a1 a2 a3 a4)) ?_ (fun a ha => ?_) n3
      · unfold stp
        split
        · show _ + 1 ≤ 20000; omega
        · exact hst
      · refine ⟨m2.1, fun l hl => ?_⟩
        rw [n2 12 (by omega), n2 13 (by omega)]; exact m2.2 l hl
      · have e : a ∉ s := fun z => by have := (p1 a).mp z; rw [ha] at this; cases this
        rw [RQ_out s _ _ e, LQ_out s _ _ e]
        exact hoff a ha
theorem M_orderOf {n0 n1 : Nat} {b0 b1 : Nat → Int32} {t : LG} {y : Mem} (h0 : TX 0 n0 b0 y) (h1 : TX 1 n1 b1 y) (ht : ML 10 11 t y) (hb : ML 11 13 b y) (hM : MC (cdOf b0 n0 b1 n1) y) (hR : RM (RT t) (LT t b) y) (hl : laws < 2 ^ kl (cdOf b0 n0 b1 n1)) (hN1 : 1 ≤ pop 12 laws) (hN : pop 12 laws ≤ 4) (hy : year + pop 12 laws ≤ 30) (hw : w ≤ 4) (hQ : ∀ y', FrQ y y' → MC (cdOf b0 n0 b1 n1) y' → RM (RT t) (LT t b) y' → Qp (ansO (bestO (cdOf b0 n0 b1 n1) b (RT t) (LT t b) laws year) (pop 12 laws) w) y') : p_X10_orderOf y (nI laws) (nI year) (dI w) Qp := by
  have hl12 := kl4096 hM.1 hl
  have hk12 := hM.1.1
  have loop : ∀ (r l : Nat) (Y : Mem), l + r = kl (cdOf b0 n0 b1 n1) → (∀ q, q ≠ 14 → Y q = y q) → (∀ i, i < pop l laws → Y 14 i = nI ((bf laws l 0).getD i 0)) → b_X10_orderOf_6 (r + 1) Y (nI laws) (nI year) (dI w) (nI (pop l laws)) (nI l) Qp := by
    intro r
    induction r with
    | zero =>
      intro l Y hl2 g1 g2
      have : l = kl (cdOf b0 n0 b1 n1) := by omega
      subst this
      have e12 : bf laws 12 0 = bf laws (kl (cdOf b0 n0 b1 n1)) 0 := by
        have := bf_app laws (12 - kl (cdOf b0 n0 b1 n1)) (kl (cdOf b0 n0 b1 n1)) 0
        rw [show kl (cdOf b0 n0 b1 n1) + (12 - kl (cdOf b0 n0 b1 n1)) = 12 by omega, bf_nil (12 - kl (cdOf b0 n0 b1 n1)) (0 + kl (cdOf b0 n0 b1 n1)) (fun i hi => bit_ge hl (by omega)), List.append_nil] at this
        exact this
      have ep : pop (kl (cdOf b0 n0 b1 n1)) laws = pop 12 laws := (pop_kl hM.1 hl).symm
      rw [b_X10_orderOf_6]; dsimp only
      rw [show (0 : Int32).toNatClampNeg = 0 by decide, g1 7 (by omega), hM.2.1, ep]
      refine ⟨vp_in_nI (n := 0) (by omega) (by omega), fun _ => ?_, fun z => absurd (nI_le (Nat.le_refl _) (by omega)) z⟩
      have ecod : (if (3 : Int32) ≤ nI (pop 12 laws) then (if nI (pop 12 laws) = (3 : Int32) then (6 : Int32) else (24 : Int32)) else nI (pop 12 laws)) = nI (perms (pop 12 laws) laws).length := by
        rw [perms_ok hN1 hN]
        unfold rowsOf
        rw [List.length_map]
        obtain e | e | e | e : pop 12 laws = 1 ∨ pop 12 laws = 2 ∨ pop 12 laws = 3 ∨ pop 12 laws = 4 := by omega
        · rw [e]; decide
        · rw [e]; decide
        · rw [e]; decide
        · rw [e]; decide
      unfold b_X10_orderOf_68
      rw [ecod]
      have hf : FrQ y Y := ⟨fun k a1 a2 => g1 k (by omega), by rw [g1 0 (by omega)], by rw [g1 0 (by omega)], by rw [g1 0 (by omega)], by rw [g1 0 (by omega)]⟩
      refine ⟨(perms (pop 12 laws) laws).length + 1, M_76 (st := (0, [])) (h0.q hf) (h1.q hf) (ht.q hf (by omega)) (hb.q hf (by omega)) (hM.f ⟨g1 7 (by omega), g1 8 (by omega), g1 9 (by omega)⟩) hl hN1 hN hy hw (fun i hi => by rw [g2 i (by rw [ep]; exact hi), e12]) (fun y' f' a1 a2 => hQ y' (hf.tr f') a1 a2) _ 0 (RT t) (LT t b) Y (by omega) rfl (Nat.zero_le _) (fun _ _ _ _ _ => rfl) ⟨hR.1, fun l hl => by rw [g1 12 (by omega), g1 13 (by omega)]; exact hR.2 l hl⟩ (fun _ _ => ⟨rfl, rfl⟩) (fun z => absurd rfl z)⟩
    | succ r ih =>
      intro l Y hl2 g1 g2
      have hi := ih (l + 1)
      rw [b_X10_orderOf_6]; dsimp only
      unfold b_X10_orderOf_38
      rw [show (0 : Int32).toNatClampNeg = 0 by decide, g1 7 (by omega), hM.2.1, nI_1 l]
      refine ⟨vp_in_nI (n := 0) (by omega) (by omega), fun z => absurd z (nI_ge (by omega) (by omega)), fun _ => M_isIn (by omega) (by omega) ⟨fun z => ?_, fun z => ?_⟩⟩
      · have z := (b2_0 _).mp z
        have ep : pop (l + 1) laws = pop l laws := by rw [pop, z]; rfl
        have eb : bf laws (l + 1) 0 = bf laws l 0 := by rw [bf_s, z, if_neg (by decide), List.append_nil]
        have := hi Y (by omega) g1 (fun i h => by rw [eb]; exact g2 i (by rw [← ep]; exact h))
        rw [ep] at this
        exact this
      · have z : laws.testBit l = true := by
          cases e : laws.testBit l with
          | true => rfl
          | false => exact absurd ((b2_0 _).mpr e) z
        have ep : pop (l + 1) laws = pop l laws + 1 := by rw [pop, z]; rfl
        have eb : bf laws (l + 1) 0 = bf laws l 0 ++ [l] := by rw [bf_s, z, if_pos rfl]
        have hup := pop_up laws (l + 1) (12 - (l + 1))
        rw [show l + 1 + (12 - (l + 1)) = 12 by omega] at hup
        have hlen := bf_len laws l
        rw [nI_clamp (by omega), nI_1]
        refine ⟨vp_in_nI (by omega) (by omega), ?_⟩
        have := hi (up2 Y 14 (pop l laws) (nI l)) (by omega) (fun q hq => by rw [up2_other _ _ _ hq]; exact g1 q hq) (fun i h => ?_)
        · rw [ep] at this
          exact this
        · rw [up2_row, eb, getD_snoc, hlen]
          by_cases q : i = pop l laws
          · rw [if_pos ⟨rfl, q⟩, if_pos q]
          · rw [if_neg (fun w => q w.2), if_neg q]; exact g2 i (by omega)
  exact ⟨kl (cdOf b0 n0 b1 n1) + 1, loop (kl (cdOf b0 n0 b1 n1)) 0 y (by omega) (fun _ _ => rfl) (fun i hi => absurd hi (Nat.not_lt_zero i))⟩
end OrdM
