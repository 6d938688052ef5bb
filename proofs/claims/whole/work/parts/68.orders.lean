/-! PURE: orders in which laws are tried -/
def pfl (P : Nat → List (List Nat)) (left : Nat) : Nat → Nat → List (List Nat)
  | 0, _ => []
  | r + 1, j => (if left.testBit j = true then (P (sd left (2 ^ j))).map (fun q => j :: q) else []) ++ pfl P left r (j + 1)
/-- all rows of k laws, the least first -/
def perms : Nat → Nat → List (List Nat)
  | 0, _ => [[]]
  | k + 1, left => pfl (perms k) left 12 0
theorem mem_pfl {P : Nat → List (List Nat)} {left : Nat} {q : List Nat} : ∀ r j, q ∈ pfl P left r j → ∃ a q', j ≤ a ∧ a < j + r ∧ left.testBit a = true ∧ q = a :: q' ∧ q' ∈ P (sd left (2 ^ a)) := by
  intro r
  induction r with
  | zero => intro j h; exact absurd h (by simp [pfl])
  | succ r ih =>
    intro j h
    rw [pfl, List.mem_append] at h
    rcases h with h | h
    · by_cases e : left.testBit j = true
      · rw [if_pos e, List.mem_map] at h
        obtain ⟨q', h1, h2⟩ := h
        exact ⟨j, q', by omega, by omega, e, h2.symm, h1⟩
      · rw [if_neg e] at h; exact absurd h (by simp)
    · obtain ⟨a, q', a1, a2, a3⟩ := ih (j + 1) h
      exact ⟨a, q', by omega, by omega, a3⟩
theorem pop_sd {left law : Nat} (hb : left.testBit law = true) : ∀ n, law < n → pop n (sd left (2 ^ law)) + 1 = pop n left := by
  intro n
  induction n with
  | zero => intro h; omega
  | succ n ih =>
    intro h
    rw [pop, pop, sd_bit, bit2]
    by_cases e : law = n
    · subst e
      rw [pop_congr (b := left) (fun i hi => by rw [sd_bit, bit2, decide_eq_false (show ¬ law = i by omega)]; simp), hb]
      simp
    · rw [← ih (by omega), decide_eq_false e]; simp; omega
theorem pop_0 {m : Nat} (hm : m < 4096) : pop 12 m = 0 ↔ m = 0 := by64 (P := fun m => pop 12 m = 0 ↔ m = 0) pop0_64 hm
theorem perm_spec : ∀ (k left : Nat) (q : List Nat), left < 4096 → pop 12 left = k → q ∈ perms k left → (∀ x, x ∈ q ↔ left.testBit x = true) ∧ q.Nodup ∧ q.length = k := by
  intro k
  induction k with
  | zero =>
    intro left q hl hp hq
    have : left = 0 := (pop_0 hl).mp hp
    subst this
    rw [perms, List.mem_singleton] at hq
    subst hq
    refine ⟨fun x => ?_, List.nodup_nil, rfl⟩
    simp
  | succ k ih =>
    intro left q hl hp hq
    obtain ⟨a, q', a1, a2, a3, a4, a5⟩ := mem_pfl 12 0 hq
    have hs : sd left (2 ^ a) < 4096 := sd_lt (n := 12) hl
    have hp' := pop_sd a3 12 (by omega)
    obtain ⟨b1, b2, b3⟩ := ih (sd left (2 ^ a)) q' hs (by omega) a5
    subst a4
    refine ⟨fun x => ?_, ?_, by rw [List.length_cons, b3]⟩
    · rw [List.mem_cons, b1 x, bit_sd2]
      constructor
      · rintro (e | ⟨e, -⟩)
        · rw [e]; exact a3
        · exact e
      · intro e
        by_cases z : x = a
        · exact Or.inl z
        · exact Or.inr ⟨e, z⟩
    · rw [List.nodup_cons]
      refine ⟨fun z => ?_, b2⟩
      have := (b1 a).mp z
      rw [bit_sd2] at this
      exact this.2 rfl
def uR (R : Nat → Nat) (l y : Nat) : Nat → Nat := fun a => if a = l then y + 1 else R a
def uM (la : Nat → Bool) (b : LG) (l y : Nat) : Nat → Bool := fun a => if a = l then hB b y l b.1 else la a
def jqF (c : CD) (b : LG) : (Nat → Nat) → (Nat → Bool) → Nat → List Nat → Nat
  | _, _, _, [] => 0
  | R, la, y, a :: q => joyN c (bindsN c (uR R a y) (uM la b a y) y 0) + jqF c b (uR R a y) (uM la b a y) (y + 1) q
def RQ : (Nat → Nat) → Nat → List Nat → Nat → Nat
  | R, _, [] => R
  | R, y, a :: q => RQ (uR R a y) (y + 1) q
def LQ (b : LG) : (Nat → Bool) → Nat → List Nat → Nat → Bool
  | la, _, [] => la
  | la, y, a :: q => LQ b (uM la b a y) (y + 1) q
theorem RQ_out {x : Nat} : ∀ (q : List Nat) (R : Nat → Nat) (y : Nat), x ∉ q → RQ R y q x = R x := by
  intro q
  induction q with
  | nil => intro R y _; rfl
  | cons a q ih =>
    intro R y h
    rw [List.mem_cons, not_or] at h
    rw [RQ, ih _ _ h.2]
    exact if_neg h.1
theorem LQ_out {b : LG} {x : Nat} : ∀ (q : List Nat) (la : Nat → Bool) (y : Nat), x ∉ q → LQ b la y q x = la x := by
  intro q
  induction q with
  | nil => intro la y _; rfl
  | cons a q ih =>
    intro la y h
    rw [List.mem_cons, not_or] at h
    rw [LQ, ih _ _ h.2]
    exact if_neg h.1
theorem RQ_in {x : Nat} : ∀ (q : List Nat) (R : Nat → Nat) (y : Nat), x ∈ q → y + 1 ≤ RQ R y q x ∧ RQ R y q x ≤ y + q.length := by
  intro q
  induction q with
  | nil => intro R y h; exact absurd h (by simp)
  | cons a q ih =>
    intro R y h
    rw [RQ, List.length_cons]
    by_cases e : x ∈ q
    · have := ih (uR R a y) (y + 1) e; omega
    · rw [List.mem_cons] at h
      have hx : x = a := h.resolve_right e
      rw [RQ_out q _ _ e]
      unfold uR
      rw [if_pos hx]; omega
theorem RQ_same {x : Nat} : ∀ (q : List Nat) (R R' : Nat → Nat) (y : Nat), x ∈ q → RQ R y q x = RQ R' y q x := by
  intro q
  induction q with
  | nil => intro R R' y h; exact absurd h (by simp)
  | cons a q ih =>
    intro R R' y h
    rw [RQ, RQ]
    by_cases e : x ∈ q
    · exact ih _ _ _ e
    · rw [List.mem_cons] at h
      have hx : x = a := h.resolve_right e
      rw [RQ_out q _ _ e, RQ_out q _ _ e]
      unfold uR
      rw [if_pos hx, if_pos hx]
theorem LQ_same {b : LG} {x : Nat} : ∀ (q : List Nat) (la la' : Nat → Bool) (y : Nat), x ∈ q → LQ b la y q x = LQ b la' y q x := by
  intro q
  induction q with
  | nil => intro R R' y h; exact absurd h (by simp)
  | cons a q ih =>
    intro R R' y h
    rw [LQ, LQ]
    by_cases e : x ∈ q
    · exact ih _ _ _ e
    · rw [List.mem_cons] at h
      have hx : x = a := h.resolve_right e
      rw [LQ_out q _ _ e, LQ_out q _ _ e]
      unfold uM
      rw [if_pos hx, if_pos hx]
theorem RQ_snoc (a : Nat) : ∀ (q : List Nat) (R : Nat → Nat) (y : Nat), RQ R y (q ++ [a]) = uR (RQ R y q) a (y + q.length) := by
  intro q
  induction q with
  | nil => intro R y; rfl
  | cons d q ih =>
    intro R y
    rw [List.cons_append, RQ, RQ, ih, List.length_cons, show y + 1 + q.length = y + (q.length + 1) by omega]
theorem LQ_snoc {b : LG} (a : Nat) : ∀ (q : List Nat) (la : Nat → Bool) (y : Nat), LQ b la y (q ++ [a]) = uM (LQ b la y q) b a (y + q.length) := by
  intro q
  induction q with
  | nil => intro R y; rfl
  | cons d q ih =>
    intro R y
    rw [List.cons_append, LQ, LQ, ih, List.length_cons, show y + 1 + q.length = y + (q.length + 1) by omega]
theorem binds_eq {c : CD} {R R' : Nat → Nat} {la la' : Nat → Bool} {y : Nat} (h : ∀ l, l < kl c → ba R la y 0 l = ba R' la' y 0 l) : bindsN c R la y 0 = bindsN c R' la' y 0 := by
  unfold bindsN
  refine mk_congr fun l hl => ?_
  rw [if_pos (by omega), if_pos (by omega)]
  exact oneF_congr h 13 l
theorem J_eq {c : CD} {b : LG} : ∀ (q : List Nat) (R : Nat → Nat) (la : Nat → Bool) (y : Nat), q.Nodup → (∀ x, x ∈ q → R x = 0) → jqF c b R la y q = sumTo q.length (fun k => joyN c (bindsN c (RQ R y q) (LQ b la y q) (y + k) 0)) := by
  intro q
  induction q with
  | nil => intro R la y _ _; rfl
  | cons a q ih =>
    intro R la y hn h0
    rw [List.nodup_cons] at hn
    rw [jqF, List.length_cons, RQ, LQ, show q.length + 1 = 1 + q.length by omega, sumTo_split]
    rw [ih (uR R a y) (uM la b a y) (y + 1) hn.2 (fun x hx => by
      unfold uR
      rw [if_neg (fun z => hn.1 (by rw [← z]; exact hx))]
      exact h0 x (List.mem_cons_of_mem _ hx))]
    congr 1
    · show _ = 0 + joyN c (bindsN c (RQ (uR R a y) (y + 1) q) (LQ b (uM la b a y) (y + 1) q) (y + 0) 0)
      rw [Nat.zero_add, Nat.add_zero]
      congr 1
      refine binds_eq fun l hl => ?_
      by_cases e : l ∈ q
      · have h1 := (RQ_in q (uR R a y) (y + 1) e).1
        have h2 : uR R a y l = 0 := by
          unfold uR
          rw [if_neg (fun z => hn.1 (by rw [← z]; exact e))]
          exact h0 l (List.mem_cons_of_mem _ e)
        unfold ba
        rw [h2, decide_eq_false (show ¬ RQ (uR R a y) (y + 1) q l = y + 1 by omega), decide_eq_false (show ¬ RQ (uR R a y) (y + 1) q l < y + 1 by omega)]
        simp
      · unfold ba
        rw [RQ_out q _ _ e, LQ_out q _ _ e]
    · refine sumTo_congr fun k _ => ?_
      rw [show y + 1 + k = y + (1 + k) by omega]
/-- better rows, and of like ones the first -/
def stp (st : Nat × List Nat) (j : Nat) (q : List Nat) : Nat × List Nat := if st.1 ≤ j then (j + 1, q) else st
def fOr (c : CD) (b : LG) (R : Nat → Nat) (la : Nat → Bool) (y joy : Nat) (pre : List Nat) (st : Nat × List Nat) (q : List Nat) : Nat × List Nat := stp st (joy + jqF c b R la y q) (pre ++ q)
theorem fold_cons {c : CD} {b : LG} {R : Nat → Nat} {la : Nat → Bool} {y joy a : Nat} {pre : List Nat} : ∀ (L : List (List Nat)) (st : Nat × List Nat), (L.map (fun q => a :: q)).foldl (fOr c b R la y joy pre) st = L.foldl (fOr c b (uR R a y) (uM la b a y) (y + 1) (joy + joyN c (bindsN c (uR R a y) (uM la b a y) y 0)) (pre ++ [a])) st := by
  intro L
  induction L with
  | nil => intro st; rfl
  | cons q L ih =>
    intro st
    rw [List.map_cons, List.foldl_cons, List.foldl_cons, ih]
    congr 1
    unfold fOr
    rw [jqF, List.append_assoc, Nat.add_assoc]
    rfl
theorem fold_take {α β : Type} {g : β → α → β} (d : α) : ∀ (L : List α) (k : Nat) (s : β), k < L.length → (L.take (k + 1)).foldl g s = g ((L.take k).foldl g s) (L.getD k d) := by
  intro L
  induction L with
  | nil => intro k s h; exact absurd h (Nat.not_lt_zero k)
  | cons a L ih =>
    intro k s h
    cases k with
    | zero => rfl
    | succ k =>
      rw [List.length_cons] at h
      show (L.take (k + 1)).foldl g (g s a) = g ((L.take k).foldl g (g s a)) (L.getD k d)
      exact ih k (g s a) (by omega)
theorem take_snoc {α : Type} (d : α) : ∀ (L : List α) (k : Nat), k < L.length → L.take (k + 1) = L.take k ++ [L.getD k d] := by
  intro L
  induction L with
  | nil => intro k h; exact absurd h (Nat.not_lt_zero k)
  | cons a L ih =>
    intro k h
    cases k with
    | zero => rfl
    | succ k =>
      rw [List.length_cons] at h
      show a :: L.take (k + 1) = a :: (L.take k ++ [L.getD k d])
      rw [ih k (by omega)]
/-! rows by their number -/
def rws : Nat → List (List Nat)
  | 1 => [[0]]
  | 2 => [[0, 1], [1, 0]]
  | 3 => [[0, 1, 2], [0, 2, 1], [1, 0, 2], [1, 2, 0], [2, 0, 1], [2, 1, 0]]
  | 4 => [[0, 1, 2, 3], [0, 1, 3, 2], [0, 2, 1, 3], [0, 2, 3, 1], [0, 3, 1, 2], [0, 3, 2, 1], [1, 0, 2, 3], [1, 0, 3, 2], [1, 2, 0, 3], [1, 2, 3, 0], [1, 3, 0, 2], [1, 3, 2, 0], [2, 0, 1, 3], [2, 0, 3, 1], [2, 1, 0, 3], [2, 1, 3, 0], [2, 3, 0, 1], [2, 3, 1, 0], [3, 0, 1, 2], [3, 0, 2, 1], [3, 1, 0, 2], [3, 1, 2, 0], [3, 2, 0, 1], [3, 2, 1, 0]]
  | _ => []
def dgF (n : Nat) : Nat → Nat → (Nat → Nat) → Nat → Nat
  | 0, _, f => f
  | k + 1, rest, f => dgF n k (rest / (n - k)) (fun i => if i = k then rest % (n - k) else f i)
def insF (n : Nat) : Nat → (Nat → Nat) → Nat → Nat
  | 0, f => f
  | k + 1, f => insF n k (fun j => if k < j ∧ j < n ∧ f k ≤ f j then f j + 1 else f j)
def rowF (n code : Nat) : Nat → Nat := insF n n (dgF n n code (fun _ => 0))
theorem rows_ok : ∀ n, n < 5 → ∀ code, code < (rws n).length → (List.range n).map (rowF n code) = (rws n).getD code [] ∧ ∀ k, k < n → rowF n code k < n := by decide +kernel
/-- the laws of a set from j on, r places -/
def bf (m : Nat) : Nat → Nat → List Nat
  | 0, _ => []
  | r + 1, j => if m.testBit j = true then j :: bf m r (j + 1) else bf m r (j + 1)
theorem bf_app (m b : Nat) : ∀ a j, bf m (a + b) j = bf m a j ++ bf m b (j + a) := by
  intro a
  induction a with
  | zero => intro j; rw [Nat.zero_add]; rfl
  | succ a ih =>
    intro j
    rw [show a + 1 + b = a + b + 1 by omega, bf, bf, ih, show j + 1 + a = j + (a + 1) by omega]
    split <;> rfl
theorem bf_congr {m m' : Nat} : ∀ r j, (∀ i, j ≤ i → i < j + r → m.testBit i = m'.testBit i) → bf m r j = bf m' r j := by
  intro r
  induction r with
  | zero => intro j _; rfl
  | succ r ih =>
    intro j h
    rw [bf, bf, h j (by omega) (by omega), ih (j + 1) (fun i h1 h2 => h i (by omega) (by omega))]
theorem bf_s (m l : Nat) : bf m (l + 1) 0 = bf m l 0 ++ (if m.testBit l = true then [l] else []) := by
  rw [bf_app m 1 l 0, Nat.zero_add]
  rfl
theorem bf_len (m : Nat) : ∀ n, (bf m n 0).length = pop n m := by
  intro n
  induction n with
  | zero => rfl
  | succ n ih =>
    rw [bf_s, List.length_append, ih, pop]
    cases m.testBit n <;> rfl
def pick (P : List Nat → List (List Nat)) : List Nat → List Nat → List (List Nat)
  | _, [] => []
  | pre, a :: rest => (P (pre ++ rest)).map (fun q => a :: q) ++ pick P (pre ++ [a]) rest
def lperm : Nat → List Nat → List (List Nat)
  | 0, _ => [[]]
  | k + 1, l => pick (lperm k) [] l
theorem pfl_pick {P : Nat → List (List Nat)} {P' : List Nat → List (List Nat)} {left : Nat} (hP : ∀ a, a < 12 → left.testBit a = true → P (sd left (2 ^ a)) = P' (bf (sd left (2 ^ a)) 12 0)) : ∀ r j, j + r = 12 → pfl P left r j = pick P' (bf left j 0) (bf left r j) := by
  intro r
  induction r with
  | zero => intro j _; rfl
  | succ r ih =>
    intro j hj
    rw [pfl, ih (j + 1) (by omega), bf_s, bf]
    by_cases e : left.testBit j = true
    · rw [if_pos e, if_pos e, if_pos e, hP j (by omega) e]
      have h1 : bf (sd left (2 ^ j)) 12 0 = bf left j 0 ++ bf left r (j + 1) := by
        have h2 := bf_app (sd left (2 ^ j)) (r + 1) j 0
        have h5 : bf (sd left (2 ^ j)) (r + 1) j = bf (sd left (2 ^ j)) r (j + 1) := by
          rw [bf, if_neg (by rw [sd_bit, bit2]; simp)]
        rw [hj, Nat.zero_add, h5] at h2
        rw [h2, bf_congr (m' := left) j 0 (fun i h3 h4 => by rw [sd_bit, bit2, decide_eq_false (show ¬ j = i by omega)]; simp), bf_congr (m' := left) r (j + 1) (fun i h3 h4 => by rw [sd_bit, bit2, decide_eq_false (show ¬ j = i by omega)]; simp)]
      rw [h1]
      rfl
    · rw [if_neg e, if_neg e, if_neg e, List.append_nil]
      rfl
theorem perms_l : ∀ k left, perms k left = lperm k (bf left 12 0) := by
  intro k
  induction k with
  | zero => intro left; rfl
  | succ k ih =>
    intro left
    rw [perms, lperm, pfl_pick (P' := lperm k) (fun a _ _ => ih _) 12 0 rfl]
    rfl
def rowsOf (m : Nat) : List (List Nat) := (rws (pop 12 m)).map (fun r => r.map (fun i => (bf m 12 0).getD i 0))
theorem perms_ok {m : Nat} (h1 : 1 ≤ pop 12 m) (h4 : pop 12 m ≤ 4) : perms (pop 12 m) m = rowsOf m := by
  rw [perms_l]
  unfold rowsOf
  have hl := bf_len m 12
  generalize bf m 12 0 = L at hl ⊢
  rw [← hl] at h1 h4 ⊢
  match L, h1, h4 with
  | [a], _, _ => rfl
  | [a, b], _, _ => rfl
  | [a, b, c], _, _ => rfl
  | [a, b, c, d], _, _ => rfl
  | a :: b :: c :: d :: e :: L, _, h => simp at h
