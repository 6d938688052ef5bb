/-! Arrays.fill, exactly; and its call in a constructor -/
theorem beq_ne {c k : Nat} (h : c ≠ k) : Nat.beq c k = false := by
  cases e : Nat.beq c k with
  | false => rfl
  | true => exact absurd (Nat.eq_of_beq_eq_true e) h
theorem up2_self (h : Mem) (k j : Nat) (v : Int32) : up2 h k j v k = upd (h k) j v := by simp [up2]
theorem up2_other {k c : Nat} (h : Mem) (j : Nat) (v : Int32) (hc : c ≠ k) : up2 h k j v c = h c := by simp [up2, beq_ne hc]
theorem upR_self (h : Mem) (k : Nat) (f : Nat → Int32) : upR h k f k = f := by simp [upR]
theorem upR_other {k c : Nat} (h : Mem) (f : Nat → Int32) (hc : c ≠ k) : upR h k f c = h c := by simp [upR, beq_ne hc]
theorem upR_upR (h : Mem) (k : Nat) (f f' : Nat → Int32) : upR (upR h k f) k f' = upR h k f' := by
  funext c
  by_cases hc : c = k
  · subst hc; rw [upR_self, upR_self]
  · rw [upR_other _ _ hc, upR_other _ _ hc, upR_other _ _ hc]
theorem up2_upR (h : Mem) (k j : Nat) (v : Int32) (f : Nat → Int32) : up2 (upR h k f) k j v = upR h k (upd f j v) := by
  rw [← upR_upd, upR_upR, upR_self]
theorem upR_id (h : Mem) (k : Nat) : upR h k (h k) = h := by
  funext c
  by_cases hc : c = k
  · subst hc; rw [upR_self]
  · rw [upR_other _ _ hc]
def fillR (f : Nat → Int32) (n : Nat) (v : Int32) : Nat → Int32 := fun j => if j < n then v else f j
theorem fillR_0 (f : Nat → Int32) (v : Int32) : fillR f 0 v = f := by funext j; simp [fillR]
theorem fillR_succ (f : Nat → Int32) (n : Nat) (v : Int32) : upd (fillR f n v) n v = fillR f (n + 1) v := by
  funext j
  unfold upd fillR
  by_cases h : j = n
  · subst h; simp
  · rw [if_neg h]
    by_cases h2 : j < n
    · rw [if_pos h2, if_pos (by omega)]
    · rw [if_neg h2, if_neg (by omega)]
theorem fill_loop {h : Mem} {k kn : Nat} {v : Int32} {Qp : Mem → Prop} (hkn : kn < 2 ^ 31) (hQ : Qp (upR h k (fillR (h k) kn v))) : ∀ d i : Nat, i + d = kn → b_J7_fill_5 (d + 1) (upR h k (fillR (h k) i v)) k kn v (nI i) (nI kn) Qp := by
  intro d
  induction d with
  | zero =>
    intro i hi
    have : i = kn := by omega
    subst this
    simp only [b_J7_fill_5]
    exact ⟨fun _ => hQ, fun c => absurd (nI_le (Nat.le_refl i) hkn) c⟩
  | succ d ih =>
    intro i hi
    have hlt : i < kn := by omega
    rw [b_J7_fill_5]
    refine ⟨fun c => absurd c (nI_ge hlt hkn), fun _ => ⟨vp_in_nI hlt hkn, ?_⟩⟩
    rw [nI_clamp (by omega), up2_upR, fillR_succ, nI_1]
    exact ih (i + 1) (by omega)
theorem fill_spec {h : Mem} {k kn : Nat} {v : Int32} {Qp : Mem → Prop} (hkn : kn < 2 ^ 31) (hQ : Qp (upR h k (fillR (h k) kn v))) : p_J7_fill h k kn v Qp := by
  refine ⟨kn + 1, ?_⟩
  have := fill_loop (h := h) (k := k) (v := v) hkn hQ kn 0 (by omega)
  rw [fillR_0, upR_id] at this
  exact this
section YFill
variable {p : Program} {l : Launch} {e : Env} {R : Room} {s : State} {m : MethodId} {args : Array Value} {below : List Frame} {meth : Method} {c : Code} {H : Heap} {locs : List Loc} {cells slots : Nat} {Q : State → Prop}
variable {cc : ByteArray} {nL pc : Nat} {ls : Array Slot} {rest : List Value} {own : String} {g : Kg} {a0 : Nat} {ws : va_W}
theorem y_fill {q n index : Nat} {cA : ClassId} {f : Nat → Int32} {v : Int32} (C : gC g a0 p s m meth c args cc nL own) (Dy : gD g a0 (ws ++ [(q, .inl (cA, n, .inl f))]) s H locs) (hn31 : n < 2 ^ 31) (ht : g.2.1[0]? = some (cA, .int)) (hcode : Cond.code yJ7_fill_53178 cJ7_fill_53178 4 none ∈ lw_big) (hlk : Cond.methodLink own index yJ7_fill_53178 ∈ lw_big) (hini : Cond.initialized RJ7 ∈ lw_big) (hst : Cond.static yJ7_fill_53178 ∈ lw_big) (hR : 1 ≤ R.frames ∧ 23 ≤ R.locals) (hcl : cells ≤ R.cells ∧ slots ≤ R.slots) (hsz : ls.size = nL) (hW : (rest.map fun v => v.category).sum ≤ 8) (hdg : decode cc pc = .ok (.invokestatic index, 3))
    (kk : ∀ (H1 : Heap) (locs1 : List Loc), gD g a0 (ws ++ [(q, .inl (cA, n, .inl (fillR f n v)))]) s H1 locs1 → W p l e R s m args below meth c H1 locs1 cells slots Q (F0 m (pc + 3) ls rest)) : W p l e R s m args below meth c H locs cells slots Q (F0 m pc ls (.int v :: .ref q :: rest)) := by
  obtain ⟨hP, hD, hS⟩ := Dy
  have hlast : (ws ++ [(q, .inl (cA, n, .inl f))])[ws.length]? = some (q, (.inl (cA, n, .inl f) : va_E)) := by simp
  have hAq : aA a0 s.heap.size q := hD.2 _ _ hlast
  let w : Wd := (g.1, g.2.1, fun h _ => [(q, .inl (cA, n, .inl (h 0)))], fun _ => q, fun x => x = q, [], [])
  have hDw : ∀ (h : Mem) (hl : MemL), va_D (wA w) (wW w h hl) := fun h hl => ⟨fun i j x y hx hy _ => by
      cases i with
      | zero => cases j with
        | zero => rfl
        | succ j => simp [w, wW] at hy
      | succ i => simp [w, wW] at hx, fun k z hk => by
      cases k with
      | zero => cases hk; rfl
      | succ k => simp [w, wW] at hk⟩
  have ia : isIA w 0 n := ⟨cA, ht, fun h hl => ⟨rfl, fun _ => rfl⟩⟩
  have hM := m_J7_fill w l (fun _ => f) (fun _ _ => 0) 0 n ia v (fun h1 => h1 = upR (fun _ => f) 0 (fillR f n v)) (fill_spec (h := fun _ => f) (k := 0) hn31 rfl)
  have hpre : ∀ U : State, U.heap = H → s.WarmedH U.vm → mPc w [.ref q, .int v] (fun _ => f) (fun _ _ => 0) ([.ref q, .int v] : List Value).toArray U := by
    intro U hU hWm
    refine ⟨rfl, ⟨va_K.moved hWm.alike C.st.1, hDw, fun k z hk => by simp [w, wTab] at hk, fun k z hk => by simp [w, wFld] at hk⟩, ?_⟩
    rw [hU]
    intro k z hk
    cases k with
    | zero => cases hk; exact hP _ _ hlast
    | succ k => simp [w, wW] at hk
  have hrun := va_runS (e := e) (meth := meth) (locs := locs) (R := R) (cells := cells) (slots := slots) (below := below) (As := [.ref q, .int v]) (rest := rest) (g := F0 m pc ls (.int v :: .ref q :: rest)) ⟨C.x, C.b, C.ml, C.ow, C.ts⟩ hM ⟨callB_of 2 C.ts (goodU hcode) rfl rfl rfl (C.ts _ hini) (C.ts _ hlk) (by decide +kernel) ⟨hR.1, hR.2⟩, C.ts _ hst⟩ ⟨mPc.blind, hpre⟩ rfl rfl hsz rfl (lv_room hW) hdg hcl
  intro T hT X
  obtain ⟨v', st₀, t, T', L, h0, X', hL, e1', e2, ⟨h1, hl1, hv, ⟨-, hh⟩, hP1, hF⟩, st⟩ := hrun T hT X
  cases hv
  have hin : ∀ (k : Nat) (z : Nat × va_E), ws[k]? = some z → (ws ++ [(q, .inl (cA, n, .inl f))])[k]? = some z := by
    intro k z hk
    have hlt : k < ws.length := by
      rcases Nat.lt_or_ge k ws.length with h | h
      · exact h
      · rw [List.getElem?_eq_none h] at hk; cases hk
    rw [List.getElem?_append_left hlt]; exact hk
  have hoff : ∀ (k : Nat) (z : Nat × va_E), ws[k]? = some z → z.1 < H.size ∧ z.1 ≠ q := by
    intro k z hk
    refine ⟨(hP k z (hin k z hk)).lt, fun h => ?_⟩
    have hk2 := hD.1 k ws.length z _ (hin k z hk) hlast h
    rw [hk2] at hk
    simp at hk
  have hk1 : ∀ x : Nat, x < H.size → x ≠ q → T'.heap[x]? = H[x]? := fun x h1 h2 => by rw [e1', ← h0]; exact hF.2 x (by rw [h0]; exact h1) h2
  have hcell : va_at g.1 clsAll (q, .inl (cA, n, .inl (fillR f n v))) T'.heap := by
    rw [e1']
    have := hP1 0 (q, .inl (cA, n, .inl (h1 0))) rfl
    rw [hh, upR_self] at this
    exact this
  have hg : gD g a0 (ws ++ [(q, .inl (cA, n, .inl (fillR f n v)))]) s T'.heap (locs ++ L) := by
    refine ⟨va_P.app (fun k z hk => (hP k z (hin k z hk)).kept (hk1 z.1 (hoff k z hk).1 (hoff k z hk).2)) (fun k z hk => ?_), ?_, ?_, ?_, ?_⟩
    · cases k with
      | zero => cases hk; exact hcell
      | succ k => simp at hk
    · have hs := hD.set (e := (.inl (cA, n, .inl (fillR f n v)) : va_E)) hlast
      simpa using hs
    · refine Nat.le_trans hS.1 ?_
      have := hF.1
      rw [h0] at this
      rw [e1']; exact this
    · intro x h1 h2
      rw [hk1 x (Nat.lt_of_lt_of_le h1 hS.1) (fun z => h2 (by rw [z]; exact hAq))]
      exact hS.2.1 x h1 h2
    · intro x hx
      rcases List.mem_append.mp hx with h | h
      · exact hS.2.2 x h
      · have := hL x h
        rw [show x.base = q from this]; exact hAq
  obtain ⟨t2, a1', b1⟩ := kk T'.heap (locs ++ L) hg T' rfl X'
  exact ⟨t2, st t2 a1', b1⟩
end YFill
