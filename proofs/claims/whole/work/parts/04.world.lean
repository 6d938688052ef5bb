/-! THE TWO WORLDS: cells of KingsYear (wdX) and of KingsYearModel (wdM), by number; written by a program -/
abbrev xE : Type := va_G × (Nat → Nat) × (Nat → ClassId) × (Nat → Nat)
def xtb (E : xE) : Nat → Nat := E.2.2.2
def isSC (k : Nat) : Prop := k = 1 ∨ k = 4
def isLG (k : Nat) : Prop := k = 21 ∨ k = 24
def isRG (k : Nat) : Prop := k = 27 ∨ k = 29
def isSH (k : Nat) : Prop := k = 47 ∨ k = 49 ∨ k = 51 ∨ k = 53
def isOB (k : Nat) : Prop := k = 16 ∨ k = 17
def tLe (k : Nat) : Nat := bif Nat.beq k 1 then 0 else 2
def tMo (k : Nat) : Nat := bif Nat.beq k 1 then 1 else 3
def lenL (k : Nat) : Nat := bif Nat.beq k 1 then 5 else 3
def lenB (k : Nat) : Nat := bif Nat.beq k 1 then 71 else 47
def lenP (k : Nat) : Nat := bif Nat.beq k 1 then 60 else 36
def tabL : Nat → List Int32 := fun k => match k with
  | 0 => [109, 65, 97, 97, 48]
  | 1 => [110, 70, 120, 120, 57]
  | 2 => [65, 97, 49]
  | 3 => [70, 120, 57]
  | 4 => [0, 3, 29]
  | _ => [0, 8, 20]
def tabF (k j : Nat) : Int32 := (tabL k).getD j 0
def xW (E : xE) (h : Mem) (hl : MemL) : va_W := [
  (E.2.1 0, .inr (9, [.ref (E.2.1 1), .ref (E.2.1 4), .ref (E.2.1 7), .ref (E.2.1 21), .ref (E.2.1 24), .ref (E.2.1 27), .ref (E.2.1 29), .ref (E.2.1 31), .ref (E.2.1 32), .ref (E.2.1 35), .ref (E.2.1 41), .ref (E.2.1 46), .int (h 0 12), .int (h 0 13)])),
  (E.2.1 1, .inr (7, [.ref (xtb E 0), .ref (xtb E 1), .int (h 1 2), .int (h 1 3), .ref (E.2.1 2), .ref (E.2.1 3), .int (h 1 6), .int (h 1 7), .int (h 1 8)])),
  (E.2.1 2, .inl (E.2.2.1 0, 71, .inl (h 2))),
  (E.2.1 3, .inl (E.2.2.1 0, 60, .inl (h 3))),
  (E.2.1 4, .inr (7, [.ref (xtb E 2), .ref (xtb E 3), .int (h 4 2), .int (h 4 3), .ref (E.2.1 5), .ref (E.2.1 6), .int (h 4 6), .int (h 4 7), .int (h 4 8)])),
  (E.2.1 5, .inl (E.2.2.1 0, 47, .inl (h 5))),
  (E.2.1 6, .inl (E.2.2.1 0, 36, .inl (h 6))),
  (E.2.1 7, .inr (0, [.int (h 7 0), .ref (E.2.1 8), .ref (E.2.1 9), .ref (E.2.1 10), .ref (E.2.1 11), .ref (E.2.1 12), .ref (E.2.1 13), .ref (E.2.1 14), .ref (E.2.1 15), .ref (E.2.1 16), .ref (E.2.1 17), .ref (E.2.1 18), .ref (E.2.1 19), .ref (E.2.1 20)])),
  (E.2.1 8, .inl (E.2.2.1 0, 12, .inl (h 8))),
  (E.2.1 9, .inl (E.2.2.1 0, 12, .inl (h 9))),
  (E.2.1 10, .inl (E.2.2.1 0, 12, .inl (h 10))),
  (E.2.1 11, .inl (E.2.2.1 0, 12, .inl (h 11))),
  (E.2.1 12, .inl (E.2.2.1 0, 12, .inl (h 12))),
  (E.2.1 13, .inl (E.2.2.1 0, 12, .inl (h 13))),
  (E.2.1 14, .inl (E.2.2.1 0, 12, .inl (h 14))),
  (E.2.1 15, .inl (E.2.2.1 0, 12, .inl (h 15))),
  (E.2.1 16, .inl (E.2.2.1 0, 144, .inl (h 16))),
  (E.2.1 17, .inl (E.2.2.1 0, 144, .inl (h 17))),
  (E.2.1 18, .inl (E.2.2.1 0, 144, .inl (h 18))),
  (E.2.1 19, .inl (E.2.2.1 0, 24, .inl (h 19))),
  (E.2.1 20, .inl (E.2.2.1 1, 24, .inl (h 20))),
  (E.2.1 21, .inr (4, [.ref (E.2.1 22), .ref (E.2.1 23), .int (h 21 2)])),
  (E.2.1 22, .inl (E.2.2.1 0, 12, .inl (h 22))),
  (E.2.1 23, .inl (E.2.2.1 0, 12, .inl (h 23))),
  (E.2.1 24, .inr (4, [.ref (E.2.1 25), .ref (E.2.1 26), .int (h 24 2)])),
  (E.2.1 25, .inl (E.2.2.1 0, 12, .inl (h 25))),
  (E.2.1 26, .inl (E.2.2.1 0, 12, .inl (h 26))),
  (E.2.1 27, .inr (6, [.ref (E.2.1 28), .int (h 27 1), .int (h 27 2)])),
  (E.2.1 28, .inl (E.2.2.1 0, 12, .inl (h 28))),
  (E.2.1 29, .inr (6, [.ref (E.2.1 30), .int (h 29 1), .int (h 29 2)])),
  (E.2.1 30, .inl (E.2.2.1 0, 12, .inl (h 30))),
  (E.2.1 31, .inr (3, [.int (h 31 0), .int (h 31 1), .int (h 31 2)])),
  (E.2.1 32, .inr (5, [.int (h 32 0), .ref (E.2.1 33), .ref (E.2.1 34)])),
  (E.2.1 33, .inl (E.2.2.1 0, 4, .inl (h 33))),
  (E.2.1 34, .inl (E.2.2.1 0, 4, .inl (h 34))),
  (E.2.1 35, .inr (2, [.ref (E.2.1 36), .ref (E.2.1 37), .int (h 35 2), .int (h 35 3), .ref (E.2.1 38), .int (h 35 5), .int (h 35 6), .ref (E.2.1 39), .ref (E.2.1 40), .int (h 35 9)])),
  (E.2.1 36, .inl (E.2.2.1 0, 8, .inl (h 36))),
  (E.2.1 37, .inl (E.2.2.1 0, 8, .inl (h 37))),
  (E.2.1 38, .inl (E.2.2.1 0, 4096, .inl (h 38))),
  (E.2.1 39, .inl (E.2.2.1 0, 4096, .inl (h 39))),
  (E.2.1 40, .inl (E.2.2.1 0, 8, .inl (h 40))),
  (E.2.1 41, .inr (1, [.long (hl 41 0), .long (hl 41 1), .ref (E.2.1 42), .ref (E.2.1 43), .ref (E.2.1 44), .ref (E.2.1 45)])),
  (E.2.1 42, .inl (E.2.2.1 0, 6, .inl (h 42))),
  (E.2.1 43, .inl (E.2.2.1 0, 6, .inl (h 43))),
  (E.2.1 44, .inl (E.2.2.1 2, 13, .inr (.inl (hl 44)))),
  (E.2.1 45, .inl (E.2.2.1 2, 13, .inr (.inl (hl 45)))),
  (E.2.1 46, .inl (E.2.2.1 3, 4, .inr (.inr (.inr (.inr (fun i => some (E.2.1 (47 + 2 * i)))))))),
  (E.2.1 47, .inr (8, [.ref (E.2.1 48), .int (h 47 1), .int (h 47 2)])),
  (E.2.1 48, .inl (E.2.2.1 0, 60, .inl (h 48))),
  (E.2.1 49, .inr (8, [.ref (E.2.1 50), .int (h 49 1), .int (h 49 2)])),
  (E.2.1 50, .inl (E.2.2.1 0, 60, .inl (h 50))),
  (E.2.1 51, .inr (8, [.ref (E.2.1 52), .int (h 51 1), .int (h 51 2)])),
  (E.2.1 52, .inl (E.2.2.1 0, 60, .inl (h 52))),
  (E.2.1 53, .inr (8, [.ref (E.2.1 54), .int (h 53 1), .int (h 53 2)])),
  (E.2.1 54, .inl (E.2.2.1 0, 60, .inl (h 54)))]
def mW (E : xE) (h : Mem) (_hl : MemL) : va_W := [
  (E.2.1 0, .inr (10, [.ref (E.2.1 1), .ref (E.2.1 2), .ref (E.2.1 3), .ref (E.2.1 4), .int (h 0 4), .ref (E.2.1 5), .ref (E.2.1 6), .int (h 0 7), .ref (E.2.1 7), .ref (E.2.1 8), .ref (E.2.1 9), .int (h 0 11), .ref (E.2.1 10), .int (h 0 13), .ref (E.2.1 11), .ref (E.2.1 12), .ref (E.2.1 13), .int (h 0 17), .ref (E.2.1 14), .ref (E.2.1 15), .ref (E.2.1 16), .int (h 0 21), .ref (E.2.1 17), .ref (E.2.1 18), .int (h 0 24)])),
  (E.2.1 1, .inl (E.2.2.1 0, 4, .inl (h 1))),
  (E.2.1 2, .inl (E.2.2.1 0, 4, .inl (h 2))),
  (E.2.1 3, .inl (E.2.2.1 0, 240, .inl (h 3))),
  (E.2.1 4, .inl (E.2.2.1 0, 60, .inl (h 4))),
  (E.2.1 5, .inl (E.2.2.1 0, 144, .inl (h 5))),
  (E.2.1 6, .inl (E.2.2.1 0, 2, .inl (h 6))),
  (E.2.1 7, .inl (E.2.2.1 0, 2, .inl (h 7))),
  (E.2.1 8, .inl (E.2.2.1 0, 60, .inl (h 8))),
  (E.2.1 9, .inl (E.2.2.1 0, 36, .inl (h 9))),
  (E.2.1 10, .inl (E.2.2.1 0, 24, .inl (h 10))),
  (E.2.1 11, .inl (E.2.2.1 0, 24, .inl (h 11))),
  (E.2.1 12, .inl (E.2.2.1 0, 12, .inl (h 12))),
  (E.2.1 13, .inl (E.2.2.1 0, 12, .inl (h 13))),
  (E.2.1 14, .inl (E.2.2.1 0, 4, .inl (h 14))),
  (E.2.1 15, .inl (E.2.2.1 0, 4, .inl (h 15))),
  (E.2.1 16, .inl (E.2.2.1 0, 4, .inl (h 16))),
  (E.2.1 17, .inl (E.2.2.1 0, 16, .inl (h 17))),
  (E.2.1 18, .inl (E.2.2.1 0, 192, .inl (h 18)))]
def wdX (E : xE) : Wd := (E.1, [(E.2.2.1 0, .int), (E.2.2.1 1, .boolean), (E.2.2.1 2, .long), (E.2.2.1 3, .object "KingsYear$Sheet")], xW E, E.2.1, (fun q => ∃ k, k < 55 ∧ q = E.2.1 k), [(xtb E 0, 5, tabF 0), (xtb E 1, 5, tabF 1), (xtb E 2, 3, tabF 2), (xtb E 3, 3, tabF 3), (xtb E 4, 3, tabF 4), (xtb E 5, 3, tabF 5)], [("KingsYear", "LAW_LEAST", xtb E 0), ("KingsYear", "LAW_MOST", xtb E 1), ("KingsYear", "WANT_LEAST", xtb E 2), ("KingsYear", "WANT_MOST", xtb E 3), ("KingsYear", "DIGEST_YEARS", xtb E 4), ("KingsYear", "DIGEST_HOURS", xtb E 5)])
def wdM (E : xE) : Wd := (E.1, [(E.2.2.1 0, .int)], mW E, E.2.1, (fun q => ∃ k, k < 19 ∧ q = E.2.1 k), [], [])
section Cells
variable {E : xE} {h : Mem} {hl : MemL} {k : Nat}
theorem wx_0 : (wW (wdX E) h hl)[0]? = some (wad (wdX E) 0, .inr (9, [.ref (wad (wdX E) 1), .ref (wad (wdX E) 4), .ref (wad (wdX E) 7), .ref (wad (wdX E) 21), .ref (wad (wdX E) 24), .ref (wad (wdX E) 27), .ref (wad (wdX E) 29), .ref (wad (wdX E) 31), .ref (wad (wdX E) 32), .ref (wad (wdX E) 35), .ref (wad (wdX E) 41), .ref (wad (wdX E) 46), .int (h 0 12), .int (h 0 13)])) := rfl
theorem wx_1 : (wW (wdX E) h hl)[1]? = some (wad (wdX E) 1, .inr (7, [.ref (xtb E 0), .ref (xtb E 1), .int (h 1 2), .int (h 1 3), .ref (wad (wdX E) 2), .ref (wad (wdX E) 3), .int (h 1 6), .int (h 1 7), .int (h 1 8)])) := rfl
theorem wxa_2 : isIA (wdX E) 2 71 := ⟨E.2.2.1 0, rfl, fun _ _ => ⟨rfl, fun _ => rfl⟩⟩
theorem wxa_3 : isIA (wdX E) 3 60 := ⟨E.2.2.1 0, rfl, fun _ _ => ⟨rfl, fun _ => rfl⟩⟩
theorem wx_4 : (wW (wdX E) h hl)[4]? = some (wad (wdX E) 4, .inr (7, [.ref (xtb E 2), .ref (xtb E 3), .int (h 4 2), .int (h 4 3), .ref (wad (wdX E) 5), .ref (wad (wdX E) 6), .int (h 4 6), .int (h 4 7), .int (h 4 8)])) := rfl
theorem wxa_5 : isIA (wdX E) 5 47 := ⟨E.2.2.1 0, rfl, fun _ _ => ⟨rfl, fun _ => rfl⟩⟩
theorem wxa_6 : isIA (wdX E) 6 36 := ⟨E.2.2.1 0, rfl, fun _ _ => ⟨rfl, fun _ => rfl⟩⟩
theorem wx_7 : (wW (wdX E) h hl)[7]? = some (wad (wdX E) 7, .inr (0, [.int (h 7 0), .ref (wad (wdX E) 8), .ref (wad (wdX E) 9), .ref (wad (wdX E) 10), .ref (wad (wdX E) 11), .ref (wad (wdX E) 12), .ref (wad (wdX E) 13), .ref (wad (wdX E) 14), .ref (wad (wdX E) 15), .ref (wad (wdX E) 16), .ref (wad (wdX E) 17), .ref (wad (wdX E) 18), .ref (wad (wdX E) 19), .ref (wad (wdX E) 20)])) := rfl
theorem wxa_8 : isIA (wdX E) 8 12 := ⟨E.2.2.1 0, rfl, fun _ _ => ⟨rfl, fun _ => rfl⟩⟩
theorem wxa_9 : isIA (wdX E) 9 12 := ⟨E.2.2.1 0, rfl, fun _ _ => ⟨rfl, fun _ => rfl⟩⟩
theorem wxa_10 : isIA (wdX E) 10 12 := ⟨E.2.2.1 0, rfl, fun _ _ => ⟨rfl, fun _ => rfl⟩⟩
theorem wxa_11 : isIA (wdX E) 11 12 := ⟨E.2.2.1 0, rfl, fun _ _ => ⟨rfl, fun _ => rfl⟩⟩
theorem wxa_12 : isIA (wdX E) 12 12 := ⟨E.2.2.1 0, rfl, fun _ _ => ⟨rfl, fun _ => rfl⟩⟩
theorem wxa_13 : isIA (wdX E) 13 12 := ⟨E.2.2.1 0, rfl, fun _ _ => ⟨rfl, fun _ => rfl⟩⟩
theorem wxa_14 : isIA (wdX E) 14 12 := ⟨E.2.2.1 0, rfl, fun _ _ => ⟨rfl, fun _ => rfl⟩⟩
theorem wxa_15 : isIA (wdX E) 15 12 := ⟨E.2.2.1 0, rfl, fun _ _ => ⟨rfl, fun _ => rfl⟩⟩
theorem wxa_16 : isIA (wdX E) 16 144 := ⟨E.2.2.1 0, rfl, fun _ _ => ⟨rfl, fun _ => rfl⟩⟩
theorem wxa_17 : isIA (wdX E) 17 144 := ⟨E.2.2.1 0, rfl, fun _ _ => ⟨rfl, fun _ => rfl⟩⟩
theorem wxa_18 : isIA (wdX E) 18 144 := ⟨E.2.2.1 0, rfl, fun _ _ => ⟨rfl, fun _ => rfl⟩⟩
theorem wxa_19 : isIA (wdX E) 19 24 := ⟨E.2.2.1 0, rfl, fun _ _ => ⟨rfl, fun _ => rfl⟩⟩
theorem wxa_20 : isZA (wdX E) 20 24 := ⟨E.2.2.1 1, rfl, fun _ _ => ⟨rfl, fun _ => rfl⟩⟩
theorem wx_21 : (wW (wdX E) h hl)[21]? = some (wad (wdX E) 21, .inr (4, [.ref (wad (wdX E) 22), .ref (wad (wdX E) 23), .int (h 21 2)])) := rfl
theorem wxa_22 : isIA (wdX E) 22 12 := ⟨E.2.2.1 0, rfl, fun _ _ => ⟨rfl, fun _ => rfl⟩⟩
theorem wxa_23 : isIA (wdX E) 23 12 := ⟨E.2.2.1 0, rfl, fun _ _ => ⟨rfl, fun _ => rfl⟩⟩
theorem wx_24 : (wW (wdX E) h hl)[24]? = some (wad (wdX E) 24, .inr (4, [.ref (wad (wdX E) 25), .ref (wad (wdX E) 26), .int (h 24 2)])) := rfl
theorem wxa_25 : isIA (wdX E) 25 12 := ⟨E.2.2.1 0, rfl, fun _ _ => ⟨rfl, fun _ => rfl⟩⟩
theorem wxa_26 : isIA (wdX E) 26 12 := ⟨E.2.2.1 0, rfl, fun _ _ => ⟨rfl, fun _ => rfl⟩⟩
theorem wx_27 : (wW (wdX E) h hl)[27]? = some (wad (wdX E) 27, .inr (6, [.ref (wad (wdX E) 28), .int (h 27 1), .int (h 27 2)])) := rfl
theorem wxa_28 : isIA (wdX E) 28 12 := ⟨E.2.2.1 0, rfl, fun _ _ => ⟨rfl, fun _ => rfl⟩⟩
theorem wx_29 : (wW (wdX E) h hl)[29]? = some (wad (wdX E) 29, .inr (6, [.ref (wad (wdX E) 30), .int (h 29 1), .int (h 29 2)])) := rfl
theorem wxa_30 : isIA (wdX E) 30 12 := ⟨E.2.2.1 0, rfl, fun _ _ => ⟨rfl, fun _ => rfl⟩⟩
theorem wx_31 : (wW (wdX E) h hl)[31]? = some (wad (wdX E) 31, .inr (3, [.int (h 31 0), .int (h 31 1), .int (h 31 2)])) := rfl
theorem wx_32 : (wW (wdX E) h hl)[32]? = some (wad (wdX E) 32, .inr (5, [.int (h 32 0), .ref (wad (wdX E) 33), .ref (wad (wdX E) 34)])) := rfl
theorem wxa_33 : isIA (wdX E) 33 4 := ⟨E.2.2.1 0, rfl, fun _ _ => ⟨rfl, fun _ => rfl⟩⟩
theorem wxa_34 : isIA (wdX E) 34 4 := ⟨E.2.2.1 0, rfl, fun _ _ => ⟨rfl, fun _ => rfl⟩⟩
theorem wx_35 : (wW (wdX E) h hl)[35]? = some (wad (wdX E) 35, .inr (2, [.ref (wad (wdX E) 36), .ref (wad (wdX E) 37), .int (h 35 2), .int (h 35 3), .ref (wad (wdX E) 38), .int (h 35 5), .int (h 35 6), .ref (wad (wdX E) 39), .ref (wad (wdX E) 40), .int (h 35 9)])) := rfl
theorem wxa_36 : isIA (wdX E) 36 8 := ⟨E.2.2.1 0, rfl, fun _ _ => ⟨rfl, fun _ => rfl⟩⟩
theorem wxa_37 : isIA (wdX E) 37 8 := ⟨E.2.2.1 0, rfl, fun _ _ => ⟨rfl, fun _ => rfl⟩⟩
theorem wxa_38 : isIA (wdX E) 38 4096 := ⟨E.2.2.1 0, rfl, fun _ _ => ⟨rfl, fun _ => rfl⟩⟩
theorem wxa_39 : isIA (wdX E) 39 4096 := ⟨E.2.2.1 0, rfl, fun _ _ => ⟨rfl, fun _ => rfl⟩⟩
theorem wxa_40 : isIA (wdX E) 40 8 := ⟨E.2.2.1 0, rfl, fun _ _ => ⟨rfl, fun _ => rfl⟩⟩
theorem wx_41 : (wW (wdX E) h hl)[41]? = some (wad (wdX E) 41, .inr (1, [.long (hl 41 0), .long (hl 41 1), .ref (wad (wdX E) 42), .ref (wad (wdX E) 43), .ref (wad (wdX E) 44), .ref (wad (wdX E) 45)])) := rfl
theorem wxa_42 : isIA (wdX E) 42 6 := ⟨E.2.2.1 0, rfl, fun _ _ => ⟨rfl, fun _ => rfl⟩⟩
theorem wxa_43 : isIA (wdX E) 43 6 := ⟨E.2.2.1 0, rfl, fun _ _ => ⟨rfl, fun _ => rfl⟩⟩
theorem wxa_44 : isLA (wdX E) 44 13 := ⟨E.2.2.1 2, rfl, fun _ _ => ⟨rfl, fun _ _ => rfl⟩⟩
theorem wxa_45 : isLA (wdX E) 45 13 := ⟨E.2.2.1 2, rfl, fun _ _ => ⟨rfl, fun _ _ => rfl⟩⟩
theorem wx_47 : (wW (wdX E) h hl)[47]? = some (wad (wdX E) 47, .inr (8, [.ref (wad (wdX E) 48), .int (h 47 1), .int (h 47 2)])) := rfl
theorem wxa_48 : isIA (wdX E) 48 60 := ⟨E.2.2.1 0, rfl, fun _ _ => ⟨rfl, fun _ => rfl⟩⟩
theorem wx_49 : (wW (wdX E) h hl)[49]? = some (wad (wdX E) 49, .inr (8, [.ref (wad (wdX E) 50), .int (h 49 1), .int (h 49 2)])) := rfl
theorem wxa_50 : isIA (wdX E) 50 60 := ⟨E.2.2.1 0, rfl, fun _ _ => ⟨rfl, fun _ => rfl⟩⟩
theorem wx_51 : (wW (wdX E) h hl)[51]? = some (wad (wdX E) 51, .inr (8, [.ref (wad (wdX E) 52), .int (h 51 1), .int (h 51 2)])) := rfl
theorem wxa_52 : isIA (wdX E) 52 60 := ⟨E.2.2.1 0, rfl, fun _ _ => ⟨rfl, fun _ => rfl⟩⟩
theorem wx_53 : (wW (wdX E) h hl)[53]? = some (wad (wdX E) 53, .inr (8, [.ref (wad (wdX E) 54), .int (h 53 1), .int (h 53 2)])) := rfl
theorem wxa_54 : isIA (wdX E) 54 60 := ⟨E.2.2.1 0, rfl, fun _ _ => ⟨rfl, fun _ => rfl⟩⟩
theorem wm_0 : (wW (wdM E) h hl)[0]? = some (wad (wdM E) 0, .inr (10, [.ref (wad (wdM E) 1), .ref (wad (wdM E) 2), .ref (wad (wdM E) 3), .ref (wad (wdM E) 4), .int (h 0 4), .ref (wad (wdM E) 5), .ref (wad (wdM E) 6), .int (h 0 7), .ref (wad (wdM E) 7), .ref (wad (wdM E) 8), .ref (wad (wdM E) 9), .int (h 0 11), .ref (wad (wdM E) 10), .int (h 0 13), .ref (wad (wdM E) 11), .ref (wad (wdM E) 12), .ref (wad (wdM E) 13), .int (h 0 17), .ref (wad (wdM E) 14), .ref (wad (wdM E) 15), .ref (wad (wdM E) 16), .int (h 0 21), .ref (wad (wdM E) 17), .ref (wad (wdM E) 18), .int (h 0 24)])) := rfl
theorem wma_1 : isIA (wdM E) 1 4 := ⟨E.2.2.1 0, rfl, fun _ _ => ⟨rfl, fun _ => rfl⟩⟩
theorem wma_2 : isIA (wdM E) 2 4 := ⟨E.2.2.1 0, rfl, fun _ _ => ⟨rfl, fun _ => rfl⟩⟩
theorem wma_3 : isIA (wdM E) 3 240 := ⟨E.2.2.1 0, rfl, fun _ _ => ⟨rfl, fun _ => rfl⟩⟩
theorem wma_4 : isIA (wdM E) 4 60 := ⟨E.2.2.1 0, rfl, fun _ _ => ⟨rfl, fun _ => rfl⟩⟩
theorem wma_5 : isIA (wdM E) 5 144 := ⟨E.2.2.1 0, rfl, fun _ _ => ⟨rfl, fun _ => rfl⟩⟩
theorem wma_6 : isIA (wdM E) 6 2 := ⟨E.2.2.1 0, rfl, fun _ _ => ⟨rfl, fun _ => rfl⟩⟩
theorem wma_7 : isIA (wdM E) 7 2 := ⟨E.2.2.1 0, rfl, fun _ _ => ⟨rfl, fun _ => rfl⟩⟩
theorem wma_8 : isIA (wdM E) 8 60 := ⟨E.2.2.1 0, rfl, fun _ _ => ⟨rfl, fun _ => rfl⟩⟩
theorem wma_9 : isIA (wdM E) 9 36 := ⟨E.2.2.1 0, rfl, fun _ _ => ⟨rfl, fun _ => rfl⟩⟩
theorem wma_10 : isIA (wdM E) 10 24 := ⟨E.2.2.1 0, rfl, fun _ _ => ⟨rfl, fun _ => rfl⟩⟩
theorem wma_11 : isIA (wdM E) 11 24 := ⟨E.2.2.1 0, rfl, fun _ _ => ⟨rfl, fun _ => rfl⟩⟩
theorem wma_12 : isIA (wdM E) 12 12 := ⟨E.2.2.1 0, rfl, fun _ _ => ⟨rfl, fun _ => rfl⟩⟩
theorem wma_13 : isIA (wdM E) 13 12 := ⟨E.2.2.1 0, rfl, fun _ _ => ⟨rfl, fun _ => rfl⟩⟩
theorem wma_14 : isIA (wdM E) 14 4 := ⟨E.2.2.1 0, rfl, fun _ _ => ⟨rfl, fun _ => rfl⟩⟩
theorem wma_15 : isIA (wdM E) 15 4 := ⟨E.2.2.1 0, rfl, fun _ _ => ⟨rfl, fun _ => rfl⟩⟩
theorem wma_16 : isIA (wdM E) 16 4 := ⟨E.2.2.1 0, rfl, fun _ _ => ⟨rfl, fun _ => rfl⟩⟩
theorem wma_17 : isIA (wdM E) 17 16 := ⟨E.2.2.1 0, rfl, fun _ _ => ⟨rfl, fun _ => rfl⟩⟩
theorem wma_18 : isIA (wdM E) 18 192 := ⟨E.2.2.1 0, rfl, fun _ _ => ⟨rfl, fun _ => rfl⟩⟩
theorem wx_SC (hk : isSC k) : (wW (wdX E) h hl)[k]? = some (wad (wdX E) k, .inr (7, [.ref (xtb E (tLe k)), .ref (xtb E (tMo k)), .int (h k 2), .int (h k 3), .ref (wad (wdX E) (k + 1)), .ref (wad (wdX E) (k + 2)), .int (h k 6), .int (h k 7), .int (h k 8)])) := by rcases hk with rfl | rfl <;> rfl
theorem ia_SCb (hk : isSC k) : isIA (wdX E) (k + 1) (lenB k) := by
  rcases hk with rfl | rfl
  · exact wxa_2
  · exact wxa_5
theorem ia_SCp (hk : isSC k) : isIA (wdX E) (k + 2) (lenP k) := by
  rcases hk with rfl | rfl
  · exact wxa_3
  · exact wxa_6
theorem wx_LG (hk : isLG k) : (wW (wdX E) h hl)[k]? = some (wad (wdX E) k, .inr (4, [.ref (wad (wdX E) (k + 1)), .ref (wad (wdX E) (k + 2)), .int (h k 2)])) := by rcases hk with rfl | rfl <;> rfl
theorem ia_LGy (hk : isLG k) : isIA (wdX E) (k + 1) (12) := by
  rcases hk with rfl | rfl
  · exact wxa_22
  · exact wxa_25
theorem ia_LGl (hk : isLG k) : isIA (wdX E) (k + 2) (12) := by
  rcases hk with rfl | rfl
  · exact wxa_23
  · exact wxa_26
theorem wx_RG (hk : isRG k) : (wW (wdX E) h hl)[k]? = some (wad (wdX E) k, .inr (6, [.ref (wad (wdX E) (k + 1)), .int (h k 1), .int (h k 2)])) := by rcases hk with rfl | rfl <;> rfl
theorem ia_RGt (hk : isRG k) : isIA (wdX E) (k + 1) (12) := by
  rcases hk with rfl | rfl
  · exact wxa_28
  · exact wxa_30
theorem wx_SH (hk : isSH k) : (wW (wdX E) h hl)[k]? = some (wad (wdX E) k, .inr (8, [.ref (wad (wdX E) (k + 1)), .int (h k 1), .int (h k 2)])) := by rcases hk with rfl | rfl | rfl | rfl <;> rfl
theorem ia_SHi (hk : isSH k) : isIA (wdX E) (k + 1) (60) := by
  rcases hk with rfl | rfl | rfl | rfl
  · exact wxa_48
  · exact wxa_50
  · exact wxa_52
  · exact wxa_54
theorem ia_OB (hk : isOB k) : isIA (wdX E) k 144 := by
  rcases hk with rfl | rfl
  · exact wxa_16
  · exact wxa_17
theorem tab_Le (hk : isSC k) : (wTab (wdX E))[tLe k]? = some (xtb E (tLe k), lenL k, tabF (tLe k)) := by rcases hk with rfl | rfl <;> rfl
theorem tab_Mo (hk : isSC k) : (wTab (wdX E))[tMo k]? = some (xtb E (tMo k), lenL k, tabF (tMo k)) := by rcases hk with rfl | rfl <;> rfl
theorem tab_0 : (wTab (wdX E))[0]? = some (xtb E 0, 5, tabF 0) := rfl
theorem fld_0 : (wFld (wdX E))[0]? = some ("KingsYear", "LAW_LEAST", xtb E 0) := rfl
theorem tab_1 : (wTab (wdX E))[1]? = some (xtb E 1, 5, tabF 1) := rfl
theorem fld_1 : (wFld (wdX E))[1]? = some ("KingsYear", "LAW_MOST", xtb E 1) := rfl
theorem tab_2 : (wTab (wdX E))[2]? = some (xtb E 2, 3, tabF 2) := rfl
theorem fld_2 : (wFld (wdX E))[2]? = some ("KingsYear", "WANT_LEAST", xtb E 2) := rfl
theorem tab_3 : (wTab (wdX E))[3]? = some (xtb E 3, 3, tabF 3) := rfl
theorem fld_3 : (wFld (wdX E))[3]? = some ("KingsYear", "WANT_MOST", xtb E 3) := rfl
theorem tab_4 : (wTab (wdX E))[4]? = some (xtb E 4, 3, tabF 4) := rfl
theorem fld_4 : (wFld (wdX E))[4]? = some ("KingsYear", "DIGEST_YEARS", xtb E 4) := rfl
theorem tab_5 : (wTab (wdX E))[5]? = some (xtb E 5, 3, tabF 5) := rfl
theorem fld_5 : (wFld (wdX E))[5]? = some ("KingsYear", "DIGEST_HOURS", xtb E 5) := rfl
end Cells
section XRows2
variable {p : Program} {l : Launch} {e : Env} {R : Room} {s : State} {m : MethodId} {args : Array Value} {below : List Frame} {meth : Method} {c : Code} {H : Heap} {locs : List Loc} {cells slots : Nat} {Q : State → Prop}
variable {cc : ByteArray} {nL pc : Nat} {ls : Array Slot} {rest : List Value} {own : String} {ret : Option FieldType} {w : Wd} {h : Mem} {hl : MemL} {E : xE}
theorem sh_of {i : Int32} {k : Nat} (hg : vp_in i 4) (e : k = 47 + 2 * i.toNatClampNeg) : isSH k := by
  have h4 : i.toNatClampNeg < 4 := Nat.not_le.mp fun q => hg (Or.inr q)
  unfold isSH
  omega
theorem x_aald {i : Int32} (C : mC (wdX E) p s m meth c args cc nL own ret) (Dy : mD (wdX E) h hl s H locs) (hin : vp_in i 4) (hdg : decode cc pc = .ok (.aaload, 1))
    (kk : ∀ k : Nat, k = 47 + 2 * i.toNatClampNeg → W p l e R s m args below meth c H locs cells slots Q (F0 m (pc + 1) ls (.ref (wad (wdX E) k) :: rest))) : W p l e R s m args below meth c H locs cells slots Q (F0 m pc ls (.int i :: .ref (wad (wdX E) 46) :: rest)) :=
  va_aldq (C := "KingsYear$Sheet") (f := fun i => some (E.2.1 (47 + 2 * i))) C.x C.b C.st.1 Dy.1 46 3 rfl rfl hin hdg (kk _ rfl)
theorem x_zast {k n : Nat} {i x : Int32} (C : mC w p s m meth c args cc nL own ret) (Dy : mD w h hl s H locs) (ia : isZA w k n) (hin : vp_in i n) (hv : vp_nar .boolean x = x) (hdg : decode cc pc = .ok (.bastore, 1))
    (kk : ∀ (H1 : Heap) (locs1 : List Loc), mD w (up2 h k i.toNatClampNeg x) hl s H1 locs1 → W p l e R s m args below meth c H1 locs1 cells slots Q (F0 m (pc + 1) ls rest)) : W p l e R s m args below meth c H locs cells slots Q (F0 m pc ls (.int x :: .int i :: .ref (wad w k) :: rest)) := by
  obtain ⟨cA, h1, h2⟩ := ia
  exact va_zast C.x C.b C.st.1 Dy.1 (C.st.2.1 h hl) Dy.2 k 1 (h2 h hl).1 h1 hin hdg (fun H1 locs1 hP _ hS => kk H1 locs1 ⟨by rw [← upR_upd, ← (h2 h hl).2]; rw [hv] at hP; exact hP, hS⟩)
theorem x_copy {k0 k1 n0 n1 index : Nat} {sp dp n : Int32} (C : mC w p s m meth c args cc nL own ret) (Dy : mD w h hl s H locs) (ia0 : isIA w k0 n0) (ia1 : isIA w k1 n1) (g1 : ¬ sp < 0) (g2 : ¬ dp < 0) (g3 : ¬ n < 0) (g4 : sp.toNatClampNeg + n.toNatClampNeg ≤ n0) (g5 : dp.toNatClampNeg + n.toNatClampNeg ≤ n1)
    (hlk : Cond.methodLink own index arraycopyName ∈ lw_big) (hnat : Cond.native arraycopyName ∈ lw_big) (hstat : Cond.static arraycopyName ∈ lw_big) (hini : Cond.initialized "java/lang/System" ∈ lw_big) (hsz : ls.size = nL) (hf : 1 ≤ R.frames) (hlo : (rest.map fun v => v.category).sum + (nativeFrameWords "java/lang/System" "arraycopy" 5 + 11) ≤ R.locals) (hdg : decode cc pc = .ok (.invokestatic index, 3))
    (kk : ∀ (H1 : Heap) (locs1 : List Loc), mD w (upR h k1 (va_cpy (h k0) (h k1) sp.toNatClampNeg dp.toNatClampNeg n.toNatClampNeg)) hl s H1 locs1 → W p l e R s m args below meth c H1 locs1 cells slots Q (F0 m (pc + 3) ls rest)) : W p l e R s m args below meth c H locs cells slots Q (F0 m pc ls (.int n :: .int dp :: .ref (wad w k1) :: .int sp :: .ref (wad w k0) :: rest)) := by
  obtain ⟨c0, h1, h2⟩ := ia0
  obtain ⟨c1, h3, h4⟩ := ia1
  exact va_copyi C.x C.b (C.ml.trans hsz.symm) C.ow (C.ts _ hlk) (C.ts _ hnat) (C.ts _ hstat) (C.ts _ hini) C.st.1 Dy.1 (C.st.2.1 h hl) Dy.2 k0 k1 0 0 (h2 h hl).1 (h4 h hl).1 h1 h3 rfl g1 g2 g3 g4 g5 (fun _ _ => rfl) hf hlo hdg (fun H1 locs1 hP _ hS => kk H1 locs1 ⟨by rw [← (h4 h hl).2]; exact hP, hS⟩)
end XRows2
theorem u_X0 : ∀ x ∈ u_ws RX0 TX0 14, x ∈ lw_big := by decide +kernel
theorem u_X1 : ∀ x ∈ u_ws RX1 TX1 6, x ∈ lw_big := by decide +kernel
theorem u_X2 : ∀ x ∈ u_ws RX2 TX2 10, x ∈ lw_big := by decide +kernel
theorem u_X3 : ∀ x ∈ u_ws RX3 TX3 3, x ∈ lw_big := by decide +kernel
theorem u_X4 : ∀ x ∈ u_ws RX4 TX4 3, x ∈ lw_big := by decide +kernel
theorem u_X5 : ∀ x ∈ u_ws RX5 TX5 3, x ∈ lw_big := by decide +kernel
theorem u_X6 : ∀ x ∈ u_ws RX6 TX6 3, x ∈ lw_big := by decide +kernel
theorem u_X7 : ∀ x ∈ u_ws RX7 TX7 9, x ∈ lw_big := by decide +kernel
theorem u_X8 : ∀ x ∈ u_ws RX8 TX8 3, x ∈ lw_big := by decide +kernel
theorem u_X9 : ∀ x ∈ u_ws RX9 TX9 14, x ∈ lw_big := by decide +kernel
theorem u_X10 : ∀ x ∈ u_ws RX10 TX10 25, x ∈ lw_big := by decide +kernel
