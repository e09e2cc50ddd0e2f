/-! THE REGIONS: component (73 regions) and model -/
def rv (ad : Nat → Nat) (x : Int32) : Value := if x = 0 then .null else .ref (ad x.toNatClampNeg)
def fsX0 (ad : Nat → Nat) (k : Nat) (r : Nat → Int32) (g : Nat → Int64) : List Value := [.ref (ad (k + 1)), .ref (ad (k + 2)), .ref (ad (k + 3)), .ref (ad (k + 4)), .ref (ad (k + 5)), .ref (ad (k + 6)), .ref (ad (k + 7)), .int (r 7), .int (r 8), .int (r 9), .int (r 10), .int (r 11), .int (r 12)]
def fsX1 (ad : Nat → Nat) (k : Nat) (r : Nat → Int32) (g : Nat → Int64) : List Value := [.ref (ad (k + 1)), .ref (ad (k + 2)), .ref (ad (k + 3)), .ref (ad (k + 4)), .ref (ad (k + 5)), .ref (ad (k + 6)), .ref (ad (k + 7)), .ref (ad (k + 8)), .ref (ad (k + 9)), .ref (ad (k + 10)), rv ad (r 10), .int (r 11), .int (r 12), .int (r 13)]
def fsX2 (ad : Nat → Nat) (k : Nat) (r : Nat → Int32) (g : Nat → Int64) : List Value := [.ref (ad (k + 1)), .int (r 1), .int (r 2)]
def fsX3 (ad : Nat → Nat) (k : Nat) (r : Nat → Int32) (g : Nat → Int64) : List Value := [.ref (ad (k + 1)), .int (r 1), .int (r 2), .int (r 3), .int (r 4), .int (r 5), rv ad (r 6)]
def fsX4 (ad : Nat → Nat) (k : Nat) (r : Nat → Int32) (g : Nat → Int64) : List Value := [.ref (ad (k + 1)), .ref (ad (k + 2)), .ref (ad (k + 3)), .int (r 3)]
def fsX5 (ad : Nat → Nat) (k : Nat) (r : Nat → Int32) (g : Nat → Int64) : List Value := [.ref (ad 1), .ref (ad 9), .ref (ad 17), .ref (ad 25), .ref (ad 36), .ref (ad 38), .ref (ad 63), .ref (ad 72), .int (r 8), .int (r 9)]
def fsX6 (ad : Nat → Nat) (k : Nat) (r : Nat → Int32) (g : Nat → Int64) : List Value := [.int (r 0), .ref (ad 1), .ref (ad 2), .int (r 3), .int (r 4), .ref (ad 3), .int (r 6), .ref (ad 4), .ref (ad 5), .int (r 9), .ref (ad 6), .ref (ad 7), .ref (ad 8), .ref (ad 9), .int (r 14), .int (r 15), .int (r 16), .int (r 17), .int (r 18), .int (r 19), .int (r 20), .int (r 21), .int (r 22), .int (r 23), .int (r 24), .int (r 25), .int (r 26), .int (r 27), .int (r 28), .int (r 29), .long (g 30), .int (r 31), .int (r 32), .int (r 33), .ref (ad 10), .ref (ad 11), .ref (ad 12), .ref (ad 13), .ref (ad 14), .ref (ad 15), .int (r 40), .int (r 41), .ref (ad 16), .ref (ad 17), .ref (ad 18), .int (r 45), .int (r 46), .int (r 47), .int (r 48), .int (r 49), .ref (ad 19), .ref (ad 20), .ref (ad 21), .ref (ad 22)]
def kdC : List Nat := [0, 1, 2, 2, 2, 2, 2, 2, 2, 1, 2, 2, 2, 2, 2, 2, 2, 1, 2, 2, 2, 2, 2, 2, 2, 3, 4, 4, 4, 4, 5, 6, 2, 2, 7, 7, 8, 9, 10, 11, 9, 12, 13, 11, 9, 12, 13, 11, 9, 12, 13, 11, 9, 12, 13, 11, 9, 12, 13, 11, 9, 12, 13, 14, 15, 13, 15, 13, 15, 13, 15, 13, 16]
def cfC : CF := fun cA ad k r g => match kdC.getD k 0 with
  | 0 => .inr (5, fsX5 ad k r g)
  | 1 => .inr (0, fsX0 ad k r g)
  | 2 => .inl (cA 0, 5, .inl r)
  | 3 => .inr (1, fsX1 ad k r g)
  | 4 => .inl (cA 0, 3125, .inl r)
  | 5 => .inl (cA 0, 100, .inl r)
  | 6 => .inl (cA 0, 125, .inl r)
  | 7 => .inl (cA 0, 25, .inl r)
  | 8 => .inr (3, fsX3 ad k r g)
  | 9 => .inl (cA 0, 160, .inl r)
  | 10 => .inl (cA 3, 6, .inr (.inr (.inr (.inr (fun i => some (ad (39 + 4 * i)))))))
  | 11 => .inr (4, fsX4 ad k r g)
  | 12 => .inl (cA 0, 4, .inl r)
  | 13 => .inl (cA 0, 40, .inl r)
  | 14 => .inl (cA 4, 4, .inr (.inr (.inr (.inr (fun i => some (ad (64 + 2 * i)))))))
  | 15 => .inr (2, fsX2 ad k r g)
  | _ => .inl (cA 0, 6, .inl r)
theorem cO_0 : FO cfC 73 0 5 fsX5 := ⟨by decide, fun _ _ _ _ => rfl⟩
theorem cO_1 : FO cfC 73 1 0 fsX0 := ⟨by decide, fun _ _ _ _ => rfl⟩
theorem cI_2 : FI cfC 73 2 5 := ⟨by decide, fun _ _ _ _ => rfl⟩
theorem cI_3 : FI cfC 73 3 5 := ⟨by decide, fun _ _ _ _ => rfl⟩
theorem cI_4 : FI cfC 73 4 5 := ⟨by decide, fun _ _ _ _ => rfl⟩
theorem cI_5 : FI cfC 73 5 5 := ⟨by decide, fun _ _ _ _ => rfl⟩
theorem cI_6 : FI cfC 73 6 5 := ⟨by decide, fun _ _ _ _ => rfl⟩
theorem cI_7 : FI cfC 73 7 5 := ⟨by decide, fun _ _ _ _ => rfl⟩
theorem cI_8 : FI cfC 73 8 5 := ⟨by decide, fun _ _ _ _ => rfl⟩
theorem cO_9 : FO cfC 73 9 0 fsX0 := ⟨by decide, fun _ _ _ _ => rfl⟩
theorem cI_10 : FI cfC 73 10 5 := ⟨by decide, fun _ _ _ _ => rfl⟩
theorem cI_11 : FI cfC 73 11 5 := ⟨by decide, fun _ _ _ _ => rfl⟩
theorem cI_12 : FI cfC 73 12 5 := ⟨by decide, fun _ _ _ _ => rfl⟩
theorem cI_13 : FI cfC 73 13 5 := ⟨by decide, fun _ _ _ _ => rfl⟩
theorem cI_14 : FI cfC 73 14 5 := ⟨by decide, fun _ _ _ _ => rfl⟩
theorem cI_15 : FI cfC 73 15 5 := ⟨by decide, fun _ _ _ _ => rfl⟩
theorem cI_16 : FI cfC 73 16 5 := ⟨by decide, fun _ _ _ _ => rfl⟩
theorem cO_17 : FO cfC 73 17 0 fsX0 := ⟨by decide, fun _ _ _ _ => rfl⟩
theorem cI_18 : FI cfC 73 18 5 := ⟨by decide, fun _ _ _ _ => rfl⟩
theorem cI_19 : FI cfC 73 19 5 := ⟨by decide, fun _ _ _ _ => rfl⟩
theorem cI_20 : FI cfC 73 20 5 := ⟨by decide, fun _ _ _ _ => rfl⟩
theorem cI_21 : FI cfC 73 21 5 := ⟨by decide, fun _ _ _ _ => rfl⟩
theorem cI_22 : FI cfC 73 22 5 := ⟨by decide, fun _ _ _ _ => rfl⟩
theorem cI_23 : FI cfC 73 23 5 := ⟨by decide, fun _ _ _ _ => rfl⟩
theorem cI_24 : FI cfC 73 24 5 := ⟨by decide, fun _ _ _ _ => rfl⟩
theorem cO_25 : FO cfC 73 25 1 fsX1 := ⟨by decide, fun _ _ _ _ => rfl⟩
theorem cI_26 : FI cfC 73 26 3125 := ⟨by decide, fun _ _ _ _ => rfl⟩
theorem cI_27 : FI cfC 73 27 3125 := ⟨by decide, fun _ _ _ _ => rfl⟩
theorem cI_28 : FI cfC 73 28 3125 := ⟨by decide, fun _ _ _ _ => rfl⟩
theorem cI_29 : FI cfC 73 29 3125 := ⟨by decide, fun _ _ _ _ => rfl⟩
theorem cI_30 : FI cfC 73 30 100 := ⟨by decide, fun _ _ _ _ => rfl⟩
theorem cI_31 : FI cfC 73 31 125 := ⟨by decide, fun _ _ _ _ => rfl⟩
theorem cI_32 : FI cfC 73 32 5 := ⟨by decide, fun _ _ _ _ => rfl⟩
theorem cI_33 : FI cfC 73 33 5 := ⟨by decide, fun _ _ _ _ => rfl⟩
theorem cI_34 : FI cfC 73 34 25 := ⟨by decide, fun _ _ _ _ => rfl⟩
theorem cI_35 : FI cfC 73 35 25 := ⟨by decide, fun _ _ _ _ => rfl⟩
theorem cO_36 : FO cfC 73 36 3 fsX3 := ⟨by decide, fun _ _ _ _ => rfl⟩
theorem cI_37 : FI cfC 73 37 160 := ⟨by decide, fun _ _ _ _ => rfl⟩
theorem cQ_38 : FQ cfC 73 38 3 6 (fun i => 39 + 4 * i) := ⟨by decide, fun _ _ _ _ => rfl⟩
theorem cO_39 : FO cfC 73 39 4 fsX4 := ⟨by decide, fun _ _ _ _ => rfl⟩
theorem cI_40 : FI cfC 73 40 160 := ⟨by decide, fun _ _ _ _ => rfl⟩
theorem cI_41 : FI cfC 73 41 4 := ⟨by decide, fun _ _ _ _ => rfl⟩
theorem cI_42 : FI cfC 73 42 40 := ⟨by decide, fun _ _ _ _ => rfl⟩
theorem cO_43 : FO cfC 73 43 4 fsX4 := ⟨by decide, fun _ _ _ _ => rfl⟩
theorem cI_44 : FI cfC 73 44 160 := ⟨by decide, fun _ _ _ _ => rfl⟩
theorem cI_45 : FI cfC 73 45 4 := ⟨by decide, fun _ _ _ _ => rfl⟩
theorem cI_46 : FI cfC 73 46 40 := ⟨by decide, fun _ _ _ _ => rfl⟩
theorem cO_47 : FO cfC 73 47 4 fsX4 := ⟨by decide, fun _ _ _ _ => rfl⟩
theorem cI_48 : FI cfC 73 48 160 := ⟨by decide, fun _ _ _ _ => rfl⟩
theorem cI_49 : FI cfC 73 49 4 := ⟨by decide, fun _ _ _ _ => rfl⟩
theorem cI_50 : FI cfC 73 50 40 := ⟨by decide, fun _ _ _ _ => rfl⟩
theorem cO_51 : FO cfC 73 51 4 fsX4 := ⟨by decide, fun _ _ _ _ => rfl⟩
theorem cI_52 : FI cfC 73 52 160 := ⟨by decide, fun _ _ _ _ => rfl⟩
theorem cI_53 : FI cfC 73 53 4 := ⟨by decide, fun _ _ _ _ => rfl⟩
theorem cI_54 : FI cfC 73 54 40 := ⟨by decide, fun _ _ _ _ => rfl⟩
theorem cO_55 : FO cfC 73 55 4 fsX4 := ⟨by decide, fun _ _ _ _ => rfl⟩
theorem cI_56 : FI cfC 73 56 160 := ⟨by decide, fun _ _ _ _ => rfl⟩
theorem cI_57 : FI cfC 73 57 4 := ⟨by decide, fun _ _ _ _ => rfl⟩
theorem cI_58 : FI cfC 73 58 40 := ⟨by decide, fun _ _ _ _ => rfl⟩
theorem cO_59 : FO cfC 73 59 4 fsX4 := ⟨by decide, fun _ _ _ _ => rfl⟩
theorem cI_60 : FI cfC 73 60 160 := ⟨by decide, fun _ _ _ _ => rfl⟩
theorem cI_61 : FI cfC 73 61 4 := ⟨by decide, fun _ _ _ _ => rfl⟩
theorem cI_62 : FI cfC 73 62 40 := ⟨by decide, fun _ _ _ _ => rfl⟩
theorem cQ_63 : FQ cfC 73 63 4 4 (fun i => 64 + 2 * i) := ⟨by decide, fun _ _ _ _ => rfl⟩
theorem cO_64 : FO cfC 73 64 2 fsX2 := ⟨by decide, fun _ _ _ _ => rfl⟩
theorem cI_65 : FI cfC 73 65 40 := ⟨by decide, fun _ _ _ _ => rfl⟩
theorem cO_66 : FO cfC 73 66 2 fsX2 := ⟨by decide, fun _ _ _ _ => rfl⟩
theorem cI_67 : FI cfC 73 67 40 := ⟨by decide, fun _ _ _ _ => rfl⟩
theorem cO_68 : FO cfC 73 68 2 fsX2 := ⟨by decide, fun _ _ _ _ => rfl⟩
theorem cI_69 : FI cfC 73 69 40 := ⟨by decide, fun _ _ _ _ => rfl⟩
theorem cO_70 : FO cfC 73 70 2 fsX2 := ⟨by decide, fun _ _ _ _ => rfl⟩
theorem cI_71 : FI cfC 73 71 40 := ⟨by decide, fun _ _ _ _ => rfl⟩
theorem cI_72 : FI cfC 73 72 6 := ⟨by decide, fun _ _ _ _ => rfl⟩
def kdM : List Nat := [0, 1, 2, 3, 4, 4, 4, 4, 4, 4, 4, 5, 5, 5, 6, 5, 7, 7, 8, 9, 10, 10, 3]
def cfM : CF := fun cA ad k r g => match kdM.getD k 0 with
  | 0 => .inr (6, fsX6 ad k r g)
  | 1 => .inl (cA 0, 960, .inl r)
  | 2 => .inl (cA 0, 6, .inl r)
  | 3 => .inl (cA 0, 160, .inl r)
  | 4 => .inl (cA 0, 5, .inl r)
  | 5 => .inl (cA 0, 3125, .inl r)
  | 6 => .inl (cA 0, 125, .inl r)
  | 7 => .inl (cA 1, 3125, .inr (.inl g))
  | 8 => .inl (cA 0, 20, .inl r)
  | 9 => .inl (cA 2, 4, .inl r)
  | _ => .inl (cA 0, 4, .inl r)
theorem mO_0 : FO cfM 23 0 6 fsX6 := ⟨by decide, fun _ _ _ _ => rfl⟩
theorem mI_1 : FI cfM 23 1 960 := ⟨by decide, fun _ _ _ _ => rfl⟩
theorem mI_2 : FI cfM 23 2 6 := ⟨by decide, fun _ _ _ _ => rfl⟩
theorem mI_3 : FI cfM 23 3 160 := ⟨by decide, fun _ _ _ _ => rfl⟩
theorem mI_4 : FI cfM 23 4 5 := ⟨by decide, fun _ _ _ _ => rfl⟩
theorem mI_5 : FI cfM 23 5 5 := ⟨by decide, fun _ _ _ _ => rfl⟩
theorem mI_6 : FI cfM 23 6 5 := ⟨by decide, fun _ _ _ _ => rfl⟩
theorem mI_7 : FI cfM 23 7 5 := ⟨by decide, fun _ _ _ _ => rfl⟩
theorem mI_8 : FI cfM 23 8 5 := ⟨by decide, fun _ _ _ _ => rfl⟩
theorem mI_9 : FI cfM 23 9 5 := ⟨by decide, fun _ _ _ _ => rfl⟩
theorem mI_10 : FI cfM 23 10 5 := ⟨by decide, fun _ _ _ _ => rfl⟩
theorem mI_11 : FI cfM 23 11 3125 := ⟨by decide, fun _ _ _ _ => rfl⟩
theorem mI_12 : FI cfM 23 12 3125 := ⟨by decide, fun _ _ _ _ => rfl⟩
theorem mI_13 : FI cfM 23 13 3125 := ⟨by decide, fun _ _ _ _ => rfl⟩
theorem mI_14 : FI cfM 23 14 125 := ⟨by decide, fun _ _ _ _ => rfl⟩
theorem mI_15 : FI cfM 23 15 3125 := ⟨by decide, fun _ _ _ _ => rfl⟩
theorem mL_16 : FL cfM 23 16 3125 := ⟨by decide, fun _ _ _ _ => rfl⟩
theorem mL_17 : FL cfM 23 17 3125 := ⟨by decide, fun _ _ _ _ => rfl⟩
theorem mI_18 : FI cfM 23 18 20 := ⟨by decide, fun _ _ _ _ => rfl⟩
theorem mZ_19 : FZ cfM 23 19 4 := ⟨by decide, fun _ _ _ _ => rfl⟩
theorem mI_20 : FI cfM 23 20 4 := ⟨by decide, fun _ _ _ _ => rfl⟩
theorem mI_21 : FI cfM 23 21 4 := ⟨by decide, fun _ _ _ _ => rfl⟩
theorem mI_22 : FI cfM 23 22 160 := ⟨by decide, fun _ _ _ _ => rfl⟩
def isLot (k : Nat) : Prop := k = 1 ∨ k = 9 ∨ k = 17
theorem lot_1 : isLot 1 := Or.inl rfl
theorem lot_9 : isLot 9 := Or.inr (Or.inl rfl)
theorem lot_17 : isLot 17 := Or.inr (Or.inr rfl)
theorem lot_O {k : Nat} (h : isLot k) : FO cfC 73 k 0 fsX0 := by
  rcases h with rfl | rfl | rfl <;> exact ⟨by decide, fun _ _ _ _ => rfl⟩
theorem lot_I1 {k : Nat} (h : isLot k) : FI cfC 73 (k + 1) 5 := by
  rcases h with rfl | rfl | rfl <;> exact ⟨by decide, fun _ _ _ _ => rfl⟩
theorem lot_I2 {k : Nat} (h : isLot k) : FI cfC 73 (k + 2) 5 := by
  rcases h with rfl | rfl | rfl <;> exact ⟨by decide, fun _ _ _ _ => rfl⟩
theorem lot_I3 {k : Nat} (h : isLot k) : FI cfC 73 (k + 3) 5 := by
  rcases h with rfl | rfl | rfl <;> exact ⟨by decide, fun _ _ _ _ => rfl⟩
theorem lot_I4 {k : Nat} (h : isLot k) : FI cfC 73 (k + 4) 5 := by
  rcases h with rfl | rfl | rfl <;> exact ⟨by decide, fun _ _ _ _ => rfl⟩
theorem lot_I5 {k : Nat} (h : isLot k) : FI cfC 73 (k + 5) 5 := by
  rcases h with rfl | rfl | rfl <;> exact ⟨by decide, fun _ _ _ _ => rfl⟩
theorem lot_I6 {k : Nat} (h : isLot k) : FI cfC 73 (k + 6) 5 := by
  rcases h with rfl | rfl | rfl <;> exact ⟨by decide, fun _ _ _ _ => rfl⟩
theorem lot_I7 {k : Nat} (h : isLot k) : FI cfC 73 (k + 7) 5 := by
  rcases h with rfl | rfl | rfl <;> exact ⟨by decide, fun _ _ _ _ => rfl⟩
def isSh (k : Nat) : Prop := k = 64 ∨ k = 66 ∨ k = 68 ∨ k = 70
theorem sh_O {k : Nat} (h : isSh k) : FO cfC 73 k 2 fsX2 := by
  rcases h with rfl | rfl | rfl | rfl <;> exact ⟨by decide, fun _ _ _ _ => rfl⟩
theorem sh_I1 {k : Nat} (h : isSh k) : FI cfC 73 (k + 1) 40 := by
  rcases h with rfl | rfl | rfl | rfl <;> exact ⟨by decide, fun _ _ _ _ => rfl⟩
theorem inB_lt {i : Int32} {n : Nat} (h : inB i n = true) : ix i < n := by
  unfold inB at h
  rw [Bool.and_eq_true, decide_eq_true_eq, decide_eq_true_eq] at h
  exact h.2
theorem sh_ix {i : Int32} (h : inB i 4 = true) : isSh (64 + 2 * ix i) := by
  have := inB_lt h
  unfold isSh
  omega
def isTx (k : Nat) : Prop := k = 39 ∨ k = 43 ∨ k = 47 ∨ k = 51 ∨ k = 55 ∨ k = 59
theorem tx_O {k : Nat} (h : isTx k) : FO cfC 73 k 4 fsX4 := by
  rcases h with rfl | rfl | rfl | rfl | rfl | rfl <;> exact ⟨by decide, fun _ _ _ _ => rfl⟩
theorem tx_I1 {k : Nat} (h : isTx k) : FI cfC 73 (k + 1) 160 := by
  rcases h with rfl | rfl | rfl | rfl | rfl | rfl <;> exact ⟨by decide, fun _ _ _ _ => rfl⟩
theorem tx_I2 {k : Nat} (h : isTx k) : FI cfC 73 (k + 2) 4 := by
  rcases h with rfl | rfl | rfl | rfl | rfl | rfl <;> exact ⟨by decide, fun _ _ _ _ => rfl⟩
theorem tx_I3 {k : Nat} (h : isTx k) : FI cfC 73 (k + 3) 40 := by
  rcases h with rfl | rfl | rfl | rfl | rfl | rfl <;> exact ⟨by decide, fun _ _ _ _ => rfl⟩
theorem tx_ix {i : Int32} (h : inB i 6 = true) : isTx (39 + 4 * ix i) := by
  have := inB_lt h
  unfold isTx
  omega
theorem tx_39 : isTx 39 := Or.inl rfl
def isTxB (x : Int32) : Bool := x == 39 || x == 43 || x == 47 || x == 51 || x == 55 || x == 59
theorem tx_into {x : Int32} (h : isTxB x = true) : isTx (ix x) := by
  unfold isTxB at h
  simp only [Bool.or_eq_true, beq_iff_eq] at h
  rcases h with ((((rfl | rfl) | rfl) | rfl) | rfl) | rfl <;> (unfold isTx; decide)
theorem tx_rv {x : Int32} {ad : Nat → Nat} (h : isTxB x = true) : rv ad x = .ref (ad (ix x)) := by
  unfold isTxB at h
  simp only [Bool.or_eq_true, beq_iff_eq] at h
  rcases h with ((((rfl | rfl) | rfl) | rfl) | rfl) | rfl <;> rfl
theorem tx_nI {k : Nat} (h : isTx k) (ad : Nat → Nat) : rv ad (nI k) = .ref (ad k) := by
  rcases h with rfl | rfl | rfl | rfl | rfl | rfl <;> rfl
theorem pfX0_7 : ∀ (ad : Nat → Nat) (k : Nat) (r : Nat → Int32) (g : Nat → Int64) (v : Int32), fsX0 ad k (upd r 7 v) g = (fsX0 ad k r g).set 7 (.int v) := fun _ _ _ _ _ => rfl
theorem pfX0_8 : ∀ (ad : Nat → Nat) (k : Nat) (r : Nat → Int32) (g : Nat → Int64) (v : Int32), fsX0 ad k (upd r 8 v) g = (fsX0 ad k r g).set 8 (.int v) := fun _ _ _ _ _ => rfl
theorem pfX0_9 : ∀ (ad : Nat → Nat) (k : Nat) (r : Nat → Int32) (g : Nat → Int64) (v : Int32), fsX0 ad k (upd r 9 v) g = (fsX0 ad k r g).set 9 (.int v) := fun _ _ _ _ _ => rfl
theorem pfX0_10 : ∀ (ad : Nat → Nat) (k : Nat) (r : Nat → Int32) (g : Nat → Int64) (v : Int32), fsX0 ad k (upd r 10 v) g = (fsX0 ad k r g).set 10 (.int v) := fun _ _ _ _ _ => rfl
theorem pfX0_11 : ∀ (ad : Nat → Nat) (k : Nat) (r : Nat → Int32) (g : Nat → Int64) (v : Int32), fsX0 ad k (upd r 11 v) g = (fsX0 ad k r g).set 11 (.int v) := fun _ _ _ _ _ => rfl
theorem pfX0_12 : ∀ (ad : Nat → Nat) (k : Nat) (r : Nat → Int32) (g : Nat → Int64) (v : Int32), fsX0 ad k (upd r 12 v) g = (fsX0 ad k r g).set 12 (.int v) := fun _ _ _ _ _ => rfl
theorem plX0 : ∀ j, j < 13 → ∀ (ad : Nat → Nat) (k : Nat) (r : Nat → Int32) (g : Nat → Int64), j < (fsX0 ad k r g).length := fun j h _ _ _ _ => h
theorem pfX1_11 : ∀ (ad : Nat → Nat) (k : Nat) (r : Nat → Int32) (g : Nat → Int64) (v : Int32), fsX1 ad k (upd r 11 v) g = (fsX1 ad k r g).set 11 (.int v) := fun _ _ _ _ _ => rfl
theorem pfX1_12 : ∀ (ad : Nat → Nat) (k : Nat) (r : Nat → Int32) (g : Nat → Int64) (v : Int32), fsX1 ad k (upd r 12 v) g = (fsX1 ad k r g).set 12 (.int v) := fun _ _ _ _ _ => rfl
theorem pfX1_13 : ∀ (ad : Nat → Nat) (k : Nat) (r : Nat → Int32) (g : Nat → Int64) (v : Int32), fsX1 ad k (upd r 13 v) g = (fsX1 ad k r g).set 13 (.int v) := fun _ _ _ _ _ => rfl
theorem plX1 : ∀ j, j < 14 → ∀ (ad : Nat → Nat) (k : Nat) (r : Nat → Int32) (g : Nat → Int64), j < (fsX1 ad k r g).length := fun j h _ _ _ _ => h
theorem pfX2_1 : ∀ (ad : Nat → Nat) (k : Nat) (r : Nat → Int32) (g : Nat → Int64) (v : Int32), fsX2 ad k (upd r 1 v) g = (fsX2 ad k r g).set 1 (.int v) := fun _ _ _ _ _ => rfl
theorem pfX2_2 : ∀ (ad : Nat → Nat) (k : Nat) (r : Nat → Int32) (g : Nat → Int64) (v : Int32), fsX2 ad k (upd r 2 v) g = (fsX2 ad k r g).set 2 (.int v) := fun _ _ _ _ _ => rfl
theorem plX2 : ∀ j, j < 3 → ∀ (ad : Nat → Nat) (k : Nat) (r : Nat → Int32) (g : Nat → Int64), j < (fsX2 ad k r g).length := fun j h _ _ _ _ => h
theorem pfX3_1 : ∀ (ad : Nat → Nat) (k : Nat) (r : Nat → Int32) (g : Nat → Int64) (v : Int32), fsX3 ad k (upd r 1 v) g = (fsX3 ad k r g).set 1 (.int v) := fun _ _ _ _ _ => rfl
theorem pfX3_2 : ∀ (ad : Nat → Nat) (k : Nat) (r : Nat → Int32) (g : Nat → Int64) (v : Int32), fsX3 ad k (upd r 2 v) g = (fsX3 ad k r g).set 2 (.int v) := fun _ _ _ _ _ => rfl
theorem pfX3_3 : ∀ (ad : Nat → Nat) (k : Nat) (r : Nat → Int32) (g : Nat → Int64) (v : Int32), fsX3 ad k (upd r 3 v) g = (fsX3 ad k r g).set 3 (.int v) := fun _ _ _ _ _ => rfl
theorem pfX3_4 : ∀ (ad : Nat → Nat) (k : Nat) (r : Nat → Int32) (g : Nat → Int64) (v : Int32), fsX3 ad k (upd r 4 v) g = (fsX3 ad k r g).set 4 (.int v) := fun _ _ _ _ _ => rfl
theorem pfX3_5 : ∀ (ad : Nat → Nat) (k : Nat) (r : Nat → Int32) (g : Nat → Int64) (v : Int32), fsX3 ad k (upd r 5 v) g = (fsX3 ad k r g).set 5 (.int v) := fun _ _ _ _ _ => rfl
theorem plX3 : ∀ j, j < 7 → ∀ (ad : Nat → Nat) (k : Nat) (r : Nat → Int32) (g : Nat → Int64), j < (fsX3 ad k r g).length := fun j h _ _ _ _ => h
theorem pfX4_3 : ∀ (ad : Nat → Nat) (k : Nat) (r : Nat → Int32) (g : Nat → Int64) (v : Int32), fsX4 ad k (upd r 3 v) g = (fsX4 ad k r g).set 3 (.int v) := fun _ _ _ _ _ => rfl
theorem plX4 : ∀ j, j < 4 → ∀ (ad : Nat → Nat) (k : Nat) (r : Nat → Int32) (g : Nat → Int64), j < (fsX4 ad k r g).length := fun j h _ _ _ _ => h
theorem pfX5_8 : ∀ (ad : Nat → Nat) (k : Nat) (r : Nat → Int32) (g : Nat → Int64) (v : Int32), fsX5 ad k (upd r 8 v) g = (fsX5 ad k r g).set 8 (.int v) := fun _ _ _ _ _ => rfl
theorem pfX5_9 : ∀ (ad : Nat → Nat) (k : Nat) (r : Nat → Int32) (g : Nat → Int64) (v : Int32), fsX5 ad k (upd r 9 v) g = (fsX5 ad k r g).set 9 (.int v) := fun _ _ _ _ _ => rfl
theorem plX5 : ∀ j, j < 10 → ∀ (ad : Nat → Nat) (k : Nat) (r : Nat → Int32) (g : Nat → Int64), j < (fsX5 ad k r g).length := fun j h _ _ _ _ => h
theorem pfX6_0 : ∀ (ad : Nat → Nat) (k : Nat) (r : Nat → Int32) (g : Nat → Int64) (v : Int32), fsX6 ad k (upd r 0 v) g = (fsX6 ad k r g).set 0 (.int v) := fun _ _ _ _ _ => rfl
theorem pfX6_3 : ∀ (ad : Nat → Nat) (k : Nat) (r : Nat → Int32) (g : Nat → Int64) (v : Int32), fsX6 ad k (upd r 3 v) g = (fsX6 ad k r g).set 3 (.int v) := fun _ _ _ _ _ => rfl
theorem pfX6_4 : ∀ (ad : Nat → Nat) (k : Nat) (r : Nat → Int32) (g : Nat → Int64) (v : Int32), fsX6 ad k (upd r 4 v) g = (fsX6 ad k r g).set 4 (.int v) := fun _ _ _ _ _ => rfl
theorem pfX6_6 : ∀ (ad : Nat → Nat) (k : Nat) (r : Nat → Int32) (g : Nat → Int64) (v : Int32), fsX6 ad k (upd r 6 v) g = (fsX6 ad k r g).set 6 (.int v) := fun _ _ _ _ _ => rfl
theorem pfX6_9 : ∀ (ad : Nat → Nat) (k : Nat) (r : Nat → Int32) (g : Nat → Int64) (v : Int32), fsX6 ad k (upd r 9 v) g = (fsX6 ad k r g).set 9 (.int v) := fun _ _ _ _ _ => rfl
theorem pfX6_14 : ∀ (ad : Nat → Nat) (k : Nat) (r : Nat → Int32) (g : Nat → Int64) (v : Int32), fsX6 ad k (upd r 14 v) g = (fsX6 ad k r g).set 14 (.int v) := fun _ _ _ _ _ => rfl
theorem pfX6_15 : ∀ (ad : Nat → Nat) (k : Nat) (r : Nat → Int32) (g : Nat → Int64) (v : Int32), fsX6 ad k (upd r 15 v) g = (fsX6 ad k r g).set 15 (.int v) := fun _ _ _ _ _ => rfl
theorem pfX6_16 : ∀ (ad : Nat → Nat) (k : Nat) (r : Nat → Int32) (g : Nat → Int64) (v : Int32), fsX6 ad k (upd r 16 v) g = (fsX6 ad k r g).set 16 (.int v) := fun _ _ _ _ _ => rfl
theorem pfX6_17 : ∀ (ad : Nat → Nat) (k : Nat) (r : Nat → Int32) (g : Nat → Int64) (v : Int32), fsX6 ad k (upd r 17 v) g = (fsX6 ad k r g).set 17 (.int v) := fun _ _ _ _ _ => rfl
theorem pfX6_18 : ∀ (ad : Nat → Nat) (k : Nat) (r : Nat → Int32) (g : Nat → Int64) (v : Int32), fsX6 ad k (upd r 18 v) g = (fsX6 ad k r g).set 18 (.int v) := fun _ _ _ _ _ => rfl
theorem pfX6_19 : ∀ (ad : Nat → Nat) (k : Nat) (r : Nat → Int32) (g : Nat → Int64) (v : Int32), fsX6 ad k (upd r 19 v) g = (fsX6 ad k r g).set 19 (.int v) := fun _ _ _ _ _ => rfl
theorem pfX6_20 : ∀ (ad : Nat → Nat) (k : Nat) (r : Nat → Int32) (g : Nat → Int64) (v : Int32), fsX6 ad k (upd r 20 v) g = (fsX6 ad k r g).set 20 (.int v) := fun _ _ _ _ _ => rfl
theorem pfX6_21 : ∀ (ad : Nat → Nat) (k : Nat) (r : Nat → Int32) (g : Nat → Int64) (v : Int32), fsX6 ad k (upd r 21 v) g = (fsX6 ad k r g).set 21 (.int v) := fun _ _ _ _ _ => rfl
theorem pfX6_22 : ∀ (ad : Nat → Nat) (k : Nat) (r : Nat → Int32) (g : Nat → Int64) (v : Int32), fsX6 ad k (upd r 22 v) g = (fsX6 ad k r g).set 22 (.int v) := fun _ _ _ _ _ => rfl
theorem pfX6_23 : ∀ (ad : Nat → Nat) (k : Nat) (r : Nat → Int32) (g : Nat → Int64) (v : Int32), fsX6 ad k (upd r 23 v) g = (fsX6 ad k r g).set 23 (.int v) := fun _ _ _ _ _ => rfl
theorem pfX6_24 : ∀ (ad : Nat → Nat) (k : Nat) (r : Nat → Int32) (g : Nat → Int64) (v : Int32), fsX6 ad k (upd r 24 v) g = (fsX6 ad k r g).set 24 (.int v) := fun _ _ _ _ _ => rfl
theorem pfX6_25 : ∀ (ad : Nat → Nat) (k : Nat) (r : Nat → Int32) (g : Nat → Int64) (v : Int32), fsX6 ad k (upd r 25 v) g = (fsX6 ad k r g).set 25 (.int v) := fun _ _ _ _ _ => rfl
theorem pfX6_26 : ∀ (ad : Nat → Nat) (k : Nat) (r : Nat → Int32) (g : Nat → Int64) (v : Int32), fsX6 ad k (upd r 26 v) g = (fsX6 ad k r g).set 26 (.int v) := fun _ _ _ _ _ => rfl
theorem pfX6_27 : ∀ (ad : Nat → Nat) (k : Nat) (r : Nat → Int32) (g : Nat → Int64) (v : Int32), fsX6 ad k (upd r 27 v) g = (fsX6 ad k r g).set 27 (.int v) := fun _ _ _ _ _ => rfl
theorem pfX6_28 : ∀ (ad : Nat → Nat) (k : Nat) (r : Nat → Int32) (g : Nat → Int64) (v : Int32), fsX6 ad k (upd r 28 v) g = (fsX6 ad k r g).set 28 (.int v) := fun _ _ _ _ _ => rfl
theorem pfX6_29 : ∀ (ad : Nat → Nat) (k : Nat) (r : Nat → Int32) (g : Nat → Int64) (v : Int32), fsX6 ad k (upd r 29 v) g = (fsX6 ad k r g).set 29 (.int v) := fun _ _ _ _ _ => rfl
theorem pfX6_30 : ∀ (ad : Nat → Nat) (k : Nat) (r : Nat → Int32) (g : Nat → Int64) (v : Int64), fsX6 ad k r (vp_updL g 30 v) = (fsX6 ad k r g).set 30 (.long v) := fun _ _ _ _ _ => rfl
theorem pfX6_31 : ∀ (ad : Nat → Nat) (k : Nat) (r : Nat → Int32) (g : Nat → Int64) (v : Int32), fsX6 ad k (upd r 31 v) g = (fsX6 ad k r g).set 31 (.int v) := fun _ _ _ _ _ => rfl
theorem pfX6_32 : ∀ (ad : Nat → Nat) (k : Nat) (r : Nat → Int32) (g : Nat → Int64) (v : Int32), fsX6 ad k (upd r 32 v) g = (fsX6 ad k r g).set 32 (.int v) := fun _ _ _ _ _ => rfl
theorem pfX6_33 : ∀ (ad : Nat → Nat) (k : Nat) (r : Nat → Int32) (g : Nat → Int64) (v : Int32), fsX6 ad k (upd r 33 v) g = (fsX6 ad k r g).set 33 (.int v) := fun _ _ _ _ _ => rfl
theorem pfX6_40 : ∀ (ad : Nat → Nat) (k : Nat) (r : Nat → Int32) (g : Nat → Int64) (v : Int32), fsX6 ad k (upd r 40 v) g = (fsX6 ad k r g).set 40 (.int v) := fun _ _ _ _ _ => rfl
theorem pfX6_41 : ∀ (ad : Nat → Nat) (k : Nat) (r : Nat → Int32) (g : Nat → Int64) (v : Int32), fsX6 ad k (upd r 41 v) g = (fsX6 ad k r g).set 41 (.int v) := fun _ _ _ _ _ => rfl
theorem pfX6_45 : ∀ (ad : Nat → Nat) (k : Nat) (r : Nat → Int32) (g : Nat → Int64) (v : Int32), fsX6 ad k (upd r 45 v) g = (fsX6 ad k r g).set 45 (.int v) := fun _ _ _ _ _ => rfl
theorem pfX6_46 : ∀ (ad : Nat → Nat) (k : Nat) (r : Nat → Int32) (g : Nat → Int64) (v : Int32), fsX6 ad k (upd r 46 v) g = (fsX6 ad k r g).set 46 (.int v) := fun _ _ _ _ _ => rfl
theorem pfX6_47 : ∀ (ad : Nat → Nat) (k : Nat) (r : Nat → Int32) (g : Nat → Int64) (v : Int32), fsX6 ad k (upd r 47 v) g = (fsX6 ad k r g).set 47 (.int v) := fun _ _ _ _ _ => rfl
theorem pfX6_48 : ∀ (ad : Nat → Nat) (k : Nat) (r : Nat → Int32) (g : Nat → Int64) (v : Int32), fsX6 ad k (upd r 48 v) g = (fsX6 ad k r g).set 48 (.int v) := fun _ _ _ _ _ => rfl
theorem pfX6_49 : ∀ (ad : Nat → Nat) (k : Nat) (r : Nat → Int32) (g : Nat → Int64) (v : Int32), fsX6 ad k (upd r 49 v) g = (fsX6 ad k r g).set 49 (.int v) := fun _ _ _ _ _ => rfl
theorem plX6 : ∀ j, j < 54 → ∀ (ad : Nat → Nat) (k : Nat) (r : Nat → Int32) (g : Nat → Int64), j < (fsX6 ad k r g).length := fun j h _ _ _ _ => h
section GGspecial
variable {p : Program} {l : Launch} {e : Env} {R : Room} {s : State} {mt : MethodId} {args : Array Value} {below : List Frame} {meth : Method} {c : Code} {Q : State → Prop} {cc : ByteArray} {own : String} {D : va_G} {cA : Nat → ClassId} {ad : Nat → Nat} {nL nc ns : Nat} {tb : Nat → Nat} {m : MM} {pc : Nat} {lv : List (Nat × Value)} {st : List Value}
theorem g_getLot (C : CX p R s mt args c cc own D cA ad 73 nL nc ns tb) {index : Nat} (hcl : ∀ w ∈ wsX10, w.before args s = true) (hlk : Cond.fieldLink own index RX1 "lot" "LBothHandsFull$Lot;" ∈ WL) (hd : decode cc pc = .ok (.getfield index, 3)) {α : Type} {K : Option α} {z : α} (h : Gu (rI m 25 10 == 17) K = some z) (kk : K = some z → GG p l e R s mt args below meth c Q D cA ad cfC 73 nL nc ns m (pc + 3) lv (.ref (ad 17) :: st)) : GG p l e R s mt args below meth c Q D cA ad cfC 73 nL nc ns m pc lv (.ref (ad 25) :: st) :=
  g_get C (T := TX1) hcl cO_25 rfl (j := 10) (by decide) hlk (v := .ref (ad 17)) (by
    have h0 := eq_of_beq (Gu_inv h).1
    show some (rv ad (m.1 25 10)) = _
    rw [show m.1 25 10 = 17 from h0]
    rfl) hd (kk (Gu_inv h).2)
theorem g_getInto (C : CX p R s mt args c cc own D cA ad 73 nL nc ns tb) {index : Nat} (hcl : ∀ w ∈ wsX30, w.before args s = true) (hlk : Cond.fieldLink own index RX3 "into" "LBothHandsFull$Text;" ∈ WL) (hd : decode cc pc = .ok (.getfield index, 3)) {α : Type} {K : Option α} {z : α} (h : Gu (isTxB (rI m 36 6)) K = some z) (kk : isTxB (rI m 36 6) = true → K = some z → GG p l e R s mt args below meth c Q D cA ad cfC 73 nL nc ns m (pc + 3) lv (.ref (ad (ix (rI m 36 6))) :: st)) : GG p l e R s mt args below meth c Q D cA ad cfC 73 nL nc ns m pc lv (.ref (ad 36) :: st) :=
  g_get C (T := TX3) hcl cO_36 rfl (j := 6) (by decide) hlk (v := .ref (ad (ix (rI m 36 6)))) (by
    have h0 := (Gu_inv h).1
    show some (rv ad (m.1 36 6)) = _
    rw [show m.1 36 6 = rI m 36 6 from rfl, tx_rv h0]) hd (kk (Gu_inv h).1 (Gu_inv h).2)
theorem g_putLot (C : CX p R s mt args c cc own D cA ad 73 nL nc ns tb) {index : Nat} (hcl : ∀ w ∈ wsX10, w.before args s = true) (hlk : Cond.fieldLink own index RX1 "lot" "LBothHandsFull$Lot;" ∈ WL) (hd : decode cc pc = .ok (.putfield index, 3)) {α : Type} {K : MM → Option α} {z : α} (h : Lt (wI m 25 10 17) K = some z) (kk : ∀ m', K m' = some z → GG p l e R s mt args below meth c Q D cA ad cfC 73 nL nc ns m' (pc + 3) lv st) : GG p l e R s mt args below meth c Q D cA ad cfC 73 nL nc ns m pc lv (.ref (ad 17) :: .ref (ad 25) :: st) :=
  g_put C (T := TX1) hcl cO_25 rfl (j := 10) (by decide) hlk tyX1 tyX1_ok nmX1 rfl rfl rfl (m' := wI m 25 10 17) (by rw [wI_at]; rfl) (fun q hq => wI_ne hq) (fun _ _ => rfl) (plX1 10 (by decide) _ _ _ _) hd h kk
theorem g_putInto (C : CX p R s mt args c cc own D cA ad 73 nL nc ns tb) {index k : Nat} (hk : isTx k) (hcl : ∀ w ∈ wsX30, w.before args s = true) (hlk : Cond.fieldLink own index RX3 "into" "LBothHandsFull$Text;" ∈ WL) (hd : decode cc pc = .ok (.putfield index, 3)) {α : Type} {K : MM → Option α} {z : α} (h : Lt (wI m 36 6 (nI k)) K = some z) (kk : ∀ m', K m' = some z → GG p l e R s mt args below meth c Q D cA ad cfC 73 nL nc ns m' (pc + 3) lv st) : GG p l e R s mt args below meth c Q D cA ad cfC 73 nL nc ns m pc lv (.ref (ad k) :: .ref (ad 36) :: st) :=
  g_put C (T := TX3) hcl cO_36 rfl (j := 6) (by decide) hlk tyX3 tyX3_ok nmX3 rfl rfl rfl (m' := wI m 36 6 (nI k)) (by
    rw [wI_at]
    show [_, _, _, _, _, _, rv ad (nI k)] = [_, _, _, _, _, _, .ref (ad k)]
    rw [tx_nI hk]
    rfl) (fun q hq => wI_ne hq) (fun _ _ => rfl) (plX3 6 (by decide) _ _ _ _) hd h kk
end GGspecial
/-! TEXT CONSTANTS: what the walker's rows say of them -/
def strL (q : Nat) : Int32 := Int32.ofNat (stL.getD q 0)
def strB (q i : Nat) : Int32 := (stB.getD q []).getD i 0
theorem st_lt0 : (0 : Nat) < 3 := by decide
theorem st_lt1 : (1 : Nat) < 3 := by decide
theorem st_lt2 : (2 : Nat) < 3 := by decide
def by8 (x : Int32) : Bool := x.toInt8.toInt32 == x
def ch16 (x : Int32) : Bool := (x.toUInt32 % 65536).toInt32 == x
theorem by8_nar {x : Int32} (h : by8 x = true) : narrow .byte (.int x) = .int x := by
  have e := eq_of_beq h
  rw [← e]
  exact pk_nb x
theorem ch16_nar {x : Int32} (h : ch16 x = true) : narrow .char (.int x) = .int x := by
  have e := eq_of_beq h
  rw [← e]
  exact pk_nc x
section GGtext
variable {p : Program} {l : Launch} {e : Env} {R : Room} {s : State} {mt : MethodId} {args : Array Value} {below : List Frame} {meth : Method} {c : Code} {Q : State → Prop} {cc : ByteArray} {own : String} {D : va_G} {cA : Nat → ClassId} {ad : Nat → Nat} {cf : CF} {n nL nc ns : Nat} {tb : Nat → Nat} {m : MM} {pc : Nat} {lv : List (Nat × Value)} {st : List Value}
theorem CX.str (C : CX p R s mt args c cc own D cA ad n nL nc ns tb) : SXs tb (AA ad n s.heap.size) s s.heap := C.2.2.2.2.2.2.2.1.2.2
theorem g_ldcS0 (C : CX p R s mt args c cc "BothHandsFull" D cA ad n nL nc ns tb) (hd : decode cc pc = .ok (.ldc 54, 2)) (k : GG p l e R s mt args below meth c Q D cA ad cf n nL nc ns m (pc + 2) lv (.ref (tb (4 + 0)) :: st)) : GG p l e R s mt args below meth c Q D cA ad cf n nL nc ns m pc lv st :=
  fun H locs ls hP hS hl => va_ldcS C.1 C.2.1 C.2.2.2.1 C.str.2.1.1 hd (k H locs ls hP hS hl)
theorem g_ldcS1 (C : CX p R s mt args c cc "BothHandsFull$Tape" D cA ad n nL nc ns tb) (hd : decode cc pc = .ok (.ldc 73, 2)) (k : GG p l e R s mt args below meth c Q D cA ad cf n nL nc ns m (pc + 2) lv (.ref (tb (4 + 1)) :: st)) : GG p l e R s mt args below meth c Q D cA ad cf n nL nc ns m pc lv st :=
  fun H locs ls hP hS hl => va_ldcS C.1 C.2.1 C.2.2.2.1 C.str.2.1.2.1 hd (k H locs ls hP hS hl)
theorem g_ldcS2 (C : CX p R s mt args c cc "BothHandsFull$Tape" D cA ad n nL nc ns tb) (hd : decode cc pc = .ok (.ldc 84, 2)) (k : GG p l e R s mt args below meth c Q D cA ad cf n nL nc ns m (pc + 2) lv (.ref (tb (4 + 2)) :: st)) : GG p l e R s mt args below meth c Q D cA ad cf n nL nc ns m pc lv st :=
  fun H locs ls hP hS hl => va_ldcS C.1 C.2.1 C.2.2.2.1 C.str.2.1.2.2 hd (k H locs ls hP hS hl)
theorem g_sval (C : CX p R s mt args c cc own D cA ad n nL nc ns tb) {q index : Nat} (hq : q < 3) (hlk : Cond.fieldLink own index "java/lang/String" "value" "[B" ∈ WL) (hd : decode cc pc = .ok (.getfield index, 3)) (k : GG p l e R s mt args below meth c Q D cA ad cf n nL nc ns m (pc + 3) lv (.ref (tb (7 + q)) :: st)) : GG p l e R s mt args below meth c Q D cA ad cf n nL nc ns m pc lv (.ref (tb (4 + q)) :: st) :=
  fun H locs ls hP hS hl => vk_getf C.1 C.2.1 (C.str.1.1 q hq).2.2.1 hS C.2.2.2.1 (C.2.2.2.2.1 _ hlk) (fun _ h => h) hd (k H locs ls hP hS hl)
theorem g_scod (C : CX p R s mt args c cc own D cA ad n nL nc ns tb) {q index : Nat} (hq : q < 3) (hlk : Cond.fieldLink own index "java/lang/String" "coder" "B" ∈ WL) (hd : decode cc pc = .ok (.getfield index, 3)) (k : GG p l e R s mt args below meth c Q D cA ad cf n nL nc ns m (pc + 3) lv (.int 0 :: st)) : GG p l e R s mt args below meth c Q D cA ad cf n nL nc ns m pc lv (.ref (tb (4 + q)) :: st) :=
  fun H locs ls hP hS hl => vk_getf C.1 C.2.1 (C.str.1.1 q hq).2.1 hS C.2.2.2.1 (C.2.2.2.2.1 _ hlk) (fun _ h => h) hd (k H locs ls hP hS hl)
theorem g_scmp (C : CX p R s mt args c cc own D cA ad n nL nc ns tb) {index : Nat} (hlk : Cond.fieldLink own index "java/lang/String" "COMPACT_STRINGS" "Z" ∈ WL) (hd : decode cc pc = .ok (.getstatic index, 3)) (k : GG p l e R s mt args below meth c Q D cA ad cf n nL nc ns m (pc + 3) lv (.int 1 :: st)) : GG p l e R s mt args below meth c Q D cA ad cf n nL nc ns m pc lv st :=
  fun H locs ls hP hS hl => va_gets C.1 C.2.1 C.str.2.2.1 hS C.2.2.2.1 (C.2.2.2.2.1 _ hlk) (fun _ h => h) hd (k H locs ls hP hS hl)
theorem g_ssio (C : CX p R s mt args c cc own D cA ad n nL nc ns tb) {index : Nat} (hlk : Cond.fieldLink own index "jdk/internal/util/Preconditions" "SIOOBE_FORMATTER" "Ljava/util/function/BiFunction;" ∈ WL) (hd : decode cc pc = .ok (.getstatic index, 3)) (k : ∀ o : Option Nat, GG p l e R s mt args below meth c Q D cA ad cf n nL nc ns m (pc + 3) lv (va_rf o :: st)) : GG p l e R s mt args below meth c Q D cA ad cf n nL nc ns m pc lv st := by
  intro H locs ls hP hS hl
  rcases C.str.2.2.2 with h | ⟨t, h⟩
  · exact va_gets C.1 C.2.1 h hS C.2.2.2.1 (C.2.2.2.2.1 _ hlk) (fun _ h => h) hd (k none H locs ls hP hS hl)
  · exact va_gets C.1 C.2.1 h hS C.2.2.2.1 (C.2.2.2.2.1 _ hlk) (fun _ h => h) hd (k (some t) H locs ls hP hS hl)
theorem g_vlen (C : CX p R s mt args c cc own D cA ad n nL nc ns tb) {q : Nat} (hq : q < 3) (hd : decode cc pc = .ok (.arraylength, 1)) (k : GG p l e R s mt args below meth c Q D cA ad cf n nL nc ns m (pc + 1) lv (.int (strL q) :: st)) : GG p l e R s mt args below meth c Q D cA ad cf n nL nc ns m pc lv (.ref (tb (7 + q)) :: st) := by
  intro H locs ls hP hS hl
  obtain ⟨cell, h1, h2, h3, h4, h5, h6, h7⟩ := (C.str.1.1 q hq).2.2.2
  exact W.alen (n := strL q) C.1 C.2.1 (by rw [hS.2.1 _ (Array.getElem?_eq_some_iff.mp h1).1 h7]; exact h1) h2 h5 rfl rfl hd (k H locs ls hP hS hl)
theorem g_vald (C : CX p R s mt args c cc own D cA ad n nL nc ns tb) {q : Nat} (hq : q < 3) {i : Int32} (hd : decode cc pc = .ok (.baload, 1)) {α : Type} {K : Option α} {z : α} (h : Gu (inB i (stL.getD q 0)) K = some z) (k : K = some z → GG p l e R s mt args below meth c Q D cA ad cf n nL nc ns m (pc + 1) lv (.int (strB q (ix i)) :: st)) : GG p l e R s mt args below meth c Q D cA ad cf n nL nc ns m pc lv (.int i :: .ref (tb (7 + q)) :: st) := by
  intro H locs ls hP hS hl
  obtain ⟨cell, h1, h2, h3, h4, h5, h6, h7⟩ := (C.str.1.1 q hq).2.2.2
  have hi := inB_in (Gu_inv h).1
  have hlt : i.toNatClampNeg < stL.getD q 0 := Nat.not_le.mp fun q => hi (Or.inr q)
  exact W.bald (v := .int (strB q (ix i))) C.1 C.2.1 (by rw [hS.2.1 _ (Array.getElem?_eq_some_iff.mp h1).1 h7]; exact h1) h2 h3 (fun q => hi (q.imp_right (fun z => Nat.le_trans h4 z))) (h6 _ hlt) rfl rfl hd (k (Gu_inv h).2 H locs ls hP hS hl)
theorem g_nret (C : CX p R s mt args c cc own D cA ad n nL nc ns tb) {m' : MM} {x : Int32} {ty : FieldType} (hr : meth.sig.returnType = some ty) (hlk : meth.locks = false) (hd : decode cc pc = .ok (.ireturn, 1)) (hz : narrow ty (.int x) = .int x) (hm : m = m') : GG p l e R s mt args below meth c (MQ below (QF D cA ad cf n (some (.int x)) m' s.heap.size) args s nc ns (AA ad n s.heap.size)) D cA ad cf n nL nc ns m pc lv [.int x] := by
  subst hm
  intro H locs ls hP hS hl
  exact W.zret C.1 C.2.1 hr hz (fun t ht hW => ⟨⟨rfl, by rw [ht]; exact hP⟩, hS.F ht⟩) hS.2.2 hd hlk
theorem g_callT {y : MethodName} {bytes : ByteArray} {maxL index np : Nat} {ret : Option FieldType} {rm' : Room} {av : (Nat → Nat) → (Nat → Nat) → List Value} {o : Option Value} {m' : MM} {As rest stk : List Value} (C : CX p R s mt args c cc own D cA ad n nL nc ns tb) (hct : CT l y bytes maxL ret rm' cf n av m o m') {q : Nat} (cw : CallW R s args own "java/lang/String" index y bytes maxL ret (Cond.code y bytes maxL ret :: WL) rm' 0 0 np) (hq : q < 3) (hav : av ad tb = .ref (tb (4 + q)) :: As) (hn : As.length = np) (hst : stk = As.reverse ++ .ref (tb (4 + q)) :: rest) (hsum : (rest.map fun v => v.category).sum ≤ 8) (hd : decode cc pc = .ok (.invokevirtual index, 3)) (kk : GG p l e R s mt args below meth c Q D cA ad cf n nL nc ns m' (pc + 3) lv (o.toList ++ rest)) : GG p l e R s mt args below meth c Q D cA ad cf n nL nc ns m pc lv stk := by
  intro H locs ls hP hS hl
  exact g_ran hS hl (va_runV (As := As) (rest := rest) ⟨C.1, C.2.1, C.2.2.1, C.2.2.2.1, C.2.2.2.2.1⟩ (hct D cA ad tb H.size C.2.2.2.2.2.2.1) cw ⟨g_blind, vk_recv C.str.1 hq hS, fun U hU hW => hav ▸ g_pre C hP hS U hU hW⟩ rfl hn hl.1 hst (lv_room hsum) hd ⟨C.2.2.2.2.2.2.2.2.1, C.2.2.2.2.2.2.2.2.2⟩) kk
end GGtext
