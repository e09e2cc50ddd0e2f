/-! THE COMPONENT'S METHODS AS PURE FUNCTIONS, by program out of the bytecode -/
def f_X5_within  (a0 : Int32) (a1 : Int32) (m : MM) : Option Int32 := if a0 < 0 then some (0 : Int32) else if a1 ≤ a0 then some (0 : Int32) else some (1 : Int32)

def f_X5_roomOf  (a0 : Int32) (a1 : Int32) (m : MM) : Option Int32 := Lt (a1 + (6 : Int32)) fun x2_1 => Lt (x2_1 - (3 : Int32)) fun x3_2 => if a0 = (1 : Int32) then some x3_2 else if a0 = (2 : Int32) then some ((2 : Int32) * x2_1) else if a0 = (3 : Int32) then Gu (nz (2 : Int32)) <| some (x3_2 / (2 : Int32)) else if a0 = (4 : Int32) then some (a1 + (1 : Int32)) else if a0 = (5 : Int32) then some ((2 : Int32) * x2_1) else some x2_1

def f_X0_renumber  (k : Nat) (a0 : Int32) (a1 : Int32) (m : MM) : Option MM := Gu (inB a0 5) <| Lt (wI m (k + 2) (ix a0) a1) fun m1 => Gu (inB a0 5) <| bd1 (f_X5_roomOf (rI m1 (k + 1) (ix a0)) a1 m1) fun r2 => Gu (inB a0 5) <| Lt (wI m1 (k + 3) (ix a0) r2) fun m4 => some m4

def f_X5_hold  (a0 : Int32) (a1 : Int32) (m : MM) : Option (Int32 × MM) := bd1 (f_X5_within a0 (6 : Int32) m) fun r1 => if r1 = 0 then some ((-2 : Int32), m) else bd1 (f_X5_within a1 (10 : Int32) m) fun r3 => if r3 = 0 then some ((-2 : Int32), m) else if (rI m 1 7) < (5 : Int32) then Gu (inB (rI m 1 7) 5) <| Lt (wI m 2 (ix (rI m 1 7)) a0) fun m5 => bd1 (f_X0_renumber 1 (rI m5 1 7) a1 m5) fun m7 => Lt (wI m7 1 7 ((rI m7 1 7) + (1 : Int32))) fun m8 => some (rI m7 1 7, m8) else some ((-4 : Int32), m)

def f_X0_hasHold  (k : Nat) (a0 : Int32) (m : MM) : Option Int32 := bd1 (f_X5_within a0 (rI m k 7) m) fun r1 => Gu (bz r1) <| some r1

def f_X0_refusal_L28 (k : Nat) (a1 : Int32) (m : MM) (K : Int32 → Int32 → Int32 → Int32 → Option Int32) : Nat → Int32 → Int32 → Int32 → Int32 → Option Int32
  | 0, _, _, _, _ => none
  | n + 1, x3_2, x4_3, x5_4, x6_5 => if (rI m k 8) ≤ x6_5 then K x3_2 x4_3 x5_4 x6_5 else Gu (inB x6_5 5) <| if (rI m (k + 7) (ix x6_5)) = a1 then Gu (inB x6_5 5) <| Lt (x3_2 + (rI m (k + 4) (ix x6_5))) fun x3_7 => Lt (x4_3 + (1 : Int32)) fun x4_8 => Lt (x5_4 ||| (shlI (1 : Int32) x6_5)) fun x5_9 => Lt (x6_5 + (1 : Int32)) fun x6_10 => f_X0_refusal_L28 k a1 m K n x3_7 x4_8 x5_9 x6_10 else Lt (x6_5 + (1 : Int32)) fun x6_11 => f_X0_refusal_L28 k a1 m K n x3_2 x4_3 x5_4 x6_11

def f_X0_refusal (F : Nat)  (k : Nat) (a0 : Int32) (a1 : Int32) (m : MM) : Option Int32 := Gu (inB a0 5) <| if (rI m (k + 7) (ix a0)) = a1 then some (1 : Int32) else Gu (inB a0 5) <| Lt (rI m (k + 4) (ix a0)) fun x3_1 => f_X0_refusal_L28 k a1 m (fun x3_2 x4_3 x5_4 x6_5 => Gu (inB a1 5) <| if x3_2 ≤ (rI m (k + 3) (ix a1)) then Gu (inB a1 5) <| Gu (inB (rI m (k + 1) (ix a1)) 6) <| if x4_3 ≤ (stT 1 (ix (rI m (k + 1) (ix a1)))) then Gu (inB a0 5) <| Jp (Gu (inB a0 5) <| if ((rI m (k + 6) (ix a0)) &&& x5_4) = 0 then some (0 : Int32) else some (5 : Int32)) fun J12 => if (rI m (k + 5) (ix a0)) = (1 : Int32) then Gu (inB a1 5) <| Gu (inB (rI m (k + 1) (ix a1)) 6) <| if (stT 2 (ix (rI m (k + 1) (ix a1)))) = (1 : Int32) then some (4 : Int32) else J12 else J12 else some (3 : Int32) else some (2 : Int32)) F x3_1 (1 : Int32) (0 : Int32) (0 : Int32)

def f_X5_thing (F : Nat)  (a0 : Int32) (a1 : Int32) (m : MM) : Option (Int32 × MM) := Gu (nz (10 : Int32)) <| Lt (a0 / (10 : Int32)) fun x3_1 => Gu (nz (10 : Int32)) <| Lt (remI a0 (10 : Int32)) fun x4_2 => if x3_1 < (1 : Int32) then some ((-2 : Int32), m) else if (9 : Int32) < x3_1 then some ((-2 : Int32), m) else bd1 (f_X5_within x4_2 (2 : Int32) m) fun r3 => if r3 = 0 then some ((-2 : Int32), m) else bd1 (f_X0_hasHold 1 a1 m) fun r5 => if r5 = 0 then some ((-2 : Int32), m) else if (rI m 1 8) < (5 : Int32) then Lt (rI m 1 8) fun x5_7 => Gu (inB x5_7 5) <| Lt (wI m 5 (ix x5_7) x3_1) fun m8 => Gu (inB x5_7 5) <| Lt (wI m8 6 (ix x5_7) x4_2) fun m9 => Gu (inB x5_7 5) <| Lt (wI m9 7 (ix x5_7) (0 : Int32)) fun m10 => Gu (inB x5_7 5) <| Lt (wI m10 8 (ix x5_7) (-1 : Int32)) fun m11 => bd1 (f_X0_refusal F 1 x5_7 a1 m11) fun r12 => if r12 = 0 then Gu (inB x5_7 5) <| Lt (wI m11 8 (ix x5_7) a1) fun m14 => Lt (wI m14 1 8 ((rI m14 1 8) + (1 : Int32))) fun m15 => some (x5_7, m15) else some ((-3 : Int32), m11) else some ((-4 : Int32), m)

def f_X5_setFree  (a0 : Int32) (m : MM) : Option (Int32 × MM) := bd1 (f_X5_within a0 (4 : Int32) m) fun r1 => if r1 = 0 then some ((-100 : Int32), m) else Lt (rI m 1 10) fun x2_3 => Lt (wI m 1 10 a0) fun m4 => some (x2_3, m4)

def f_X0_hasThing  (k : Nat) (a0 : Int32) (m : MM) : Option Int32 := bd1 (f_X5_within a0 (rI m k 8) m) fun r1 => Gu (bz r1) <| some r1

def f_X5_setKey  (a0 : Int32) (m : MM) : Option (Int32 × MM) := Jp (Lt (rI m 1 9) fun x2_2 => Lt (wI m 1 9 a0) fun m3 => some (x2_2, m3)) fun J1 => if a0 = (-1 : Int32) then J1 else bd1 (f_X0_hasThing 1 a0 m) fun r4 => if r4 = 0 then some ((-100 : Int32), m) else J1

def f_X0_left_L9 (k : Nat) (a0 : Int32) (m : MM) (K : Int32 → Int32 → Option Int32) : Nat → Int32 → Int32 → Option Int32
  | 0, _, _ => none
  | n + 1, x2_2, x3_3 => if (rI m k 8) ≤ x3_3 then K x2_2 x3_3 else Gu (inB x3_3 5) <| if (rI m (k + 7) (ix x3_3)) = a0 then Gu (inB x3_3 5) <| Lt (x2_2 - (rI m (k + 4) (ix x3_3))) fun x2_5 => Lt (x3_3 + (1 : Int32)) fun x3_6 => f_X0_left_L9 k a0 m K n x2_5 x3_6 else Lt (x3_3 + (1 : Int32)) fun x3_7 => f_X0_left_L9 k a0 m K n x2_2 x3_7

def f_X0_left (F : Nat)  (k : Nat) (a0 : Int32) (m : MM) : Option Int32 := Gu (inB a0 5) <| Lt (rI m (k + 3) (ix a0)) fun x2_1 => f_X0_left_L9 k a0 m (fun x2_2 x3_3 => some x2_2) F x2_1 (0 : Int32)

def f_X5_setNumber (F : Nat)  (a0 : Int32) (a1 : Int32) (m : MM) : Option (Int32 × MM) := bd1 (f_X0_hasHold 1 a0 m) fun r1 => if r1 = 0 then some ((-100 : Int32), m) else bd1 (f_X5_within a1 (10 : Int32) m) fun r3 => if r3 = 0 then some ((-100 : Int32), m) else Gu (inB a0 5) <| Lt (rI m 3 (ix a0)) fun x3_5 => bd1 (f_X0_renumber 1 a0 a1 m) fun m7 => bd1 (f_X0_left F 1 a0 m7) fun r8 => if 0 ≤ r8 then some (x3_5, m7) else bd1 (f_X0_renumber 1 a0 x3_5 m7) fun m11 => some ((-3 : Int32), m11)

def f_X0_wet  (k : Nat) (a0 : Int32) (m : MM) : Option Int32 := Gu (inB a0 5) <| Gu (inB (rI m (k + 1) (ix a0)) 6) <| some (stT 2 (ix (rI m (k + 1) (ix a0))))

def f_X5_setDry  (a0 : Int32) (a1 : Int32) (m : MM) : Option (Int32 × MM) := bd1 (f_X0_hasThing 1 a0 m) fun r1 => if r1 = 0 then some ((-100 : Int32), m) else bd1 (f_X5_within a1 (2 : Int32) m) fun r3 => if r3 = 0 then some ((-100 : Int32), m) else Jp (Gu (inB a0 5) <| Lt (rI m 6 (ix a0)) fun x3_6 => Gu (inB a0 5) <| Lt (wI m 6 (ix a0) a1) fun m7 => some (x3_6, m7)) fun J5 => if a1 = (1 : Int32) then Gu (inB a0 5) <| bd1 (f_X0_wet 1 (rI m 8 (ix a0)) m) fun r8 => if r8 = (1 : Int32) then some ((-3 : Int32), m) else J5 else J5

def f_X5_set (F : Nat)  (a0 : Int32) (a1 : Int32) (a2 : Int32) (m : MM) : Option (Int32 × MM) := if a0 = (0 : Int32) then bd2 (f_X5_setFree a2 m) fun r2 m4 => some (r2, m4) else if a0 = (1 : Int32) then bd2 (f_X5_setKey a2 m) fun r6 m8 => some (r6, m8) else if a0 = (2 : Int32) then bd2 (f_X5_setNumber F a1 a2 m) fun r10 m12 => some (r10, m12) else if a0 = (3 : Int32) then bd2 (f_X5_setDry a1 a2 m) fun r14 m16 => some (r14, m16) else some ((-100 : Int32), m)

def f_X5_withBit  (a0 : Int32) (a1 : Int32) (a2 : Int32) (m : MM) : Option Int32 := if a2 = (1 : Int32) then some (a0 ||| (shlI (1 : Int32) a1)) else some (a0 &&& ((shlI (1 : Int32) a1) ^^^ (-1 : Int32)))

def f_X5_part  (a0 : Int32) (a1 : Int32) (a2 : Int32) (m : MM) : Option (Int32 × MM) := bd1 (f_X0_hasThing 1 a0 m) fun r1 => if r1 = 0 then some ((-2 : Int32), m) else bd1 (f_X0_hasThing 1 a1 m) fun r3 => if r3 = 0 then some ((-2 : Int32), m) else if a0 = a1 then some ((-2 : Int32), m) else bd1 (f_X5_within a2 (2 : Int32) m) fun r5 => if r5 = 0 then some ((-2 : Int32), m) else Jp (Gu (inB a0 5) <| Lt ((shrI (rI m 7 (ix a0)) a1) &&& (1 : Int32)) fun x4_8 => Gu (inB a0 5) <| bd1 (f_X5_withBit (rI m 7 (ix a0)) a1 a2 m) fun r9 => Gu (inB a0 5) <| Lt (wI m 7 (ix a0) r9) fun m11 => Gu (inB a1 5) <| bd1 (f_X5_withBit (rI m11 7 (ix a1)) a0 a2 m11) fun r12 => Gu (inB a1 5) <| Lt (wI m11 7 (ix a1) r12) fun m14 => some (x4_8, m14)) fun J7 => if a2 = (1 : Int32) then Gu (inB a0 5) <| Gu (inB a1 5) <| if (rI m 8 (ix a0)) = (rI m 8 (ix a1)) then some ((-3 : Int32), m) else J7 else J7

def f_X0_lying_L4 (k : Nat) (a0 : Int32) (m : MM) (K : Int32 → Int32 → Option Int32) : Nat → Int32 → Int32 → Option Int32
  | 0, _, _ => none
  | n + 1, x2_1, x3_2 => if (rI m k 8) ≤ x3_2 then K x2_1 x3_2 else Gu (inB x3_2 5) <| if (rI m (k + 7) (ix x3_2)) = a0 then Lt (x2_1 ||| (shlI (1 : Int32) x3_2)) fun x2_4 => Lt (x3_2 + (1 : Int32)) fun x3_5 => f_X0_lying_L4 k a0 m K n x2_4 x3_5 else Lt (x3_2 + (1 : Int32)) fun x3_6 => f_X0_lying_L4 k a0 m K n x2_1 x3_6

def f_X0_lying (F : Nat)  (k : Nat) (a0 : Int32) (m : MM) : Option Int32 := f_X0_lying_L4 k a0 m (fun x2_1 x3_2 => some x2_1) F (0 : Int32) (0 : Int32)

def f_X5_toldOfHold (F : Nat)  (a0 : Int32) (a1 : Int32) (m : MM) : Option Int32 := if a1 = (0 : Int32) then Gu (inB a0 5) <| some (rI m 2 (ix a0)) else if a1 = (1 : Int32) then Gu (inB a0 5) <| some (rI m 3 (ix a0)) else if a1 = (2 : Int32) then Gu (inB a0 5) <| some (rI m 4 (ix a0)) else if a1 = (3 : Int32) then Gu (inB a0 5) <| Gu (inB (rI m 2 (ix a0)) 6) <| some (stT 1 (ix (rI m 2 (ix a0)))) else if a1 = (4 : Int32) then bd1 (f_X0_wet 1 a0 m) fun r6 => some r6 else if a1 = (5 : Int32) then Gu (inB a0 5) <| Gu (inB (rI m 2 (ix a0)) 6) <| some (stT 3 (ix (rI m 2 (ix a0)))) else if a1 = (6 : Int32) then bd1 (f_X0_lying F 1 a0 m) fun r10 => some r10 else bd1 (f_X0_left F 1 a0 m) fun r12 => some r12

def f_X5_toldOfThing  (a0 : Int32) (a1 : Int32) (m : MM) : Option Int32 := if a1 = (8 : Int32) then Gu (inB a0 5) <| some (rI m 5 (ix a0)) else if a1 = (9 : Int32) then Gu (inB a0 5) <| some (rI m 6 (ix a0)) else if a1 = (10 : Int32) then Gu (inB a0 5) <| some (rI m 8 (ix a0)) else Gu (inB a0 5) <| some (rI m 7 (ix a0))

def f_X5_told (F : Nat)  (a0 : Int32) (a1 : Int32) (m : MM) : Option Int32 := Jp (if a1 < (8 : Int32) then some (-100 : Int32) else if (11 : Int32) < a1 then some (-100 : Int32) else bd1 (f_X0_hasThing 1 a0 m) fun r2 => if r2 = 0 then some (-100 : Int32) else bd1 (f_X5_toldOfThing a0 a1 m) fun r4 => some r4) fun J1 => if a1 < 0 then J1 else if (7 : Int32) < a1 then J1 else bd1 (f_X0_hasHold 1 a0 m) fun r6 => if r6 = 0 then J1 else bd1 (f_X5_toldOfHold F a0 a1 m) fun r8 => some r8

def f_X3_add  (a0 : Int32) (m : MM) : Option MM := if (160 : Int32) ≤ (rI m 36 1) then some m else Lt (wI m 36 1 ((rI m 36 1) + (1 : Int32))) fun m1 => Gu (inB (rI m 36 1) 160) <| Lt (wI m1 37 (ix (rI m 36 1)) a0) fun m2 => some m2

def f_X5_feed  (a0 : Int32) (m : MM) : Option (Int32 × MM) := bd1 (f_X5_within a0 (256 : Int32) m) fun r1 => if r1 = 0 then some ((-2 : Int32), m) else if (rI m 36 1) < (160 : Int32) then bd1 (f_X3_add a0 m) fun m4 => some (rI m4 36 1, m4) else some ((-4 : Int32), m)

def f_X4_clear  (k : Nat) (m : MM) : Option MM := Lt (wI m k 3 (0 : Int32)) fun m1 => some m1

def f_X3_isLetter  (a0 : Int32) (m : MM) : Option Int32 := if a0 < (97 : Int32) then some (0 : Int32) else if (122 : Int32) < a0 then some (0 : Int32) else some (1 : Int32)

def f_J0_isLatin1_aae02  (q : Nat) (m : MM) : Option Int32 := if (1 : Int32) = 0 then some (0 : Int32) else if (0 : Int32) = 0 then some (1 : Int32) else some (0 : Int32)

def f_J3_checkIndex_8e157  (a0 : Int32) (a1 : Int32) (m : MM) : Option Int32 := Jp (none) fun J1 => if a0 < 0 then J1 else if a0 < a1 then some a0 else J1

def f_J0_checkIndex_df160  (a0 : Int32) (a1 : Int32) (m : MM) : Option Unit := bd1 (f_J3_checkIndex_8e157 a0 a1 m) fun r2 => some ()

def f_J1_charAt_3b067  (q : Nat) (a1 : Int32) (m : MM) : Option Int32 := bd1 (f_J0_checkIndex_df160 a1 (strL q) m) fun _ => Gu (inB a1 (stL.getD q 0)) <| Gu (ch16 (((Int32.toUInt32 ((strB q (ix a1)) &&& (255 : Int32))) % 65536).toInt32)) <| some (((Int32.toUInt32 ((strB q (ix a1)) &&& (255 : Int32))) % 65536).toInt32)

def f_J0_charAt_5068e  (q : Nat) (a0 : Int32) (m : MM) : Option Int32 := bd1 (f_J0_isLatin1_aae02 q m) fun r1 => if r1 = 0 then none else bd1 (f_J1_charAt_3b067 q a0 m) fun r3 => Gu (ch16 r3) <| some r3

def f_X3_isWord_L36 (a0 : Int32) (m : MM) (x2_1 : Int32) (K : Int32 → Option Int32) : Nat → Int32 → Option Int32
  | 0, _ => none
  | n + 1, x3_4 => if x2_1 ≤ x3_4 then K x3_4 else bd1 (f_J0_charAt_5068e 2 ((a0 * (6 : Int32)) + x3_4) m) fun r6 => Gu (inB ((rI m 36 4) + x3_4) 160) <| if r6 = (rI m 37 (ix ((rI m 36 4) + x3_4))) then Lt (x3_4 + (1 : Int32)) fun x3_8 => f_X3_isWord_L36 a0 m x2_1 K n x3_8 else some (0 : Int32)

def f_X3_isWord (F : Nat)  (a0 : Int32) (m : MM) : Option Int32 := Lt ((rI m 36 2) - (rI m 36 4)) fun x2_1 => if (6 : Int32) ≤ x2_1 then some (0 : Int32) else bd1 (f_J0_charAt_5068e 2 ((a0 * (6 : Int32)) + x2_1) m) fun r2 => if r2 = (32 : Int32) then f_X3_isWord_L36 a0 m x2_1 (fun x3_4 => some (1 : Int32)) F (0 : Int32) else some (0 : Int32)

def f_X3_takeWord_L46 (F : Nat) (m6 : MM) (K : Int32 → Option MM) : Nat → Int32 → Option MM
  | 0, _ => none
  | n + 1, x1_7 => if (12 : Int32) ≤ x1_7 then K x1_7 else bd1 (f_X3_isWord F x1_7 m6) fun r9 => if r9 = 0 then Lt (x1_7 + (1 : Int32)) fun x1_11 => f_X3_takeWord_L46 F m6 K n x1_11 else Jp (fun s12 => Lt (wI m6 36 3 s12) fun m14 => Lt (wI m14 36 5 x1_7) fun m15 => some m15) fun J13 => if (6 : Int32) ≤ x1_7 then J13 (((6 : Int32) + x1_7) - (6 : Int32)) else J13 (5 : Int32)

def f_X3_takeWord_L0  (K : MM → Option MM) : Nat → MM → Option MM
  | 0, _ => none
  | n + 1, m1 => if (rI m1 36 1) ≤ (rI m1 36 2) then K m1 else Gu (inB (rI m1 36 2) 160) <| bd1 (f_X3_isLetter (rI m1 37 (ix (rI m1 36 2))) m1) fun r3 => if r3 = 0 then K m1 else Lt (wI m1 36 2 ((rI m1 36 2) + (1 : Int32))) fun m5 => f_X3_takeWord_L0 K n m5

def f_X3_takeWord (F : Nat)   (m : MM) : Option MM := f_X3_takeWord_L0 (fun m1 => Lt (wI m1 36 3 (3 : Int32)) fun m6 => f_X3_takeWord_L46 F m6 (fun x1_7 => some m6) F (0 : Int32)) F m

def f_X3_isDigit  (a0 : Int32) (m : MM) : Option Int32 := if a0 < (48 : Int32) then some (0 : Int32) else if (57 : Int32) < a0 then some (0 : Int32) else some (1 : Int32)

def f_X3_takeNumber_L5  (K : MM → Option MM) : Nat → MM → Option MM
  | 0, _ => none
  | n + 1, m2 => if (rI m2 36 1) ≤ (rI m2 36 2) then K m2 else Gu (inB (rI m2 36 2) 160) <| bd1 (f_X3_isDigit (rI m2 37 (ix (rI m2 36 2))) m2) fun r4 => if r4 = 0 then K m2 else Gu (inB (rI m2 36 2) 160) <| Lt (wI m2 36 5 ((((rI m2 36 5) * (10 : Int32)) + (rI m2 37 (ix (rI m2 36 2)))) - (48 : Int32))) fun m6 => Lt (wI m6 36 2 ((rI m6 36 2) + (1 : Int32))) fun m7 => f_X3_takeNumber_L5 K n m7

def f_X3_takeNumber (F : Nat)   (m : MM) : Option MM := Lt (wI m 36 5 (0 : Int32)) fun m1 => f_X3_takeNumber_L5 (fun m2 => Jp (fun s8 => Lt (wI m2 36 3 s8) fun m10 => some m10) fun J9 => if (4 : Int32) < ((rI m2 36 2) - (rI m2 36 4)) then J9 (3 : Int32) else J9 (4 : Int32)) F m1

def f_J0_coder_7d493  (q : Nat) (m : MM) : Option Int32 := if (1 : Int32) = 0 then Gu (by8 (1 : Int32)) <| some (1 : Int32) else Gu (by8 (0 : Int32)) <| some (0 : Int32)

def f_J0_length_8abf5  (q : Nat) (m : MM) : Option Int32 := bd1 (f_J0_coder_7d493 q m) fun r1 => some (shrI (strL q) r1)

def f_J1_canEncode_9a6ad  (a0 : Int32) (m : MM) : Option Int32 := if a0 < 0 then some (0 : Int32) else if (255 : Int32) < a0 then some (0 : Int32) else some (1 : Int32)

def f_J1_indexOfChar_4cfef_L7 (q : Nat) (a3 : Int32) (x4_1 : Int32) (K : Int32 → Option Int32) : Nat → Int32 → Option Int32
  | 0, _ => none
  | n + 1, x5_2 => if a3 ≤ x5_2 then K x5_2 else Gu (inB x5_2 (stL.getD q 0)) <| if (strB q (ix x5_2)) = x4_1 then some x5_2 else Lt (x5_2 + (1 : Int32)) fun x5_4 => f_J1_indexOfChar_4cfef_L7 q a3 x4_1 K n x5_4

def f_J1_indexOfChar_4cfef (F : Nat)  (q : Nat) (a1 : Int32) (a2 : Int32) (a3 : Int32) (m : MM) : Option Int32 := Lt ((Int32.toInt8 a1).toInt32) fun x4_1 => f_J1_indexOfChar_4cfef_L7 q a3 x4_1 (fun x5_2 => some (-1 : Int32)) F a2

def f_J1_indexOf_4cfef (F : Nat)  (q : Nat) (a1 : Int32) (a2 : Int32) (a3 : Int32) (m : MM) : Option Int32 := bd1 (f_J1_canEncode_9a6ad a1 m) fun r1 => if r1 = 0 then some (-1 : Int32) else Lt (maxI a2 (0 : Int32)) fun x2_3 => Lt (minI a3 (strL q)) fun x3_4 => if x2_3 < x3_4 then bd1 (f_J1_indexOfChar_4cfef F q a1 x2_3 x3_4 m) fun r5 => some r5 else some (-1 : Int32)

def f_J0_indexOf_7cf53 (F : Nat)  (q : Nat) (a0 : Int32) (a1 : Int32) (m : MM) : Option Int32 := bd1 (f_J0_isLatin1_aae02 q m) fun r1 => if r1 = 0 then none else bd1 (f_J0_length_8abf5 q m) fun r3 => bd1 (f_J1_indexOf_4cfef F q a0 a1 r3 m) fun r5 => some r5

def f_J0_indexOf_0f7a4 (F : Nat)  (q : Nat) (a0 : Int32) (m : MM) : Option Int32 := bd1 (f_J0_indexOf_7cf53 F q a0 (0 : Int32) m) fun r1 => some r1

def f_X3_advance_L0  (K : MM → Option MM) : Nat → MM → Option MM
  | 0, _ => none
  | n + 1, m1 => if (rI m1 36 1) ≤ (rI m1 36 2) then K m1 else Gu (inB (rI m1 36 2) 160) <| Jp (Lt (wI m1 36 2 ((rI m1 36 2) + (1 : Int32))) fun m4 => f_X3_advance_L0 K n m4) fun J3 => if (rI m1 37 (ix (rI m1 36 2))) = (32 : Int32) then J3 else Gu (inB (rI m1 36 2) 160) <| if (rI m1 37 (ix (rI m1 36 2))) = (10 : Int32) then J3 else K m1

def f_X3_advance (F : Nat)   (m : MM) : Option MM := f_X3_advance_L0 (fun m1 => Lt (wI m1 36 4 (rI m1 36 2)) fun m5 => if (rI m5 36 2) < (rI m5 36 1) then Gu (inB (rI m5 36 2) 160) <| bd1 (f_X3_isLetter (rI m5 37 (ix (rI m5 36 2))) m5) fun r6 => if r6 = 0 then Gu (inB (rI m5 36 2) 160) <| bd1 (f_X3_isDigit (rI m5 37 (ix (rI m5 36 2))) m5) fun r8 => if r8 = 0 then Gu (inB (rI m5 36 2) 160) <| bd1 (f_J0_indexOf_0f7a4 F 1 (((Int32.toUInt32 (rI m5 37 (ix (rI m5 36 2)))) % 65536).toInt32) m5) fun r10 => Jp (fun s12 => Lt (wI m5 36 3 s12) fun m14 => Lt (wI m14 36 2 ((rI m14 36 2) + (1 : Int32))) fun m15 => some m15) fun J13 => if r10 < 0 then J13 (3 : Int32) else Gu (inB (rI m5 36 2) 160) <| J13 (rI m5 37 (ix (rI m5 36 2))) else bd1 (f_X3_takeNumber F m5) fun m17 => some m17 else bd1 (f_X3_takeWord F m5) fun m19 => some m19 else Lt (wI m5 36 3 (2 : Int32)) fun m20 => some m20) F m

def f_X4_begin  (k : Nat) (a0 : Int32) (m : MM) : Option MM := Gu (inB a0 4) <| Lt (wI m (k + 2) (ix a0) (rI m k 3)) fun m1 => some m1

def f_X4_add  (k : Nat) (a0 : Int32) (m : MM) : Option MM := if (160 : Int32) ≤ (rI m k 3) then some m else Lt (wI m k 3 ((rI m k 3) + (1 : Int32))) fun m1 => Gu (inB (rI m k 3) 160) <| Lt (wI m1 (k + 1) (ix (rI m k 3)) a0) fun m2 => some m2

def fb_X3_one (F : Nat) (rec0 : Int32 → Int32 → MM → Option (Int32 × MM)) (rec1 : Int32 → MM → Option (Int32 × MM)) (a0 : Int32) (m : MM) : Option (Int32 × MM) := Jp (Gu (isTxB (rI m 36 6)) <| Jp (fun s3 => bd1 (f_X4_add (ix (rI m 36 6)) s3 m) fun m6 => bd1 (f_X3_advance F m6) fun m8 => some ((1 : Int32), m8)) fun J4 => if (rI m 36 3) = (4 : Int32) then J4 (rI m 36 5) else J4 ((10000 : Int32) + (rI m 36 5))) fun J1 => if (rI m 36 3) = (4 : Int32) then J1 else if (rI m 36 3) = (5 : Int32) then J1 else Jp (if a0 < (5 : Int32) then Jp (fun s10 => bd1 (f_X3_advance F m) fun m13 => if s10 = 0 then bd2 (rec0 (0 : Int32) (a0 + (1 : Int32)) m13) fun r14 m16 => if r14 = 0 then some ((0 : Int32), m16) else if (rI m16 36 3) = (41 : Int32) then bd1 (f_X3_advance F m16) fun m18 => some ((1 : Int32), m18) else some ((0 : Int32), m16) else bd2 (rec1 (a0 + (1 : Int32)) m13) fun r19 m21 => if r19 = 0 then some ((0 : Int32), m21) else Gu (isTxB (rI m21 36 6)) <| bd1 (f_X4_add (ix (rI m21 36 6)) (20001 : Int32) m21) fun m24 => some ((1 : Int32), m24)) fun J11 => if (rI m 36 3) = (45 : Int32) then J11 (1 : Int32) else J11 (0 : Int32) else some ((0 : Int32), m)) fun J9 => if (rI m 36 3) = (45 : Int32) then J9 else if (rI m 36 3) = (40 : Int32) then J9 else some ((0 : Int32), m)

def f_X3_joins  (a0 : Int32) (m : MM) : Option Int32 := if a0 = (0 : Int32) then if (rI m 36 3) = (9 : Int32) then some (1 : Int32) else some (0 : Int32) else if a0 = (1 : Int32) then if (rI m 36 3) = (10 : Int32) then some (1 : Int32) else some (0 : Int32) else if a0 = (2 : Int32) then if (rI m 36 3) = (60 : Int32) then some (1 : Int32) else if (rI m 36 3) = (61 : Int32) then some (1 : Int32) else some (0 : Int32) else if a0 = (3 : Int32) then if (rI m 36 3) = (43 : Int32) then some (1 : Int32) else if (rI m 36 3) = (45 : Int32) then some (1 : Int32) else some (0 : Int32) else if a0 = (4 : Int32) then if (rI m 36 3) = (42 : Int32) then some (1 : Int32) else some (0 : Int32) else some (0 : Int32)

def f_X3_joined_L90 (F : Nat) (a0 : Int32) (a1 : Int32) (rec0 : Int32 → Int32 → MM → Option (Int32 × MM)) (s5 : Int32) (K : Int32 → MM → Option (Int32 × MM)) : Nat → Int32 → MM → Option (Int32 × MM)
  | 0, _, _ => none
  | n + 1, x4_7, m8 => if s5 ≤ x4_7 then K x4_7 m8 else bd1 (f_X3_joins a0 m8) fun r10 => if r10 = 0 then K x4_7 m8 else Lt (rI m8 36 3) fun x5_12 => bd1 (f_X3_advance F m8) fun m14 => bd2 (rec0 (a0 + (1 : Int32)) a1 m14) fun r15 m17 => if r15 = 0 then some ((0 : Int32), m17) else Gu (isTxB (rI m17 36 6)) <| bd1 (f_X4_add (ix (rI m17 36 6)) ((20000 : Int32) + x5_12) m17) fun m20 => Lt (x4_7 + (1 : Int32)) fun x4_21 => f_X3_joined_L90 F a0 a1 rec0 s5 K n x4_21 m20

def fb_X3_joined (F : Nat) (rec0 : Int32 → Int32 → MM → Option (Int32 × MM)) (rec1 : Int32 → MM → Option (Int32 × MM)) (a0 : Int32) (a1 : Int32) (m : MM) : Option (Int32 × MM) := if a0 < (5 : Int32) then Jp (bd2 (rec0 (a0 + (1 : Int32)) a1 m) fun r2 m4 => if r2 = 0 then some ((0 : Int32), m4) else Jp (fun s5 => f_X3_joined_L90 F a0 a1 rec0 s5 (fun x4_7 m8 => some ((1 : Int32), m8)) F (0 : Int32) m4) fun J6 => if a0 = (2 : Int32) then J6 (1 : Int32) else J6 (160 : Int32)) fun J1 => if a0 = (2 : Int32) then if (rI m 36 3) = (11 : Int32) then if a1 < (5 : Int32) then bd1 (f_X3_advance F m) fun m23 => bd2 (rec0 (2 : Int32) (a1 + (1 : Int32)) m23) fun r24 m26 => if r24 = 0 then some ((0 : Int32), m26) else Gu (isTxB (rI m26 36 6)) <| bd1 (f_X4_add (ix (rI m26 36 6)) (20011 : Int32) m26) fun m29 => some ((1 : Int32), m29) else some ((0 : Int32), m) else J1 else J1 else bd2 (rec1 a1 m) fun r30 m32 => Gu (bz r30) <| some (r30, m32)
def f_X3_joD (F : Nat) : Nat → Bool → Int32 → Int32 → MM → Option (Int32 × MM)
  | 0, _, _, _, _ => none
  | d + 1, true, a0, a1, m => fb_X3_joined F (fun a0 a1 m => f_X3_joD F d true a0 a1 m) (fun a0 m => f_X3_joD F d false 0 a0 m) a0 a1 m
  | d + 1, false, _, a0, m => fb_X3_one F (fun a0 a1 m => f_X3_joD F d true a0 a1 m) (fun a0 m => f_X3_joD F d false 0 a0 m) a0 m
def f_X3_joined (F : Nat) (a0 : Int32) (a1 : Int32) (m : MM) : Option (Int32 × MM) := f_X3_joD F 48 true a0 a1 m

def f_X3_read_L23 (F : Nat) (K : Int32 → MM → Option (Int32 × MM)) : Nat → Int32 → MM → Option (Int32 × MM)
  | 0, _, _ => none
  | n + 1, x2_8, m9 => if (3 : Int32) ≤ x2_8 then K x2_8 m9 else if (rI m9 36 3) = ((6 : Int32) + x2_8) then Gu (isTxB (rI m9 36 6)) <| bd1 (f_X4_begin (ix (rI m9 36 6)) x2_8 m9) fun m13 => bd1 (f_X3_advance F m13) fun m15 => bd2 (f_X3_joined F (0 : Int32) (0 : Int32) m15) fun r16 m18 => if r16 = 0 then some (rI m18 36 4, m18) else if (rI m18 36 3) = (59 : Int32) then bd1 (f_X3_advance F m18) fun m20 => Lt (x2_8 + (1 : Int32)) fun x2_21 => f_X3_read_L23 F K n x2_21 m20 else some (rI m18 36 4, m18) else some (rI m9 36 4, m9)

def f_X3_read (F : Nat)  (k : Nat) (m : MM) : Option (Int32 × MM) := Lt (wI m 36 6 (nI k)) fun m1 => Gu (isTxB (rI m1 36 6)) <| bd1 (f_X4_clear (ix (rI m1 36 6)) m1) fun m4 => Lt (wI m4 36 2 (0 : Int32)) fun m5 => bd1 (f_X3_advance F m5) fun m7 => f_X3_read_L23 F (fun x2_8 m9 => Gu (isTxB (rI m9 36 6)) <| bd1 (f_X4_begin (ix (rI m9 36 6)) (3 : Int32) m9) fun m24 => if (rI m24 36 3) = (2 : Int32) then some ((-1 : Int32), m24) else some (rI m24 36 4, m24)) F (0 : Int32) m7

def f_X3_clear   (m : MM) : Option MM := Lt (wI m 36 1 (0 : Int32)) fun m1 => some m1

def f_X5_text (F : Nat)   (m : MM) : Option (Int32 × MM) := if (rI m 0 8) < (6 : Int32) then Gu (inB (rI m 0 8) 6) <| bd2 (f_X3_read F (39 + 4 * ix (rI m 0 8)) m) fun r2 m4 => bd1 (f_X3_clear m4) fun m6 => if r2 = (-1 : Int32) then Lt (wI m6 0 8 ((rI m6 0 8) + (1 : Int32))) fun m7 => some (rI m6 0 8, m7) else some ((-100 : Int32) - r2, m6) else some ((-4 : Int32), m)

def f_X5_force  (a0 : Int32) (m : MM) : Option (Int32 × MM) := bd1 (f_X5_within a0 (rI m 0 8) m) fun r1 => if r1 = 0 then some ((-2 : Int32), m) else Lt (rI m 1 11) fun x2_3 => Lt (wI m 1 11 a0) fun m4 => some (x2_3, m4)

def f_X5_name  (a0 : Int32) (a1 : Int32) (a2 : Int32) (a3 : Int32) (a4 : Int32) (m : MM) : Option MM := Gu (inB (0 : Int32) 6) <| Lt (wI m 72 (ix (0 : Int32)) a0) fun m1 => Gu (inB (1 : Int32) 6) <| Lt (wI m1 72 (ix (1 : Int32)) a1) fun m2 => Gu (inB (2 : Int32) 6) <| Lt (wI m2 72 (ix (2 : Int32)) a2) fun m3 => Gu (inB (3 : Int32) 6) <| Lt (wI m3 72 (ix (3 : Int32)) a3) fun m4 => Gu (inB (4 : Int32) 6) <| Lt (wI m4 72 (ix (4 : Int32)) (rI m4 1 8)) fun m5 => Gu (inB (5 : Int32) 6) <| Lt (wI m5 72 (ix (5 : Int32)) a4) fun m6 => some m6

def f_X4_ofOne  (a0 : Int32) (a1 : Int32) (m : MM) : Option Int32 := if a0 = (1 : Int32) then some (-a1) else if a1 = 0 then some (1 : Int32) else some (0 : Int32)

def f_X4_ofTwo  (a0 : Int32) (a1 : Int32) (a2 : Int32) (m : MM) : Option Int32 := if a0 = (10 : Int32) then if a1 = 0 then some (0 : Int32) else if a2 = 0 then some (0 : Int32) else some (1 : Int32) else if a0 = (42 : Int32) then some (a1 * a2) else if a0 = (43 : Int32) then some (a1 + a2) else if a0 = (45 : Int32) then some (a1 - a2) else if a0 = (60 : Int32) then if a2 ≤ a1 then some (0 : Int32) else some (1 : Int32) else if a0 = (61 : Int32) then if a1 = a2 then some (1 : Int32) else some (0 : Int32) else if a1 = 0 then if a2 = 0 then some (0 : Int32) else some (1 : Int32) else some (1 : Int32)

def f_X4_tells_L10 (k : Nat) (a0 : Int32) (K : Int32 → Int32 → MM → Option (Int32 × MM)) : Nat → Int32 → Int32 → MM → Option (Int32 × MM)
  | 0, _, _, _ => none
  | n + 1, x3_2, x4_3, m4 => Gu (inB (a0 + (1 : Int32)) 4) <| if (rI m4 (k + 2) (ix (a0 + (1 : Int32)))) ≤ x4_3 then K x3_2 x4_3 m4 else Gu (inB x4_3 160) <| Lt (rI m4 (k + 1) (ix x4_3)) fun x5_6 => if (20000 : Int32) ≤ x5_6 then Jp (if (1 : Int32) ≤ x3_2 then Gu (inB (x3_2 - (1 : Int32)) 40) <| bd1 (f_X4_ofOne (x5_6 - (20000 : Int32)) (rI m4 (k + 3) (ix (x3_2 - (1 : Int32)))) m4) fun r8 => Gu (inB (x3_2 - (1 : Int32)) 40) <| Lt (wI m4 (k + 3) (ix (x3_2 - (1 : Int32))) r8) fun m10 => Lt (x4_3 + (1 : Int32)) fun x4_11 => f_X4_tells_L10 k a0 K n x3_2 x4_11 m10 else some ((0 : Int32), m4)) fun J7 => if x5_6 = (20001 : Int32) then J7 else if x5_6 = (20011 : Int32) then J7 else if (2 : Int32) ≤ x3_2 then Lt (x3_2 + (-1 : Int32)) fun x3_12 => Gu (inB (x3_12 - (1 : Int32)) 40) <| Gu (inB x3_12 40) <| bd1 (f_X4_ofTwo (x5_6 - (20000 : Int32)) (rI m4 (k + 3) (ix (x3_12 - (1 : Int32)))) (rI m4 (k + 3) (ix x3_12)) m4) fun r13 => Gu (inB (x3_12 - (1 : Int32)) 40) <| Lt (wI m4 (k + 3) (ix (x3_12 - (1 : Int32))) r13) fun m15 => Lt (x4_3 + (1 : Int32)) fun x4_16 => f_X4_tells_L10 k a0 K n x3_12 x4_16 m15 else some ((0 : Int32), m4) else if x3_2 < (40 : Int32) then Lt (x3_2 + (1 : Int32)) fun x3_17 => Jp (fun s18 => Gu (inB x3_2 40) <| Lt (wI m4 (k + 3) (ix x3_2) s18) fun m20 => Lt (x4_3 + (1 : Int32)) fun x4_21 => f_X4_tells_L10 k a0 K n x3_17 x4_21 m20) fun J19 => if (10000 : Int32) ≤ x5_6 then Gu (inB (x5_6 - (10000 : Int32)) 6) <| J19 (rI m4 72 (ix (x5_6 - (10000 : Int32)))) else J19 x5_6 else some ((0 : Int32), m4)

def f_X4_tells (F : Nat)  (k : Nat) (a0 : Int32) (m : MM) : Option (Int32 × MM) := Gu (inB a0 4) <| Lt (rI m (k + 2) (ix a0)) fun x4_1 => f_X4_tells_L10 k a0 (fun x3_2 x4_3 m4 => Gu (inB (0 : Int32) 40) <| some (rI m4 (k + 3) (ix (0 : Int32)), m4)) F (0 : Int32) x4_1 m

def f_X5_bounded  (a0 : Int32) (a1 : Int32) (m : MM) : Option Int32 := some (maxI (0 : Int32) (minI a0 a1))

def f_X5_costs (F : Nat)  (a0 : Int32) (a1 : Int32) (a2 : Int32) (m : MM) : Option (Int32 × MM) := Gu (inB a0 5) <| bd1 (f_X0_wet 1 a2 m) fun r1 => bd1 (f_X5_name (rI m 5 (ix a0)) a1 a2 a0 r1 m) fun m4 => Gu (inB (rI m4 1 11) 6) <| bd2 (f_X4_tells F (39 + 4 * ix (rI m4 1 11)) (0 : Int32) m4) fun r6 m8 => bd1 (f_X5_bounded r6 (99 : Int32) m8) fun r9 => some (r9, m8)

def f_X5_move (F : Nat)  (a0 : Int32) (a1 : Int32) (m : MM) : Option (Int32 × MM) := bd1 (f_X0_hasThing 1 a0 m) fun r1 => if r1 = 0 then some ((-2 : Int32), m) else bd1 (f_X0_hasHold 1 a1 m) fun r3 => if r3 = 0 then some ((-2 : Int32), m) else bd1 (f_X0_refusal F 1 a0 a1 m) fun r5 => if r5 = 0 then Gu (inB a0 5) <| bd2 (f_X5_costs F a0 (rI m 8 (ix a0)) a1 m) fun r7 m9 => Gu (inB a0 5) <| Lt (wI m9 8 (ix a0) a1) fun m10 => some (r7, m10) else some ((-3 : Int32), m)

def f_X5_why (F : Nat)  (a0 : Int32) (a1 : Int32) (m : MM) : Option Int32 := bd1 (f_X0_hasThing 1 a0 m) fun r1 => if r1 = 0 then some (-2 : Int32) else bd1 (f_X0_hasHold 1 a1 m) fun r3 => if r3 = 0 then some (-2 : Int32) else bd1 (f_X0_refusal F 1 a0 a1 m) fun r5 => some r5

def f_X0_freeHands_L43 (k : Nat) (m : MM) (x1_1 : Int32) (K : Int32 → Int32 → Option Int32) : Nat → Int32 → Int32 → Option Int32
  | 0, _, _ => none
  | n + 1, x2_7, x3_8 => if (rI m k 7) ≤ x3_8 then K x2_7 x3_8 else Gu (inB x3_8 5) <| Gu (inB (rI m (k + 1) (ix x3_8)) 6) <| if (stT 3 (ix (rI m (k + 1) (ix x3_8)))) = (1 : Int32) then if ((shrI x1_1 x3_8) &&& (1 : Int32)) = 0 then Lt (x2_7 + (1 : Int32)) fun x2_10 => Lt (x3_8 + (1 : Int32)) fun x3_11 => f_X0_freeHands_L43 k m x1_1 K n x2_10 x3_11 else Lt (x3_8 + (1 : Int32)) fun x3_12 => f_X0_freeHands_L43 k m x1_1 K n x2_7 x3_12 else Lt (x3_8 + (1 : Int32)) fun x3_13 => f_X0_freeHands_L43 k m x1_1 K n x2_7 x3_13

def f_X0_freeHands_L4 (k : Nat) (m : MM) (K : Int32 → Int32 → Option Int32) : Nat → Int32 → Int32 → Option Int32
  | 0, _, _ => none
  | n + 1, x1_1, x2_2 => if (rI m k 8) ≤ x2_2 then K x1_1 x2_2 else Gu (inB x2_2 5) <| if (rI m (k + 7) (ix x2_2)) = (-1 : Int32) then Lt (x2_2 + (1 : Int32)) fun x2_4 => f_X0_freeHands_L4 k m K n x1_1 x2_4 else Gu (inB x2_2 5) <| Lt (x1_1 ||| (shlI (1 : Int32) (rI m (k + 7) (ix x2_2)))) fun x1_5 => Lt (x2_2 + (1 : Int32)) fun x2_6 => f_X0_freeHands_L4 k m K n x1_5 x2_6

def f_X0_freeHands (F : Nat)  (k : Nat) (m : MM) : Option Int32 := f_X0_freeHands_L4 k m (fun x1_1 x2_2 => f_X0_freeHands_L43 k m x1_1 (fun x2_7 x3_8 => some x2_7) F (0 : Int32) (0 : Int32)) F (0 : Int32) (0 : Int32)

def f_X0_isOpen (F : Nat)  (k : Nat) (m : MM) : Option Int32 := if (rI m k 9) = (-1 : Int32) then some (0 : Int32) else Gu (inB (rI m k 9) 5) <| if (rI m (k + 7) (ix (rI m k 9))) = (-1 : Int32) then some (0 : Int32) else Gu (inB (rI m k 9) 5) <| Gu (inB (rI m (k + 7) (ix (rI m k 9))) 5) <| Gu (inB (rI m (k + 1) (ix (rI m (k + 7) (ix (rI m k 9))))) 6) <| if (stT 3 (ix (rI m (k + 1) (ix (rI m (k + 7) (ix (rI m k 9))))))) = (1 : Int32) then bd1 (f_X0_freeHands F k m) fun r1 => if r1 < (rI m k 10) then some (0 : Int32) else some (1 : Int32) else some (0 : Int32)

def f_X0_movesThatCanBe_L14 (F : Nat) (k : Nat) (m : MM) (x2_2 : Int32) (K : Int32 → Int32 → Option Int32) : Nat → Int32 → Int32 → Option Int32
  | 0, _, _ => none
  | n + 1, x1_4, x3_5 => if (rI m k 7) ≤ x3_5 then K x1_4 x3_5 else bd1 (f_X0_refusal F k x2_2 x3_5 m) fun r7 => if r7 = 0 then Lt (x1_4 + (1 : Int32)) fun x1_9 => Lt (x3_5 + (1 : Int32)) fun x3_10 => f_X0_movesThatCanBe_L14 F k m x2_2 K n x1_9 x3_10 else Lt (x3_5 + (1 : Int32)) fun x3_11 => f_X0_movesThatCanBe_L14 F k m x2_2 K n x1_4 x3_11

def f_X0_movesThatCanBe_L4 (F : Nat) (k : Nat) (m : MM) (K : Int32 → Int32 → Option Int32) : Nat → Int32 → Int32 → Option Int32
  | 0, _, _ => none
  | n + 1, x1_1, x2_2 => if (rI m k 8) ≤ x2_2 then K x1_1 x2_2 else f_X0_movesThatCanBe_L14 F k m x2_2 (fun x1_4 x3_5 => Lt (x2_2 + (1 : Int32)) fun x2_12 => f_X0_movesThatCanBe_L4 F k m K n x1_4 x2_12) F x1_1 (0 : Int32)

def f_X0_movesThatCanBe (F : Nat)  (k : Nat) (m : MM) : Option Int32 := f_X0_movesThatCanBe_L4 F k m (fun x1_1 x2_2 => some x1_1) F (0 : Int32) (0 : Int32)

def f_X5_open (F : Nat)  (a0 : Int32) (m : MM) : Option Int32 := if a0 = (0 : Int32) then bd1 (f_X0_isOpen F 1 m) fun r2 => if r2 = 0 then some (0 : Int32) else some (1 : Int32) else if a0 = (1 : Int32) then bd1 (f_X0_freeHands F 1 m) fun r5 => some r5 else if a0 = (2 : Int32) then bd1 (f_X0_movesThatCanBe F 1 m) fun r8 => some r8 else some (-2 : Int32)

def f_X5_bell (F : Nat)   (m : MM) : Option (Int32 × MM) := bd1 (f_X5_name (0 : Int32) (0 : Int32) (0 : Int32) (0 : Int32) (0 : Int32) m) fun m2 => Gu (inB (rI m2 1 11) 6) <| bd2 (f_X4_tells F (39 + 4 * ix (rI m2 1 11)) (1 : Int32) m2) fun r4 m6 => bd1 (f_X5_bounded r4 (9999 : Int32) m6) fun r7 => some (r7, m6)

def f_X5_worth (F : Nat)  (a0 : Int32) (m : MM) : Option (Int32 × MM) := Gu (inB a0 5) <| Gu (inB a0 5) <| bd1 (f_X5_name (rI m 5 (ix a0)) (rI m 8 (ix a0)) (0 : Int32) a0 (0 : Int32) m) fun m2 => Gu (inB (rI m2 1 11) 6) <| bd2 (f_X4_tells F (39 + 4 * ix (rI m2 1 11)) (2 : Int32) m2) fun r4 m6 => bd1 (f_X5_bounded r4 (999 : Int32) m6) fun r7 => some (r7, m6)

def f_X5_asks (F : Nat)  (a0 : Int32) (a1 : Int32) (a2 : Int32) (m : MM) : Option (Int32 × MM) := Jp (if a0 = (1 : Int32) then bd2 (f_X5_bell F m) fun r2 m4 => some (r2, m4) else if a0 = (2 : Int32) then bd1 (f_X0_hasThing 1 a1 m) fun r5 => if r5 = 0 then some ((-1 : Int32), m) else bd2 (f_X5_worth F a1 m) fun r7 m9 => some (r7, m9) else some ((-1 : Int32), m)) fun J1 => if a0 = 0 then bd1 (f_X0_hasThing 1 a1 m) fun r10 => if r10 = 0 then J1 else bd1 (f_X0_hasHold 1 a2 m) fun r12 => if r12 = 0 then J1 else Gu (inB a1 5) <| bd2 (f_X5_costs F a1 (rI m 8 (ix a1)) a2 m) fun r14 m16 => some (r14, m16) else J1

def f_X0_become  (k : Nat) (k2 : Nat) (m : MM) : Option MM := Gu (cpyOk (0 : Int32) (0 : Int32) (5 : Int32) 5 5) <| Lt (cpy m (k2 + 1) (0 : Int32) (k + 1) (0 : Int32) (5 : Int32)) fun m1 => Gu (cpyOk (0 : Int32) (0 : Int32) (5 : Int32) 5 5) <| Lt (cpy m1 (k2 + 2) (0 : Int32) (k + 2) (0 : Int32) (5 : Int32)) fun m2 => Gu (cpyOk (0 : Int32) (0 : Int32) (5 : Int32) 5 5) <| Lt (cpy m2 (k2 + 3) (0 : Int32) (k + 3) (0 : Int32) (5 : Int32)) fun m3 => Gu (cpyOk (0 : Int32) (0 : Int32) (5 : Int32) 5 5) <| Lt (cpy m3 (k2 + 4) (0 : Int32) (k + 4) (0 : Int32) (5 : Int32)) fun m4 => Gu (cpyOk (0 : Int32) (0 : Int32) (5 : Int32) 5 5) <| Lt (cpy m4 (k2 + 5) (0 : Int32) (k + 5) (0 : Int32) (5 : Int32)) fun m5 => Gu (cpyOk (0 : Int32) (0 : Int32) (5 : Int32) 5 5) <| Lt (cpy m5 (k2 + 6) (0 : Int32) (k + 6) (0 : Int32) (5 : Int32)) fun m6 => Gu (cpyOk (0 : Int32) (0 : Int32) (5 : Int32) 5 5) <| Lt (cpy m6 (k2 + 7) (0 : Int32) (k + 7) (0 : Int32) (5 : Int32)) fun m7 => Lt (wI m7 k 7 (rI m7 k2 7)) fun m8 => Lt (wI m8 k 8 (rI m8 k2 8)) fun m9 => Lt (wI m9 k 9 (rI m9 k2 9)) fun m10 => Lt (wI m10 k 10 (rI m10 k2 10)) fun m11 => Lt (wI m11 k 11 (rI m11 k2 11)) fun m12 => Lt (wI m12 k 12 (-1 : Int32)) fun m13 => some m13

def f_X1_lay_L55 (F : Nat) (a0 : Int32) (a1 : Int32) (rec0 : Int32 → Int32 → MM → Option MM) (K : Int32 → MM → Option MM) : Nat → Int32 → MM → Option MM
  | 0, _, _ => none
  | n + 1, x3_3, m4 => Gu (rI m4 25 10 == 17) <| if (rI m4 17 7) ≤ x3_3 then K x3_3 m4 else Gu (rI m4 25 10 == 17) <| bd1 (f_X0_refusal F 17 a0 x3_3 m4) fun r6 => if r6 = 0 then Gu (rI m4 25 10 == 17) <| Gu (inB a0 5) <| Lt (wI m4 24 (ix a0) x3_3) fun m8 => Gu (inB a0 5) <| bd1 (rec0 (a0 + (1 : Int32)) (a1 + (x3_3 * (rI m8 32 (ix a0)))) m8) fun m10 => Gu (rI m10 25 10 == 17) <| Gu (inB a0 5) <| Lt (wI m10 24 (ix a0) (-1 : Int32)) fun m11 => Lt (x3_3 + (1 : Int32)) fun x3_12 => f_X1_lay_L55 F a0 a1 rec0 K n x3_12 m11 else Lt (x3_3 + (1 : Int32)) fun x3_13 => f_X1_lay_L55 F a0 a1 rec0 K n x3_13 m4

def fb_X1_lay (F : Nat) (rec0 : Int32 → Int32 → MM → Option MM) (a0 : Int32) (a1 : Int32) (m : MM) : Option MM := Gu (rI m 25 10 == 17) <| if a0 < (rI m 17 8) then Gu (rI m 25 10 == 17) <| if a0 = (rI m 17 12) then bd1 (rec0 (a0 + (1 : Int32)) a1 m) fun m2 => some m2 else f_X1_lay_L55 F a0 a1 rec0 (fun x3_3 m4 => some m4) F (0 : Int32) m else Gu (rI m 25 10 == 17) <| bd1 (f_X0_isOpen F 17 m) fun r14 => Jp (fun s16 => Gu (inB a1 3125) <| Lt (wI m 26 (ix a1) s16) fun m18 => some m18) fun J17 => if r14 = 0 then J17 (1 : Int32) else J17 (2 : Int32)
def f_X1_layD (F : Nat) : Nat → Int32 → Int32 → MM → Option MM
  | 0, _, _, _ => none
  | d + 1, a0, a1, m => fb_X1_lay F (f_X1_layD F d) a0 a1 m
def f_X1_lay (F : Nat) (a0 : Int32) (a1 : Int32) (m : MM) : Option MM := f_X1_layD F 8 a0 a1 m

def f_X1_split_L4  (K : Int32 → Int32 → MM → Option MM) : Nat → Int32 → Int32 → MM → Option MM
  | 0, _, _, _ => none
  | n + 1, x2_1, x3_2, m3 => Gu (rI m3 25 10 == 17) <| if (rI m3 17 8) ≤ x3_2 then K x2_1 x3_2 m3 else Gu (rI m3 25 10 == 17) <| if (rI m3 17 7) ≤ 0 then K x2_1 x3_2 m3 else Gu (rI m3 25 10 == 17) <| Gu (nz (rI m3 17 7)) <| Gu (inB x3_2 5) <| Lt (wI m3 33 (ix x3_2) (remI x2_1 (rI m3 17 7))) fun m5 => Gu (rI m5 25 10 == 17) <| Gu (nz (rI m5 17 7)) <| Lt (x2_1 / (rI m5 17 7)) fun x2_6 => Lt (x3_2 + (1 : Int32)) fun x3_7 => f_X1_split_L4 K n x2_6 x3_7 m5

def f_X1_split (F : Nat)  (a0 : Int32) (m : MM) : Option MM := f_X1_split_L4 (fun x2_1 x3_2 m3 => some m3) F a0 (0 : Int32) m

def f_X1_look_L145  (K : Int32 → MM → Option MM) : Nat → Int32 → MM → Option MM
  | 0, _, _ => none
  | n + 1, x2_23, m24 => Gu (rI m24 25 10 == 17) <| if (rI m24 17 8) ≤ x2_23 then K x2_23 m24 else Gu (rI m24 25 10 == 17) <| Gu (rI m24 25 10 == 17) <| Jp (fun s26 => Gu (inB x2_23 5) <| Lt (wI m24 24 (ix x2_23) s26) fun m28 => Lt (x2_23 + (1 : Int32)) fun x2_29 => f_X1_look_L145 K n x2_29 m28) fun J27 => if x2_23 = (rI m24 17 12) then J27 (-1 : Int32) else Gu (inB x2_23 5) <| J27 (rI m24 33 (ix x2_23))

def f_X1_look_L108  (K : Int32 → MM → Option MM) : Nat → Int32 → MM → Option MM
  | 0, _, _ => none
  | n + 1, x2_14, m15 => if (rI m15 25 11) ≤ x2_14 then K x2_14 m15 else Gu (inB x2_14 3125) <| Lt (wI m15 26 (ix x2_14) (0 : Int32)) fun m17 => Lt (x2_14 + (1 : Int32)) fun x2_18 => f_X1_look_L108 K n x2_18 m17

def f_X1_look_L17  (K : Int32 → MM → Option MM) : Nat → Int32 → MM → Option MM
  | 0, _, _ => none
  | n + 1, x2_4, m5 => Gu (rI m5 25 10 == 17) <| if (rI m5 17 8) ≤ x2_4 then K x2_4 m5 else Gu (inB x2_4 5) <| Lt (wI m5 32 (ix x2_4) (rI m5 25 11)) fun m7 => Gu (rI m7 25 10 == 17) <| Lt (wI m7 25 11 ((rI m7 25 11) * (rI m7 17 7))) fun m8 => Gu (rI m8 25 10 == 17) <| Jp (fun m9 => Gu (rI m9 25 10 == 17) <| Gu (inB x2_4 5) <| Lt (wI m9 24 (ix x2_4) (-1 : Int32)) fun m11 => Lt (x2_4 + (1 : Int32)) fun x2_12 => f_X1_look_L17 K n x2_12 m11) fun J10 => if x2_4 = (rI m8 17 12) then J10 m8 else Gu (rI m8 25 10 == 17) <| Gu (inB x2_4 5) <| Gu (inB x2_4 5) <| Lt (wI m8 25 12 ((rI m8 25 12) + ((rI m8 24 (ix x2_4)) * (rI m8 32 (ix x2_4))))) fun m13 => J10 m13

def f_X1_look (F : Nat)   (m : MM) : Option MM := Lt (wI m 25 10 17) fun m1 => Lt (wI m1 25 11 (1 : Int32)) fun m2 => Lt (wI m2 25 12 (0 : Int32)) fun m3 => f_X1_look_L17 (fun x2_4 m5 => f_X1_look_L108 (fun x2_14 m15 => bd1 (f_X1_lay F (0 : Int32) (0 : Int32) m15) fun m20 => bd1 (f_X1_split F (rI m20 25 12) m20) fun m22 => f_X1_look_L145 (fun x2_23 m24 => some m24) F (0 : Int32) m22) F (0 : Int32) m5) F (0 : Int32) m3

def f_X5_think (F : Nat)  (a0 : Int32) (a1 : Int32) (m : MM) : Option MM := bd1 (f_X0_become 17 1 m) fun m2 => Lt (wI m2 17 12 a0) fun m3 => Jp (fun m4 => bd1 (f_X1_look F m4) fun m7 => some m7) fun J5 => if a1 = (-1 : Int32) then J5 m3 else Gu (inB a1 5) <| Gu (inB a1 5) <| Lt (wI m3 20 (ix a1) ((rI m3 20 (ix a1)) + (1 : Int32))) fun m8 => J5 m8

def f_X1_countMoves_L2  (K : Int32 → MM → Option MM) : Nat → Int32 → MM → Option MM
  | 0, _, _ => none
  | n + 1, x1_1, m2 => if (125 : Int32) ≤ x1_1 then K x1_1 m2 else Gu (inB x1_1 125) <| Lt (wI m2 31 (ix x1_1) (1 : Int32)) fun m4 => Lt (x1_1 + (1 : Int32)) fun x1_5 => f_X1_countMoves_L2 K n x1_5 m4

def f_X1_countMoves (F : Nat)   (m : MM) : Option MM := f_X1_countMoves_L2 (fun x1_1 m2 => some m2) F (0 : Int32) m

def f_X1_clearTurns_L30  (K : Int32 → MM → Option MM) : Nat → Int32 → MM → Option MM
  | 0, _, _ => none
  | n + 1, x1_7, m8 => if (100 : Int32) ≤ x1_7 then K x1_7 m8 else Gu (inB x1_7 100) <| Lt (wI m8 30 (ix x1_7) (-1 : Int32)) fun m10 => Lt (x1_7 + (1 : Int32)) fun x1_11 => f_X1_clearTurns_L30 K n x1_11 m10

def f_X1_clearTurns_L7  (K : Int32 → MM → Option MM) : Nat → Int32 → MM → Option MM
  | 0, _, _ => none
  | n + 1, x1_2, m3 => if (rI m3 25 11) ≤ x1_2 then K x1_2 m3 else Gu (inB x1_2 3125) <| Lt (wI m3 27 (ix x1_2) (-1 : Int32)) fun m5 => Lt (x1_2 + (1 : Int32)) fun x1_6 => f_X1_clearTurns_L7 K n x1_6 m5

def f_X1_clearTurns (F : Nat)   (m : MM) : Option MM := Lt (wI m 25 13 (0 : Int32)) fun m1 => f_X1_clearTurns_L7 (fun x1_2 m3 => f_X1_clearTurns_L30 (fun x1_7 m8 => some m8) F (0 : Int32) m3) F (0 : Int32) m1

def f_X1_enterTurn  (a0 : Int32) (a1 : Int32) (m : MM) : Option MM := Gu (nz (100 : Int32)) <| Lt (remI a1 (100 : Int32)) fun x3_1 => Gu (inB x3_1 100) <| Lt (rI m 30 (ix x3_1)) fun x4_2 => Gu (inB a0 3125) <| Lt (wI m 27 (ix a0) a1) fun m3 => Gu (inB a0 3125) <| Lt (wI m3 28 (ix a0) x4_2) fun m4 => Gu (inB a0 3125) <| Lt (wI m4 29 (ix a0) (-1 : Int32)) fun m5 => Jp (fun m6 => Gu (inB x3_1 100) <| Lt (wI m6 30 (ix x3_1) a0) fun m8 => Lt (wI m8 25 13 ((rI m8 25 13) + (1 : Int32))) fun m9 => some m9) fun J7 => if x4_2 = (-1 : Int32) then J7 m5 else Gu (inB x4_2 3125) <| Lt (wI m5 29 (ix x4_2) a0) fun m10 => J7 m10

def f_X1_leaveTurn  (a0 : Int32) (m : MM) : Option MM := Gu (inB a0 3125) <| Jp (fun m1 => Gu (inB a0 3125) <| Jp (fun m3 => Lt (wI m3 25 13 ((rI m3 25 13) - (1 : Int32))) fun m5 => some m5) fun J4 => if (rI m1 28 (ix a0)) = (-1 : Int32) then J4 m1 else Gu (inB a0 3125) <| Gu (inB a0 3125) <| Gu (inB (rI m1 28 (ix a0)) 3125) <| Lt (wI m1 29 (ix (rI m1 28 (ix a0))) (rI m1 29 (ix a0))) fun m6 => J4 m6) fun J2 => if (rI m 29 (ix a0)) = (-1 : Int32) then Gu (inB a0 3125) <| Gu (nz (100 : Int32)) <| Gu (inB a0 3125) <| Gu (inB (remI (rI m 27 (ix a0)) (100 : Int32)) 100) <| Lt (wI m 30 (ix (remI (rI m 27 (ix a0)) (100 : Int32))) (rI m 28 (ix a0))) fun m7 => J2 m7 else Gu (inB a0 3125) <| Gu (inB a0 3125) <| Gu (inB (rI m 29 (ix a0)) 3125) <| Lt (wI m 28 (ix (rI m 29 (ix a0))) (rI m 28 (ix a0))) fun m8 => J2 m8

def f_X1_placeOf  (a0 : Int32) (a1 : Int32) (a2 : Int32) (m : MM) : Option Int32 := some ((((a0 * (5 : Int32)) + a1) * (5 : Int32)) + a2)

def f_X1_lookAround_L44 (x3_4 : Int32) (x4_7 : Int32) (K : Int32 → Int32 → Int32 → MM → Option (Int32 × MM)) : Nat → Int32 → Int32 → Int32 → MM → Option (Int32 × MM)
  | 0, _, _, _, _ => none
  | n + 1, x2_9, x5_10, x6_11, m12 => Gu (rI m12 25 10 == 17) <| if (rI m12 17 7) ≤ x6_11 then K x2_9 x5_10 x6_11 m12 else Jp (fun x2_14 m15 => Gu (inB x3_4 5) <| Lt (x5_10 + (rI m15 32 (ix x3_4))) fun x5_17 => Lt (x6_11 + (1 : Int32)) fun x6_18 => f_X1_lookAround_L44 x3_4 x4_7 K n x2_14 x5_17 x6_18 m15) fun J16 => if x6_11 = x4_7 then J16 x2_9 m12 else Gu (inB x5_10 3125) <| if (rI m12 26 (ix x5_10)) = 0 then J16 x2_9 m12 else Gu (inB x2_9 25) <| Lt (wI m12 34 (ix x2_9) x5_10) fun m19 => bd1 (f_X1_placeOf x3_4 x6_11 x4_7 m19) fun r20 => Gu (inB x2_9 25) <| Lt (wI m19 35 (ix x2_9) r20) fun m22 => Lt (x2_9 + (1 : Int32)) fun x2_23 => J16 x2_23 m22

def f_X1_lookAround_L9 (F : Nat) (a0 : Int32) (K : Int32 → Int32 → MM → Option (Int32 × MM)) : Nat → Int32 → Int32 → MM → Option (Int32 × MM)
  | 0, _, _, _ => none
  | n + 1, x2_3, x3_4, m5 => Gu (rI m5 25 10 == 17) <| if (rI m5 17 8) ≤ x3_4 then K x2_3 x3_4 m5 else Gu (inB x3_4 5) <| Lt (rI m5 33 (ix x3_4)) fun x4_7 => Gu (inB x3_4 5) <| Lt (a0 - (x4_7 * (rI m5 32 (ix x3_4)))) fun x5_8 => f_X1_lookAround_L44 x3_4 x4_7 (fun x2_9 x5_10 x6_11 m12 => Lt (x3_4 + (1 : Int32)) fun x3_24 => f_X1_lookAround_L9 F a0 K n x2_9 x3_24 m12) F x2_3 x5_8 (0 : Int32) m5

def f_X1_lookAround (F : Nat)  (a0 : Int32) (m : MM) : Option (Int32 × MM) := bd1 (f_X1_split F a0 m) fun m2 => f_X1_lookAround_L9 F a0 (fun x2_3 x3_4 m5 => some (x2_3, m5)) F (0 : Int32) (0 : Int32) m2

def f_X1_spreadOnce_L9 (a1 : Int32) (r1 : Int32) (K : Int32 → MM → Option MM) : Nat → Int32 → MM → Option MM
  | 0, _, _ => none
  | n + 1, x4_4, m5 => if r1 ≤ x4_4 then K x4_4 m5 else Gu (inB x4_4 25) <| Lt (rI m5 34 (ix x4_4)) fun x5_7 => Gu (inB x4_4 25) <| Gu (inB (rI m5 35 (ix x4_4)) 125) <| Lt (a1 + (rI m5 31 (ix (rI m5 35 (ix x4_4))))) fun x6_8 => Gu (inB x5_7 3125) <| if (rI m5 27 (ix x5_7)) = (-1 : Int32) then bd1 (f_X1_enterTurn x5_7 x6_8 m5) fun m10 => Lt (x4_4 + (1 : Int32)) fun x4_11 => f_X1_spreadOnce_L9 a1 r1 K n x4_11 m10 else Gu (inB x5_7 3125) <| if (rI m5 27 (ix x5_7)) ≤ x6_8 then Lt (x4_4 + (1 : Int32)) fun x4_12 => f_X1_spreadOnce_L9 a1 r1 K n x4_12 m5 else bd1 (f_X1_leaveTurn x5_7 m5) fun m14 => bd1 (f_X1_enterTurn x5_7 x6_8 m14) fun m16 => Lt (x4_4 + (1 : Int32)) fun x4_17 => f_X1_spreadOnce_L9 a1 r1 K n x4_17 m16

def f_X1_spreadOnce (F : Nat)  (a0 : Int32) (a1 : Int32) (m : MM) : Option MM := bd2 (f_X1_lookAround F a0 m) fun r1 m3 => f_X1_spreadOnce_L9 a1 r1 (fun x4_4 m5 => some m5) F (0 : Int32) m3

def f_X1_spread_L57 (F : Nat) (x2_1 : Int32) (K : Int32 → MM → Option (Int32 × MM)) : Nat → Int32 → MM → Option (Int32 × MM)
  | 0, _, _ => none
  | n + 1, x3_5, m6 => if (rI m6 25 11) ≤ x3_5 then K x3_5 m6 else Gu (nz (100 : Int32)) <| Gu (inB (remI x2_1 (100 : Int32)) 100) <| if (rI m6 30 (ix (remI x2_1 (100 : Int32)))) = (-1 : Int32) then K x3_5 m6 else Gu (nz (100 : Int32)) <| Gu (inB (remI x2_1 (100 : Int32)) 100) <| Lt (rI m6 30 (ix (remI x2_1 (100 : Int32)))) fun x4_8 => bd1 (f_X1_leaveTurn x4_8 m6) fun m10 => bd1 (f_X1_spreadOnce F x4_8 x2_1 m10) fun m12 => Lt (x3_5 + (1 : Int32)) fun x3_13 => f_X1_spread_L57 F x2_1 K n x3_13 m12

def f_X1_spread_L2 (F : Nat) (a0 : Int32) (K : Int32 → MM → Option (Int32 × MM)) : Nat → Int32 → MM → Option (Int32 × MM)
  | 0, _, _ => none
  | n + 1, x2_1, m2 => if (309375 : Int32) < x2_1 then K x2_1 m2 else if (rI m2 25 13) ≤ 0 then K x2_1 m2 else Jp (f_X1_spread_L57 F x2_1 (fun x3_5 m6 => Lt (x2_1 + (1 : Int32)) fun x2_14 => f_X1_spread_L2 F a0 K n x2_14 m6) F (0 : Int32) m2) fun J4 => if a0 = 0 then Gu (inB (rI m2 25 12) 3125) <| if (rI m2 27 (ix (rI m2 25 12))) = (-1 : Int32) then J4 else Gu (inB (rI m2 25 12) 3125) <| if x2_1 ≤ (rI m2 27 (ix (rI m2 25 12))) then J4 else Gu (inB (rI m2 25 12) 3125) <| some (rI m2 27 (ix (rI m2 25 12)), m2) else J4

def f_X1_spread (F : Nat)  (a0 : Int32) (m : MM) : Option (Int32 × MM) := f_X1_spread_L2 F a0 (fun x2_1 m2 => Gu (inB (rI m2 25 12) 3125) <| some (rI m2 27 (ix (rI m2 25 12)), m2)) F (0 : Int32) m

def f_X1_spreadFromOpen_L6  (K : Int32 → MM → Option (Int32 × MM)) : Nat → Int32 → MM → Option (Int32 × MM)
  | 0, _, _ => none
  | n + 1, x2_3, m4 => if (rI m4 25 11) ≤ x2_3 then K x2_3 m4 else Gu (inB x2_3 3125) <| if (rI m4 26 (ix x2_3)) = (2 : Int32) then bd1 (f_X1_enterTurn x2_3 (0 : Int32) m4) fun m7 => Lt (x2_3 + (1 : Int32)) fun x2_8 => f_X1_spreadFromOpen_L6 K n x2_8 m7 else Lt (x2_3 + (1 : Int32)) fun x2_9 => f_X1_spreadFromOpen_L6 K n x2_9 m4

def f_X1_spreadFromOpen (F : Nat)  (a0 : Int32) (m : MM) : Option (Int32 × MM) := bd1 (f_X1_clearTurns F m) fun m2 => f_X1_spreadFromOpen_L6 (fun x2_3 m4 => bd2 (f_X1_spread F a0 m4) fun r10 m12 => some (r10, m12)) F (0 : Int32) m2

def f_X5_fewest (F : Nat)  (a0 : Int32) (m : MM) : Option (Int32 × MM) := bd1 (f_X5_think F (-1 : Int32) (-1 : Int32) m) fun m2 => bd1 (f_X1_countMoves F m2) fun m4 => bd2 (f_X1_spreadFromOpen F a0 m4) fun r5 m7 => some (r5, m7)

def f_X1_firstBest_L53 (m : MM) (x1_1 : Int32) (x2_3 : Int32) (K : Int32 → Option Int32) : Nat → Int32 → Option Int32
  | 0, _ => none
  | n + 1, x3_4 => Gu (rI m 25 10 == 17) <| if (rI m 17 7) ≤ x3_4 then K x3_4 else Gu (inB x1_1 5) <| Lt ((rI m 25 12) + ((x3_4 - x2_3) * (rI m 32 (ix x1_1)))) fun x4_6 => Gu (inB x4_6 3125) <| if (rI m 26 (ix x4_6)) = 0 then Lt (x3_4 + (1 : Int32)) fun x3_7 => f_X1_firstBest_L53 m x1_1 x2_3 K n x3_7 else if x4_6 = (rI m 25 12) then Lt (x3_4 + (1 : Int32)) fun x3_8 => f_X1_firstBest_L53 m x1_1 x2_3 K n x3_8 else Gu (inB x4_6 3125) <| if (rI m 27 (ix x4_6)) = (-1 : Int32) then Lt (x3_4 + (1 : Int32)) fun x3_9 => f_X1_firstBest_L53 m x1_1 x2_3 K n x3_9 else Gu (inB (rI m 25 12) 3125) <| Gu (inB x4_6 3125) <| bd1 (f_X1_placeOf x1_1 x2_3 x3_4 m) fun r10 => Gu (inB r10 125) <| if ((rI m 27 (ix (rI m 25 12))) - (rI m 27 (ix x4_6))) = (rI m 31 (ix r10)) then some (((10 : Int32) * x1_1) + x3_4) else Lt (x3_4 + (1 : Int32)) fun x3_12 => f_X1_firstBest_L53 m x1_1 x2_3 K n x3_12

def f_X1_firstBest_L30 (F : Nat) (m : MM) (K : Int32 → Option Int32) : Nat → Int32 → Option Int32
  | 0, _ => none
  | n + 1, x1_1 => Gu (rI m 25 10 == 17) <| if (rI m 17 8) ≤ x1_1 then K x1_1 else Gu (rI m 25 10 == 17) <| Gu (inB x1_1 5) <| Lt (rI m 24 (ix x1_1)) fun x2_3 => f_X1_firstBest_L53 m x1_1 x2_3 (fun x3_4 => Lt (x1_1 + (1 : Int32)) fun x1_13 => f_X1_firstBest_L30 F m K n x1_13) F (0 : Int32)

def f_X1_firstBest (F : Nat)   (m : MM) : Option Int32 := Gu (inB (rI m 25 12) 3125) <| if (rI m 26 (ix (rI m 25 12))) = (2 : Int32) then some (-1 : Int32) else Gu (inB (rI m 25 12) 3125) <| if (rI m 27 (ix (rI m 25 12))) = (-1 : Int32) then some (-1 : Int32) else f_X1_firstBest_L30 F m (fun x1_1 => some (-1 : Int32)) F (0 : Int32)

def f_X1_price  (a0 : Int32) (a1 : Int32) (a2 : Int32) (a3 : Int32) (m : MM) : Option MM := bd1 (f_X1_placeOf a0 a1 a2 m) fun r1 => Gu (inB r1 125) <| Lt (wI m 31 (ix r1) a3) fun m3 => some m3

def f_X5_countCosts_L28 (F : Nat) (x1_1 : Int32) (x2_4 : Int32) (K : Int32 → MM → Option MM) : Nat → Int32 → MM → Option MM
  | 0, _, _ => none
  | n + 1, x3_7, m8 => if (rI m8 1 7) ≤ x3_7 then K x3_7 m8 else bd2 (f_X5_costs F x1_1 x2_4 x3_7 m8) fun r10 m12 => bd1 (f_X1_price x1_1 x2_4 x3_7 r10 m12) fun m14 => Lt (x3_7 + (1 : Int32)) fun x3_15 => f_X5_countCosts_L28 F x1_1 x2_4 K n x3_15 m14

def f_X5_countCosts_L15 (F : Nat) (x1_1 : Int32) (K : Int32 → MM → Option MM) : Nat → Int32 → MM → Option MM
  | 0, _, _ => none
  | n + 1, x2_4, m5 => if (rI m5 1 7) ≤ x2_4 then K x2_4 m5 else f_X5_countCosts_L28 F x1_1 x2_4 (fun x3_7 m8 => Lt (x2_4 + (1 : Int32)) fun x2_16 => f_X5_countCosts_L15 F x1_1 K n x2_16 m8) F (0 : Int32) m5

def f_X5_countCosts_L2 (F : Nat) (K : Int32 → MM → Option MM) : Nat → Int32 → MM → Option MM
  | 0, _, _ => none
  | n + 1, x1_1, m2 => if (rI m2 1 8) ≤ x1_1 then K x1_1 m2 else f_X5_countCosts_L15 F x1_1 (fun x2_4 m5 => Lt (x1_1 + (1 : Int32)) fun x1_17 => f_X5_countCosts_L2 F K n x1_17 m5) F (0 : Int32) m2

def f_X5_countCosts (F : Nat)   (m : MM) : Option MM := f_X5_countCosts_L2 F (fun x1_1 m2 => some m2) F (0 : Int32) m

def f_X5_leastIf (F : Nat)  (a0 : Int32) (a1 : Int32) (m : MM) : Option (Int32 × MM) := bd1 (f_X5_think F a0 a1 m) fun m2 => bd2 (f_X1_spreadFromOpen F (0 : Int32) m2) fun r3 m5 => some (r3, m5)

def f_X1_floodOnce_L12 (r1 : Int32) (K : Int32 → Int32 → MM → Option (Int32 × MM)) : Nat → Int32 → Int32 → MM → Option (Int32 × MM)
  | 0, _, _, _ => none
  | n + 1, x3_4, x5_5, m6 => if r1 ≤ x5_5 then K x3_4 x5_5 m6 else Gu (inB x5_5 25) <| Gu (inB (rI m6 34 (ix x5_5)) 3125) <| if (rI m6 29 (ix (rI m6 34 (ix x5_5)))) = 0 then Gu (inB x5_5 25) <| Gu (inB (rI m6 34 (ix x5_5)) 3125) <| Lt (wI m6 29 (ix (rI m6 34 (ix x5_5))) (1 : Int32)) fun m8 => Lt (x3_4 + (1 : Int32)) fun x3_9 => Gu (inB x5_5 25) <| Gu (inB x3_4 3125) <| Lt (wI m8 28 (ix x3_4) (rI m8 34 (ix x5_5))) fun m10 => Lt (x5_5 + (1 : Int32)) fun x5_11 => f_X1_floodOnce_L12 r1 K n x3_9 x5_11 m10 else Lt (x5_5 + (1 : Int32)) fun x5_12 => f_X1_floodOnce_L12 r1 K n x3_4 x5_12 m6

def f_X1_floodOnce (F : Nat)  (a0 : Int32) (a1 : Int32) (m : MM) : Option (Int32 × MM) := bd2 (f_X1_lookAround F a0 m) fun r1 m3 => f_X1_floodOnce_L12 r1 (fun x3_4 x5_5 m6 => some (x3_4, m6)) F a1 (0 : Int32) m3

def f_X1_flood_L47 (F : Nat) (K : Int32 → Int32 → MM → Option (Int32 × MM)) : Nat → Int32 → Int32 → MM → Option (Int32 × MM)
  | 0, _, _, _ => none
  | n + 1, x1_8, x2_9, m10 => if x1_8 ≤ x2_9 then K x1_8 x2_9 m10 else if (rI m10 25 11) ≤ x2_9 then K x1_8 x2_9 m10 else Gu (inB x2_9 3125) <| bd2 (f_X1_floodOnce F (rI m10 28 (ix x2_9)) x1_8 m10) fun r12 m14 => Lt (x2_9 + (1 : Int32)) fun x2_15 => f_X1_flood_L47 F K n r12 x2_15 m14

def f_X1_flood_L2  (K : Int32 → MM → Option (Int32 × MM)) : Nat → Int32 → MM → Option (Int32 × MM)
  | 0, _, _ => none
  | n + 1, x1_1, m2 => if (rI m2 25 11) ≤ x1_1 then K x1_1 m2 else Gu (inB x1_1 3125) <| Lt (wI m2 29 (ix x1_1) (0 : Int32)) fun m4 => Lt (x1_1 + (1 : Int32)) fun x1_5 => f_X1_flood_L2 K n x1_5 m4

def f_X1_flood (F : Nat)   (m : MM) : Option (Int32 × MM) := f_X1_flood_L2 (fun x1_1 m2 => Gu (inB (rI m2 25 12) 3125) <| Lt (wI m2 29 (ix (rI m2 25 12)) (1 : Int32)) fun m6 => Gu (inB (0 : Int32) 3125) <| Lt (wI m6 28 (ix (0 : Int32)) (rI m6 25 12)) fun m7 => f_X1_flood_L47 F (fun x1_8 x2_9 m10 => some (x1_8, m10)) F (1 : Int32) (0 : Int32) m7) F (0 : Int32) m

def f_X1_farthest_L9 (r1 : Int32) (m3 : MM) (K : Int32 → Int32 → Option (Int32 × MM)) : Nat → Int32 → Int32 → Option (Int32 × MM)
  | 0, _, _ => none
  | n + 1, x2_4, x3_5 => if r1 ≤ x3_5 then K x2_4 x3_5 else Gu (inB x3_5 3125) <| Gu (inB (rI m3 28 (ix x3_5)) 3125) <| Lt (maxI x2_4 (rI m3 27 (ix (rI m3 28 (ix x3_5))))) fun x2_7 => Lt (x3_5 + (1 : Int32)) fun x3_8 => f_X1_farthest_L9 r1 m3 K n x2_7 x3_8

def f_X1_farthest (F : Nat)   (m : MM) : Option (Int32 × MM) := bd2 (f_X1_flood F m) fun r1 m3 => f_X1_farthest_L9 r1 m3 (fun x2_4 x3_5 => some (x2_4, m3)) F (-1 : Int32) (0 : Int32)

def f_X5_best (F : Nat)  (a0 : Int32) (m : MM) : Option (Int32 × MM) := if a0 = (0 : Int32) then bd2 (f_X5_fewest F (0 : Int32) m) fun r2 m4 => some (r2, m4) else if a0 = (1 : Int32) then bd2 (f_X5_fewest F (0 : Int32) m) fun r6 m8 => bd1 (f_X1_firstBest F m8) fun r9 => some (r9, m8) else if a0 = (2 : Int32) then bd1 (f_X5_countCosts F m) fun m13 => bd2 (f_X5_leastIf F (-1 : Int32) (-1 : Int32) m13) fun r14 m16 => some (r14, m16) else if a0 = (3 : Int32) then bd1 (f_X5_countCosts F m) fun m19 => bd2 (f_X5_leastIf F (-1 : Int32) (-1 : Int32) m19) fun r20 m22 => bd1 (f_X1_firstBest F m22) fun r23 => some (r23, m22) else if a0 = (4 : Int32) then bd1 (f_X5_think F (-1 : Int32) (-1 : Int32) m) fun m27 => bd2 (f_X1_flood F m27) fun r28 m30 => some (r28, m30) else if a0 = (5 : Int32) then bd2 (f_X5_fewest F (1 : Int32) m) fun r32 m34 => bd2 (f_X1_farthest F m34) fun r35 m37 => some (r35, m37) else some ((-100 : Int32), m)

def f_X1_farWith  (a0 : Int32) (a1 : Int32) (m : MM) : Option Int32 := Gu (rI m 25 10 == 17) <| Gu (inB a0 5) <| Gu (inB a0 5) <| Lt ((rI m 25 12) + ((a1 - (rI m 24 (ix a0))) * (rI m 32 (ix a0)))) fun x3_1 => Gu (inB x3_1 3125) <| if (rI m 26 (ix x3_1)) = 0 then some (-1 : Int32) else Gu (inB x3_1 3125) <| some (rI m 27 (ix x3_1))

def f_X5_isLess  (a0 : Int32) (a1 : Int32) (m : MM) : Option Int32 := if a0 = (-1 : Int32) then some (0 : Int32) else if a1 = (-1 : Int32) then some (1 : Int32) else if a1 ≤ a0 then some (0 : Int32) else some (1 : Int32)

def f_X5_pack_L36 (a0 : Int32) (m7 : MM) (K : Int32 → Int32 → Int32 → Option (Int32 × MM)) : Nat → Int32 → Int32 → Int32 → Option (Int32 × MM)
  | 0, _, _, _ => none
  | n + 1, x3_8, x4_9, x5_10 => if (rI m7 1 7) ≤ x5_10 then K x3_8 x4_9 x5_10 else bd1 (f_X1_farWith a0 x5_10 m7) fun r12 => bd1 (f_X5_isLess r12 x4_9 m7) fun r14 => if r14 = 0 then Lt (x5_10 + (1 : Int32)) fun x5_16 => f_X5_pack_L36 a0 m7 K n x3_8 x4_9 x5_16 else Lt (x5_10 + (1 : Int32)) fun x5_17 => f_X5_pack_L36 a0 m7 K n x5_10 r12 x5_17

def f_X5_pack (F : Nat)  (a0 : Int32) (a1 : Int32) (m : MM) : Option (Int32 × MM) := bd1 (f_X0_hasThing 1 a0 m) fun r1 => if r1 = 0 then some ((-2 : Int32), m) else bd1 (f_X5_within a1 (2 : Int32) m) fun r3 => if r3 = 0 then some ((-2 : Int32), m) else bd2 (f_X5_fewest F (1 : Int32) m) fun r5 m7 => f_X5_pack_L36 a0 m7 (fun x3_8 x4_9 x5_10 => if a1 = 0 then some (x3_8, m7) else some (x4_9, m7)) F (-1 : Int32) (-1 : Int32) (0 : Int32)

def f_X5_ring (F : Nat)  (a0 : Int32) (m : MM) : Option (Int32 × MM) := bd1 (f_X5_within a0 (2 : Int32) m) fun r1 => if r1 = 0 then some ((-2 : Int32), m) else bd1 (f_X5_countCosts F m) fun m4 => bd2 (f_X5_leastIf F (-1 : Int32) (-1 : Int32) m4) fun r5 m7 => bd2 (f_X5_bell F m7) fun r8 m10 => bd1 (f_X5_isLess r8 r5 m10) fun r11 => if a0 = 0 then if r11 = 0 then some ((0 : Int32), m10) else some ((1 : Int32), m10) else if r11 = 0 then some (r5, m10) else some (r8, m10)

def f_X5_leave_L15 (F : Nat) (K : Int32 → Int32 → Int32 → MM → Option (Int32 × MM)) : Nat → Int32 → Int32 → Int32 → MM → Option (Int32 × MM)
  | 0, _, _, _, _ => none
  | n + 1, x1_6, x2_7, x3_8, m9 => if (rI m9 1 8) ≤ x3_8 then K x1_6 x2_7 x3_8 m9 else Jp (fun s11 m12 => if s11 = (-1 : Int32) then Lt (x3_8 + (1 : Int32)) fun x3_14 => f_X5_leave_L15 F K n x1_6 x2_7 x3_14 m12 else bd2 (f_X5_worth F x3_8 m12) fun r15 m17 => bd1 (f_X5_isLess (s11 + r15) x1_6 m17) fun r18 => if r18 = 0 then Lt (x3_8 + (1 : Int32)) fun x3_20 => f_X5_leave_L15 F K n x1_6 x2_7 x3_20 m17 else bd2 (f_X5_worth F x3_8 m17) fun r21 m23 => Lt (s11 + r21) fun x1_24 => Lt (x3_8 + (1 : Int32)) fun x3_25 => f_X5_leave_L15 F K n x1_24 x3_8 x3_25 m23) fun J13 => if x3_8 = (rI m9 1 9) then J13 (-1 : Int32) m9 else bd2 (f_X5_leastIf F x3_8 (-1 : Int32) m9) fun r26 m28 => J13 r26 m28

def f_X5_leave (F : Nat)   (m : MM) : Option (Int32 × MM) := bd1 (f_X5_countCosts F m) fun m2 => bd2 (f_X5_leastIf F (-1 : Int32) (-1 : Int32) m2) fun r3 m5 => f_X5_leave_L15 F (fun x1_6 x2_7 x3_8 m9 => some (x2_7, m9)) F r3 (-1 : Int32) (0 : Int32) m5

def f_X5_roomy_L27 (F : Nat) (K : Int32 → Int32 → Int32 → MM → Option (Int32 × MM)) : Nat → Int32 → Int32 → Int32 → MM → Option (Int32 × MM)
  | 0, _, _, _, _ => none
  | n + 1, x2_8, x3_9, x4_10, m11 => if (rI m11 1 7) ≤ x4_10 then K x2_8 x3_9 x4_10 m11 else bd2 (f_X5_leastIf F (-1 : Int32) x4_10 m11) fun r13 m15 => bd1 (f_X5_isLess r13 x2_8 m15) fun r16 => if r16 = 0 then Lt (x4_10 + (1 : Int32)) fun x4_18 => f_X5_roomy_L27 F K n x2_8 x3_9 x4_18 m15 else Lt (x4_10 + (1 : Int32)) fun x4_19 => f_X5_roomy_L27 F K n r13 x4_10 x4_19 m15

def f_X5_roomy (F : Nat)  (a0 : Int32) (m : MM) : Option (Int32 × MM) := bd1 (f_X5_within a0 (2 : Int32) m) fun r1 => if r1 = 0 then some ((-2 : Int32), m) else bd1 (f_X5_countCosts F m) fun m4 => bd2 (f_X5_leastIf F (-1 : Int32) (-1 : Int32) m4) fun r5 m7 => f_X5_roomy_L27 F (fun x2_8 x3_9 x4_10 m11 => if x3_9 = (-1 : Int32) then some ((-1 : Int32), m11) else if a0 = 0 then some (x3_9, m11) else some (x2_8, m11)) F r5 (-1 : Int32) (0 : Int32) m7

def f_X2_isMissing  (k : Nat) (m : MM) : Option Int32 := if (rI m k 1) = (-1 : Int32) then some (1 : Int32) else some (0 : Int32)

def f_X5_canBe (F : Nat)  (a0 : Int32) (m : MM) : Option Int32 := Gu (nz (10 : Int32)) <| Lt (a0 / (10 : Int32)) fun x2_1 => Gu (nz (10 : Int32)) <| Lt (remI a0 (10 : Int32)) fun x3_2 => if a0 < 0 then some (0 : Int32) else bd1 (f_X0_hasThing 17 x2_1 m) fun r3 => if r3 = 0 then some (0 : Int32) else bd1 (f_X0_hasHold 17 x3_2 m) fun r5 => if r5 = 0 then some (0 : Int32) else bd1 (f_X0_refusal F 17 x2_1 x3_2 m) fun r7 => if r7 = 0 then some (1 : Int32) else some (0 : Int32)

def f_X5_judge_L53 (F : Nat) (a0 : Int32) (K : Int32 → Int32 → MM → Option (Int32 × MM)) : Nat → Int32 → Int32 → MM → Option (Int32 × MM)
  | 0, _, _, _ => none
  | n + 1, x4_10, x5_11, m12 => if (rI m12 (64 + 2 * ix a0) 2) ≤ x5_11 then K x4_10 x5_11 m12 else Gu (inB x5_11 40) <| bd1 (f_X5_canBe F (rI m12 ((64 + 2 * ix a0) + 1) (ix x5_11)) m12) fun r14 => if r14 = 0 then K x4_10 x5_11 m12 else Gu (inB x5_11 40) <| Gu (nz (10 : Int32)) <| Lt ((rI m12 ((64 + 2 * ix a0) + 1) (ix x5_11)) / (10 : Int32)) fun x6_16 => Gu (inB x5_11 40) <| Gu (nz (10 : Int32)) <| Lt (remI (rI m12 ((64 + 2 * ix a0) + 1) (ix x5_11)) (10 : Int32)) fun x7_17 => Gu (inB x6_16 5) <| bd2 (f_X5_costs F x6_16 (rI m12 24 (ix x6_16)) x7_17 m12) fun r18 m20 => Lt (x4_10 + r18) fun x4_21 => Gu (inB x6_16 5) <| Lt (wI m20 24 (ix x6_16) x7_17) fun m22 => Lt (x5_11 + (1 : Int32)) fun x5_23 => f_X5_judge_L53 F a0 K n x4_21 x5_23 m22

def f_X5_judge (F : Nat)  (a0 : Int32) (a1 : Int32) (m : MM) : Option (Int32 × MM) := bd1 (f_X5_within a0 (4 : Int32) m) fun r1 => if r1 = 0 then some ((-2 : Int32), m) else bd1 (f_X5_within a1 (3 : Int32) m) fun r3 => if r3 = 0 then some ((-2 : Int32), m) else Gu (inB a0 4) <| bd1 (f_X2_isMissing (64 + 2 * ix a0) m) fun r6 => if r6 = 0 then bd1 (f_X0_become 17 1 m) fun m9 => f_X5_judge_L53 F a0 (fun x4_10 x5_11 m12 => if a1 = 0 then if (rI m12 (64 + 2 * ix a0) 2) ≤ x5_11 then some ((-1 : Int32), m12) else some (x5_11, m12) else if a1 = (1 : Int32) then some (x4_10, m12) else bd1 (f_X0_isOpen F 17 m12) fun r24 => if r24 = 0 then some ((0 : Int32), m12) else some ((1 : Int32), m12)) F (0 : Int32) (0 : Int32) m9 else some ((-11 : Int32), m)

def f_X1_stateOf_L4 (q : Nat) (m : MM) (K : Int32 → Int32 → Option Int32) : Nat → Int32 → Int32 → Option Int32
  | 0, _, _ => none
  | n + 1, x2_1, x3_2 => Gu (rI m 25 10 == 17) <| if (rI m 17 8) ≤ x3_2 then K x2_1 x3_2 else Gu (rI m 25 10 == 17) <| Gu (inB x3_2 40) <| bd1 (f_X0_hasHold 17 (rI m q (ix x3_2)) m) fun r4 => if r4 = 0 then some (-1 : Int32) else Gu (inB x3_2 40) <| Gu (inB x3_2 5) <| Lt (x2_1 + ((rI m q (ix x3_2)) * (rI m 32 (ix x3_2)))) fun x2_6 => Lt (x3_2 + (1 : Int32)) fun x3_7 => f_X1_stateOf_L4 q m K n x2_6 x3_7

def f_X1_stateOf (F : Nat)  (q : Nat) (m : MM) : Option Int32 := f_X1_stateOf_L4 q m (fun x2_1 x3_2 => Gu (inB x2_1 3125) <| if (rI m 26 (ix x2_1)) = 0 then some (-1 : Int32) else some x2_1) F (0 : Int32) (0 : Int32)

def f_X1_stepOnce_L9 (a1 : Int32) (r1 : Int32) (K : Int32 → MM → Option MM) : Nat → Int32 → MM → Option MM
  | 0, _, _ => none
  | n + 1, x4_4, m5 => if r1 ≤ x4_4 then K x4_4 m5 else Gu (inB x4_4 25) <| Gu (inB (rI m5 34 (ix x4_4)) 3125) <| Gu (inB (rI m5 34 (ix x4_4)) 3125) <| Lt (wI m5 28 (ix (rI m5 34 (ix x4_4))) ((rI m5 28 (ix (rI m5 34 (ix x4_4)))) + a1)) fun m7 => Lt (x4_4 + (1 : Int32)) fun x4_8 => f_X1_stepOnce_L9 a1 r1 K n x4_8 m7

def f_X1_stepOnce (F : Nat)  (a0 : Int32) (a1 : Int32) (m : MM) : Option MM := bd2 (f_X1_lookAround F a0 m) fun r1 m3 => f_X1_stepOnce_L9 a1 r1 (fun x4_4 m5 => some m5) F (0 : Int32) m3

def f_X1_step_L65 (F : Nat) (q : Nat) (K : Int32 → MM → Option MM) : Nat → Int32 → MM → Option MM
  | 0, _, _ => none
  | n + 1, x5_15, m16 => if (rI m16 25 11) ≤ x5_15 then K x5_15 m16 else Gu (inB x5_15 3125) <| if (rI m16 q (ix x5_15)) = 0 then Lt (x5_15 + (1 : Int32)) fun x5_18 => f_X1_step_L65 F q K n x5_18 m16 else Gu (inB x5_15 3125) <| bd1 (f_X1_stepOnce F x5_15 (rI m16 q (ix x5_15)) m16) fun m20 => Lt (x5_15 + (1 : Int32)) fun x5_21 => f_X1_step_L65 F q K n x5_21 m20

def f_X1_step_L39  (K : Int32 → MM → Option MM) : Nat → Int32 → MM → Option MM
  | 0, _, _ => none
  | n + 1, x5_10, m11 => if (rI m11 25 11) ≤ x5_10 then K x5_10 m11 else Gu (inB x5_10 3125) <| Lt (wI m11 28 (ix x5_10) (0 : Int32)) fun m13 => Lt (x5_10 + (1 : Int32)) fun x5_14 => f_X1_step_L39 K n x5_14 m13

def f_X1_step_L30 (F : Nat) (q : Nat) (a2 : Int32) (K : Int32 → MM → Option MM) : Nat → Int32 → MM → Option MM
  | 0, _, _ => none
  | n + 1, x4_7, m8 => if a2 ≤ x4_7 then K x4_7 m8 else f_X1_step_L39 (fun x5_10 m11 => f_X1_step_L65 F q (fun x5_15 m16 => Gu (cpyOk (0 : Int32) (0 : Int32) (rI m16 25 11) 3125 3125) <| Lt (cpy m16 28 (0 : Int32) q (0 : Int32) (rI m16 25 11)) fun m22 => Lt (x4_7 + (1 : Int32)) fun x4_23 => f_X1_step_L30 F q a2 K n x4_23 m22) F (0 : Int32) m11) F (0 : Int32) m8

def f_X1_step_L3 (q : Nat) (K : Int32 → MM → Option MM) : Nat → Int32 → MM → Option MM
  | 0, _, _ => none
  | n + 1, x4_1, m2 => if (rI m2 25 11) ≤ x4_1 then K x4_1 m2 else Gu (inB x4_1 3125) <| Lt (wI m2 q (ix x4_1) (0 : Int32)) fun m4 => Lt (x4_1 + (1 : Int32)) fun x4_5 => f_X1_step_L3 q K n x4_5 m4

def f_X1_step (F : Nat)  (q : Nat) (a1 : Int32) (a2 : Int32) (m : MM) : Option MM := f_X1_step_L3 q (fun x4_1 m2 => Gu (inB a1 3125) <| Lt (wI m2 q (ix a1) (1 : Int32)) fun m6 => f_X1_step_L30 F q a2 (fun x4_7 m8 => some m8) F (0 : Int32) m6) F (0 : Int32) m

def f_X1_rowsTo_L41 (m4 : MM) (K : Int64 → Int32 → Option (Int64 × MM)) : Nat → Int64 → Int32 → Option (Int64 × MM)
  | 0, _, _ => none
  | n + 1, x3_5, x5_6 => if (rI m4 25 11) ≤ x5_6 then K x3_5 x5_6 else Gu (inB x5_6 3125) <| Gu (inB x5_6 3125) <| Lt (x3_5 + ((Int32.toInt64 (rI m4 27 (ix x5_6))) * (Int32.toInt64 (rI m4 29 (ix x5_6))))) fun x3_8 => Lt (x5_6 + (1 : Int32)) fun x5_9 => f_X1_rowsTo_L41 m4 K n x3_8 x5_9

def f_X1_rowsTo (F : Nat)  (a0 : Int32) (a1 : Int32) (m : MM) : Option (Int64 × MM) := if a0 = (-1 : Int32) then some ((0 : Int64), m) else Gu (nz (2 : Int32)) <| bd1 (f_X1_step F 27 (rI m 25 12) (a1 / (2 : Int32)) m) fun m2 => Gu (nz (2 : Int32)) <| bd1 (f_X1_step F 29 a0 (a1 - (a1 / (2 : Int32))) m2) fun m4 => f_X1_rowsTo_L41 m4 (fun x3_5 x5_6 => some (x3_5, m4)) F (0 : Int64) (0 : Int32)

def f_X5_ways (F : Nat)  (a0 : Int32) (a1 : Int32) (m : MM) : Option (Int64 × MM) := bd1 (f_X5_within a0 (4 : Int32) m) fun r1 => if r1 = 0 then some ((-4611686018427387904 : Int64), m) else bd1 (f_X5_within a1 (9 : Int32) m) fun r3 => if r3 = 0 then some ((-4611686018427387904 : Int64), m) else Gu (inB a0 4) <| bd1 (f_X2_isMissing (64 + 2 * ix a0) m) fun r6 => if r6 = 0 then if (rI m (64 + 2 * ix a0) 2) = (rI m 1 8) then bd1 (f_X5_think F (-1 : Int32) (-1 : Int32) m) fun m9 => bd1 (f_X1_stateOf F ((64 + 2 * ix a0) + 1) m9) fun r10 => bd2 (f_X1_rowsTo F r10 a1 m9) fun r12 m14 => some (r12, m14) else some ((-4611686018427387904 : Int64), m) else some ((-4611686018427387904 : Int64), m)

def f_X1_spreadFrom (F : Nat)  (a0 : Int32) (m : MM) : Option (Int32 × MM) := bd1 (f_X1_clearTurns F m) fun m2 => Jp (fun m3 => bd2 (f_X1_spread F (0 : Int32) m3) fun r5 m7 => some (r5, m7)) fun J4 => if a0 = (-1 : Int32) then J4 m2 else bd1 (f_X1_enterTurn a0 (0 : Int32) m2) fun m9 => J4 m9

def f_X5_soonest (F : Nat)  (a0 : Int32) (m : MM) : Option (Int32 × MM) := bd1 (f_X5_within a0 (4 : Int32) m) fun r1 => if r1 = 0 then some ((-2 : Int32), m) else Gu (inB a0 4) <| bd1 (f_X2_isMissing (64 + 2 * ix a0) m) fun r4 => if r4 = 0 then if (rI m (64 + 2 * ix a0) 2) = (rI m 1 8) then bd1 (f_X5_think F (-1 : Int32) (-1 : Int32) m) fun m7 => bd1 (f_X1_countMoves F m7) fun m9 => bd1 (f_X1_stateOf F ((64 + 2 * ix a0) + 1) m9) fun r10 => bd2 (f_X1_spreadFrom F r10 m9) fun r12 m14 => if (8 : Int32) < r12 then some ((-1 : Int32), m14) else some (r12, m14) else some ((-2 : Int32), m) else some ((-11 : Int32), m)

def f_X5_drawOnce (F : Nat)  (a0 : Int32) (m : MM) : Option MM := if (rI m 17 8) < (1 : Int32) then some m else if (1 : Int32) ≤ (rI m 17 7) then Gu (nz (rI m 17 8)) <| Lt (remI (ushI a0 (9 : Int32)) (rI m 17 8)) fun x2_1 => Gu (nz (rI m 17 7)) <| Lt (remI (ushI a0 (17 : Int32)) (rI m 17 7)) fun x3_2 => bd1 (f_X0_refusal F 17 x2_1 x3_2 m) fun r3 => if r3 = 0 then Gu (inB x2_1 5) <| Lt (wI m 24 (ix x2_1) x3_2) fun m5 => some m5 else some m else some m

def f_X5_openBehind_L16 (F : Nat) (a1 : Int32) (K : Int32 → Int32 → MM → Option (Int32 × MM)) : Nat → Int32 → Int32 → MM → Option (Int32 × MM)
  | 0, _, _, _ => none
  | n + 1, x3_3, x4_4, m5 => if a1 < x4_4 then K x3_3 x4_4 m5 else bd1 (f_X0_isOpen F 17 m5) fun r7 => if r7 = 0 then Lt ((x3_3 * (1103515245 : Int32)) + (12345 : Int32)) fun x3_9 => bd1 (f_X5_drawOnce F x3_9 m5) fun m11 => Lt (x4_4 + (1 : Int32)) fun x4_12 => f_X5_openBehind_L16 F a1 K n x3_9 x4_12 m11 else some (x4_4, m5)

def f_X5_openBehind (F : Nat)  (a0 : Int32) (a1 : Int32) (m : MM) : Option (Int32 × MM) := bd1 (f_X0_become 17 1 m) fun m2 => f_X5_openBehind_L16 F a1 (fun x3_3 x4_4 m5 => some ((-1 : Int32), m5)) F a0 (0 : Int32) m2

def f_X5_drawn (F : Nat)  (a0 : Int32) (a1 : Int32) (m : MM) : Option (Int32 × MM) := if a1 < (1 : Int32) then some ((-2 : Int32), m) else if a1 ≤ (40 : Int32) then bd2 (f_X5_openBehind F a0 a1 m) fun r1 m3 => some (r1, m3) else some ((-2 : Int32), m)

def f_X5_commonPart_L2 (a0 : Int32) (a1 : Int32) (K : Int32 → Option Int32) : Nat → Int32 → Option Int32
  | 0, _ => none
  | n + 1, x2_1 => if x2_1 ≤ (1 : Int32) then K x2_1 else Gu (nz x2_1) <| if (remI a0 x2_1) = 0 then Gu (nz x2_1) <| if (remI a1 x2_1) = 0 then some x2_1 else Lt (x2_1 + (-1 : Int32)) fun x2_3 => f_X5_commonPart_L2 a0 a1 K n x2_3 else Lt (x2_1 + (-1 : Int32)) fun x2_4 => f_X5_commonPart_L2 a0 a1 K n x2_4

def f_X5_commonPart (F : Nat)  (a0 : Int32) (a1 : Int32) (m : MM) : Option Int32 := f_X5_commonPart_L2 a0 a1 (fun x2_1 => some (1 : Int32)) F a1

def f_X5_chance_L29 (F : Nat) (a0 : Int32) (a1 : Int32) (K : Int32 → Int32 → MM → Option (Int64 × MM)) : Nat → Int32 → Int32 → MM → Option (Int64 × MM)
  | 0, _, _, _ => none
  | n + 1, x4_3, x5_4, m5 => if a1 ≤ x5_4 then K x4_3 x5_4 m5 else bd2 (f_X5_openBehind F (a0 + x5_4) (40 : Int32) m5) fun r7 m9 => if r7 = (-1 : Int32) then Lt (x5_4 + (1 : Int32)) fun x5_10 => f_X5_chance_L29 F a0 a1 K n x4_3 x5_10 m9 else Lt (x4_3 + (1 : Int32)) fun x4_11 => Lt (x5_4 + (1 : Int32)) fun x5_12 => f_X5_chance_L29 F a0 a1 K n x4_11 x5_12 m9

def f_X5_chance (F : Nat)  (a0 : Int32) (a1 : Int32) (a2 : Int32) (m : MM) : Option (Int64 × MM) := if a1 < (1 : Int32) then some ((-4611686018427387904 : Int64), m) else if (20 : Int32) < a1 then some ((-4611686018427387904 : Int64), m) else bd1 (f_X5_within a2 (2 : Int32) m) fun r1 => if r1 = 0 then some ((-4611686018427387904 : Int64), m) else f_X5_chance_L29 F a0 a1 (fun x4_3 x5_4 m5 => bd1 (f_X5_commonPart F x4_3 a1 m5) fun r13 => Jp (fun s15 => Gu (nz r13) <| some (Int32.toInt64 (s15 / r13), m5)) fun J16 => if a2 = 0 then J16 x4_3 else J16 a1) F (0 : Int32) (0 : Int32) m

def f_X5_image   (m : MM) : Option (Int32 × MM) := bd1 (f_X0_become 9 1 m) fun m2 => Gu (bz (1 : Int32)) <| Lt (wI m2 0 9 (1 : Int32)) fun m3 => some (rI m3 9 8, m3)

def f_X5_back   (m : MM) : Option (Int32 × MM) := if (rI m 0 9) = 0 then some ((-3 : Int32), m) else bd1 (f_X0_become 1 9 m) fun m2 => some (rI m2 1 8, m2)

def f_X5_count  (a0 : Int32) (m : MM) : Option Int32 := if a0 = (0 : Int32) then some (rI m 1 7) else if a0 = (1 : Int32) then some (rI m 1 8) else if a0 = (2 : Int32) then some (rI m 1 10) else if a0 = (3 : Int32) then some (rI m 1 9) else if a0 = (4 : Int32) then some (rI m 0 8) else if a0 = (5 : Int32) then some (rI m 36 1) else if a0 = (6 : Int32) then some (rI m 1 11) else some (-2 : Int32)

def f_X2_become_L12 (k : Nat) (K : Int32 → MM → Option MM) : Nat → Int32 → MM → Option MM
  | 0, _, _ => none
  | n + 1, x3_3, m4 => if (40 : Int32) ≤ x3_3 then K x3_3 m4 else Gu (inB x3_3 40) <| Lt (wI m4 (k + 1) (ix x3_3) (0 : Int32)) fun m6 => Lt (x3_3 + (1 : Int32)) fun x3_7 => f_X2_become_L12 k K n x3_7 m6

def f_X2_become (F : Nat)  (k : Nat) (a0 : Int32) (a1 : Int32) (m : MM) : Option MM := Lt (wI m k 1 a0) fun m1 => Lt (wI m1 k 2 a1) fun m2 => f_X2_become_L12 k (fun x3_3 m4 => some m4) F (0 : Int32) m2

def f_X5_sheet (F : Nat)  (a0 : Int32) (a1 : Int32) (a2 : Int32) (m : MM) : Option (Int32 × MM) := bd1 (f_X5_within a0 (4 : Int32) m) fun r1 => if r1 = 0 then some ((-2 : Int32), m) else if a1 < (-1 : Int32) then some ((-2 : Int32), m) else if a1 < (3 : Int32) then if a1 = (-1 : Int32) then Gu (inB a0 4) <| bd1 (f_X2_become F (64 + 2 * ix a0) (-1 : Int32) (0 : Int32) m) fun m5 => some ((1 : Int32), m5) else if a2 ≤ (40 : Int32) then if 0 ≤ a2 then Gu (inB a0 4) <| bd1 (f_X2_become F (64 + 2 * ix a0) a1 a2 m) fun m8 => some ((1 : Int32), m8) else some ((-14 : Int32), m) else some ((-2 : Int32), m) else some ((-2 : Int32), m)

def f_X2_put  (k : Nat) (a0 : Int32) (a1 : Int32) (m : MM) : Option MM := if (rI m k 1) = 0 then Gu (inB a0 40) <| Lt (wI m (k + 1) (ix a0) ((Int32.toInt8 a1).toInt32)) fun m1 => some m1 else if (rI m k 1) = (1 : Int32) then Gu (inB a0 40) <| Lt (wI m (k + 1) (ix a0) ((Int32.toInt16 a1).toInt32)) fun m2 => some m2 else Gu (inB a0 40) <| Lt (wI m (k + 1) (ix a0) a1) fun m3 => some m3

def f_X5_cell  (a0 : Int32) (a1 : Int32) (a2 : Int32) (m : MM) : Option (Int32 × MM) := bd1 (f_X5_within a0 (4 : Int32) m) fun r1 => if r1 = 0 then some ((-2 : Int32), m) else Gu (inB a0 4) <| bd1 (f_X2_isMissing (64 + 2 * ix a0) m) fun r4 => if r4 = 0 then bd1 (f_X5_within a1 (rI m (64 + 2 * ix a0) 2) m) fun r6 => if r6 = 0 then some ((-12 : Int32), m) else bd1 (f_X2_put (64 + 2 * ix a0) a1 a2 m) fun m9 => some ((1 : Int32), m9) else some ((-11 : Int32), m)

def f_X2_hasPart  (k : Nat) (a0 : Int32) (a1 : Int32) (m : MM) : Option Int32 := if a0 < 0 then some (0 : Int32) else if a1 < 0 then some (0 : Int32) else if (rI m k 2) < a1 then some (0 : Int32) else if ((rI m k 2) - a1) < a0 then some (0 : Int32) else some (1 : Int32)

def f_X5_copy  (a0 : Int32) (a1 : Int32) (a2 : Int32) (a3 : Int32) (a4 : Int32) (m : MM) : Option (Int32 × MM) := bd1 (f_X5_within a0 (4 : Int32) m) fun r1 => if r1 = 0 then some ((-2 : Int32), m) else bd1 (f_X5_within a2 (4 : Int32) m) fun r3 => if r3 = 0 then some ((-2 : Int32), m) else Gu (inB a0 4) <| Gu (inB a2 4) <| bd1 (f_X2_isMissing (64 + 2 * ix a0) m) fun r7 => if r7 = 0 then bd1 (f_X2_isMissing (64 + 2 * ix a2) m) fun r9 => if r9 = 0 then if (rI m (64 + 2 * ix a0) 1) = (rI m (64 + 2 * ix a2) 1) then bd1 (f_X2_hasPart (64 + 2 * ix a0) a1 a4 m) fun r11 => if r11 = 0 then some ((-12 : Int32), m) else bd1 (f_X2_hasPart (64 + 2 * ix a2) a3 a4 m) fun r13 => if r13 = 0 then some ((-12 : Int32), m) else Gu (cpyOk a1 a3 a4 40 40) <| Lt (cpy m ((64 + 2 * ix a0) + 1) a1 ((64 + 2 * ix a2) + 1) a3 a4) fun m15 => some (a4, m15) else some ((-13 : Int32), m) else some ((-11 : Int32), m) else some ((-11 : Int32), m)

def f_X5_things_L67 (F : Nat) (a0 : Int32) (a2 : Int32) (a3 : Int32) (K : Int32 → Int32 → MM → Option (Int32 × MM)) : Nat → Int32 → Int32 → MM → Option (Int32 × MM)
  | 0, _, _, _ => none
  | n + 1, x6_8, x7_9, m10 => if a3 ≤ x7_9 then K x6_8 x7_9 m10 else bd1 (f_X2_hasPart (64 + 2 * ix a0) a2 (((2 : Int32) * x7_9) + (2 : Int32)) m10) fun r12 => if r12 = 0 then some ((-12 : Int32), m10) else Gu (inB (a2 + ((2 : Int32) * x7_9)) 40) <| Gu (inB ((a2 + ((2 : Int32) * x7_9)) + (1 : Int32)) 40) <| bd2 (f_X5_thing F (rI m10 ((64 + 2 * ix a0) + 1) (ix (a2 + ((2 : Int32) * x7_9)))) (rI m10 ((64 + 2 * ix a0) + 1) (ix ((a2 + ((2 : Int32) * x7_9)) + (1 : Int32)))) m10) fun r14 m16 => if r14 < 0 then Lt (x7_9 + (1 : Int32)) fun x7_17 => f_X5_things_L67 F a0 a2 a3 K n x6_8 x7_17 m16 else Lt (x6_8 + (1 : Int32)) fun x6_18 => Lt (x7_9 + (1 : Int32)) fun x7_19 => f_X5_things_L67 F a0 a2 a3 K n x6_18 x7_19 m16

def f_X5_things (F : Nat)  (a0 : Int32) (a1 : Int32) (a2 : Int32) (a3 : Int32) (m : MM) : Option (Int32 × MM) := bd1 (f_X5_within a0 (4 : Int32) m) fun r1 => if r1 = 0 then some ((-2 : Int32), m) else bd1 (f_X5_within a1 (3 : Int32) m) fun r3 => if r3 = 0 then some ((-2 : Int32), m) else if a3 < 0 then some ((-2 : Int32), m) else if a3 ≤ (5 : Int32) then Gu (inB a0 4) <| bd1 (f_X2_isMissing (64 + 2 * ix a0) m) fun r6 => if r6 = 0 then if (rI m (64 + 2 * ix a0) 1) = a1 then f_X5_things_L67 F a0 a2 a3 (fun x6_8 x7_9 m10 => some (x6_8, m10)) F (0 : Int32) (0 : Int32) m else some ((-13 : Int32), m) else some ((-11 : Int32), m) else some ((-2 : Int32), m)

def f_X5_taken_L39 (a0 : Int32) (a1 : Int32) (m : MM) (K : Int32 → Int32 → Option Int32) : Nat → Int32 → Int32 → Option Int32
  | 0, _, _ => none
  | n + 1, x3_6, x4_7 => if (6 : Int32) ≤ x4_7 then K x3_6 x4_7 else if x3_6 = (-1 : Int32) then K x3_6 x4_7 else if x3_6 = a1 then Gu (inB a0 5) <| some (rI m 3 (ix a0)) else Gu (inB x3_6 6) <| Lt (stT 0 (ix x3_6)) fun x3_9 => Lt (x4_7 + (1 : Int32)) fun x4_10 => f_X5_taken_L39 a0 a1 m K n x3_9 x4_10

def f_X5_taken (F : Nat)  (a0 : Int32) (a1 : Int32) (m : MM) : Option Int32 := bd1 (f_X5_within a1 (6 : Int32) m) fun r1 => if r1 = 0 then some (-2 : Int32) else bd1 (f_X0_hasHold 1 a0 m) fun r3 => if r3 = 0 then some (-11 : Int32) else Gu (inB a0 5) <| Lt (rI m 2 (ix a0)) fun x3_5 => f_X5_taken_L39 a0 a1 m (fun x3_6 x4_7 => some (-13 : Int32)) F x3_5 (0 : Int32)
