/-! THE MODEL'S METHODS AS PURE FUNCTIONS, by program out of the bytecode -/
def f_X6_in  (a0 : Int64) (a1 : Int64) (a2 : Int64) (m : MM) : Option Int32 := if (lg_cmp a0 a1) < 0 then some (0 : Int32) else if 0 < (lg_cmp a0 a2) then some (0 : Int32) else some (1 : Int32)

def f_X6_hold  (a0 : Int32) (a1 : Int32) (m : MM) : Option (Int32 × MM) := bd1 (f_X6_in (Int32.toInt64 a0) (0 : Int64) (5 : Int64) m) fun r1 => if r1 = 0 then some ((-2 : Int32), m) else bd1 (f_X6_in (Int32.toInt64 a1) (0 : Int64) (9 : Int64) m) fun r3 => if r3 = 0 then some ((-2 : Int32), m) else if (rI m 0 9) = (5 : Int32) then some ((-4 : Int32), m) else Gu (inB (rI m 0 9) 5) <| Lt (wI m 4 (ix (rI m 0 9)) a0) fun m5 => Gu (inB (rI m5 0 9) 5) <| Lt (wI m5 5 (ix (rI m5 0 9)) a1) fun m6 => Lt (wI m6 0 9 ((rI m6 0 9) + (1 : Int32))) fun m7 => some ((rI m7 0 9) - (1 : Int32), m7)

def f_X6_isHold  (a0 : Int32) (m : MM) : Option Int32 := bd1 (f_X6_in (Int32.toInt64 a0) (0 : Int64) (Int32.toInt64 ((rI m 0 9) - (1 : Int32))) m) fun r1 => Gu (bz r1) <| some r1

def f_X6_inside_L4 (a0 : Int32) (m : MM) (K : Int32 → Int32 → Option Int32) : Nat → Int32 → Int32 → Option Int32
  | 0, _, _ => none
  | n + 1, x2_1, x3_2 => if (rI m 0 14) ≤ x3_2 then K x2_1 x3_2 else Jp (fun s4 => Lt (x2_1 ||| (shlI s4 x3_2)) fun x2_6 => Lt (x3_2 + (1 : Int32)) fun x3_7 => f_X6_inside_L4 a0 m K n x2_6 x3_7) fun J5 => Jp (J5 (0 : Int32)) fun J8 => if x3_2 = (rI m 0 18) then J8 else Gu (inB x3_2 5) <| if (rI m 8 (ix x3_2)) = a0 then J5 (1 : Int32) else J8

def f_X6_inside (F : Nat)  (a0 : Int32) (m : MM) : Option Int32 := f_X6_inside_L4 a0 m (fun x2_1 x3_2 => some x2_1) F (0 : Int32) (0 : Int32)

def f_X6_sizeOf_L4 (a0 : Int32) (m : MM) (K : Int32 → Int32 → Option Int32) : Nat → Int32 → Int32 → Option Int32
  | 0, _, _ => none
  | n + 1, x2_1, x3_2 => if (rI m 0 14) ≤ x3_2 then K x2_1 x3_2 else Jp (fun s4 => Lt (x2_1 + s4) fun x2_6 => Lt (x3_2 + (1 : Int32)) fun x3_7 => f_X6_sizeOf_L4 a0 m K n x2_6 x3_7) fun J5 => if ((shrI a0 x3_2) &&& (1 : Int32)) = (1 : Int32) then Gu (inB x3_2 5) <| J5 (rI m 6 (ix x3_2)) else J5 (0 : Int32)

def f_X6_sizeOf (F : Nat)  (a0 : Int32) (m : MM) : Option Int32 := f_X6_sizeOf_L4 a0 m (fun x2_1 x3_2 => some x2_1) F (0 : Int32) (0 : Int32)

def f_X6_roomOf  (a0 : Int32) (m : MM) : Option Int32 := Gu (inB a0 5) <| Lt (rI m 4 (ix a0)) fun x2_1 => Gu (inB a0 5) <| Lt ((rI m 5 (ix a0)) + (6 : Int32)) fun x3_2 => Jp (fun s3 => if a0 = (rI m 0 17) then some (s3 + (1 : Int32)) else some s3) fun J4 => if x2_1 = 0 then J4 x3_2 else if x2_1 = (1 : Int32) then J4 (x3_2 - (3 : Int32)) else Jp (J4 ((2 : Int32) * x3_2)) fun J5 => if x2_1 = (2 : Int32) then J5 else if x2_1 = (5 : Int32) then J5 else if x2_1 = (3 : Int32) then Gu (nz (2 : Int32)) <| J4 ((x3_2 - (3 : Int32)) / (2 : Int32)) else Gu (inB a0 5) <| J4 ((rI m 5 (ix a0)) + (1 : Int32))

def f_X6_bitsOf_L4  (K : Int32 → Int32 → Option Int32) : Nat → Int32 → Int32 → Option Int32
  | 0, _, _ => none
  | n + 1, x1_1, x2_2 => if x2_2 = 0 then K x1_1 x2_2 else Lt (x1_1 + (1 : Int32)) fun x1_4 => Lt (x2_2 &&& (x2_2 - (1 : Int32))) fun x2_5 => f_X6_bitsOf_L4 K n x1_4 x2_5

def f_X6_bitsOf (F : Nat)  (a0 : Int32) (m : MM) : Option Int32 := f_X6_bitsOf_L4 (fun x1_1 x2_2 => some x1_1) F (0 : Int32) a0

def f_X6_mostOf  (a0 : Int32) (m : MM) : Option Int32 := Gu (inB a0 5) <| Lt (rI m 4 (ix a0)) fun x2_1 => if x2_1 = (1 : Int32) then some (3 : Int32) else if x2_1 = (3 : Int32) then some (1 : Int32) else if x2_1 = (4 : Int32) then some (1 : Int32) else some (5 : Int32)

def f_X6_wetOf  (a0 : Int32) (m : MM) : Option Int32 := Gu (inB a0 5) <| if (rI m 4 (ix a0)) = (5 : Int32) then some (1 : Int32) else some (0 : Int32)

def f_X6_bars (F : Nat)  (a0 : Int32) (a1 : Int32) (a2 : Int32) (a3 : Int32) (a4 : Int32) (m : MM) : Option Int32 := bd1 (f_X6_sizeOf F a4 m) fun r1 => bd1 (f_X6_roomOf a3 m) fun r3 => if (r1 + a0) ≤ r3 then bd1 (f_X6_bitsOf F a4 m) fun r5 => bd1 (f_X6_mostOf a3 m) fun r7 => if (r5 + (1 : Int32)) ≤ r7 then Jp (if (a4 &&& a2) = 0 then some (0 : Int32) else some (5 : Int32)) fun J9 => if a1 = (1 : Int32) then bd1 (f_X6_wetOf a3 m) fun r10 => if r10 = (1 : Int32) then some (4 : Int32) else J9 else J9 else some (3 : Int32) else some (2 : Int32)

def f_X6_thing_L117  (K : Int32 → MM → Option (Int32 × MM)) : Nat → Int32 → MM → Option (Int32 × MM)
  | 0, _, _ => none
  | n + 1, x3_13, m14 => if (5 : Int32) ≤ x3_13 then K x3_13 m14 else Gu (inB x3_13 5) <| Gu (inB x3_13 5) <| Lt (wI m14 9 (ix x3_13) ((rI m14 9 (ix x3_13)) &&& ((shlI (1 : Int32) (rI m14 0 14)) ^^^ (-1 : Int32)))) fun m16 => Lt (x3_13 + (1 : Int32)) fun x3_17 => f_X6_thing_L117 K n x3_17 m16

def f_X6_thing (F : Nat)  (a0 : Int32) (a1 : Int32) (m : MM) : Option (Int32 × MM) := bd1 (f_X6_in (Int32.toInt64 a0) (10 : Int64) (99 : Int64) m) fun r1 => if r1 = 0 then some ((-2 : Int32), m) else Gu (nz (10 : Int32)) <| if (1 : Int32) < (remI a0 (10 : Int32)) then some ((-2 : Int32), m) else bd1 (f_X6_isHold a1 m) fun r3 => if r3 = 0 then some ((-2 : Int32), m) else if (rI m 0 14) = (5 : Int32) then some ((-4 : Int32), m) else Gu (nz (10 : Int32)) <| Gu (nz (10 : Int32)) <| bd1 (f_X6_inside F a1 m) fun r5 => bd1 (f_X6_bars F (a0 / (10 : Int32)) (remI a0 (10 : Int32)) (0 : Int32) a1 r5 m) fun r7 => if r7 = 0 then Gu (nz (10 : Int32)) <| Gu (inB (rI m 0 14) 5) <| Lt (wI m 6 (ix (rI m 0 14)) (a0 / (10 : Int32))) fun m9 => Gu (nz (10 : Int32)) <| Gu (inB (rI m9 0 14) 5) <| Lt (wI m9 7 (ix (rI m9 0 14)) (remI a0 (10 : Int32))) fun m10 => Gu (inB (rI m10 0 14) 5) <| Lt (wI m10 8 (ix (rI m10 0 14)) a1) fun m11 => Gu (inB (rI m11 0 14) 5) <| Lt (wI m11 9 (ix (rI m11 0 14)) (0 : Int32)) fun m12 => f_X6_thing_L117 (fun x3_13 m14 => Lt (wI m14 0 14 ((rI m14 0 14) + (1 : Int32))) fun m18 => some ((rI m18 0 14) - (1 : Int32), m18)) F (0 : Int32) m12 else some ((-3 : Int32), m)

def f_X6_isThing  (a0 : Int32) (m : MM) : Option Int32 := bd1 (f_X6_in (Int32.toInt64 a0) (0 : Int64) (Int32.toInt64 ((rI m 0 14) - (1 : Int32))) m) fun r1 => Gu (bz r1) <| some r1

def f_X6_set (F : Nat)  (a0 : Int32) (a1 : Int32) (a2 : Int32) (m : MM) : Option (Int32 × MM) := bd1 (f_X6_in (Int32.toInt64 a0) (0 : Int64) (3 : Int64) m) fun r1 => if r1 = 0 then some ((-100 : Int32), m) else Jp (Jp (Jp (Jp (fun s6 => if a0 = 0 then Lt (wI m 0 16 a2) fun m8 => some (s6, m8) else if a0 = (1 : Int32) then Lt (wI m 0 15 a2) fun m9 => some (s6, m9) else if a0 = (2 : Int32) then Gu (inB a1 5) <| Lt (wI m 5 (ix a1) a2) fun m10 => bd1 (f_X6_inside F a1 m10) fun r11 => bd1 (f_X6_sizeOf F r11 m10) fun r13 => bd1 (f_X6_roomOf a1 m10) fun r15 => if r13 ≤ r15 then some (s6, m10) else Gu (inB a1 5) <| Lt (wI m10 5 (ix a1) s6) fun m17 => some ((-3 : Int32), m17) else Jp (Gu (inB a1 5) <| Lt (wI m 7 (ix a1) a2) fun m19 => some (s6, m19)) fun J18 => if a2 = (1 : Int32) then Gu (inB a1 5) <| bd1 (f_X6_wetOf (rI m 8 (ix a1)) m) fun r20 => if r20 = (1 : Int32) then some ((-3 : Int32), m) else J18 else J18) fun J7 => if a0 = 0 then J7 (rI m 0 16) else if a0 = (1 : Int32) then J7 (rI m 0 15) else if a0 = (2 : Int32) then Gu (inB a1 5) <| J7 (rI m 5 (ix a1)) else Gu (inB a1 5) <| J7 (rI m 7 (ix a1))) fun J5 => if a0 = (1 : Int32) then if a2 = (-1 : Int32) then J5 else bd1 (f_X6_isThing a2 m) fun r22 => if r22 = 0 then some ((-100 : Int32), m) else J5 else Jp (fun s24 => bd1 (f_X6_in (Int32.toInt64 a2) (0 : Int64) s24 m) fun r26 => if r26 = 0 then some ((-100 : Int32), m) else J5) fun J25 => if a0 = 0 then J25 (3 : Int64) else if a0 = (2 : Int32) then J25 (9 : Int64) else J25 (1 : Int64)) fun J4 => if a0 = (3 : Int32) then bd1 (f_X6_isThing a1 m) fun r28 => if r28 = 0 then some ((-100 : Int32), m) else J4 else J4) fun J3 => if a0 = (2 : Int32) then bd1 (f_X6_isHold a1 m) fun r30 => if r30 = 0 then some ((-100 : Int32), m) else J3 else J3

def f_X6_part  (a0 : Int32) (a1 : Int32) (a2 : Int32) (m : MM) : Option (Int32 × MM) := bd1 (f_X6_isThing a0 m) fun r1 => if r1 = 0 then some ((-2 : Int32), m) else bd1 (f_X6_isThing a1 m) fun r3 => if r3 = 0 then some ((-2 : Int32), m) else if a0 = a1 then some ((-2 : Int32), m) else bd1 (f_X6_in (Int32.toInt64 a2) (0 : Int64) (1 : Int64) m) fun r5 => if r5 = 0 then some ((-2 : Int32), m) else Jp (Gu (inB a0 5) <| Lt ((shrI (rI m 9 (ix a0)) a1) &&& (1 : Int32)) fun x4_8 => Gu (inB a0 5) <| Gu (inB a0 5) <| Lt (wI m 9 (ix a0) (((rI m 9 (ix a0)) &&& ((shlI (1 : Int32) a1) ^^^ (-1 : Int32))) ||| (shlI a2 a1))) fun m9 => Gu (inB a1 5) <| Gu (inB a1 5) <| Lt (wI m9 9 (ix a1) (((rI m9 9 (ix a1)) &&& ((shlI (1 : Int32) a0) ^^^ (-1 : Int32))) ||| (shlI a2 a0))) fun m10 => some (x4_8, m10)) fun J7 => if a2 = (1 : Int32) then Gu (inB a0 5) <| Gu (inB a1 5) <| if (rI m 8 (ix a0)) = (rI m 8 (ix a1)) then some ((-3 : Int32), m) else J7 else J7

def f_X6_opensOf  (a0 : Int32) (m : MM) : Option Int32 := Gu (inB a0 5) <| if (rI m 4 (ix a0)) = (1 : Int32) then some (1 : Int32) else some (0 : Int32)

def f_X6_told (F : Nat)  (a0 : Int32) (a1 : Int32) (m : MM) : Option Int32 := bd1 (f_X6_in (Int32.toInt64 a1) (0 : Int64) (11 : Int64) m) fun r1 => if r1 = 0 then some (-100 : Int32) else Jp (if (6 : Int32) ≤ a1 then if (8 : Int32) ≤ a1 then if a1 = (8 : Int32) then Gu (inB a0 5) <| some (rI m 6 (ix a0)) else if a1 = (9 : Int32) then Gu (inB a0 5) <| some (rI m 7 (ix a0)) else if a1 = (10 : Int32) then Gu (inB a0 5) <| some (rI m 8 (ix a0)) else Gu (inB a0 5) <| some (rI m 9 (ix a0)) else if a1 = (6 : Int32) then bd1 (f_X6_inside F a0 m) fun r4 => some r4 else bd1 (f_X6_roomOf a0 m) fun r6 => bd1 (f_X6_inside F a0 m) fun r8 => bd1 (f_X6_sizeOf F r8 m) fun r10 => some (r6 - r10) else if a1 = 0 then Gu (inB a0 5) <| some (rI m 4 (ix a0)) else if a1 = (1 : Int32) then Gu (inB a0 5) <| some (rI m 5 (ix a0)) else if a1 = (2 : Int32) then bd1 (f_X6_roomOf a0 m) fun r12 => some r12 else if a1 = (3 : Int32) then bd1 (f_X6_mostOf a0 m) fun r14 => some r14 else if a1 = (4 : Int32) then bd1 (f_X6_wetOf a0 m) fun r16 => some r16 else bd1 (f_X6_opensOf a0 m) fun r18 => some r18) fun J3 => if (8 : Int32) ≤ a1 then bd1 (f_X6_isThing a0 m) fun r20 => if r20 = 0 then some (-100 : Int32) else J3 else bd1 (f_X6_isHold a0 m) fun r22 => if r22 = 0 then some (-100 : Int32) else J3

def f_X6_feed  (a0 : Int32) (m : MM) : Option (Int32 × MM) := bd1 (f_X6_in (Int32.toInt64 a0) (0 : Int64) (255 : Int64) m) fun r1 => if r1 = 0 then some ((-2 : Int32), m) else if (rI m 0 6) = (160 : Int32) then some ((-4 : Int32), m) else Gu (inB (rI m 0 6) 160) <| Lt (wI m 3 (ix (rI m 0 6)) a0) fun m3 => Lt (wI m3 0 6 ((rI m3 0 6) + (1 : Int32))) fun m4 => some (rI m4 0 6, m4)

def f_X6_byteAt  (a0 : Int32) (m : MM) : Option Int32 := if (rI m 0 26) ≤ a0 then some (-1 : Int32) else Gu (inB ((rI m 0 25) + a0) 960) <| some (rI m 1 (ix ((rI m 0 25) + a0)))

def f_X6_next_L160  (K : Int32 → MM → Option MM) : Nat → Int32 → MM → Option MM
  | 0, _, _ => none
  | n + 1, x2_23, m24 => bd1 (f_X6_byteAt (rI m24 0 27) m24) fun r26 => bd1 (f_X6_in (Int32.toInt64 r26) (48 : Int64) (57 : Int64) m24) fun r28 => if r28 = 0 then K x2_23 m24 else Jp (fun s30 => Lt (wL m24 0 30 s30) fun m32 => Lt (x2_23 + (1 : Int32)) fun x2_33 => Lt (wI m32 0 27 ((rI m32 0 27) + (1 : Int32))) fun m34 => f_X6_next_L160 K n x2_33 m34) fun J31 => if (4 : Int32) ≤ x2_23 then J31 (rL m24 0 30) else bd1 (f_X6_byteAt (rI m24 0 27) m24) fun r35 => J31 ((((10 : Int64) * (rL m24 0 30)) + (Int32.toInt64 r35)) - (48 : Int64))

def f_X6_next_L100  (K : MM → Option MM) : Nat → MM → Option MM
  | 0, _ => none
  | n + 1, m41 => bd1 (f_X6_byteAt (rI m41 0 27) m41) fun r43 => bd1 (f_X6_in (Int32.toInt64 r43) (97 : Int64) (122 : Int64) m41) fun r45 => if r45 = 0 then some m41 else Lt (wI m41 0 27 ((rI m41 0 27) + (1 : Int32))) fun m47 => f_X6_next_L100 K n m47

def f_X6_next_L0  (K : MM → Option MM) : Nat → MM → Option MM
  | 0, _ => none
  | n + 1, m1 => bd1 (f_X6_byteAt (rI m1 0 27) m1) fun r3 => Jp (Lt (wI m1 0 27 ((rI m1 0 27) + (1 : Int32))) fun m6 => f_X6_next_L0 K n m6) fun J5 => if r3 = (32 : Int32) then J5 else bd1 (f_X6_byteAt (rI m1 0 27) m1) fun r7 => if r7 = (10 : Int32) then J5 else K m1

def f_X6_next (F : Nat)   (m : MM) : Option MM := f_X6_next_L0 (fun m1 => Lt (wI m1 0 29 (rI m1 0 27)) fun m9 => bd1 (f_X6_byteAt (rI m9 0 27) m9) fun r10 => Lt (wI m9 0 28 (4 : Int32)) fun m12 => if 0 ≤ r10 then bd1 (f_X6_in (Int32.toInt64 r10) (97 : Int64) (122 : Int64) m12) fun r13 => if r13 = 0 then bd1 (f_X6_in (Int32.toInt64 r10) (48 : Int64) (57 : Int64) m12) fun r15 => if r15 = 0 then Jp (Lt (wI m12 0 28 (3 : Int32)) fun m18 => Lt (wL m18 0 30 (Int32.toInt64 r10)) fun m19 => Lt (wI m19 0 27 ((rI m19 0 27) + (1 : Int32))) fun m20 => some m20) fun J17 => if r10 = (40 : Int32) then J17 else if r10 = (41 : Int32) then J17 else if r10 = (59 : Int32) then J17 else if r10 = (43 : Int32) then J17 else if r10 = (45 : Int32) then J17 else if r10 = (42 : Int32) then J17 else if r10 = (60 : Int32) then J17 else if r10 = (61 : Int32) then J17 else some m12 else Lt (wI m12 0 28 (2 : Int32)) fun m21 => Lt (wL m21 0 30 (0 : Int64)) fun m22 => f_X6_next_L160 (fun x2_23 m24 => Jp (fun s37 => Lt (wI m24 0 28 s37) fun m39 => some m39) fun J38 => if x2_23 ≤ (4 : Int32) then J38 (2 : Int32) else J38 (4 : Int32)) F (0 : Int32) m22 else Lt (wI m12 0 28 (1 : Int32)) fun m40 => f_X6_next_L100 (fun m41 => none) F m40 else Lt (wI m12 0 28 (0 : Int32)) fun m48 => Lt (wI m48 0 29 (rI m48 0 26)) fun m49 => some m49) F m

def f_X6_isLetter  (a0 : Int32) (a1 : Int32) (m : MM) : Option Int32 := if (rI m 0 27) ≤ ((rI m 0 29) + a0) then if a1 = 0 then some (1 : Int32) else some (0 : Int32) else bd1 (f_X6_byteAt ((rI m 0 29) + a0) m) fun r1 => if r1 = a1 then some (1 : Int32) else some (0 : Int32)

def f_X6_isWord  (a0 : Int32) (a1 : Int32) (a2 : Int32) (a3 : Int32) (a4 : Int32) (a5 : Int32) (a6 : Int32) (a7 : Int32) (m : MM) : Option Int32 := if (rI m 0 32) = 0 then if (rI m 0 28) = (1 : Int32) then if ((rI m 0 29) + (8 : Int32)) < (rI m 0 27) then some (0 : Int32) else bd1 (f_X6_isLetter (0 : Int32) a0 m) fun r1 => if r1 = 0 then some (0 : Int32) else bd1 (f_X6_isLetter (1 : Int32) a1 m) fun r3 => if r3 = 0 then some (0 : Int32) else bd1 (f_X6_isLetter (2 : Int32) a2 m) fun r5 => if r5 = 0 then some (0 : Int32) else bd1 (f_X6_isLetter (3 : Int32) a3 m) fun r7 => if r7 = 0 then some (0 : Int32) else bd1 (f_X6_isLetter (4 : Int32) a4 m) fun r9 => if r9 = 0 then some (0 : Int32) else bd1 (f_X6_isLetter (5 : Int32) a5 m) fun r11 => if r11 = 0 then some (0 : Int32) else bd1 (f_X6_isLetter (6 : Int32) a6 m) fun r13 => if r13 = 0 then some (0 : Int32) else bd1 (f_X6_isLetter (7 : Int32) a7 m) fun r15 => if r15 = 0 then some (0 : Int32) else some (1 : Int32) else some (0 : Int32) else some (0 : Int32)

def f_X6_fail   (m : MM) : Option MM := if (rI m 0 32) = 0 then Gu (bz (1 : Int32)) <| Lt (wI m 0 32 (1 : Int32)) fun m1 => Lt (wI m1 0 33 (rI m1 0 29)) fun m2 => some m2 else some m

def f_X6_opens (F : Nat)   (m : MM) : Option (Int32 × MM) := if (rI m 0 31) = (5 : Int32) then bd1 (f_X6_fail m) fun m2 => some ((0 : Int32), m2) else Lt (wI m 0 31 ((rI m 0 31) + (1 : Int32))) fun m3 => bd1 (f_X6_next F m3) fun m5 => some ((1 : Int32), m5)

def f_X6_isSign  (a0 : Int32) (m : MM) : Option Int32 := if (rI m 0 32) = 0 then if (rI m 0 28) = (3 : Int32) then if (lg_cmp (rL m 0 30) (Int32.toInt64 a0)) = 0 then some (1 : Int32) else some (0 : Int32) else some (0 : Int32) else some (0 : Int32)

def f_X6_name   (m : MM) : Option (Int32 × MM) := bd1 (f_X6_isWord (115 : Int32) (105 : Int32) (122 : Int32) (101 : Int32) (0 : Int32) (0 : Int32) (0 : Int32) (0 : Int32) m) fun r1 => if r1 = 0 then bd1 (f_X6_isWord (102 : Int32) (114 : Int32) (111 : Int32) (109 : Int32) (0 : Int32) (0 : Int32) (0 : Int32) (0 : Int32) m) fun r3 => if r3 = 0 then bd1 (f_X6_isWord (116 : Int32) (111 : Int32) (0 : Int32) (0 : Int32) (0 : Int32) (0 : Int32) (0 : Int32) (0 : Int32) m) fun r5 => if r5 = 0 then bd1 (f_X6_isWord (116 : Int32) (104 : Int32) (105 : Int32) (110 : Int32) (103 : Int32) (0 : Int32) (0 : Int32) (0 : Int32) m) fun r7 => if r7 = 0 then bd1 (f_X6_isWord (109 : Int32) (97 : Int32) (110 : Int32) (121 : Int32) (0 : Int32) (0 : Int32) (0 : Int32) (0 : Int32) m) fun r9 => if r9 = 0 then bd1 (f_X6_isWord (119 : Int32) (101 : Int32) (116 : Int32) (0 : Int32) (0 : Int32) (0 : Int32) (0 : Int32) (0 : Int32) m) fun r11 => if r11 = 0 then bd1 (f_X6_fail m) fun m14 => some ((0 : Int32), m14) else some (rI m 0 24, m) else some (rI m 0 23, m) else some (rI m 0 22, m) else some (rI m 0 21, m) else some (rI m 0 20, m) else some (rI m 0 19, m)

def f_X6_atom5 (F : Nat)   (m : MM) : Option (Int32 × MM) := bd1 (f_X6_isSign (45 : Int32) m) fun r1 => if r1 = 0 then bd1 (f_X6_isSign (40 : Int32) m) fun r3 => if r3 = 0 then Jp (Jp (bd1 (f_X6_fail m) fun m8 => some ((0 : Int32), m8)) fun J6 => if (rI m 0 32) = 0 then if (rI m 0 28) = (1 : Int32) then bd2 (f_X6_name m) fun r9 m11 => if (rI m11 0 32) = 0 then bd1 (f_X6_next F m11) fun m13 => some (r9, m13) else some (r9, m11) else J6 else J6) fun J5 => if (rI m 0 32) = 0 then if (rI m 0 28) = (2 : Int32) then Lt (Int64.toInt32 (rL m 0 30)) fun x1_14 => bd1 (f_X6_next F m) fun m16 => some (x1_14, m16) else J5 else J5 else bd2 (f_X6_opens F m) fun r17 m19 => some ((0 : Int32), m19) else bd2 (f_X6_opens F m) fun r20 m22 => some ((0 : Int32), m22)

def f_X6_term5_L5 (F : Nat) (K : Int32 → MM → Option (Int32 × MM)) : Nat → Int32 → MM → Option (Int32 × MM)
  | 0, _, _ => none
  | n + 1, x1_4, m5 => bd1 (f_X6_isSign (42 : Int32) m5) fun r7 => if r7 = 0 then K x1_4 m5 else bd1 (f_X6_next F m5) fun m10 => bd2 (f_X6_atom5 F m10) fun r11 m13 => Lt (x1_4 * r11) fun x1_14 => f_X6_term5_L5 F K n x1_14 m13

def f_X6_term5 (F : Nat)   (m : MM) : Option (Int32 × MM) := bd2 (f_X6_atom5 F m) fun r1 m3 => f_X6_term5_L5 F (fun x1_4 m5 => some (x1_4, m5)) F r1 m3

def f_X6_added5_L5 (F : Nat) (K : Int32 → MM → Option (Int32 × MM)) : Nat → Int32 → MM → Option (Int32 × MM)
  | 0, _, _ => none
  | n + 1, x1_4, m5 => bd1 (f_X6_isSign (43 : Int32) m5) fun r7 => Jp (Jp (fun s10 => bd1 (f_X6_next F m5) fun m13 => bd2 (f_X6_term5 F m13) fun r14 m16 => Jp (fun s17 => f_X6_added5_L5 F K n s17 m16) fun J18 => if s10 = 0 then J18 (x1_4 - r14) else J18 (x1_4 + r14)) fun J11 => if (lg_cmp (rL m5 0 30) (43 : Int64)) = 0 then J11 (1 : Int32) else J11 (0 : Int32)) fun J9 => if r7 = 0 then bd1 (f_X6_isSign (45 : Int32) m5) fun r19 => if r19 = 0 then K x1_4 m5 else J9 else J9

def f_X6_added5 (F : Nat)   (m : MM) : Option (Int32 × MM) := bd2 (f_X6_term5 F m) fun r1 m3 => f_X6_added5_L5 F (fun x1_4 m5 => some (x1_4, m5)) F r1 m3

def f_X6_not5 (F : Nat)   (m : MM) : Option (Int32 × MM) := bd1 (f_X6_isWord (110 : Int32) (111 : Int32) (116 : Int32) (0 : Int32) (0 : Int32) (0 : Int32) (0 : Int32) (0 : Int32) m) fun r1 => if r1 = 0 then bd2 (f_X6_added5 F m) fun r3 m5 => bd1 (f_X6_isSign (60 : Int32) m5) fun r6 => Jp (Jp (fun s9 => bd1 (f_X6_next F m5) fun m12 => bd2 (f_X6_added5 F m12) fun r13 m15 => if s9 = 0 then if r3 = r13 then some ((1 : Int32), m15) else some ((0 : Int32), m15) else if r13 ≤ r3 then some ((0 : Int32), m15) else some ((1 : Int32), m15)) fun J10 => if (lg_cmp (rL m5 0 30) (60 : Int64)) = 0 then J10 (1 : Int32) else J10 (0 : Int32)) fun J8 => if r6 = 0 then bd1 (f_X6_isSign (61 : Int32) m5) fun r16 => if r16 = 0 then some (r3, m5) else J8 else J8 else bd2 (f_X6_opens F m) fun r18 m20 => some ((0 : Int32), m20)

def f_X6_both5_L5 (F : Nat) (K : Int32 → MM → Option (Int32 × MM)) : Nat → Int32 → MM → Option (Int32 × MM)
  | 0, _, _ => none
  | n + 1, x1_4, m5 => bd1 (f_X6_isWord (97 : Int32) (110 : Int32) (100 : Int32) (0 : Int32) (0 : Int32) (0 : Int32) (0 : Int32) (0 : Int32) m5) fun r7 => if r7 = 0 then K x1_4 m5 else bd1 (f_X6_next F m5) fun m10 => bd2 (f_X6_not5 F m10) fun r11 m13 => Jp (fun s14 => f_X6_both5_L5 F K n s14 m13) fun J15 => Jp (J15 (0 : Int32)) fun J16 => if x1_4 = 0 then J16 else if r11 = 0 then J16 else J15 (1 : Int32)

def f_X6_both5 (F : Nat)   (m : MM) : Option (Int32 × MM) := bd2 (f_X6_not5 F m) fun r1 m3 => f_X6_both5_L5 F (fun x1_4 m5 => some (x1_4, m5)) F r1 m3

def f_X6_either5_L5 (F : Nat) (K : Int32 → MM → Option (Int32 × MM)) : Nat → Int32 → MM → Option (Int32 × MM)
  | 0, _, _ => none
  | n + 1, x1_4, m5 => bd1 (f_X6_isWord (111 : Int32) (114 : Int32) (0 : Int32) (0 : Int32) (0 : Int32) (0 : Int32) (0 : Int32) (0 : Int32) m5) fun r7 => if r7 = 0 then K x1_4 m5 else bd1 (f_X6_next F m5) fun m10 => bd2 (f_X6_both5 F m10) fun r11 m13 => Jp (fun s14 => f_X6_either5_L5 F K n s14 m13) fun J15 => Jp (J15 (1 : Int32)) fun J16 => if x1_4 = 0 then if r11 = 0 then J15 (0 : Int32) else J16 else J16

def f_X6_either5 (F : Nat)   (m : MM) : Option (Int32 × MM) := bd2 (f_X6_both5 F m) fun r1 m3 => f_X6_either5_L5 F (fun x1_4 m5 => some (x1_4, m5)) F r1 m3

def f_X6_atom4 (F : Nat)   (m : MM) : Option (Int32 × MM) := bd1 (f_X6_isSign (45 : Int32) m) fun r1 => if r1 = 0 then bd1 (f_X6_isSign (40 : Int32) m) fun r3 => if r3 = 0 then Jp (Jp (bd1 (f_X6_fail m) fun m8 => some ((0 : Int32), m8)) fun J6 => if (rI m 0 32) = 0 then if (rI m 0 28) = (1 : Int32) then bd2 (f_X6_name m) fun r9 m11 => if (rI m11 0 32) = 0 then bd1 (f_X6_next F m11) fun m13 => some (r9, m13) else some (r9, m11) else J6 else J6) fun J5 => if (rI m 0 32) = 0 then if (rI m 0 28) = (2 : Int32) then Lt (Int64.toInt32 (rL m 0 30)) fun x1_14 => bd1 (f_X6_next F m) fun m16 => some (x1_14, m16) else J5 else J5 else bd2 (f_X6_opens F m) fun r17 m19 => if r17 = 0 then some ((0 : Int32), m19) else bd2 (f_X6_either5 F m19) fun r20 m22 => bd1 (f_X6_isSign (41 : Int32) m22) fun r23 => Jp (fun m25 => Lt (wI m25 0 31 ((rI m25 0 31) - (1 : Int32))) fun m27 => if (rI m27 0 32) = 0 then bd1 (f_X6_next F m27) fun m29 => some (r20, m29) else some (r20, m27)) fun J26 => if r23 = 0 then bd1 (f_X6_fail m22) fun m31 => J26 m31 else J26 m22 else bd2 (f_X6_opens F m) fun r32 m34 => if r32 = 0 then some ((0 : Int32), m34) else bd2 (f_X6_atom5 F m34) fun r35 m37 => Lt (wI m37 0 31 ((rI m37 0 31) - (1 : Int32))) fun m38 => some (-r35, m38)

def f_X6_term4_L5 (F : Nat) (K : Int32 → MM → Option (Int32 × MM)) : Nat → Int32 → MM → Option (Int32 × MM)
  | 0, _, _ => none
  | n + 1, x1_4, m5 => bd1 (f_X6_isSign (42 : Int32) m5) fun r7 => if r7 = 0 then K x1_4 m5 else bd1 (f_X6_next F m5) fun m10 => bd2 (f_X6_atom4 F m10) fun r11 m13 => Lt (x1_4 * r11) fun x1_14 => f_X6_term4_L5 F K n x1_14 m13

def f_X6_term4 (F : Nat)   (m : MM) : Option (Int32 × MM) := bd2 (f_X6_atom4 F m) fun r1 m3 => f_X6_term4_L5 F (fun x1_4 m5 => some (x1_4, m5)) F r1 m3

def f_X6_added4_L5 (F : Nat) (K : Int32 → MM → Option (Int32 × MM)) : Nat → Int32 → MM → Option (Int32 × MM)
  | 0, _, _ => none
  | n + 1, x1_4, m5 => bd1 (f_X6_isSign (43 : Int32) m5) fun r7 => Jp (Jp (fun s10 => bd1 (f_X6_next F m5) fun m13 => bd2 (f_X6_term4 F m13) fun r14 m16 => Jp (fun s17 => f_X6_added4_L5 F K n s17 m16) fun J18 => if s10 = 0 then J18 (x1_4 - r14) else J18 (x1_4 + r14)) fun J11 => if (lg_cmp (rL m5 0 30) (43 : Int64)) = 0 then J11 (1 : Int32) else J11 (0 : Int32)) fun J9 => if r7 = 0 then bd1 (f_X6_isSign (45 : Int32) m5) fun r19 => if r19 = 0 then K x1_4 m5 else J9 else J9

def f_X6_added4 (F : Nat)   (m : MM) : Option (Int32 × MM) := bd2 (f_X6_term4 F m) fun r1 m3 => f_X6_added4_L5 F (fun x1_4 m5 => some (x1_4, m5)) F r1 m3

def f_X6_not4 (F : Nat)   (m : MM) : Option (Int32 × MM) := bd1 (f_X6_isWord (110 : Int32) (111 : Int32) (116 : Int32) (0 : Int32) (0 : Int32) (0 : Int32) (0 : Int32) (0 : Int32) m) fun r1 => if r1 = 0 then bd2 (f_X6_added4 F m) fun r3 m5 => bd1 (f_X6_isSign (60 : Int32) m5) fun r6 => Jp (Jp (fun s9 => bd1 (f_X6_next F m5) fun m12 => bd2 (f_X6_added4 F m12) fun r13 m15 => if s9 = 0 then if r3 = r13 then some ((1 : Int32), m15) else some ((0 : Int32), m15) else if r13 ≤ r3 then some ((0 : Int32), m15) else some ((1 : Int32), m15)) fun J10 => if (lg_cmp (rL m5 0 30) (60 : Int64)) = 0 then J10 (1 : Int32) else J10 (0 : Int32)) fun J8 => if r6 = 0 then bd1 (f_X6_isSign (61 : Int32) m5) fun r16 => if r16 = 0 then some (r3, m5) else J8 else J8 else bd2 (f_X6_opens F m) fun r18 m20 => if r18 = 0 then some ((0 : Int32), m20) else bd2 (f_X6_not5 F m20) fun r21 m23 => Lt (wI m23 0 31 ((rI m23 0 31) - (1 : Int32))) fun m24 => if r21 = 0 then some ((1 : Int32), m24) else some ((0 : Int32), m24)

def f_X6_both4_L5 (F : Nat) (K : Int32 → MM → Option (Int32 × MM)) : Nat → Int32 → MM → Option (Int32 × MM)
  | 0, _, _ => none
  | n + 1, x1_4, m5 => bd1 (f_X6_isWord (97 : Int32) (110 : Int32) (100 : Int32) (0 : Int32) (0 : Int32) (0 : Int32) (0 : Int32) (0 : Int32) m5) fun r7 => if r7 = 0 then K x1_4 m5 else bd1 (f_X6_next F m5) fun m10 => bd2 (f_X6_not4 F m10) fun r11 m13 => Jp (fun s14 => f_X6_both4_L5 F K n s14 m13) fun J15 => Jp (J15 (0 : Int32)) fun J16 => if x1_4 = 0 then J16 else if r11 = 0 then J16 else J15 (1 : Int32)

def f_X6_both4 (F : Nat)   (m : MM) : Option (Int32 × MM) := bd2 (f_X6_not4 F m) fun r1 m3 => f_X6_both4_L5 F (fun x1_4 m5 => some (x1_4, m5)) F r1 m3

def f_X6_either4_L5 (F : Nat) (K : Int32 → MM → Option (Int32 × MM)) : Nat → Int32 → MM → Option (Int32 × MM)
  | 0, _, _ => none
  | n + 1, x1_4, m5 => bd1 (f_X6_isWord (111 : Int32) (114 : Int32) (0 : Int32) (0 : Int32) (0 : Int32) (0 : Int32) (0 : Int32) (0 : Int32) m5) fun r7 => if r7 = 0 then K x1_4 m5 else bd1 (f_X6_next F m5) fun m10 => bd2 (f_X6_both4 F m10) fun r11 m13 => Jp (fun s14 => f_X6_either4_L5 F K n s14 m13) fun J15 => Jp (J15 (1 : Int32)) fun J16 => if x1_4 = 0 then if r11 = 0 then J15 (0 : Int32) else J16 else J16

def f_X6_either4 (F : Nat)   (m : MM) : Option (Int32 × MM) := bd2 (f_X6_both4 F m) fun r1 m3 => f_X6_either4_L5 F (fun x1_4 m5 => some (x1_4, m5)) F r1 m3

def f_X6_atom3 (F : Nat)   (m : MM) : Option (Int32 × MM) := bd1 (f_X6_isSign (45 : Int32) m) fun r1 => if r1 = 0 then bd1 (f_X6_isSign (40 : Int32) m) fun r3 => if r3 = 0 then Jp (Jp (bd1 (f_X6_fail m) fun m8 => some ((0 : Int32), m8)) fun J6 => if (rI m 0 32) = 0 then if (rI m 0 28) = (1 : Int32) then bd2 (f_X6_name m) fun r9 m11 => if (rI m11 0 32) = 0 then bd1 (f_X6_next F m11) fun m13 => some (r9, m13) else some (r9, m11) else J6 else J6) fun J5 => if (rI m 0 32) = 0 then if (rI m 0 28) = (2 : Int32) then Lt (Int64.toInt32 (rL m 0 30)) fun x1_14 => bd1 (f_X6_next F m) fun m16 => some (x1_14, m16) else J5 else J5 else bd2 (f_X6_opens F m) fun r17 m19 => if r17 = 0 then some ((0 : Int32), m19) else bd2 (f_X6_either4 F m19) fun r20 m22 => bd1 (f_X6_isSign (41 : Int32) m22) fun r23 => Jp (fun m25 => Lt (wI m25 0 31 ((rI m25 0 31) - (1 : Int32))) fun m27 => if (rI m27 0 32) = 0 then bd1 (f_X6_next F m27) fun m29 => some (r20, m29) else some (r20, m27)) fun J26 => if r23 = 0 then bd1 (f_X6_fail m22) fun m31 => J26 m31 else J26 m22 else bd2 (f_X6_opens F m) fun r32 m34 => if r32 = 0 then some ((0 : Int32), m34) else bd2 (f_X6_atom4 F m34) fun r35 m37 => Lt (wI m37 0 31 ((rI m37 0 31) - (1 : Int32))) fun m38 => some (-r35, m38)

def f_X6_term3_L5 (F : Nat) (K : Int32 → MM → Option (Int32 × MM)) : Nat → Int32 → MM → Option (Int32 × MM)
  | 0, _, _ => none
  | n + 1, x1_4, m5 => bd1 (f_X6_isSign (42 : Int32) m5) fun r7 => if r7 = 0 then K x1_4 m5 else bd1 (f_X6_next F m5) fun m10 => bd2 (f_X6_atom3 F m10) fun r11 m13 => Lt (x1_4 * r11) fun x1_14 => f_X6_term3_L5 F K n x1_14 m13

def f_X6_term3 (F : Nat)   (m : MM) : Option (Int32 × MM) := bd2 (f_X6_atom3 F m) fun r1 m3 => f_X6_term3_L5 F (fun x1_4 m5 => some (x1_4, m5)) F r1 m3

def f_X6_added3_L5 (F : Nat) (K : Int32 → MM → Option (Int32 × MM)) : Nat → Int32 → MM → Option (Int32 × MM)
  | 0, _, _ => none
  | n + 1, x1_4, m5 => bd1 (f_X6_isSign (43 : Int32) m5) fun r7 => Jp (Jp (fun s10 => bd1 (f_X6_next F m5) fun m13 => bd2 (f_X6_term3 F m13) fun r14 m16 => Jp (fun s17 => f_X6_added3_L5 F K n s17 m16) fun J18 => if s10 = 0 then J18 (x1_4 - r14) else J18 (x1_4 + r14)) fun J11 => if (lg_cmp (rL m5 0 30) (43 : Int64)) = 0 then J11 (1 : Int32) else J11 (0 : Int32)) fun J9 => if r7 = 0 then bd1 (f_X6_isSign (45 : Int32) m5) fun r19 => if r19 = 0 then K x1_4 m5 else J9 else J9

def f_X6_added3 (F : Nat)   (m : MM) : Option (Int32 × MM) := bd2 (f_X6_term3 F m) fun r1 m3 => f_X6_added3_L5 F (fun x1_4 m5 => some (x1_4, m5)) F r1 m3

def f_X6_not3 (F : Nat)   (m : MM) : Option (Int32 × MM) := bd1 (f_X6_isWord (110 : Int32) (111 : Int32) (116 : Int32) (0 : Int32) (0 : Int32) (0 : Int32) (0 : Int32) (0 : Int32) m) fun r1 => if r1 = 0 then bd2 (f_X6_added3 F m) fun r3 m5 => bd1 (f_X6_isSign (60 : Int32) m5) fun r6 => Jp (Jp (fun s9 => bd1 (f_X6_next F m5) fun m12 => bd2 (f_X6_added3 F m12) fun r13 m15 => if s9 = 0 then if r3 = r13 then some ((1 : Int32), m15) else some ((0 : Int32), m15) else if r13 ≤ r3 then some ((0 : Int32), m15) else some ((1 : Int32), m15)) fun J10 => if (lg_cmp (rL m5 0 30) (60 : Int64)) = 0 then J10 (1 : Int32) else J10 (0 : Int32)) fun J8 => if r6 = 0 then bd1 (f_X6_isSign (61 : Int32) m5) fun r16 => if r16 = 0 then some (r3, m5) else J8 else J8 else bd2 (f_X6_opens F m) fun r18 m20 => if r18 = 0 then some ((0 : Int32), m20) else bd2 (f_X6_not4 F m20) fun r21 m23 => Lt (wI m23 0 31 ((rI m23 0 31) - (1 : Int32))) fun m24 => if r21 = 0 then some ((1 : Int32), m24) else some ((0 : Int32), m24)

def f_X6_both3_L5 (F : Nat) (K : Int32 → MM → Option (Int32 × MM)) : Nat → Int32 → MM → Option (Int32 × MM)
  | 0, _, _ => none
  | n + 1, x1_4, m5 => bd1 (f_X6_isWord (97 : Int32) (110 : Int32) (100 : Int32) (0 : Int32) (0 : Int32) (0 : Int32) (0 : Int32) (0 : Int32) m5) fun r7 => if r7 = 0 then K x1_4 m5 else bd1 (f_X6_next F m5) fun m10 => bd2 (f_X6_not3 F m10) fun r11 m13 => Jp (fun s14 => f_X6_both3_L5 F K n s14 m13) fun J15 => Jp (J15 (0 : Int32)) fun J16 => if x1_4 = 0 then J16 else if r11 = 0 then J16 else J15 (1 : Int32)

def f_X6_both3 (F : Nat)   (m : MM) : Option (Int32 × MM) := bd2 (f_X6_not3 F m) fun r1 m3 => f_X6_both3_L5 F (fun x1_4 m5 => some (x1_4, m5)) F r1 m3

def f_X6_either3_L5 (F : Nat) (K : Int32 → MM → Option (Int32 × MM)) : Nat → Int32 → MM → Option (Int32 × MM)
  | 0, _, _ => none
  | n + 1, x1_4, m5 => bd1 (f_X6_isWord (111 : Int32) (114 : Int32) (0 : Int32) (0 : Int32) (0 : Int32) (0 : Int32) (0 : Int32) (0 : Int32) m5) fun r7 => if r7 = 0 then K x1_4 m5 else bd1 (f_X6_next F m5) fun m10 => bd2 (f_X6_both3 F m10) fun r11 m13 => Jp (fun s14 => f_X6_either3_L5 F K n s14 m13) fun J15 => Jp (J15 (1 : Int32)) fun J16 => if x1_4 = 0 then if r11 = 0 then J15 (0 : Int32) else J16 else J16

def f_X6_either3 (F : Nat)   (m : MM) : Option (Int32 × MM) := bd2 (f_X6_both3 F m) fun r1 m3 => f_X6_either3_L5 F (fun x1_4 m5 => some (x1_4, m5)) F r1 m3

def f_X6_atom2 (F : Nat)   (m : MM) : Option (Int32 × MM) := bd1 (f_X6_isSign (45 : Int32) m) fun r1 => if r1 = 0 then bd1 (f_X6_isSign (40 : Int32) m) fun r3 => if r3 = 0 then Jp (Jp (bd1 (f_X6_fail m) fun m8 => some ((0 : Int32), m8)) fun J6 => if (rI m 0 32) = 0 then if (rI m 0 28) = (1 : Int32) then bd2 (f_X6_name m) fun r9 m11 => if (rI m11 0 32) = 0 then bd1 (f_X6_next F m11) fun m13 => some (r9, m13) else some (r9, m11) else J6 else J6) fun J5 => if (rI m 0 32) = 0 then if (rI m 0 28) = (2 : Int32) then Lt (Int64.toInt32 (rL m 0 30)) fun x1_14 => bd1 (f_X6_next F m) fun m16 => some (x1_14, m16) else J5 else J5 else bd2 (f_X6_opens F m) fun r17 m19 => if r17 = 0 then some ((0 : Int32), m19) else bd2 (f_X6_either3 F m19) fun r20 m22 => bd1 (f_X6_isSign (41 : Int32) m22) fun r23 => Jp (fun m25 => Lt (wI m25 0 31 ((rI m25 0 31) - (1 : Int32))) fun m27 => if (rI m27 0 32) = 0 then bd1 (f_X6_next F m27) fun m29 => some (r20, m29) else some (r20, m27)) fun J26 => if r23 = 0 then bd1 (f_X6_fail m22) fun m31 => J26 m31 else J26 m22 else bd2 (f_X6_opens F m) fun r32 m34 => if r32 = 0 then some ((0 : Int32), m34) else bd2 (f_X6_atom3 F m34) fun r35 m37 => Lt (wI m37 0 31 ((rI m37 0 31) - (1 : Int32))) fun m38 => some (-r35, m38)

def f_X6_term2_L5 (F : Nat) (K : Int32 → MM → Option (Int32 × MM)) : Nat → Int32 → MM → Option (Int32 × MM)
  | 0, _, _ => none
  | n + 1, x1_4, m5 => bd1 (f_X6_isSign (42 : Int32) m5) fun r7 => if r7 = 0 then K x1_4 m5 else bd1 (f_X6_next F m5) fun m10 => bd2 (f_X6_atom2 F m10) fun r11 m13 => Lt (x1_4 * r11) fun x1_14 => f_X6_term2_L5 F K n x1_14 m13

def f_X6_term2 (F : Nat)   (m : MM) : Option (Int32 × MM) := bd2 (f_X6_atom2 F m) fun r1 m3 => f_X6_term2_L5 F (fun x1_4 m5 => some (x1_4, m5)) F r1 m3

def f_X6_added2_L5 (F : Nat) (K : Int32 → MM → Option (Int32 × MM)) : Nat → Int32 → MM → Option (Int32 × MM)
  | 0, _, _ => none
  | n + 1, x1_4, m5 => bd1 (f_X6_isSign (43 : Int32) m5) fun r7 => Jp (Jp (fun s10 => bd1 (f_X6_next F m5) fun m13 => bd2 (f_X6_term2 F m13) fun r14 m16 => Jp (fun s17 => f_X6_added2_L5 F K n s17 m16) fun J18 => if s10 = 0 then J18 (x1_4 - r14) else J18 (x1_4 + r14)) fun J11 => if (lg_cmp (rL m5 0 30) (43 : Int64)) = 0 then J11 (1 : Int32) else J11 (0 : Int32)) fun J9 => if r7 = 0 then bd1 (f_X6_isSign (45 : Int32) m5) fun r19 => if r19 = 0 then K x1_4 m5 else J9 else J9

def f_X6_added2 (F : Nat)   (m : MM) : Option (Int32 × MM) := bd2 (f_X6_term2 F m) fun r1 m3 => f_X6_added2_L5 F (fun x1_4 m5 => some (x1_4, m5)) F r1 m3

def f_X6_not2 (F : Nat)   (m : MM) : Option (Int32 × MM) := bd1 (f_X6_isWord (110 : Int32) (111 : Int32) (116 : Int32) (0 : Int32) (0 : Int32) (0 : Int32) (0 : Int32) (0 : Int32) m) fun r1 => if r1 = 0 then bd2 (f_X6_added2 F m) fun r3 m5 => bd1 (f_X6_isSign (60 : Int32) m5) fun r6 => Jp (Jp (fun s9 => bd1 (f_X6_next F m5) fun m12 => bd2 (f_X6_added2 F m12) fun r13 m15 => if s9 = 0 then if r3 = r13 then some ((1 : Int32), m15) else some ((0 : Int32), m15) else if r13 ≤ r3 then some ((0 : Int32), m15) else some ((1 : Int32), m15)) fun J10 => if (lg_cmp (rL m5 0 30) (60 : Int64)) = 0 then J10 (1 : Int32) else J10 (0 : Int32)) fun J8 => if r6 = 0 then bd1 (f_X6_isSign (61 : Int32) m5) fun r16 => if r16 = 0 then some (r3, m5) else J8 else J8 else bd2 (f_X6_opens F m) fun r18 m20 => if r18 = 0 then some ((0 : Int32), m20) else bd2 (f_X6_not3 F m20) fun r21 m23 => Lt (wI m23 0 31 ((rI m23 0 31) - (1 : Int32))) fun m24 => if r21 = 0 then some ((1 : Int32), m24) else some ((0 : Int32), m24)

def f_X6_both2_L5 (F : Nat) (K : Int32 → MM → Option (Int32 × MM)) : Nat → Int32 → MM → Option (Int32 × MM)
  | 0, _, _ => none
  | n + 1, x1_4, m5 => bd1 (f_X6_isWord (97 : Int32) (110 : Int32) (100 : Int32) (0 : Int32) (0 : Int32) (0 : Int32) (0 : Int32) (0 : Int32) m5) fun r7 => if r7 = 0 then K x1_4 m5 else bd1 (f_X6_next F m5) fun m10 => bd2 (f_X6_not2 F m10) fun r11 m13 => Jp (fun s14 => f_X6_both2_L5 F K n s14 m13) fun J15 => Jp (J15 (0 : Int32)) fun J16 => if x1_4 = 0 then J16 else if r11 = 0 then J16 else J15 (1 : Int32)

def f_X6_both2 (F : Nat)   (m : MM) : Option (Int32 × MM) := bd2 (f_X6_not2 F m) fun r1 m3 => f_X6_both2_L5 F (fun x1_4 m5 => some (x1_4, m5)) F r1 m3

def f_X6_either2_L5 (F : Nat) (K : Int32 → MM → Option (Int32 × MM)) : Nat → Int32 → MM → Option (Int32 × MM)
  | 0, _, _ => none
  | n + 1, x1_4, m5 => bd1 (f_X6_isWord (111 : Int32) (114 : Int32) (0 : Int32) (0 : Int32) (0 : Int32) (0 : Int32) (0 : Int32) (0 : Int32) m5) fun r7 => if r7 = 0 then K x1_4 m5 else bd1 (f_X6_next F m5) fun m10 => bd2 (f_X6_both2 F m10) fun r11 m13 => Jp (fun s14 => f_X6_either2_L5 F K n s14 m13) fun J15 => Jp (J15 (1 : Int32)) fun J16 => if x1_4 = 0 then if r11 = 0 then J15 (0 : Int32) else J16 else J16

def f_X6_either2 (F : Nat)   (m : MM) : Option (Int32 × MM) := bd2 (f_X6_both2 F m) fun r1 m3 => f_X6_either2_L5 F (fun x1_4 m5 => some (x1_4, m5)) F r1 m3

def f_X6_atom1 (F : Nat)   (m : MM) : Option (Int32 × MM) := bd1 (f_X6_isSign (45 : Int32) m) fun r1 => if r1 = 0 then bd1 (f_X6_isSign (40 : Int32) m) fun r3 => if r3 = 0 then Jp (Jp (bd1 (f_X6_fail m) fun m8 => some ((0 : Int32), m8)) fun J6 => if (rI m 0 32) = 0 then if (rI m 0 28) = (1 : Int32) then bd2 (f_X6_name m) fun r9 m11 => if (rI m11 0 32) = 0 then bd1 (f_X6_next F m11) fun m13 => some (r9, m13) else some (r9, m11) else J6 else J6) fun J5 => if (rI m 0 32) = 0 then if (rI m 0 28) = (2 : Int32) then Lt (Int64.toInt32 (rL m 0 30)) fun x1_14 => bd1 (f_X6_next F m) fun m16 => some (x1_14, m16) else J5 else J5 else bd2 (f_X6_opens F m) fun r17 m19 => if r17 = 0 then some ((0 : Int32), m19) else bd2 (f_X6_either2 F m19) fun r20 m22 => bd1 (f_X6_isSign (41 : Int32) m22) fun r23 => Jp (fun m25 => Lt (wI m25 0 31 ((rI m25 0 31) - (1 : Int32))) fun m27 => if (rI m27 0 32) = 0 then bd1 (f_X6_next F m27) fun m29 => some (r20, m29) else some (r20, m27)) fun J26 => if r23 = 0 then bd1 (f_X6_fail m22) fun m31 => J26 m31 else J26 m22 else bd2 (f_X6_opens F m) fun r32 m34 => if r32 = 0 then some ((0 : Int32), m34) else bd2 (f_X6_atom2 F m34) fun r35 m37 => Lt (wI m37 0 31 ((rI m37 0 31) - (1 : Int32))) fun m38 => some (-r35, m38)

def f_X6_term1_L5 (F : Nat) (K : Int32 → MM → Option (Int32 × MM)) : Nat → Int32 → MM → Option (Int32 × MM)
  | 0, _, _ => none
  | n + 1, x1_4, m5 => bd1 (f_X6_isSign (42 : Int32) m5) fun r7 => if r7 = 0 then K x1_4 m5 else bd1 (f_X6_next F m5) fun m10 => bd2 (f_X6_atom1 F m10) fun r11 m13 => Lt (x1_4 * r11) fun x1_14 => f_X6_term1_L5 F K n x1_14 m13

def f_X6_term1 (F : Nat)   (m : MM) : Option (Int32 × MM) := bd2 (f_X6_atom1 F m) fun r1 m3 => f_X6_term1_L5 F (fun x1_4 m5 => some (x1_4, m5)) F r1 m3

def f_X6_added1_L5 (F : Nat) (K : Int32 → MM → Option (Int32 × MM)) : Nat → Int32 → MM → Option (Int32 × MM)
  | 0, _, _ => none
  | n + 1, x1_4, m5 => bd1 (f_X6_isSign (43 : Int32) m5) fun r7 => Jp (Jp (fun s10 => bd1 (f_X6_next F m5) fun m13 => bd2 (f_X6_term1 F m13) fun r14 m16 => Jp (fun s17 => f_X6_added1_L5 F K n s17 m16) fun J18 => if s10 = 0 then J18 (x1_4 - r14) else J18 (x1_4 + r14)) fun J11 => if (lg_cmp (rL m5 0 30) (43 : Int64)) = 0 then J11 (1 : Int32) else J11 (0 : Int32)) fun J9 => if r7 = 0 then bd1 (f_X6_isSign (45 : Int32) m5) fun r19 => if r19 = 0 then K x1_4 m5 else J9 else J9

def f_X6_added1 (F : Nat)   (m : MM) : Option (Int32 × MM) := bd2 (f_X6_term1 F m) fun r1 m3 => f_X6_added1_L5 F (fun x1_4 m5 => some (x1_4, m5)) F r1 m3

def f_X6_not1 (F : Nat)   (m : MM) : Option (Int32 × MM) := bd1 (f_X6_isWord (110 : Int32) (111 : Int32) (116 : Int32) (0 : Int32) (0 : Int32) (0 : Int32) (0 : Int32) (0 : Int32) m) fun r1 => if r1 = 0 then bd2 (f_X6_added1 F m) fun r3 m5 => bd1 (f_X6_isSign (60 : Int32) m5) fun r6 => Jp (Jp (fun s9 => bd1 (f_X6_next F m5) fun m12 => bd2 (f_X6_added1 F m12) fun r13 m15 => if s9 = 0 then if r3 = r13 then some ((1 : Int32), m15) else some ((0 : Int32), m15) else if r13 ≤ r3 then some ((0 : Int32), m15) else some ((1 : Int32), m15)) fun J10 => if (lg_cmp (rL m5 0 30) (60 : Int64)) = 0 then J10 (1 : Int32) else J10 (0 : Int32)) fun J8 => if r6 = 0 then bd1 (f_X6_isSign (61 : Int32) m5) fun r16 => if r16 = 0 then some (r3, m5) else J8 else J8 else bd2 (f_X6_opens F m) fun r18 m20 => if r18 = 0 then some ((0 : Int32), m20) else bd2 (f_X6_not2 F m20) fun r21 m23 => Lt (wI m23 0 31 ((rI m23 0 31) - (1 : Int32))) fun m24 => if r21 = 0 then some ((1 : Int32), m24) else some ((0 : Int32), m24)

def f_X6_both1_L5 (F : Nat) (K : Int32 → MM → Option (Int32 × MM)) : Nat → Int32 → MM → Option (Int32 × MM)
  | 0, _, _ => none
  | n + 1, x1_4, m5 => bd1 (f_X6_isWord (97 : Int32) (110 : Int32) (100 : Int32) (0 : Int32) (0 : Int32) (0 : Int32) (0 : Int32) (0 : Int32) m5) fun r7 => if r7 = 0 then K x1_4 m5 else bd1 (f_X6_next F m5) fun m10 => bd2 (f_X6_not1 F m10) fun r11 m13 => Jp (fun s14 => f_X6_both1_L5 F K n s14 m13) fun J15 => Jp (J15 (0 : Int32)) fun J16 => if x1_4 = 0 then J16 else if r11 = 0 then J16 else J15 (1 : Int32)

def f_X6_both1 (F : Nat)   (m : MM) : Option (Int32 × MM) := bd2 (f_X6_not1 F m) fun r1 m3 => f_X6_both1_L5 F (fun x1_4 m5 => some (x1_4, m5)) F r1 m3

def f_X6_either1_L5 (F : Nat) (K : Int32 → MM → Option (Int32 × MM)) : Nat → Int32 → MM → Option (Int32 × MM)
  | 0, _, _ => none
  | n + 1, x1_4, m5 => bd1 (f_X6_isWord (111 : Int32) (114 : Int32) (0 : Int32) (0 : Int32) (0 : Int32) (0 : Int32) (0 : Int32) (0 : Int32) m5) fun r7 => if r7 = 0 then K x1_4 m5 else bd1 (f_X6_next F m5) fun m10 => bd2 (f_X6_both1 F m10) fun r11 m13 => Jp (fun s14 => f_X6_either1_L5 F K n s14 m13) fun J15 => Jp (J15 (1 : Int32)) fun J16 => if x1_4 = 0 then if r11 = 0 then J15 (0 : Int32) else J16 else J16

def f_X6_either1 (F : Nat)   (m : MM) : Option (Int32 × MM) := bd2 (f_X6_both1 F m) fun r1 m3 => f_X6_either1_L5 F (fun x1_4 m5 => some (x1_4, m5)) F r1 m3

def f_X6_atom0 (F : Nat)   (m : MM) : Option (Int32 × MM) := bd1 (f_X6_isSign (45 : Int32) m) fun r1 => if r1 = 0 then bd1 (f_X6_isSign (40 : Int32) m) fun r3 => if r3 = 0 then Jp (Jp (bd1 (f_X6_fail m) fun m8 => some ((0 : Int32), m8)) fun J6 => if (rI m 0 32) = 0 then if (rI m 0 28) = (1 : Int32) then bd2 (f_X6_name m) fun r9 m11 => if (rI m11 0 32) = 0 then bd1 (f_X6_next F m11) fun m13 => some (r9, m13) else some (r9, m11) else J6 else J6) fun J5 => if (rI m 0 32) = 0 then if (rI m 0 28) = (2 : Int32) then Lt (Int64.toInt32 (rL m 0 30)) fun x1_14 => bd1 (f_X6_next F m) fun m16 => some (x1_14, m16) else J5 else J5 else bd2 (f_X6_opens F m) fun r17 m19 => if r17 = 0 then some ((0 : Int32), m19) else bd2 (f_X6_either1 F m19) fun r20 m22 => bd1 (f_X6_isSign (41 : Int32) m22) fun r23 => Jp (fun m25 => Lt (wI m25 0 31 ((rI m25 0 31) - (1 : Int32))) fun m27 => if (rI m27 0 32) = 0 then bd1 (f_X6_next F m27) fun m29 => some (r20, m29) else some (r20, m27)) fun J26 => if r23 = 0 then bd1 (f_X6_fail m22) fun m31 => J26 m31 else J26 m22 else bd2 (f_X6_opens F m) fun r32 m34 => if r32 = 0 then some ((0 : Int32), m34) else bd2 (f_X6_atom1 F m34) fun r35 m37 => Lt (wI m37 0 31 ((rI m37 0 31) - (1 : Int32))) fun m38 => some (-r35, m38)

def f_X6_term0_L5 (F : Nat) (K : Int32 → MM → Option (Int32 × MM)) : Nat → Int32 → MM → Option (Int32 × MM)
  | 0, _, _ => none
  | n + 1, x1_4, m5 => bd1 (f_X6_isSign (42 : Int32) m5) fun r7 => if r7 = 0 then K x1_4 m5 else bd1 (f_X6_next F m5) fun m10 => bd2 (f_X6_atom0 F m10) fun r11 m13 => Lt (x1_4 * r11) fun x1_14 => f_X6_term0_L5 F K n x1_14 m13

def f_X6_term0 (F : Nat)   (m : MM) : Option (Int32 × MM) := bd2 (f_X6_atom0 F m) fun r1 m3 => f_X6_term0_L5 F (fun x1_4 m5 => some (x1_4, m5)) F r1 m3

def f_X6_added0_L5 (F : Nat) (K : Int32 → MM → Option (Int32 × MM)) : Nat → Int32 → MM → Option (Int32 × MM)
  | 0, _, _ => none
  | n + 1, x1_4, m5 => bd1 (f_X6_isSign (43 : Int32) m5) fun r7 => Jp (Jp (fun s10 => bd1 (f_X6_next F m5) fun m13 => bd2 (f_X6_term0 F m13) fun r14 m16 => Jp (fun s17 => f_X6_added0_L5 F K n s17 m16) fun J18 => if s10 = 0 then J18 (x1_4 - r14) else J18 (x1_4 + r14)) fun J11 => if (lg_cmp (rL m5 0 30) (43 : Int64)) = 0 then J11 (1 : Int32) else J11 (0 : Int32)) fun J9 => if r7 = 0 then bd1 (f_X6_isSign (45 : Int32) m5) fun r19 => if r19 = 0 then K x1_4 m5 else J9 else J9

def f_X6_added0 (F : Nat)   (m : MM) : Option (Int32 × MM) := bd2 (f_X6_term0 F m) fun r1 m3 => f_X6_added0_L5 F (fun x1_4 m5 => some (x1_4, m5)) F r1 m3

def f_X6_not0 (F : Nat)   (m : MM) : Option (Int32 × MM) := bd1 (f_X6_isWord (110 : Int32) (111 : Int32) (116 : Int32) (0 : Int32) (0 : Int32) (0 : Int32) (0 : Int32) (0 : Int32) m) fun r1 => if r1 = 0 then bd2 (f_X6_added0 F m) fun r3 m5 => bd1 (f_X6_isSign (60 : Int32) m5) fun r6 => Jp (Jp (fun s9 => bd1 (f_X6_next F m5) fun m12 => bd2 (f_X6_added0 F m12) fun r13 m15 => if s9 = 0 then if r3 = r13 then some ((1 : Int32), m15) else some ((0 : Int32), m15) else if r13 ≤ r3 then some ((0 : Int32), m15) else some ((1 : Int32), m15)) fun J10 => if (lg_cmp (rL m5 0 30) (60 : Int64)) = 0 then J10 (1 : Int32) else J10 (0 : Int32)) fun J8 => if r6 = 0 then bd1 (f_X6_isSign (61 : Int32) m5) fun r16 => if r16 = 0 then some (r3, m5) else J8 else J8 else bd2 (f_X6_opens F m) fun r18 m20 => if r18 = 0 then some ((0 : Int32), m20) else bd2 (f_X6_not1 F m20) fun r21 m23 => Lt (wI m23 0 31 ((rI m23 0 31) - (1 : Int32))) fun m24 => if r21 = 0 then some ((1 : Int32), m24) else some ((0 : Int32), m24)

def f_X6_both0_L5 (F : Nat) (K : Int32 → MM → Option (Int32 × MM)) : Nat → Int32 → MM → Option (Int32 × MM)
  | 0, _, _ => none
  | n + 1, x1_4, m5 => bd1 (f_X6_isWord (97 : Int32) (110 : Int32) (100 : Int32) (0 : Int32) (0 : Int32) (0 : Int32) (0 : Int32) (0 : Int32) m5) fun r7 => if r7 = 0 then K x1_4 m5 else bd1 (f_X6_next F m5) fun m10 => bd2 (f_X6_not0 F m10) fun r11 m13 => Jp (fun s14 => f_X6_both0_L5 F K n s14 m13) fun J15 => Jp (J15 (0 : Int32)) fun J16 => if x1_4 = 0 then J16 else if r11 = 0 then J16 else J15 (1 : Int32)

def f_X6_both0 (F : Nat)   (m : MM) : Option (Int32 × MM) := bd2 (f_X6_not0 F m) fun r1 m3 => f_X6_both0_L5 F (fun x1_4 m5 => some (x1_4, m5)) F r1 m3

def f_X6_either0_L5 (F : Nat) (K : Int32 → MM → Option (Int32 × MM)) : Nat → Int32 → MM → Option (Int32 × MM)
  | 0, _, _ => none
  | n + 1, x1_4, m5 => bd1 (f_X6_isWord (111 : Int32) (114 : Int32) (0 : Int32) (0 : Int32) (0 : Int32) (0 : Int32) (0 : Int32) (0 : Int32) m5) fun r7 => if r7 = 0 then K x1_4 m5 else bd1 (f_X6_next F m5) fun m10 => bd2 (f_X6_both0 F m10) fun r11 m13 => Jp (fun s14 => f_X6_either0_L5 F K n s14 m13) fun J15 => Jp (J15 (1 : Int32)) fun J16 => if x1_4 = 0 then if r11 = 0 then J15 (0 : Int32) else J16 else J16

def f_X6_either0 (F : Nat)   (m : MM) : Option (Int32 × MM) := bd2 (f_X6_both0 F m) fun r1 m3 => f_X6_either0_L5 F (fun x1_4 m5 => some (x1_4, m5)) F r1 m3

def f_X6_part_ (F : Nat)  (a0 : Int32) (m : MM) : Option (Int32 × MM) := Jp (fun m1 => Jp (fun m3 => Jp (fun s5 m6 => bd1 (f_X6_isSign (59 : Int32) m6) fun r8 => Jp (fun m10 => if (rI m10 0 32) = 0 then bd1 (f_X6_next F m10) fun m13 => some (s5, m13) else some (s5, m10)) fun J11 => if r8 = 0 then bd1 (f_X6_fail m6) fun m15 => J11 m15 else J11 m6) fun J7 => if (rI m3 0 32) = 0 then bd2 (f_X6_either0 F m3) fun r16 m18 => J7 r16 m18 else J7 (0 : Int32) m3) fun J4 => if (rI m1 0 32) = 0 then bd1 (f_X6_next F m1) fun m20 => J4 m20 else J4 m1) fun J2 => if a0 = 0 then bd1 (f_X6_fail m) fun m22 => J2 m22 else J2 m

def f_X6_read (F : Nat)  (a0 : Int32) (a1 : Int32) (m : MM) : Option (Int32 × MM) := Lt (wI m 0 25 ((160 : Int32) * a0)) fun m1 => Gu (inB a0 6) <| Lt (wI m1 0 26 (rI m1 2 (ix a0))) fun m2 => Lt (wI m2 0 27 (0 : Int32)) fun m3 => Lt (wI m3 0 31 (0 : Int32)) fun m4 => Gu (bz (0 : Int32)) <| Lt (wI m4 0 32 (0 : Int32)) fun m5 => bd1 (f_X6_next F m5) fun m7 => bd1 (f_X6_isWord (99 : Int32) (111 : Int32) (115 : Int32) (116 : Int32) (115 : Int32) (0 : Int32) (0 : Int32) (0 : Int32) m7) fun r8 => bd2 (f_X6_part_ F r8 m7) fun r10 m12 => Jp (fun s13 m14 => Jp (fun s16 m17 => Jp (fun m19 => if a1 = 0 then some (r10, m19) else if a1 = (1 : Int32) then some (s13, m19) else some (s16, m19)) fun J20 => if (rI m17 0 32) = 0 then if (rI m17 0 28) = 0 then J20 m17 else bd1 (f_X6_fail m17) fun m22 => J20 m22 else J20 m17) fun J18 => if (rI m14 0 32) = 0 then bd1 (f_X6_isWord (119 : Int32) (111 : Int32) (114 : Int32) (116 : Int32) (104 : Int32) (0 : Int32) (0 : Int32) (0 : Int32) m14) fun r23 => bd2 (f_X6_part_ F r23 m14) fun r25 m27 => J18 r25 m27 else J18 (0 : Int32) m14) fun J15 => if (rI m12 0 32) = 0 then bd1 (f_X6_isWord (98 : Int32) (101 : Int32) (108 : Int32) (108 : Int32) (0 : Int32) (0 : Int32) (0 : Int32) (0 : Int32) m12) fun r28 => bd2 (f_X6_part_ F r28 m12) fun r30 m32 => J15 r30 m32 else J15 (0 : Int32) m12

def f_X6_text_L14  (K : Int32 → MM → Option (Int32 × MM)) : Nat → Int32 → MM → Option (Int32 × MM)
  | 0, _, _ => none
  | n + 1, x1_1, m2 => if (rI m2 0 6) ≤ x1_1 then K x1_1 m2 else Gu (inB x1_1 160) <| Gu (inB (((160 : Int32) * (rI m2 0 3)) + x1_1) 960) <| Lt (wI m2 1 (ix (((160 : Int32) * (rI m2 0 3)) + x1_1)) (rI m2 3 (ix x1_1))) fun m4 => Lt (x1_1 + (1 : Int32)) fun x1_5 => f_X6_text_L14 K n x1_5 m4

def f_X6_text (F : Nat)   (m : MM) : Option (Int32 × MM) := if (rI m 0 3) = (6 : Int32) then some ((-4 : Int32), m) else f_X6_text_L14 (fun x1_1 m2 => Gu (inB (rI m2 0 3) 6) <| Lt (wI m2 2 (ix (rI m2 0 3)) (rI m2 0 6)) fun m6 => Lt (wI m6 0 6 (0 : Int32)) fun m7 => bd2 (f_X6_read F (rI m7 0 3) (0 : Int32) m7) fun r8 m10 => if (rI m10 0 32) = 0 then Lt (wI m10 0 3 ((rI m10 0 3) + (1 : Int32))) fun m11 => some ((rI m11 0 3) - (1 : Int32), m11) else some ((-100 : Int32) - (rI m10 0 33), m10)) F (0 : Int32) m

def f_X6_force  (a0 : Int32) (m : MM) : Option (Int32 × MM) := bd1 (f_X6_in (Int32.toInt64 a0) (0 : Int64) (Int32.toInt64 ((rI m 0 3) - (1 : Int32))) m) fun r1 => if r1 = 0 then some ((-2 : Int32), m) else Lt (rI m 0 4) fun x2_3 => Lt (wI m 0 4 a0) fun m4 => some (x2_3, m4)

def f_X6_barsThing (F : Nat)  (a0 : Int32) (a1 : Int32) (m : MM) : Option Int32 := Gu (inB a0 5) <| Gu (inB a0 5) <| Gu (inB a0 5) <| bd1 (f_X6_inside F a1 m) fun r1 => bd1 (f_X6_bars F (rI m 6 (ix a0)) (rI m 7 (ix a0)) (rI m 9 (ix a0)) a1 (r1 &&& ((shlI (1 : Int32) a0) ^^^ (-1 : Int32))) m) fun r3 => some r3

def f_X6_canGo (F : Nat)  (a0 : Int32) (a1 : Int32) (m : MM) : Option Int32 := if a0 = (rI m 0 18) then some (0 : Int32) else Gu (inB a0 5) <| if (rI m 8 (ix a0)) = a1 then some (0 : Int32) else bd1 (f_X6_barsThing F a0 a1 m) fun r1 => if r1 = 0 then some (1 : Int32) else some (0 : Int32)

def f_X6_within  (a0 : Int32) (a1 : Int32) (a2 : Int32) (m : MM) : Option Int32 := if a1 ≤ a0 then if a0 ≤ a2 then some a0 else some a2 else some a1

def f_X6_says (F : Nat)  (a0 : Int32) (a1 : Int32) (a2 : Int32) (a3 : Int32) (m : MM) : Option (Int32 × MM) := Jp (fun s1 => Lt (wI m 0 19 s1) fun m3 => Lt (wI m3 0 20 a2) fun m4 => Lt (wI m4 0 21 a3) fun m5 => Jp (fun s6 => Lt (wI m5 0 22 s6) fun m8 => Lt (wI m8 0 23 (rI m8 0 14)) fun m9 => Jp (fun s10 => Lt (wI m9 0 24 s10) fun m12 => bd2 (f_X6_read F (rI m12 0 4) a0 m12) fun r13 m15 => Jp (fun s16 => bd1 (f_X6_within r13 (0 : Int32) s16 m15) fun r18 => some (r18, m15)) fun J17 => if a0 = 0 then J17 (99 : Int32) else if a0 = (1 : Int32) then J17 (9999 : Int32) else J17 (999 : Int32)) fun J11 => if a0 = 0 then bd1 (f_X6_wetOf a3 m9) fun r20 => J11 r20 else J11 (0 : Int32)) fun J7 => if a0 = (1 : Int32) then J7 (0 : Int32) else J7 a1) fun J2 => if a0 = (1 : Int32) then J2 (0 : Int32) else Gu (inB a1 5) <| J2 (rI m 6 (ix a1))

def f_X6_move (F : Nat)  (a0 : Int32) (a1 : Int32) (m : MM) : Option (Int32 × MM) := bd1 (f_X6_isThing a0 m) fun r1 => if r1 = 0 then some ((-2 : Int32), m) else bd1 (f_X6_isHold a1 m) fun r3 => if r3 = 0 then some ((-2 : Int32), m) else bd1 (f_X6_canGo F a0 a1 m) fun r5 => if r5 = 0 then some ((-3 : Int32), m) else Gu (inB a0 5) <| bd2 (f_X6_says F (0 : Int32) a0 (rI m 8 (ix a0)) a1 m) fun r7 m9 => Gu (inB a0 5) <| Lt (wI m9 8 (ix a0) a1) fun m10 => some (r7, m10)

def f_X6_why (F : Nat)  (a0 : Int32) (a1 : Int32) (m : MM) : Option Int32 := bd1 (f_X6_isThing a0 m) fun r1 => if r1 = 0 then some (-2 : Int32) else bd1 (f_X6_isHold a1 m) fun r3 => if r3 = 0 then some (-2 : Int32) else Gu (inB a0 5) <| if (rI m 8 (ix a0)) = a1 then some (1 : Int32) else bd1 (f_X6_barsThing F a0 a1 m) fun r5 => some r5

def f_X6_isOpen_L30 (F : Nat) (m : MM) (K : Int32 → Int32 → Option Int32) : Nat → Int32 → Int32 → Option Int32
  | 0, _, _ => none
  | n + 1, x1_3, x2_4 => if (rI m 0 9) ≤ x2_4 then K x1_3 x2_4 else Gu (inB (rI m 0 15) 5) <| Jp (fun s6 => Lt (x1_3 + s6) fun x1_8 => Lt (x2_4 + (1 : Int32)) fun x2_9 => f_X6_isOpen_L30 F m K n x1_8 x2_9) fun J7 => Jp (J7 (0 : Int32)) fun J10 => if x2_4 = (rI m 8 (ix (rI m 0 15))) then J10 else bd1 (f_X6_opensOf x2_4 m) fun r11 => if r11 = (1 : Int32) then bd1 (f_X6_inside F x2_4 m) fun r13 => if r13 = 0 then J7 (1 : Int32) else J10 else J10

def f_X6_isOpen (F : Nat)   (m : MM) : Option Int32 := if (rI m 0 15) = (-1 : Int32) then some (0 : Int32) else Gu (inB (rI m 0 15) 5) <| bd1 (f_X6_opensOf (rI m 8 (ix (rI m 0 15))) m) fun r1 => if r1 = 0 then some (0 : Int32) else f_X6_isOpen_L30 F m (fun x1_3 x2_4 => if x1_3 < (rI m 0 16) then some (0 : Int32) else some (1 : Int32)) F (0 : Int32) (0 : Int32)

def f_X6_open_L41 (F : Nat) (m : MM) (K : Int32 → Int32 → Option Int32) : Nat → Int32 → Int32 → Option Int32
  | 0, _, _ => none
  | n + 1, x2_5, x3_6 => if (rI m 0 9) ≤ x3_6 then K x2_5 x3_6 else bd1 (f_X6_opensOf x3_6 m) fun r8 => Jp (fun s10 => Lt (x2_5 + s10) fun x2_12 => Lt (x3_6 + (1 : Int32)) fun x3_13 => f_X6_open_L41 F m K n x2_12 x3_13) fun J11 => Jp (J11 (0 : Int32)) fun J14 => if r8 = (1 : Int32) then bd1 (f_X6_inside F x3_6 m) fun r15 => if r15 = 0 then J11 (1 : Int32) else J14 else J14

def f_X6_open_L95 (F : Nat) (m : MM) (x3_18 : Int32) (K : Int32 → Int32 → Option Int32) : Nat → Int32 → Int32 → Option Int32
  | 0, _, _ => none
  | n + 1, x2_20, x4_21 => if (rI m 0 9) ≤ x4_21 then K x2_20 x4_21 else bd1 (f_X6_canGo F x3_18 x4_21 m) fun r23 => Jp (fun s25 => Lt (x2_20 + s25) fun x2_27 => Lt (x4_21 + (1 : Int32)) fun x4_28 => f_X6_open_L95 F m x3_18 K n x2_27 x4_28) fun J26 => if r23 = 0 then J26 (0 : Int32) else J26 (1 : Int32)

def f_X6_open_L84 (F : Nat) (m : MM) (K : Int32 → Int32 → Option Int32) : Nat → Int32 → Int32 → Option Int32
  | 0, _, _ => none
  | n + 1, x2_17, x3_18 => if (rI m 0 14) ≤ x3_18 then K x2_17 x3_18 else f_X6_open_L95 F m x3_18 (fun x2_20 x4_21 => Lt (x3_18 + (1 : Int32)) fun x3_29 => f_X6_open_L84 F m K n x2_20 x3_29) F x2_17 (0 : Int32)

def f_X6_open (F : Nat)  (a0 : Int32) (m : MM) : Option Int32 := bd1 (f_X6_in (Int32.toInt64 a0) (0 : Int64) (2 : Int64) m) fun r1 => if r1 = 0 then some (-2 : Int32) else if a0 = 0 then bd1 (f_X6_isOpen F m) fun r3 => if r3 = 0 then some (0 : Int32) else some (1 : Int32) else if a0 = (1 : Int32) then f_X6_open_L41 F m (fun x2_5 x3_6 => some x2_5) F (0 : Int32) (0 : Int32) else f_X6_open_L84 F m (fun x2_17 x3_18 => some x2_17) F (0 : Int32) (0 : Int32)

def f_X6_asks (F : Nat)  (a0 : Int32) (a1 : Int32) (a2 : Int32) (m : MM) : Option (Int32 × MM) := bd1 (f_X6_in (Int32.toInt64 a0) (0 : Int64) (2 : Int64) m) fun r1 => if r1 = 0 then some ((-1 : Int32), m) else Jp (Jp (if a0 = 0 then Gu (inB a1 5) <| bd2 (f_X6_says F (0 : Int32) a1 (rI m 8 (ix a1)) a2 m) fun r5 m7 => some (r5, m7) else if a0 = (1 : Int32) then bd2 (f_X6_says F (1 : Int32) (0 : Int32) (0 : Int32) (0 : Int32) m) fun r8 m10 => some (r8, m10) else Gu (inB a1 5) <| bd2 (f_X6_says F (2 : Int32) a1 (rI m 8 (ix a1)) (0 : Int32) m) fun r11 m13 => some (r11, m13)) fun J4 => if a0 = 0 then bd1 (f_X6_isHold a2 m) fun r14 => if r14 = 0 then some ((-1 : Int32), m) else J4 else J4) fun J3 => if a0 = (1 : Int32) then J3 else bd1 (f_X6_isThing a1 m) fun r16 => if r16 = 0 then some ((-1 : Int32), m) else J3

def f_X6_place  (a0 : Int32) (m : MM) : Option Int32 := if a0 = 0 then some (1 : Int32) else if a0 = (1 : Int32) then some (5 : Int32) else if a0 = (2 : Int32) then some (25 : Int32) else if a0 = (3 : Int32) then some (125 : Int32) else some (625 : Int32)

def f_X6_codeNow_L4 (m : MM) (K : Int32 → Int32 → Option Int32) : Nat → Int32 → Int32 → Option Int32
  | 0, _, _ => none
  | n + 1, x1_1, x2_2 => if (rI m 0 14) ≤ x2_2 then K x1_1 x2_2 else bd1 (f_X6_place x2_2 m) fun r4 => Gu (inB x2_2 5) <| Lt (x1_1 + (r4 * (rI m 8 (ix x2_2)))) fun x1_6 => Lt (x2_2 + (1 : Int32)) fun x2_7 => f_X6_codeNow_L4 m K n x1_6 x2_7

def f_X6_codeNow (F : Nat)   (m : MM) : Option Int32 := f_X6_codeNow_L4 m (fun x1_1 x2_2 => some x1_1) F (0 : Int32) (0 : Int32)

def f_X6_lays_L2 (a0 : Int32) (K : Int32 → MM → Option MM) : Nat → Int32 → MM → Option MM
  | 0, _, _ => none
  | n + 1, x2_1, m2 => if (rI m2 0 14) ≤ x2_1 then K x2_1 m2 else bd1 (f_X6_place x2_1 m2) fun r4 => Gu (nz r4) <| Gu (nz (5 : Int32)) <| Gu (inB x2_1 5) <| Lt (wI m2 8 (ix x2_1) (remI (a0 / r4) (5 : Int32))) fun m6 => Lt (x2_1 + (1 : Int32)) fun x2_7 => f_X6_lays_L2 a0 K n x2_7 m6

def f_X6_lays (F : Nat)  (a0 : Int32) (m : MM) : Option MM := f_X6_lays_L2 a0 (fun x2_1 m2 => some m2) F (0 : Int32) m

def f_X6_areWell_L2 (F : Nat) (m : MM) (K : Int32 → Option Int32) : Nat → Int32 → Option Int32
  | 0, _ => none
  | n + 1, x1_1 => if (rI m 0 14) ≤ x1_1 then K x1_1 else Gu (inB x1_1 5) <| bd1 (f_X6_isHold (rI m 8 (ix x1_1)) m) fun r3 => if r3 = 0 then some (0 : Int32) else if x1_1 = (rI m 0 18) then Lt (x1_1 + (1 : Int32)) fun x1_5 => f_X6_areWell_L2 F m K n x1_5 else Gu (inB x1_1 5) <| bd1 (f_X6_barsThing F x1_1 (rI m 8 (ix x1_1)) m) fun r6 => if r6 = 0 then Lt (x1_1 + (1 : Int32)) fun x1_8 => f_X6_areWell_L2 F m K n x1_8 else some (0 : Int32)

def f_X6_areWell (F : Nat)   (m : MM) : Option Int32 := f_X6_areWell_L2 F m (fun x1_1 => some (1 : Int32)) F (0 : Int32)

def f_X6_after  (a0 : Int32) (a1 : Int32) (a2 : Int32) (m : MM) : Option Int32 := bd1 (f_X6_place a1 m) fun r1 => bd1 (f_X6_place a1 m) fun r3 => Gu (nz r3) <| Gu (nz (5 : Int32)) <| some (a0 + (r1 * (a2 - (remI (a0 / r3) (5 : Int32)))))

def f_X6_eases_L25 (a0 : Int32) (x3_2 : Int32) (x4_7 : Int32) (K : Int32 → Int32 → MM → Option (Int32 × MM)) : Nat → Int32 → Int32 → MM → Option (Int32 × MM)
  | 0, _, _, _ => none
  | n + 1, x2_8, x5_9, m10 => if (rI m10 0 9) ≤ x5_9 then K x2_8 x5_9 m10 else if x3_2 = (rI m10 0 18) then K x2_8 x5_9 m10 else bd1 (f_X6_after a0 x3_2 x5_9 m10) fun r12 => if x5_9 = x4_7 then Lt (x5_9 + (1 : Int32)) fun x5_14 => f_X6_eases_L25 a0 x3_2 x4_7 K n x2_8 x5_14 m10 else Gu (inB r12 3125) <| if (rI m10 11 (ix r12)) = (1 : Int32) then Gu (inB r12 3125) <| Gu (inB a0 3125) <| Jp (fun x2_15 m16 => Gu (inB r12 3125) <| Gu (inB ((((25 : Int32) * x3_2) + ((5 : Int32) * x4_7)) + x5_9) 125) <| Gu (inB a0 3125) <| if (rI m16 13 (ix a0)) ≤ ((rI m16 13 (ix r12)) + (rI m16 14 (ix ((((25 : Int32) * x3_2) + ((5 : Int32) * x4_7)) + x5_9)))) then Lt (x5_9 + (1 : Int32)) fun x5_18 => f_X6_eases_L25 a0 x3_2 x4_7 K n x2_15 x5_18 m16 else Gu (inB r12 3125) <| Gu (inB ((((25 : Int32) * x3_2) + ((5 : Int32) * x4_7)) + x5_9) 125) <| Gu (inB a0 3125) <| Lt (wI m16 13 (ix a0) ((rI m16 13 (ix r12)) + (rI m16 14 (ix ((((25 : Int32) * x3_2) + ((5 : Int32) * x4_7)) + x5_9))))) fun m19 => Lt (x5_9 + (1 : Int32)) fun x5_20 => f_X6_eases_L25 a0 x3_2 x4_7 K n (1 : Int32) x5_20 m19) fun J17 => if (rI m10 12 (ix a0)) ≤ ((rI m10 12 (ix r12)) + (1 : Int32)) then J17 x2_8 m10 else Gu (inB r12 3125) <| Gu (inB a0 3125) <| Lt (wI m10 12 (ix a0) ((rI m10 12 (ix r12)) + (1 : Int32))) fun m21 => J17 (1 : Int32) m21 else Lt (x5_9 + (1 : Int32)) fun x5_22 => f_X6_eases_L25 a0 x3_2 x4_7 K n x2_8 x5_22 m10

def f_X6_eases_L4 (F : Nat) (a0 : Int32) (K : Int32 → Int32 → MM → Option (Int32 × MM)) : Nat → Int32 → Int32 → MM → Option (Int32 × MM)
  | 0, _, _, _ => none
  | n + 1, x2_1, x3_2, m3 => if (rI m3 0 14) ≤ x3_2 then K x2_1 x3_2 m3 else bd1 (f_X6_place x3_2 m3) fun r5 => Gu (nz r5) <| Gu (nz (5 : Int32)) <| Lt (remI (a0 / r5) (5 : Int32)) fun x4_7 => f_X6_eases_L25 a0 x3_2 x4_7 (fun x2_8 x5_9 m10 => Lt (x3_2 + (1 : Int32)) fun x3_23 => f_X6_eases_L4 F a0 K n x2_8 x3_23 m10) F x2_1 (0 : Int32) m3

def f_X6_eases (F : Nat)  (a0 : Int32) (m : MM) : Option (Int32 × MM) := f_X6_eases_L4 F a0 (fun x2_1 x3_2 m3 => Gu (bz x2_1) <| some (x2_1, m3)) F (0 : Int32) (0 : Int32) m

def f_X6_gathers_L53 (F : Nat) (x3_5 : Int32) (x4_8 : Int32) (K : Int32 → MM → Option MM) : Nat → Int32 → MM → Option MM
  | 0, _, _ => none
  | n + 1, x5_11, m12 => if (rI m12 0 9) ≤ x5_11 then K x5_11 m12 else bd2 (f_X6_says F (0 : Int32) x3_5 x4_8 x5_11 m12) fun r14 m16 => Gu (inB ((((25 : Int32) * x3_5) + ((5 : Int32) * x4_8)) + x5_11) 125) <| Lt (wI m16 14 (ix ((((25 : Int32) * x3_5) + ((5 : Int32) * x4_8)) + x5_11)) r14) fun m17 => Lt (x5_11 + (1 : Int32)) fun x5_18 => f_X6_gathers_L53 F x3_5 x4_8 K n x5_18 m17

def f_X6_gathers_L41 (F : Nat) (x3_5 : Int32) (K : Int32 → MM → Option MM) : Nat → Int32 → MM → Option MM
  | 0, _, _ => none
  | n + 1, x4_8, m9 => if (rI m9 0 9) ≤ x4_8 then K x4_8 m9 else f_X6_gathers_L53 F x3_5 x4_8 (fun x5_11 m12 => Lt (x4_8 + (1 : Int32)) fun x4_19 => f_X6_gathers_L41 F x3_5 K n x4_19 m12) F (0 : Int32) m9

def f_X6_gathers_L200 (F : Nat) (s3 : Int32) (K : Int32 → Int32 → MM → Option MM) : Nat → Int32 → Int32 → MM → Option MM
  | 0, _, _, _ => none
  | n + 1, x3_44, x4_45, m46 => if s3 ≤ x4_45 then K x3_44 x4_45 m46 else Gu (inB x4_45 3125) <| if (rI m46 11 (ix x4_45)) = (1 : Int32) then bd2 (f_X6_eases F x4_45 m46) fun r48 m50 => if r48 = 0 then Lt (x4_45 + (1 : Int32)) fun x4_51 => f_X6_gathers_L200 F s3 K n x3_44 x4_51 m50 else Lt (x4_45 + (1 : Int32)) fun x4_52 => f_X6_gathers_L200 F s3 K n (1 : Int32) x4_52 m50 else Lt (x4_45 + (1 : Int32)) fun x4_53 => f_X6_gathers_L200 F s3 K n x3_44 x4_53 m46

def f_X6_gathers_L191 (F : Nat) (s3 : Int32) (K : Int32 → MM → Option MM) : Nat → Int32 → MM → Option MM
  | 0, _, _ => none
  | n + 1, x3_41, m42 => if x3_41 = 0 then K x3_41 m42 else f_X6_gathers_L200 F s3 (fun x3_44 x4_45 m46 => f_X6_gathers_L191 F s3 K n x3_44 m46) F (0 : Int32) (0 : Int32) m42

def f_X6_gathers_L109 (F : Nat) (s3 : Int32) (K : Int32 → MM → Option MM) : Nat → Int32 → MM → Option MM
  | 0, _, _ => none
  | n + 1, x3_21, m22 => if s3 ≤ x3_21 then K x3_21 m22 else bd1 (f_X6_lays F x3_21 m22) fun m25 => bd1 (f_X6_areWell F m25) fun r26 => Jp (fun s28 => Gu (inB x3_21 3125) <| Lt (wI m25 11 (ix x3_21) s28) fun m30 => Jp (fun s31 => Gu (inB x3_21 3125) <| Lt (wI m30 12 (ix x3_21) s31) fun m33 => Gu (inB x3_21 3125) <| Gu (inB x3_21 3125) <| Lt (wI m33 13 (ix x3_21) (rI m33 12 (ix x3_21))) fun m34 => Lt (x3_21 + (1 : Int32)) fun x3_35 => f_X6_gathers_L109 F s3 K n x3_35 m34) fun J32 => Jp (J32 (99999999 : Int32)) fun J36 => if r26 = 0 then J36 else bd1 (f_X6_isOpen F m30) fun r37 => if r37 = 0 then J36 else J32 (0 : Int32)) fun J29 => if r26 = 0 then J29 (0 : Int32) else J29 (1 : Int32)

def f_X6_gathers_L30 (F : Nat) (K : Int32 → MM → Option MM) : Nat → Int32 → MM → Option MM
  | 0, _, _ => none
  | n + 1, x3_5, m6 => if (rI m6 0 14) ≤ x3_5 then K x3_5 m6 else f_X6_gathers_L41 F x3_5 (fun x4_8 m9 => Lt (x3_5 + (1 : Int32)) fun x3_20 => f_X6_gathers_L30 F K n x3_20 m9) F (0 : Int32) m6

def f_X6_gathers (F : Nat)   (m : MM) : Option MM := bd1 (f_X6_codeNow F m) fun r1 => Jp (fun s3 => f_X6_gathers_L30 F (fun x3_5 m6 => f_X6_gathers_L109 F s3 (fun x3_21 m22 => bd1 (f_X6_lays F r1 m22) fun m40 => f_X6_gathers_L191 F s3 (fun x3_41 m42 => some m42) F (1 : Int32) m40) F (0 : Int32) m6) F (0 : Int32) m) fun J4 => if (rI m 0 14) = 0 then J4 (1 : Int32) else bd1 (f_X6_place ((rI m 0 14) - (1 : Int32)) m) fun r54 => J4 (r54 * (5 : Int32))

def f_X6_told1  (a0 : Int32) (m : MM) : Option Int32 := if a0 < (99999999 : Int32) then some a0 else some (-1 : Int32)

def f_X6_moveBy_L41 (a0 : Int32) (m : MM) (r1 : Int32) (x3_3 : Int32) (K : Int32 → Option Int32) : Nat → Int32 → Option Int32
  | 0, _ => none
  | n + 1, x4_5 => if (rI m 0 9) ≤ x4_5 then K x4_5 else bd1 (f_X6_after r1 x3_3 x4_5 m) fun r7 => Gu (inB x3_3 5) <| if x4_5 = (rI m 8 (ix x3_3)) then Lt (x4_5 + (1 : Int32)) fun x4_9 => f_X6_moveBy_L41 a0 m r1 x3_3 K n x4_9 else Gu (inB r7 3125) <| if (rI m 11 (ix r7)) = (1 : Int32) then if a0 = 0 then Gu (inB r7 3125) <| Gu (inB r1 3125) <| if ((rI m 12 (ix r7)) + (1 : Int32)) = (rI m 12 (ix r1)) then some (((10 : Int32) * x3_3) + x4_5) else Lt (x4_5 + (1 : Int32)) fun x4_10 => f_X6_moveBy_L41 a0 m r1 x3_3 K n x4_10 else Gu (inB r7 3125) <| Gu (inB x3_3 5) <| Gu (inB ((((25 : Int32) * x3_3) + ((5 : Int32) * (rI m 8 (ix x3_3)))) + x4_5) 125) <| Gu (inB r1 3125) <| if ((rI m 13 (ix r7)) + (rI m 14 (ix ((((25 : Int32) * x3_3) + ((5 : Int32) * (rI m 8 (ix x3_3)))) + x4_5)))) = (rI m 13 (ix r1)) then some (((10 : Int32) * x3_3) + x4_5) else Lt (x4_5 + (1 : Int32)) fun x4_11 => f_X6_moveBy_L41 a0 m r1 x3_3 K n x4_11 else Lt (x4_5 + (1 : Int32)) fun x4_12 => f_X6_moveBy_L41 a0 m r1 x3_3 K n x4_12

def f_X6_moveBy_L30 (F : Nat) (a0 : Int32) (m : MM) (r1 : Int32) (K : Int32 → Option Int32) : Nat → Int32 → Option Int32
  | 0, _ => none
  | n + 1, x3_3 => if (rI m 0 14) ≤ x3_3 then K x3_3 else f_X6_moveBy_L41 a0 m r1 x3_3 (fun x4_5 => Lt (x3_3 + (1 : Int32)) fun x3_13 => f_X6_moveBy_L30 F a0 m r1 K n x3_13) F (0 : Int32)

def f_X6_moveBy (F : Nat)  (a0 : Int32) (m : MM) : Option Int32 := bd1 (f_X6_codeNow F m) fun r1 => Gu (inB r1 3125) <| if (rI m 12 (ix r1)) = 0 then some (-1 : Int32) else Gu (inB r1 3125) <| if (rI m 12 (ix r1)) < (99999999 : Int32) then f_X6_moveBy_L30 F a0 m r1 (fun x3_3 => some (-1 : Int32)) F (0 : Int32) else some (-1 : Int32)

def f_X6_reaches_L96 (x4_15 : Int32) (x5_19 : Int32) (K : Int32 → Int32 → MM → Option (Int32 × MM)) : Nat → Int32 → Int32 → MM → Option (Int32 × MM)
  | 0, _, _, _ => none
  | n + 1, x3_22, x6_23, m24 => if (rI m24 0 9) ≤ x6_23 then K x3_22 x6_23 m24 else bd1 (f_X6_after x4_15 x5_19 x6_23 m24) fun r26 => Gu (inB r26 3125) <| if (rI m24 11 (ix r26)) = (1 : Int32) then Gu (inB r26 3125) <| if (rI m24 15 (ix r26)) = 0 then Gu (inB r26 3125) <| Lt (wI m24 15 (ix r26) (1 : Int32)) fun m28 => Lt (x6_23 + (1 : Int32)) fun x6_29 => f_X6_reaches_L96 x4_15 x5_19 K n (1 : Int32) x6_29 m28 else Lt (x6_23 + (1 : Int32)) fun x6_30 => f_X6_reaches_L96 x4_15 x5_19 K n x3_22 x6_30 m24 else Lt (x6_23 + (1 : Int32)) fun x6_31 => f_X6_reaches_L96 x4_15 x5_19 K n x3_22 x6_31 m24

def f_X6_reaches_L73 (F : Nat) (x4_15 : Int32) (K : Int32 → Int32 → MM → Option (Int32 × MM)) : Nat → Int32 → Int32 → MM → Option (Int32 × MM)
  | 0, _, _, _ => none
  | n + 1, x3_18, x5_19, m20 => if (rI m20 0 14) ≤ x5_19 then K x3_18 x5_19 m20 else Gu (inB x4_15 3125) <| if (rI m20 15 (ix x4_15)) = (1 : Int32) then f_X6_reaches_L96 x4_15 x5_19 (fun x3_22 x6_23 m24 => Lt (x5_19 + (1 : Int32)) fun x5_32 => f_X6_reaches_L73 F x4_15 K n x3_22 x5_32 m24) F x3_18 (0 : Int32) m20 else K x3_18 x5_19 m20

def f_X6_reaches_L64 (F : Nat) (s1 : Int32) (K : Int32 → Int32 → MM → Option (Int32 × MM)) : Nat → Int32 → Int32 → MM → Option (Int32 × MM)
  | 0, _, _, _ => none
  | n + 1, x3_14, x4_15, m16 => if s1 ≤ x4_15 then K x3_14 x4_15 m16 else f_X6_reaches_L73 F x4_15 (fun x3_18 x5_19 m20 => Lt (x4_15 + (1 : Int32)) fun x4_33 => f_X6_reaches_L64 F s1 K n x3_18 x4_33 m20) F x3_14 (0 : Int32) m16

def f_X6_reaches_L178 (s1 : Int32) (m12 : MM) (K : Int32 → Int32 → Int32 → Option (Int32 × MM)) : Nat → Int32 → Int32 → Int32 → Option (Int32 × MM)
  | 0, _, _, _ => none
  | n + 1, x4_34, x5_35, x6_36 => if s1 ≤ x6_36 then K x4_34 x5_35 x6_36 else Gu (inB x6_36 3125) <| Lt (x4_34 + (rI m12 15 (ix x6_36))) fun x4_38 => Gu (inB x6_36 3125) <| Jp (fun s39 => Lt (x6_36 + (1 : Int32)) fun x6_41 => f_X6_reaches_L178 s1 m12 K n x4_38 s39 x6_41) fun J40 => Jp (J40 x5_35) fun J42 => if (rI m12 15 (ix x6_36)) = (1 : Int32) then Gu (inB x6_36 3125) <| if (99999999 : Int32) ≤ (rI m12 12 (ix x6_36)) then J42 else Gu (inB x6_36 3125) <| if (rI m12 12 (ix x6_36)) ≤ x5_35 then J42 else Gu (inB x6_36 3125) <| J40 (rI m12 12 (ix x6_36)) else J42

def f_X6_reaches_L55 (F : Nat) (s1 : Int32) (K : Int32 → MM → Option (Int32 × MM)) : Nat → Int32 → MM → Option (Int32 × MM)
  | 0, _, _ => none
  | n + 1, x3_11, m12 => if x3_11 = 0 then K x3_11 m12 else f_X6_reaches_L64 F s1 (fun x3_14 x4_15 m16 => f_X6_reaches_L55 F s1 K n x3_14 m16) F (0 : Int32) (0 : Int32) m12

def f_X6_reaches_L25 (s1 : Int32) (K : Int32 → MM → Option (Int32 × MM)) : Nat → Int32 → MM → Option (Int32 × MM)
  | 0, _, _ => none
  | n + 1, x3_3, m4 => if s1 ≤ x3_3 then K x3_3 m4 else Gu (inB x3_3 3125) <| Lt (wI m4 15 (ix x3_3) (0 : Int32)) fun m6 => Lt (x3_3 + (1 : Int32)) fun x3_7 => f_X6_reaches_L25 s1 K n x3_7 m6

def f_X6_reaches (F : Nat)  (a0 : Int32) (m : MM) : Option (Int32 × MM) := Jp (fun s1 => f_X6_reaches_L25 s1 (fun x3_3 m4 => bd1 (f_X6_codeNow F m4) fun r8 => Gu (inB r8 3125) <| Lt (wI m4 15 (ix r8) (1 : Int32)) fun m10 => f_X6_reaches_L55 F s1 (fun x3_11 m12 => f_X6_reaches_L178 s1 m12 (fun x4_34 x5_35 x6_36 => if a0 = 0 then some (x4_34, m12) else some (x5_35, m12)) F (0 : Int32) (-1 : Int32) (0 : Int32)) F (1 : Int32) m10) F (0 : Int32) m) fun J2 => if (rI m 0 14) = 0 then J2 (1 : Int32) else bd1 (f_X6_place ((rI m 0 14) - (1 : Int32)) m) fun r43 => J2 (r43 * (5 : Int32))

def f_X6_best (F : Nat)  (a0 : Int32) (m : MM) : Option (Int32 × MM) := bd1 (f_X6_in (Int32.toInt64 a0) (0 : Int64) (5 : Int64) m) fun r1 => if r1 = 0 then some ((-100 : Int32), m) else bd1 (f_X6_gathers F m) fun m4 => Jp (Jp (fun s6 => bd1 (f_X6_told1 s6 m4) fun r8 => some (r8, m4)) fun J7 => if a0 = 0 then bd1 (f_X6_codeNow F m4) fun r10 => Gu (inB r10 3125) <| J7 (rI m4 12 (ix r10)) else bd1 (f_X6_codeNow F m4) fun r12 => Gu (inB r12 3125) <| J7 (rI m4 13 (ix r12))) fun J5 => if a0 = 0 then J5 else if a0 = (2 : Int32) then J5 else if (4 : Int32) ≤ a0 then bd2 (f_X6_reaches F (a0 - (4 : Int32)) m4) fun r14 m16 => some (r14, m16) else Jp (fun s17 => bd1 (f_X6_moveBy F s17 m4) fun r19 => some (r19, m4)) fun J18 => if a0 = (3 : Int32) then J18 (1 : Int32) else J18 (0 : Int32)

def f_X6_pack_L41 (a0 : Int32) (m6 : MM) (r7 : Int32) (K : Int32 → Int32 → Int32 → Option (Int32 × MM)) : Nat → Int32 → Int32 → Int32 → Option (Int32 × MM)
  | 0, _, _, _ => none
  | n + 1, x4_9, x5_10, x6_11 => if (rI m6 0 9) ≤ x6_11 then K x4_9 x5_10 x6_11 else bd1 (f_X6_after r7 a0 x6_11 m6) fun r13 => Gu (inB r13 3125) <| if (rI m6 11 (ix r13)) = (1 : Int32) then Gu (inB r13 3125) <| if x5_10 ≤ (rI m6 12 (ix r13)) then Lt (x6_11 + (1 : Int32)) fun x6_15 => f_X6_pack_L41 a0 m6 r7 K n x4_9 x5_10 x6_15 else Gu (inB r13 3125) <| Lt (rI m6 12 (ix r13)) fun x5_16 => Lt (x6_11 + (1 : Int32)) fun x6_17 => f_X6_pack_L41 a0 m6 r7 K n x6_11 x5_16 x6_17 else Lt (x6_11 + (1 : Int32)) fun x6_18 => f_X6_pack_L41 a0 m6 r7 K n x4_9 x5_10 x6_18

def f_X6_pack (F : Nat)  (a0 : Int32) (a1 : Int32) (m : MM) : Option (Int32 × MM) := bd1 (f_X6_isThing a0 m) fun r1 => if r1 = 0 then some ((-2 : Int32), m) else bd1 (f_X6_in (Int32.toInt64 a1) (0 : Int64) (1 : Int64) m) fun r3 => if r3 = 0 then some ((-2 : Int32), m) else bd1 (f_X6_gathers F m) fun m6 => bd1 (f_X6_codeNow F m6) fun r7 => f_X6_pack_L41 a0 m6 r7 (fun x4_9 x5_10 x6_11 => if a1 = 0 then some (x4_9, m6) else bd1 (f_X6_told1 x5_10 m6) fun r19 => some (r19, m6)) F (-1 : Int32) (99999999 : Int32) (0 : Int32)

def f_X6_ring (F : Nat)  (a0 : Int32) (m : MM) : Option (Int32 × MM) := bd1 (f_X6_in (Int32.toInt64 a0) (0 : Int64) (1 : Int64) m) fun r1 => if r1 = 0 then some ((-2 : Int32), m) else bd1 (f_X6_gathers F m) fun m4 => bd2 (f_X6_says F (1 : Int32) (0 : Int32) (0 : Int32) (0 : Int32) m4) fun r5 m7 => bd1 (f_X6_codeNow F m7) fun r8 => Gu (inB r8 3125) <| Lt (rI m7 13 (ix r8)) fun x3_10 => if a0 = 0 then if x3_10 ≤ r5 then some ((0 : Int32), m7) else some ((1 : Int32), m7) else if x3_10 ≤ r5 then some (x3_10, m7) else some (r5, m7)

def f_X6_leave_L18 (F : Nat) (K : Int32 → Int32 → Int32 → MM → Option (Int32 × MM)) : Nat → Int32 → Int32 → Int32 → MM → Option (Int32 × MM)
  | 0, _, _, _, _ => none
  | n + 1, x1_6, x2_7, x3_8, m9 => if (rI m9 0 14) ≤ x3_8 then K x1_6 x2_7 x3_8 m9 else if x3_8 = (rI m9 0 15) then Lt (x3_8 + (1 : Int32)) fun x3_11 => f_X6_leave_L18 F K n x1_6 x2_7 x3_11 m9 else Lt (wI m9 0 18 x3_8) fun m12 => bd1 (f_X6_gathers F m12) fun m14 => bd1 (f_X6_codeNow F m14) fun r15 => Gu (inB r15 3125) <| Lt (rI m14 13 (ix r15)) fun x4_17 => Lt (wI m14 0 18 (-1 : Int32)) fun m18 => Jp (fun s19 m20 => if x1_6 ≤ s19 then Lt (x3_8 + (1 : Int32)) fun x3_22 => f_X6_leave_L18 F K n x1_6 x2_7 x3_22 m20 else Lt (x3_8 + (1 : Int32)) fun x3_23 => f_X6_leave_L18 F K n s19 x3_8 x3_23 m20) fun J21 => if x4_17 < (99999999 : Int32) then Gu (inB x3_8 5) <| bd2 (f_X6_says F (2 : Int32) x3_8 (rI m18 8 (ix x3_8)) (0 : Int32) m18) fun r24 m26 => J21 (x4_17 + r24) m26 else J21 (99999999 : Int32) m18

def f_X6_leave (F : Nat)   (m : MM) : Option (Int32 × MM) := bd1 (f_X6_gathers F m) fun m2 => bd1 (f_X6_codeNow F m2) fun r3 => Gu (inB r3 3125) <| Lt (rI m2 13 (ix r3)) fun x1_5 => f_X6_leave_L18 F (fun x1_6 x2_7 x3_8 m9 => some (x2_7, m9)) F x1_5 (-1 : Int32) (0 : Int32) m2

def f_X6_roomy_L32 (F : Nat) (K : Int32 → Int32 → Int32 → MM → Option (Int32 × MM)) : Nat → Int32 → Int32 → Int32 → MM → Option (Int32 × MM)
  | 0, _, _, _, _ => none
  | n + 1, x2_8, x3_9, x4_10, m11 => if (rI m11 0 9) ≤ x4_10 then K x2_8 x3_9 x4_10 m11 else Lt (wI m11 0 17 x4_10) fun m13 => bd1 (f_X6_gathers F m13) fun m15 => Lt (wI m15 0 17 (-1 : Int32)) fun m16 => bd1 (f_X6_codeNow F m16) fun r17 => Gu (inB r17 3125) <| Lt (rI m16 13 (ix r17)) fun x5_19 => if x2_8 ≤ x5_19 then Lt (x4_10 + (1 : Int32)) fun x4_20 => f_X6_roomy_L32 F K n x2_8 x3_9 x4_20 m16 else Lt (x4_10 + (1 : Int32)) fun x4_21 => f_X6_roomy_L32 F K n x5_19 x4_10 x4_21 m16

def f_X6_roomy (F : Nat)  (a0 : Int32) (m : MM) : Option (Int32 × MM) := bd1 (f_X6_in (Int32.toInt64 a0) (0 : Int64) (1 : Int64) m) fun r1 => if r1 = 0 then some ((-2 : Int32), m) else bd1 (f_X6_gathers F m) fun m4 => bd1 (f_X6_codeNow F m4) fun r5 => Gu (inB r5 3125) <| Lt (rI m4 13 (ix r5)) fun x2_7 => f_X6_roomy_L32 F (fun x2_8 x3_9 x4_10 m11 => if a0 = 0 then some (x3_9, m11) else if x3_9 = (-1 : Int32) then some (x3_9, m11) else some (x2_8, m11)) F x2_7 (-1 : Int32) (0 : Int32) m4

def f_X6_isSheet  (a0 : Int32) (m : MM) : Option Int32 := bd1 (f_X6_in (Int32.toInt64 a0) (0 : Int64) (3 : Int64) m) fun r1 => Gu (bz r1) <| some r1

def f_X6_goesBy_L133  (K : Int32 → MM → Option (Int32 × MM)) : Nat → Int32 → MM → Option (Int32 × MM)
  | 0, _, _ => none
  | n + 1, x3_26, m27 => if (5 : Int32) ≤ x3_26 then K x3_26 m27 else Gu (inB x3_26 5) <| Gu (inB x3_26 5) <| Lt (wI m27 8 (ix x3_26) (rI m27 10 (ix x3_26))) fun m29 => Lt (x3_26 + (1 : Int32)) fun x3_30 => f_X6_goesBy_L133 K n x3_30 m29

def f_X6_goesBy_L34 (F : Nat) (a0 : Int32) (K : Int32 → Int32 → MM → Option (Int32 × MM)) : Nat → Int32 → Int32 → MM → Option (Int32 × MM)
  | 0, _, _, _ => none
  | n + 1, x2_7, x3_8, m9 => Gu (inB a0 4) <| if (rI m9 21 (ix a0)) ≤ x3_8 then K x2_7 x3_8 m9 else if x2_7 = (-1 : Int32) then Gu (inB (((40 : Int32) * a0) + x3_8) 160) <| Lt (rI m9 22 (ix (((40 : Int32) * a0) + x3_8))) fun x4_11 => bd1 (f_X6_in (Int32.toInt64 x4_11) (0 : Int64) (99 : Int64) m9) fun r12 => Jp (fun s14 m15 => if 0 ≤ s14 then Lt (wI m15 0 40 ((rI m15 0 40) + s14)) fun m17 => Lt (x3_8 + (1 : Int32)) fun x3_18 => f_X6_goesBy_L34 F a0 K n x2_7 x3_18 m17 else Lt (x3_8 + (1 : Int32)) fun x3_19 => f_X6_goesBy_L34 F a0 K n x3_8 x3_19 m15) fun J16 => if r12 = 0 then J16 (-2 : Int32) m9 else Gu (nz (10 : Int32)) <| Gu (nz (10 : Int32)) <| bd2 (f_X6_move F (x4_11 / (10 : Int32)) (remI x4_11 (10 : Int32)) m9) fun r20 m22 => J16 r20 m22 else K x2_7 x3_8 m9

def f_X6_goesBy_L2  (K : Int32 → MM → Option (Int32 × MM)) : Nat → Int32 → MM → Option (Int32 × MM)
  | 0, _, _ => none
  | n + 1, x2_1, m2 => if (5 : Int32) ≤ x2_1 then K x2_1 m2 else Gu (inB x2_1 5) <| Gu (inB x2_1 5) <| Lt (wI m2 10 (ix x2_1) (rI m2 8 (ix x2_1))) fun m4 => Lt (x2_1 + (1 : Int32)) fun x2_5 => f_X6_goesBy_L2 K n x2_5 m4

def f_X6_goesBy (F : Nat)  (a0 : Int32) (m : MM) : Option (Int32 × MM) := f_X6_goesBy_L2 (fun x2_1 m2 => Lt (wI m2 0 40 (0 : Int32)) fun m6 => f_X6_goesBy_L34 F a0 (fun x2_7 x3_8 m9 => bd1 (f_X6_isOpen F m9) fun r23 => Gu (bz r23) <| Lt (wI m9 0 41 r23) fun m25 => f_X6_goesBy_L133 (fun x3_26 m27 => some (x2_7, m27)) F (0 : Int32) m25) F (-1 : Int32) (0 : Int32) m6) F (0 : Int32) m

def f_X6_judge (F : Nat)  (a0 : Int32) (a1 : Int32) (m : MM) : Option (Int32 × MM) := bd1 (f_X6_isSheet a0 m) fun r1 => if r1 = 0 then some ((-2 : Int32), m) else bd1 (f_X6_in (Int32.toInt64 a1) (0 : Int64) (2 : Int64) m) fun r3 => if r3 = 0 then some ((-2 : Int32), m) else Gu (inB a0 4) <| if (rI m 19 (ix a0)) = 0 then some ((-11 : Int32), m) else bd2 (f_X6_goesBy F a0 m) fun r5 m7 => if a1 = 0 then some (r5, m7) else if a1 = (1 : Int32) then some (rI m7 0 40, m7) else if (rI m7 0 41) = 0 then some ((0 : Int32), m7) else some ((1 : Int32), m7)

def f_X6_codeOf_L4 (a0 : Int32) (m : MM) (K : Int32 → Int32 → Option Int32) : Nat → Int32 → Int32 → Option Int32
  | 0, _, _ => none
  | n + 1, x2_1, x3_2 => if (rI m 0 14) ≤ x3_2 then K x2_1 x3_2 else Gu (inB (((40 : Int32) * a0) + x3_2) 160) <| Lt (rI m 22 (ix (((40 : Int32) * a0) + x3_2))) fun x4_4 => bd1 (f_X6_isHold x4_4 m) fun r5 => if r5 = 0 then some (-1 : Int32) else bd1 (f_X6_place x3_2 m) fun r7 => Lt (x2_1 + (r7 * x4_4)) fun x2_9 => Lt (x3_2 + (1 : Int32)) fun x3_10 => f_X6_codeOf_L4 a0 m K n x2_9 x3_10

def f_X6_codeOf (F : Nat)  (a0 : Int32) (m : MM) : Option Int32 := f_X6_codeOf_L4 a0 m (fun x2_1 x3_2 => some x2_1) F (0 : Int32) (0 : Int32)

def f_X6_begins_L6  (K : Int32 → MM → Option MM) : Nat → Int32 → MM → Option MM
  | 0, _, _ => none
  | n + 1, x1_3, m4 => if (3125 : Int32) ≤ x1_3 then K x1_3 m4 else Gu (inB x1_3 3125) <| Lt (wL m4 16 (ix x1_3) (0 : Int64)) fun m6 => Lt (x1_3 + (1 : Int32)) fun x1_7 => f_X6_begins_L6 K n x1_7 m6

def f_X6_begins (F : Nat)   (m : MM) : Option MM := bd1 (f_X6_gathers F m) fun m2 => f_X6_begins_L6 (fun x1_3 m4 => bd1 (f_X6_codeNow F m4) fun r8 => Gu (inB r8 3125) <| Lt (wL m4 16 (ix r8) (1 : Int64)) fun m10 => some m10) F (0 : Int32) m2

def f_X6_steps_L74 (x2_8 : Int32) (x3_11 : Int32) (K : Int32 → MM → Option MM) : Nat → Int32 → MM → Option MM
  | 0, _, _ => none
  | n + 1, x4_14, m15 => if (rI m15 0 9) ≤ x4_14 then K x4_14 m15 else bd1 (f_X6_after x2_8 x3_11 x4_14 m15) fun r17 => if r17 = x2_8 then Lt (x4_14 + (1 : Int32)) fun x4_19 => f_X6_steps_L74 x2_8 x3_11 K n x4_19 m15 else Gu (inB r17 3125) <| if (rI m15 11 (ix r17)) = (1 : Int32) then Gu (inB r17 3125) <| Gu (inB x2_8 3125) <| Gu (inB r17 3125) <| Lt (wL m15 17 (ix r17) ((rL m15 17 (ix r17)) + (rL m15 16 (ix x2_8)))) fun m20 => Lt (x4_14 + (1 : Int32)) fun x4_21 => f_X6_steps_L74 x2_8 x3_11 K n x4_21 m20 else Lt (x4_14 + (1 : Int32)) fun x4_22 => f_X6_steps_L74 x2_8 x3_11 K n x4_22 m15

def f_X6_steps_L52 (F : Nat) (x2_8 : Int32) (K : Int32 → MM → Option MM) : Nat → Int32 → MM → Option MM
  | 0, _, _ => none
  | n + 1, x3_11, m12 => if (rI m12 0 14) ≤ x3_11 then K x3_11 m12 else Gu (inB x2_8 3125) <| if (lg_cmp (rL m12 16 (ix x2_8)) (0 : Int64)) ≤ 0 then K x3_11 m12 else f_X6_steps_L74 x2_8 x3_11 (fun x4_14 m15 => Lt (x3_11 + (1 : Int32)) fun x3_23 => f_X6_steps_L52 F x2_8 K n x3_23 m15) F (0 : Int32) m12

def f_X6_steps_L146 (s1 : Int32) (K : Int32 → MM → Option MM) : Nat → Int32 → MM → Option MM
  | 0, _, _ => none
  | n + 1, x2_25, m26 => if s1 ≤ x2_25 then K x2_25 m26 else Gu (inB x2_25 3125) <| Gu (inB x2_25 3125) <| Lt (wL m26 16 (ix x2_25) (rL m26 17 (ix x2_25))) fun m28 => Lt (x2_25 + (1 : Int32)) fun x2_29 => f_X6_steps_L146 s1 K n x2_29 m28

def f_X6_steps_L45 (F : Nat) (s1 : Int32) (K : Int32 → MM → Option MM) : Nat → Int32 → MM → Option MM
  | 0, _, _ => none
  | n + 1, x2_8, m9 => if s1 ≤ x2_8 then K x2_8 m9 else f_X6_steps_L52 F x2_8 (fun x3_11 m12 => Lt (x2_8 + (1 : Int32)) fun x2_24 => f_X6_steps_L45 F s1 K n x2_24 m12) F (0 : Int32) m9

def f_X6_steps_L25 (s1 : Int32) (K : Int32 → MM → Option MM) : Nat → Int32 → MM → Option MM
  | 0, _, _ => none
  | n + 1, x2_3, m4 => if s1 ≤ x2_3 then K x2_3 m4 else Gu (inB x2_3 3125) <| Lt (wL m4 17 (ix x2_3) (0 : Int64)) fun m6 => Lt (x2_3 + (1 : Int32)) fun x2_7 => f_X6_steps_L25 s1 K n x2_7 m6

def f_X6_steps (F : Nat)   (m : MM) : Option MM := Jp (fun s1 => f_X6_steps_L25 s1 (fun x2_3 m4 => f_X6_steps_L45 F s1 (fun x2_8 m9 => f_X6_steps_L146 s1 (fun x2_25 m26 => some m26) F (0 : Int32) m9) F (0 : Int32) m4) F (0 : Int32) m) fun J2 => if (rI m 0 14) = 0 then J2 (1 : Int32) else bd1 (f_X6_place ((rI m 0 14) - (1 : Int32)) m) fun r30 => J2 (r30 * (5 : Int32))

def f_X6_ways_L65 (F : Nat) (a1 : Int32) (K : Int32 → MM → Option (Int64 × MM)) : Nat → Int32 → MM → Option (Int64 × MM)
  | 0, _, _ => none
  | n + 1, x4_9, m10 => if a1 ≤ x4_9 then K x4_9 m10 else bd1 (f_X6_steps F m10) fun m13 => Lt (x4_9 + (1 : Int32)) fun x4_14 => f_X6_ways_L65 F a1 K n x4_14 m13

def f_X6_ways (F : Nat)  (a0 : Int32) (a1 : Int32) (m : MM) : Option (Int64 × MM) := bd1 (f_X6_isSheet a0 m) fun r1 => if r1 = 0 then some ((-4611686018427387904 : Int64), m) else bd1 (f_X6_in (Int32.toInt64 a1) (0 : Int64) (8 : Int64) m) fun r3 => if r3 = 0 then some ((-4611686018427387904 : Int64), m) else Gu (inB a0 4) <| if (rI m 19 (ix a0)) = 0 then some ((-4611686018427387904 : Int64), m) else Gu (inB a0 4) <| if (rI m 21 (ix a0)) = (rI m 0 14) then bd1 (f_X6_codeOf F a0 m) fun r5 => if r5 = (-1 : Int32) then some ((0 : Int64), m) else bd1 (f_X6_begins F m) fun m8 => f_X6_ways_L65 F a1 (fun x4_9 m10 => Gu (inB r5 3125) <| some (rL m10 16 (ix r5), m10)) F (0 : Int32) m8 else some ((-4611686018427387904 : Int64), m)

def f_X6_soonest_L57 (F : Nat) (r3 : Int32) (K : Int32 → MM → Option (Int32 × MM)) : Nat → Int32 → MM → Option (Int32 × MM)
  | 0, _, _ => none
  | n + 1, x3_7, m8 => if (9 : Int32) ≤ x3_7 then K x3_7 m8 else Gu (inB r3 3125) <| if (lg_cmp (rL m8 16 (ix r3)) (0 : Int64)) ≤ 0 then bd1 (f_X6_steps F m8) fun m11 => Lt (x3_7 + (1 : Int32)) fun x3_12 => f_X6_soonest_L57 F r3 K n x3_12 m11 else some (x3_7, m8)

def f_X6_soonest (F : Nat)  (a0 : Int32) (m : MM) : Option (Int32 × MM) := bd1 (f_X6_isSheet a0 m) fun r1 => if r1 = 0 then some ((-2 : Int32), m) else Gu (inB a0 4) <| if (rI m 19 (ix a0)) = 0 then some ((-11 : Int32), m) else Gu (inB a0 4) <| if (rI m 21 (ix a0)) = (rI m 0 14) then bd1 (f_X6_codeOf F a0 m) fun r3 => if r3 = (-1 : Int32) then some ((-1 : Int32), m) else bd1 (f_X6_begins F m) fun m6 => f_X6_soonest_L57 F r3 (fun x3_7 m8 => some ((-1 : Int32), m8)) F (0 : Int32) m6 else some ((-2 : Int32), m)

def f_X6_draws_L139  (K : Int32 → MM → Option (Int32 × MM)) : Nat → Int32 → MM → Option (Int32 × MM)
  | 0, _, _ => none
  | n + 1, x5_28, m29 => if (5 : Int32) ≤ x5_28 then K x5_28 m29 else Gu (inB x5_28 5) <| Gu (inB x5_28 5) <| Lt (wI m29 8 (ix x5_28) (rI m29 10 (ix x5_28))) fun m31 => Lt (x5_28 + (1 : Int32)) fun x5_32 => f_X6_draws_L139 K n x5_32 m31

def f_X6_draws_L44 (F : Nat) (a1 : Int32) (K : Int32 → Int32 → Int32 → MM → Option (Int32 × MM)) : Nat → Int32 → Int32 → Int32 → MM → Option (Int32 × MM)
  | 0, _, _, _, _ => none
  | n + 1, x3_10, x4_11, x5_12, m13 => if a1 < x5_12 then K x3_10 x4_11 x5_12 m13 else if x4_11 = (-1 : Int32) then if (rI m13 0 14) ≤ 0 then K x3_10 x4_11 x5_12 m13 else Lt ((x3_10 * (1103515245 : Int32)) + (12345 : Int32)) fun x3_15 => Gu (nz (rI m13 0 14)) <| Lt (remI (ushI x3_15 (9 : Int32)) (rI m13 0 14)) fun x6_16 => Gu (nz (rI m13 0 9)) <| Lt (remI (ushI x3_15 (17 : Int32)) (rI m13 0 9)) fun x7_17 => bd1 (f_X6_canGo F x6_16 x7_17 m13) fun r18 => Jp (fun m20 => bd1 (f_X6_isOpen F m20) fun r22 => Jp (fun s24 => Lt (x5_12 + (1 : Int32)) fun x5_26 => f_X6_draws_L44 F a1 K n x3_15 s24 x5_26 m20) fun J25 => if r22 = 0 then J25 (-1 : Int32) else J25 x5_12) fun J21 => if r18 = 0 then J21 m13 else Gu (inB x6_16 5) <| Lt (wI m13 8 (ix x6_16) x7_17) fun m27 => J21 m27 else K x3_10 x4_11 x5_12 m13

def f_X6_draws_L2  (K : Int32 → MM → Option (Int32 × MM)) : Nat → Int32 → MM → Option (Int32 × MM)
  | 0, _, _ => none
  | n + 1, x3_1, m2 => if (5 : Int32) ≤ x3_1 then K x3_1 m2 else Gu (inB x3_1 5) <| Gu (inB x3_1 5) <| Lt (wI m2 10 (ix x3_1) (rI m2 8 (ix x3_1))) fun m4 => Lt (x3_1 + (1 : Int32)) fun x3_5 => f_X6_draws_L2 K n x3_5 m4

def f_X6_draws (F : Nat)  (a0 : Int32) (a1 : Int32) (m : MM) : Option (Int32 × MM) := f_X6_draws_L2 (fun x3_1 m2 => bd1 (f_X6_isOpen F m2) fun r6 => Jp (fun s8 => f_X6_draws_L44 F a1 (fun x3_10 x4_11 x5_12 m13 => f_X6_draws_L139 (fun x5_28 m29 => some (x4_11, m29)) F (0 : Int32) m13) F a0 s8 (1 : Int32) m2) fun J9 => if r6 = 0 then J9 (-1 : Int32) else J9 (0 : Int32)) F (0 : Int32) m

def f_X6_drawn (F : Nat)  (a0 : Int32) (a1 : Int32) (m : MM) : Option (Int32 × MM) := bd1 (f_X6_in (Int32.toInt64 a1) (1 : Int64) (40 : Int64) m) fun r1 => if r1 = 0 then some ((-2 : Int32), m) else bd2 (f_X6_draws F a0 a1 m) fun r3 m5 => some (r3, m5)

def f_X6_chance_L76  (K : Int64 → Int64 → Option (Int64 × MM)) : Nat → Int64 → Int64 → Option (Int64 × MM)
  | 0, _, _ => none
  | n + 1, x6_17, x8_18 => if (lg_cmp x8_18 (0 : Int64)) = 0 then K x6_17 x8_18 else Gu (nzL x8_18) <| Lt (remL x6_17 x8_18) fun x10_20 => f_X6_chance_L76 K n x8_18 x10_20

def f_X6_chance_L32 (F : Nat) (a0 : Int32) (a1 : Int32) (K : Int64 → Int32 → MM → Option (Int64 × MM)) : Nat → Int64 → Int32 → MM → Option (Int64 × MM)
  | 0, _, _, _ => none
  | n + 1, x4_5, x6_6, m7 => if a1 ≤ x6_6 then K x4_5 x6_6 m7 else bd2 (f_X6_draws F (a0 + x6_6) (40 : Int32) m7) fun r9 m11 => Jp (fun s12 => Lt (x4_5 + s12) fun x4_14 => Lt (x6_6 + (1 : Int32)) fun x6_15 => f_X6_chance_L32 F a0 a1 K n x4_14 x6_15 m11) fun J13 => if r9 = (-1 : Int32) then J13 (0 : Int64) else J13 (1 : Int64)

def f_X6_chance (F : Nat)  (a0 : Int32) (a1 : Int32) (a2 : Int32) (m : MM) : Option (Int64 × MM) := bd1 (f_X6_in (Int32.toInt64 a1) (1 : Int64) (20 : Int64) m) fun r1 => if r1 = 0 then some ((-4611686018427387904 : Int64), m) else bd1 (f_X6_in (Int32.toInt64 a2) (0 : Int64) (1 : Int64) m) fun r3 => if r3 = 0 then some ((-4611686018427387904 : Int64), m) else f_X6_chance_L32 F a0 a1 (fun x4_5 x6_6 m7 => Lt (Int32.toInt64 a1) fun x8_16 => f_X6_chance_L76 (fun x6_17 x8_18 => if a2 = 0 then Gu (nzL x6_17) <| some (x4_5 / x6_17, m7) else Gu (nzL x6_17) <| some ((Int32.toInt64 a1) / x6_17, m7)) F x4_5 x8_16) F (0 : Int64) (0 : Int32) m

def f_X6_image_L2  (K : Int32 → MM → Option (Int32 × MM)) : Nat → Int32 → MM → Option (Int32 × MM)
  | 0, _, _ => none
  | n + 1, x1_1, m2 => if (5 : Int32) ≤ x1_1 then K x1_1 m2 else Gu (inB x1_1 5) <| Gu (inB x1_1 20) <| Lt (wI m2 18 (ix x1_1) (rI m2 5 (ix x1_1))) fun m4 => Gu (inB x1_1 5) <| Gu (inB ((5 : Int32) + x1_1) 20) <| Lt (wI m4 18 (ix ((5 : Int32) + x1_1)) (rI m4 8 (ix x1_1))) fun m5 => Gu (inB x1_1 5) <| Gu (inB ((10 : Int32) + x1_1) 20) <| Lt (wI m5 18 (ix ((10 : Int32) + x1_1)) (rI m5 7 (ix x1_1))) fun m6 => Gu (inB x1_1 5) <| Gu (inB ((15 : Int32) + x1_1) 20) <| Lt (wI m6 18 (ix ((15 : Int32) + x1_1)) (rI m6 9 (ix x1_1))) fun m7 => Lt (x1_1 + (1 : Int32)) fun x1_8 => f_X6_image_L2 K n x1_8 m7

def f_X6_image (F : Nat)   (m : MM) : Option (Int32 × MM) := f_X6_image_L2 (fun x1_1 m2 => Lt (wI m2 0 45 (rI m2 0 14)) fun m9 => Lt (wI m9 0 46 (rI m9 0 9)) fun m10 => Lt (wI m10 0 47 (rI m10 0 15)) fun m11 => Lt (wI m11 0 48 (rI m11 0 16)) fun m12 => Lt (wI m12 0 49 (rI m12 0 4)) fun m13 => some (rI m13 0 14, m13)) F (0 : Int32) m

def f_X6_back_L13  (K : Int32 → MM → Option (Int32 × MM)) : Nat → Int32 → MM → Option (Int32 × MM)
  | 0, _, _ => none
  | n + 1, x1_1, m2 => if (5 : Int32) ≤ x1_1 then K x1_1 m2 else Gu (inB x1_1 20) <| Gu (inB x1_1 5) <| Lt (wI m2 5 (ix x1_1) (rI m2 18 (ix x1_1))) fun m4 => Gu (inB ((5 : Int32) + x1_1) 20) <| Gu (inB x1_1 5) <| Lt (wI m4 8 (ix x1_1) (rI m4 18 (ix ((5 : Int32) + x1_1)))) fun m5 => Gu (inB ((10 : Int32) + x1_1) 20) <| Gu (inB x1_1 5) <| Lt (wI m5 7 (ix x1_1) (rI m5 18 (ix ((10 : Int32) + x1_1)))) fun m6 => Gu (inB ((15 : Int32) + x1_1) 20) <| Gu (inB x1_1 5) <| Lt (wI m6 9 (ix x1_1) (rI m6 18 (ix ((15 : Int32) + x1_1)))) fun m7 => Lt (x1_1 + (1 : Int32)) fun x1_8 => f_X6_back_L13 K n x1_8 m7

def f_X6_back (F : Nat)   (m : MM) : Option (Int32 × MM) := if (rI m 0 45) = (-1 : Int32) then some ((-3 : Int32), m) else f_X6_back_L13 (fun x1_1 m2 => Lt (wI m2 0 14 (rI m2 0 45)) fun m9 => Lt (wI m9 0 9 (rI m9 0 46)) fun m10 => Lt (wI m10 0 15 (rI m10 0 47)) fun m11 => Lt (wI m11 0 16 (rI m11 0 48)) fun m12 => Lt (wI m12 0 4 (rI m12 0 49)) fun m13 => some (rI m13 0 14, m13)) F (0 : Int32) m

def f_X6_count  (a0 : Int32) (m : MM) : Option Int32 := bd1 (f_X6_in (Int32.toInt64 a0) (0 : Int64) (6 : Int64) m) fun r1 => if r1 = 0 then some (-2 : Int32) else if (4 : Int32) ≤ a0 then if a0 = (4 : Int32) then some (rI m 0 3) else if a0 = (5 : Int32) then some (rI m 0 6) else some (rI m 0 4) else if a0 = 0 then some (rI m 0 9) else if a0 = (1 : Int32) then some (rI m 0 14) else if a0 = (2 : Int32) then some (rI m 0 16) else some (rI m 0 15)

def f_X6_sheet_L77 (a0 : Int32) (a1 : Int32) (a2 : Int32) (K : Int32 → MM → Option (Int32 × MM)) : Nat → Int32 → MM → Option (Int32 × MM)
  | 0, _, _ => none
  | n + 1, x4_12, m13 => if a2 ≤ x4_12 then K x4_12 m13 else if a1 < 0 then K x4_12 m13 else Gu (inB (((40 : Int32) * a0) + x4_12) 160) <| Lt (wI m13 22 (ix (((40 : Int32) * a0) + x4_12)) (0 : Int32)) fun m15 => Lt (x4_12 + (1 : Int32)) fun x4_16 => f_X6_sheet_L77 a0 a1 a2 K n x4_16 m15

def f_X6_sheet (F : Nat)  (a0 : Int32) (a1 : Int32) (a2 : Int32) (m : MM) : Option (Int32 × MM) := bd1 (f_X6_isSheet a0 m) fun r1 => if r1 = 0 then some ((-2 : Int32), m) else bd1 (f_X6_in (Int32.toInt64 a1) (-1 : Int64) (2 : Int64) m) fun r3 => if r3 = 0 then some ((-2 : Int32), m) else Jp (Jp (Jp (fun s7 => Gu (inB a0 4 && bz s7) <| Lt (wI m 19 (ix a0) s7) fun m9 => Gu (inB a0 4) <| Lt (wI m9 20 (ix a0) a1) fun m10 => Gu (inB a0 4) <| Lt (wI m10 21 (ix a0) a2) fun m11 => f_X6_sheet_L77 a0 a1 a2 (fun x4_12 m13 => some ((1 : Int32), m13)) F (0 : Int32) m11) fun J8 => if a1 < 0 then J8 (0 : Int32) else J8 (1 : Int32)) fun J6 => if a1 < 0 then J6 else if 0 ≤ a2 then J6 else some ((-14 : Int32), m)) fun J5 => if a1 < 0 then J5 else if a2 ≤ (40 : Int32) then J5 else some ((-2 : Int32), m)

def f_X6_cell  (a0 : Int32) (a1 : Int32) (a2 : Int32) (m : MM) : Option (Int32 × MM) := bd1 (f_X6_isSheet a0 m) fun r1 => if r1 = 0 then some ((-2 : Int32), m) else Gu (inB a0 4) <| if (rI m 19 (ix a0)) = 0 then some ((-11 : Int32), m) else Gu (inB a0 4) <| bd1 (f_X6_in (Int32.toInt64 a1) (0 : Int64) (Int32.toInt64 ((rI m 21 (ix a0)) - (1 : Int32))) m) fun r3 => if r3 = 0 then some ((-12 : Int32), m) else Gu (inB a0 4) <| Jp (fun s5 => Gu (inB (((40 : Int32) * a0) + a1) 160) <| Lt (wI m 22 (ix (((40 : Int32) * a0) + a1)) s5) fun m7 => some ((1 : Int32), m7)) fun J6 => if (rI m 20 (ix a0)) = 0 then J6 ((Int32.toInt8 a2).toInt32) else Gu (inB a0 4) <| if (rI m 20 (ix a0)) = (1 : Int32) then J6 ((Int32.toInt16 a2).toInt32) else J6 a2

def f_X6_copy_L121 (a0 : Int32) (a1 : Int32) (a2 : Int32) (a3 : Int32) (a4 : Int32) (s5 : Int32) (K : Int32 → MM → Option (Int32 × MM)) : Nat → Int32 → MM → Option (Int32 × MM)
  | 0, _, _ => none
  | n + 1, x7_7, m8 => if a4 ≤ x7_7 then K x7_7 m8 else Jp (fun s10 => Gu (inB ((((40 : Int32) * a0) + a1) + s10) 160) <| Gu (inB ((((40 : Int32) * a2) + a3) + s10) 160) <| Lt (wI m8 22 (ix ((((40 : Int32) * a2) + a3) + s10)) (rI m8 22 (ix ((((40 : Int32) * a0) + a1) + s10)))) fun m12 => Lt (x7_7 + (1 : Int32)) fun x7_13 => f_X6_copy_L121 a0 a1 a2 a3 a4 s5 K n x7_13 m12) fun J11 => if s5 = 0 then J11 x7_7 else J11 ((a4 - (1 : Int32)) - x7_7)

def f_X6_copy (F : Nat)  (a0 : Int32) (a1 : Int32) (a2 : Int32) (a3 : Int32) (a4 : Int32) (m : MM) : Option (Int32 × MM) := bd1 (f_X6_isSheet a0 m) fun r1 => if r1 = 0 then some ((-2 : Int32), m) else bd1 (f_X6_isSheet a2 m) fun r3 => if r3 = 0 then some ((-2 : Int32), m) else Gu (inB a0 4) <| if (rI m 19 (ix a0)) = 0 then some ((-11 : Int32), m) else Gu (inB a2 4) <| if (rI m 19 (ix a2)) = 0 then some ((-11 : Int32), m) else Gu (inB a0 4) <| Gu (inB a2 4) <| if (rI m 20 (ix a0)) = (rI m 20 (ix a2)) then if a4 < 0 then some ((-12 : Int32), m) else if a1 < 0 then some ((-12 : Int32), m) else if a3 < 0 then some ((-12 : Int32), m) else Gu (inB a0 4) <| if ((rI m 21 (ix a0)) - a4) < a1 then some ((-12 : Int32), m) else Gu (inB a2 4) <| if a3 ≤ ((rI m 21 (ix a2)) - a4) then Jp (fun s5 => f_X6_copy_L121 a0 a1 a2 a3 a4 s5 (fun x7_7 m8 => some (a4, m8)) F (0 : Int32) m) fun J6 => Jp (J6 (0 : Int32)) fun J14 => if a0 = a2 then if a3 ≤ a1 then J14 else J6 (1 : Int32) else J14 else some ((-12 : Int32), m) else some ((-13 : Int32), m)

def f_X6_things_L75 (F : Nat) (a0 : Int32) (a2 : Int32) (a3 : Int32) (K : Int32 → Int32 → MM → Option (Int32 × MM)) : Nat → Int32 → Int32 → MM → Option (Int32 × MM)
  | 0, _, _, _ => none
  | n + 1, x5_8, x6_9, m10 => if a3 ≤ x6_9 then K x5_8 x6_9 m10 else if a2 < 0 then some ((-12 : Int32), m10) else Gu (inB a0 4) <| if a2 ≤ (((rI m10 21 (ix a0)) - ((2 : Int32) * x6_9)) - (2 : Int32)) then Lt ((((40 : Int32) * a0) + a2) + ((2 : Int32) * x6_9)) fun x7_12 => Gu (inB x7_12 160) <| Gu (inB (x7_12 + (1 : Int32)) 160) <| bd2 (f_X6_thing F (rI m10 22 (ix x7_12)) (rI m10 22 (ix (x7_12 + (1 : Int32)))) m10) fun r13 m15 => Jp (fun s16 => Lt (x5_8 + s16) fun x5_18 => Lt (x6_9 + (1 : Int32)) fun x6_19 => f_X6_things_L75 F a0 a2 a3 K n x5_18 x6_19 m15) fun J17 => if r13 < 0 then J17 (0 : Int32) else J17 (1 : Int32) else some ((-12 : Int32), m10)

def f_X6_things (F : Nat)  (a0 : Int32) (a1 : Int32) (a2 : Int32) (a3 : Int32) (m : MM) : Option (Int32 × MM) := bd1 (f_X6_isSheet a0 m) fun r1 => if r1 = 0 then some ((-2 : Int32), m) else bd1 (f_X6_in (Int32.toInt64 a1) (0 : Int64) (2 : Int64) m) fun r3 => if r3 = 0 then some ((-2 : Int32), m) else bd1 (f_X6_in (Int32.toInt64 a3) (0 : Int64) (5 : Int64) m) fun r5 => if r5 = 0 then some ((-2 : Int32), m) else Gu (inB a0 4) <| Jp (Gu (inB a0 4) <| if (rI m 19 (ix a0)) = 0 then some ((-11 : Int32), m) else f_X6_things_L75 F a0 a2 a3 (fun x5_8 x6_9 m10 => some (x5_8, m10)) F (0 : Int32) (0 : Int32) m) fun J7 => if (rI m 19 (ix a0)) = 0 then J7 else Gu (inB a0 4) <| if (rI m 20 (ix a0)) = a1 then J7 else some ((-13 : Int32), m)

def f_X6_over  (a0 : Int32) (m : MM) : Option Int32 := if a0 = 0 then some (-1 : Int32) else if a0 = (3 : Int32) then some (1 : Int32) else if a0 = (4 : Int32) then some (2 : Int32) else if a0 = (5 : Int32) then some (2 : Int32) else some (0 : Int32)

def f_X6_taken_L33 (a1 : Int32) (m : MM) (K : Int32 → Option Int32) : Nat → Int32 → Option Int32
  | 0, _ => none
  | n + 1, x3_6 => if x3_6 = (-1 : Int32) then K x3_6 else if x3_6 = a1 then K x3_6 else bd1 (f_X6_over x3_6 m) fun r8 => f_X6_taken_L33 a1 m K n r8

def f_X6_taken (F : Nat)  (a0 : Int32) (a1 : Int32) (m : MM) : Option Int32 := bd1 (f_X6_in (Int32.toInt64 a1) (0 : Int64) (5 : Int64) m) fun r1 => if r1 = 0 then some (-2 : Int32) else bd1 (f_X6_isHold a0 m) fun r3 => if r3 = 0 then some (-11 : Int32) else Gu (inB a0 5) <| Lt (rI m 4 (ix a0)) fun x3_5 => f_X6_taken_L33 a1 m (fun x3_6 => if x3_6 = a1 then Gu (inB a0 5) <| some (rI m 5 (ix a0)) else some (-13 : Int32)) F x3_5

def f_X6_spell  (a0 : Int32) (a1 : Int32) (a2 : Int32) (a3 : Int32) (a4 : Int32) (a5 : Int32) (a6 : Int32) (a7 : Int32) (a8 : Int32) (m : MM) : Option MM := Gu (inB a0 960) <| Lt (wI m 1 (ix a0) a1) fun m1 => Gu (inB (a0 + (1 : Int32)) 960) <| Lt (wI m1 1 (ix (a0 + (1 : Int32))) a2) fun m2 => Gu (inB (a0 + (2 : Int32)) 960) <| Lt (wI m2 1 (ix (a0 + (2 : Int32))) a3) fun m3 => Gu (inB (a0 + (3 : Int32)) 960) <| Lt (wI m3 1 (ix (a0 + (3 : Int32))) a4) fun m4 => Gu (inB (a0 + (4 : Int32)) 960) <| Lt (wI m4 1 (ix (a0 + (4 : Int32))) a5) fun m5 => Gu (inB (a0 + (5 : Int32)) 960) <| Lt (wI m5 1 (ix (a0 + (5 : Int32))) a6) fun m6 => Gu (inB (a0 + (6 : Int32)) 960) <| Lt (wI m6 1 (ix (a0 + (6 : Int32))) a7) fun m7 => Gu (inB (a0 + (7 : Int32)) 960) <| Lt (wI m7 1 (ix (a0 + (7 : Int32))) a8) fun m8 => some m8
