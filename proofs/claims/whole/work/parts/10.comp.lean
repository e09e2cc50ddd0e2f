/-! contracts: X5_within X5_roomOf X0_renumber X5_hold X0_hasHold X0_refusal X5_thing X5_setFree X0_hasThing X5_setKey X0_left X5_setNumber X0_wet X5_setDry X5_set X5_withBit X5_part X0_lying X5_toldOfHold X5_toldOfThing X5_told X3_add X5_feed -/
def rmX5_within : Room := { frames := 0, cells := 0, slots := 0, locals := 0 }
set_option maxRecDepth 100000 in
set_option maxHeartbeats 4000000 in
theorem c_X5_within (l : Launch)  {a0 : Int32} {a1 : Int32}  {m : MM} {r : Int32} (h : f_X5_within a0 a1 m = some r) : CT l yX5_within cX5_within 2 (some .boolean) rmX5_within cfC 73 (fun ad tb => [.int a0, .int a1]) m (some (.int r)) m := by
  refine CT.of (cc := cX5_within) (maxL := 2) (ret := (some .boolean)) (by decide) ⟨rfl, rfl⟩ (fun _ _ => Nat.le_of_ble_eq_true rfl) ?_
  intro p e s mt args below meth c D cA ad tb C hr hlk
  refine g_lv (lv' := [(0, .int a0), (1, .int a1)]) rfl ?_
  unfold f_X5_within at h
  refine g_iload_n C dX5_within_0 rfl 0 rfl ?_
  refine g_if_lt (tgt := 13) C dX5_within_1 (by decide) h (fun h => ?_) (fun h => ?_)
  · refine g_iconst (v := (0 : Int32)) C dX5_within_13 (by decide) ?_
    obtain rfl := so_inj h
    exact g_zret C hr hlk dX5_within_14 rfl rfl
  · refine g_iload_n C dX5_within_4 rfl 0 rfl ?_
    refine g_iload_n C dX5_within_5 rfl 1 rfl ?_
    refine g_icmp_ge (tgt := 13) C dX5_within_6 (by decide) h (fun h => ?_) (fun h => ?_)
    · refine g_iconst (v := (0 : Int32)) C dX5_within_13 (by decide) ?_
      obtain rfl := so_inj h
      exact g_zret C hr hlk dX5_within_14 rfl rfl
    · refine g_iconst (v := (1 : Int32)) C dX5_within_9 (by decide) ?_
      refine g_goto (tgt := 14) C dX5_within_10 (by decide) ?_
      obtain rfl := so_inj h
      exact g_zret C hr hlk dX5_within_14 rfl rfl

def rmX5_roomOf : Room := { frames := 0, cells := 0, slots := 0, locals := 0 }
set_option maxRecDepth 100000 in
set_option maxHeartbeats 4000000 in
theorem c_X5_roomOf (l : Launch)  {a0 : Int32} {a1 : Int32}  {m : MM} {r : Int32} (h : f_X5_roomOf a0 a1 m = some r) : CT l yX5_roomOf cX5_roomOf 4 (some .int) rmX5_roomOf cfC 73 (fun ad tb => [.int a0, .int a1]) m (some (.int r)) m := by
  refine CT.of (cc := cX5_roomOf) (maxL := 4) (ret := (some .int)) (by decide) ⟨rfl, rfl⟩ (fun _ _ => Nat.le_of_ble_eq_true rfl) ?_
  intro p e s mt args below meth c D cA ad tb C hr hlk
  refine g_lv (lv' := [(0, .int a0), (1, .int a1)]) rfl ?_
  unfold f_X5_roomOf at h
  refine g_iload_n C dX5_roomOf_0 rfl 1 rfl ?_
  refine g_bipush (v := (6 : Int32)) C dX5_roomOf_1 (by decide) ?_
  refine g_iadd C dX5_roomOf_3 ?_
  refine nm_i h (fun x2_1 h => ?_)
  refine g_istore_n (lv' := [(2, .int x2_1), (0, .int a0), (1, .int a1)]) C dX5_roomOf_4 rfl (by decide) rfl ?_
  refine g_iload_n C dX5_roomOf_5 rfl 0 rfl ?_
  refine g_iconst (v := (3 : Int32)) C dX5_roomOf_6 (by decide) ?_
  refine g_isub C dX5_roomOf_7 ?_
  refine nm_i h (fun x3_2 h => ?_)
  refine g_istore_n (lv' := [(3, .int x3_2), (2, .int x2_1), (0, .int a0), (1, .int a1)]) C dX5_roomOf_8 rfl (by decide) rfl ?_
  refine g_iload_n C dX5_roomOf_9 rfl 2 rfl ?_
  by_cases q3 : a0 = (1 : Int32)
  · rw [if_pos q3] at h
    refine g_tbl (tgt := 44) C dX5_roomOf_10 (1 : Int32) q3 (by decide) rfl (by decide) ?_
    refine g_iload_n C dX5_roomOf_44 rfl 0 rfl ?_
    obtain rfl := so_inj h
    exact g_iret C hr hlk dX5_roomOf_45 rfl
  rw [if_neg q3] at h
  by_cases q4 : a0 = (2 : Int32)
  · rw [if_pos q4] at h
    refine g_tbl (tgt := 46) C dX5_roomOf_10 (2 : Int32) q4 (by decide) rfl (by decide) ?_
    refine g_iconst (v := (2 : Int32)) C dX5_roomOf_46 (by decide) ?_
    refine g_iload_n C dX5_roomOf_47 rfl 1 rfl ?_
    refine g_imul C dX5_roomOf_48 ?_
    obtain rfl := so_inj h
    exact g_iret C hr hlk dX5_roomOf_49 rfl
  rw [if_neg q4] at h
  by_cases q5 : a0 = (3 : Int32)
  · rw [if_pos q5] at h
    refine g_tbl (tgt := 50) C dX5_roomOf_10 (3 : Int32) q5 (by decide) rfl (by decide) ?_
    refine g_iload_n C dX5_roomOf_50 rfl 0 rfl ?_
    refine g_iconst (v := (2 : Int32)) C dX5_roomOf_51 (by decide) ?_
    refine g_idiv C dX5_roomOf_52 h (fun h => ?_)
    obtain rfl := so_inj h
    exact g_iret C hr hlk dX5_roomOf_53 rfl
  rw [if_neg q5] at h
  by_cases q6 : a0 = (4 : Int32)
  · rw [if_pos q6] at h
    refine g_tbl (tgt := 54) C dX5_roomOf_10 (4 : Int32) q6 (by decide) rfl (by decide) ?_
    refine g_iload_n C dX5_roomOf_54 rfl 3 rfl ?_
    refine g_iconst (v := (1 : Int32)) C dX5_roomOf_55 (by decide) ?_
    refine g_iadd C dX5_roomOf_56 ?_
    obtain rfl := so_inj h
    exact g_iret C hr hlk dX5_roomOf_57 rfl
  rw [if_neg q6] at h
  by_cases q7 : a0 = (5 : Int32)
  · rw [if_pos q7] at h
    refine g_tbl (tgt := 46) C dX5_roomOf_10 (5 : Int32) q7 (by decide) rfl (by decide) ?_
    refine g_iconst (v := (2 : Int32)) C dX5_roomOf_46 (by decide) ?_
    refine g_iload_n C dX5_roomOf_47 rfl 1 rfl ?_
    refine g_imul C dX5_roomOf_48 ?_
    obtain rfl := so_inj h
    exact g_iret C hr hlk dX5_roomOf_49 rfl
  rw [if_neg q7] at h
  refine g_tblOut (tgt := 58) C dX5_roomOf_10 (by have t0 := ti_ne q3 (z := 1) (by decide); have t1 := ti_ne q4 (z := 2) (by decide); have t2 := ti_ne q5 (z := 3) (by decide); have t3 := ti_ne q6 (z := 4) (by decide); have t4 := ti_ne q7 (z := 5) (by decide); omega) (by decide) ?_
  refine g_iload_n C dX5_roomOf_58 rfl 1 rfl ?_
  obtain rfl := so_inj h
  exact g_iret C hr hlk dX5_roomOf_59 rfl

def rmX0_renumber : Room := { frames := 1, cells := 0, slots := 0, locals := 23 }
set_option maxRecDepth 100000 in
set_option maxHeartbeats 4000000 in
theorem c_X0_renumber (l : Launch)  {k : Nat} {a0 : Int32} {a1 : Int32} (hk : isLot k) {m : MM} {m' : MM} (h : f_X0_renumber k a0 a1 m = some m') : CT l yX0_renumber cX0_renumber 3 none rmX0_renumber cfC 73 (fun ad tb => [.ref (ad k), .int a0, .int a1]) m none m' := by
  refine CT.of (cc := cX0_renumber) (maxL := 3) (ret := none) (by decide) ⟨rfl, rfl⟩ (fun _ _ => Nat.le_of_ble_eq_true rfl) ?_
  intro p e s mt args below meth c D cA ad tb C hr hlk
  refine g_lv (lv' := [(0, .ref (ad k)), (1, .int a0), (2, .int a1)]) rfl ?_
  have hcl0 : ∀ w ∈ wsX00, w.before args s = true := fun w hw => C.2.2.2.2.1 w (inlX0 w hw)
  unfold f_X0_renumber at h
  refine g_aload_n C dX0_renumber_0 rfl 0 rfl ?_
  refine g_get C (T := TX0) hcl0 (lot_O hk) rfl (j := 1) (by decide) wl_139 (v := .ref (ad (k + 2))) rfl dX0_renumber_1 ?_
  refine g_iload_n C dX0_renumber_4 rfl 1 rfl ?_
  refine g_iload_n C dX0_renumber_5 rfl 2 rfl ?_
  refine g_iast C (lot_I2 hk) dX0_renumber_6 h (fun m1 h => ?_)
  refine g_aload_n C dX0_renumber_7 rfl 0 rfl ?_
  refine g_get C (T := TX0) hcl0 (lot_O hk) rfl (j := 2) (by decide) wl_141 (v := .ref (ad (k + 3))) rfl dX0_renumber_8 ?_
  refine g_iload_n C dX0_renumber_11 rfl 1 rfl ?_
  refine g_aload_n C dX0_renumber_12 rfl 0 rfl ?_
  refine g_get C (T := TX0) hcl0 (lot_O hk) rfl (j := 0) (by decide) wl_137 (v := .ref (ad (k + 1))) rfl dX0_renumber_13 ?_
  refine g_iload_n C dX0_renumber_16 rfl 1 rfl ?_
  refine g_iald C (lot_I1 hk) dX0_renumber_17 h (fun h => ?_)
  refine g_iload_n C dX0_renumber_18 rfl 2 rfl ?_
  obtain ⟨r2, hX3, h⟩ := bd1_inv h
  refine g_callSN C (c_X5_roomOf l hX3) ⟨va_cnB 2 C.2.2.2.2.1 (wl_ws wl_527) rfl rfl rfl (C.nest 4 rfl) (C.2.2.2.2.1 _ wl_109) (by decide +kernel) ⟨Nat.le_of_ble_eq_true rfl, Nat.le_of_ble_eq_true rfl⟩, C.2.2.2.2.1 _ wl_526, trivial⟩ rfl rfl rfl (Nat.le_of_ble_eq_true rfl) dX0_renumber_19 ?_
  refine g_iast C (lot_I3 hk) dX0_renumber_22 h (fun m4 h => ?_)
  obtain rfl := so_inj h
  exact g_vret C hr hlk dX0_renumber_23 rfl

def rmX5_hold : Room := { frames := 2, cells := 0, slots := 0, locals := 45 }
set_option maxRecDepth 100000 in
set_option maxHeartbeats 4000000 in
theorem c_X5_hold (l : Launch)  {a0 : Int32} {a1 : Int32}  {m : MM} {m' : MM} {r : Int32} (h : f_X5_hold a0 a1 m = some (r, m')) : CT l yX5_hold cX5_hold 3 (some .int) rmX5_hold cfC 73 (fun ad tb => [.ref (ad 0), .int a0, .int a1]) m (some (.int r)) m' := by
  refine CT.of (cc := cX5_hold) (maxL := 3) (ret := (some .int)) (by decide) ⟨rfl, rfl⟩ (fun _ _ => Nat.le_of_ble_eq_true rfl) ?_
  intro p e s mt args below meth c D cA ad tb C hr hlk
  refine g_lv (lv' := [(0, .ref (ad 0)), (1, .int a0), (2, .int a1)]) rfl ?_
  have hcl0 : ∀ w ∈ wsX00, w.before args s = true := fun w hw => C.2.2.2.2.1 w (inlX0 w hw)
  have hcl5 : ∀ w ∈ wsX50, w.before args s = true := fun w hw => C.2.2.2.2.1 w (inlX5 w hw)
  unfold f_X5_hold at h
  refine g_iload_n C dX5_hold_0 rfl 1 rfl ?_
  refine g_bipush (v := (6 : Int32)) C dX5_hold_1 (by decide) ?_
  obtain ⟨r1, hX2, h⟩ := bd1_inv h
  refine g_callS C (c_X5_within l hX2) (cwSw 2 C.2.2.2.2.1 wl_518 wl_519 wl_109 wl_520 rfl rfl (by decide +kernel) ⟨Nat.le_of_ble_eq_true rfl, Nat.le_of_ble_eq_true rfl⟩) rfl rfl rfl (Nat.le_of_ble_eq_true rfl) dX5_hold_3 ?_
  refine g_if_eq (tgt := 18) C dX5_hold_6 (by decide) h (fun h => ?_) (fun h => ?_)
  · refine g_bipush (v := (-2 : Int32)) C dX5_hold_18 (by decide) ?_
    obtain ⟨rfl, rfl⟩ := sp_inj h
    exact g_iret C hr hlk dX5_hold_20 rfl
  · refine g_iload_n C dX5_hold_9 rfl 2 rfl ?_
    refine g_bipush (v := (10 : Int32)) C dX5_hold_10 (by decide) ?_
    obtain ⟨r3, hX4, h⟩ := bd1_inv h
    refine g_callS C (c_X5_within l hX4) (cwSw 2 C.2.2.2.2.1 wl_518 wl_519 wl_109 wl_520 rfl rfl (by decide +kernel) ⟨Nat.le_of_ble_eq_true rfl, Nat.le_of_ble_eq_true rfl⟩) rfl rfl rfl (Nat.le_of_ble_eq_true rfl) dX5_hold_12 ?_
    refine g_if_ne (tgt := 21) C dX5_hold_15 (by decide) h (fun h => ?_) (fun h => ?_)
    · refine g_bipush (v := (-2 : Int32)) C dX5_hold_18 (by decide) ?_
      obtain ⟨rfl, rfl⟩ := sp_inj h
      exact g_iret C hr hlk dX5_hold_20 rfl
    · refine g_aload_n C dX5_hold_21 rfl 0 rfl ?_
      refine g_get C (T := TX5) hcl5 cO_0 rfl (j := 0) (by decide) wl_482 (v := .ref (ad 1)) rfl dX5_hold_22 ?_
      refine g_get C (T := TX0) hcl0 cO_1 rfl (j := 7) (by decide) wl_152 (v := .int (rI m 1 7)) rfl dX5_hold_25 ?_
      refine g_iconst (v := (5 : Int32)) C dX5_hold_28 (by decide) ?_
      refine g_icmp_lt (tgt := 35) C dX5_hold_29 (by decide) h (fun h => ?_) (fun h => ?_)
      · refine g_aload_n C dX5_hold_35 rfl 0 rfl ?_
        refine g_get C (T := TX5) hcl5 cO_0 rfl (j := 0) (by decide) wl_482 (v := .ref (ad 1)) rfl dX5_hold_36 ?_
        refine g_get C (T := TX0) hcl0 cO_1 rfl (j := 0) (by decide) wl_138 (v := .ref (ad 2)) rfl dX5_hold_39 ?_
        refine g_aload_n C dX5_hold_42 rfl 0 rfl ?_
        refine g_get C (T := TX5) hcl5 cO_0 rfl (j := 0) (by decide) wl_482 (v := .ref (ad 1)) rfl dX5_hold_43 ?_
        refine g_get C (T := TX0) hcl0 cO_1 rfl (j := 7) (by decide) wl_152 (v := .int (rI m 1 7)) rfl dX5_hold_46 ?_
        refine g_iload_n C dX5_hold_49 rfl 1 rfl ?_
        refine g_iast C cI_2 dX5_hold_50 h (fun m5 h => ?_)
        refine g_aload_n C dX5_hold_51 rfl 0 rfl ?_
        refine g_get C (T := TX5) hcl5 cO_0 rfl (j := 0) (by decide) wl_482 (v := .ref (ad 1)) rfl dX5_hold_52 ?_
        refine g_aload_n C dX5_hold_55 rfl 0 rfl ?_
        refine g_get C (T := TX5) hcl5 cO_0 rfl (j := 0) (by decide) wl_482 (v := .ref (ad 1)) rfl dX5_hold_56 ?_
        refine g_get C (T := TX0) hcl0 cO_1 rfl (j := 7) (by decide) wl_152 (v := .int (rI m5 1 7)) rfl dX5_hold_59 ?_
        refine g_iload_n C dX5_hold_62 rfl 2 rfl ?_
        obtain ⟨m7, hX6, h⟩ := bd1_inv h
        refine g_callV C (c_X0_renumber l lot_1 hX6) (cwVw 2 C.2.2.2.2.1 wl_521 wl_522 wl_523 wl_110 wl_524 rfl rfl (by decide +kernel) ⟨Nat.le_of_ble_eq_true rfl, Nat.le_of_ble_eq_true rfl⟩) cO_1 rfl rfl rfl rfl (Nat.le_of_ble_eq_true rfl) dX5_hold_63 ?_
        refine g_aload_n C dX5_hold_66 rfl 0 rfl ?_
        refine g_get C (T := TX5) hcl5 cO_0 rfl (j := 0) (by decide) wl_482 (v := .ref (ad 1)) rfl dX5_hold_67 ?_
        refine g_dup C dX5_hold_70 rfl ?_
        refine g_get C (T := TX0) hcl0 cO_1 rfl (j := 7) (by decide) wl_152 (v := .int (rI m7 1 7)) rfl dX5_hold_71 ?_
        refine g_dup_x1 C dX5_hold_74 rfl rfl ?_
        refine g_iconst (v := (1 : Int32)) C dX5_hold_75 (by decide) ?_
        refine g_iadd C dX5_hold_76 ?_
        refine g_putI C (T := TX0) hcl0 cO_1 rfl (j := 7) (by decide) wl_152 tyX0 tyX0_ok nmX0 rfl rfl pfX0_7 (plX0 7 (by decide)) dX5_hold_77 h (fun m8 h => ?_)
        obtain ⟨rfl, rfl⟩ := sp_inj h
        exact g_iret C hr hlk dX5_hold_80 rfl
      · refine g_bipush (v := (-4 : Int32)) C dX5_hold_32 (by decide) ?_
        obtain ⟨rfl, rfl⟩ := sp_inj h
        exact g_iret C hr hlk dX5_hold_34 rfl

def rmX0_hasHold : Room := { frames := 1, cells := 0, slots := 0, locals := 21 }
set_option maxRecDepth 100000 in
set_option maxHeartbeats 4000000 in
theorem c_X0_hasHold (l : Launch)  {k : Nat} {a0 : Int32} (hk : isLot k) {m : MM} {r : Int32} (h : f_X0_hasHold k a0 m = some r) : CT l yX0_hasHold cX0_hasHold 2 (some .boolean) rmX0_hasHold cfC 73 (fun ad tb => [.ref (ad k), .int a0]) m (some (.int r)) m := by
  refine CT.of (cc := cX0_hasHold) (maxL := 2) (ret := (some .boolean)) (by decide) ⟨rfl, rfl⟩ (fun _ _ => Nat.le_of_ble_eq_true rfl) ?_
  intro p e s mt args below meth c D cA ad tb C hr hlk
  refine g_lv (lv' := [(0, .ref (ad k)), (1, .int a0)]) rfl ?_
  have hcl0 : ∀ w ∈ wsX00, w.before args s = true := fun w hw => C.2.2.2.2.1 w (inlX0 w hw)
  unfold f_X0_hasHold at h
  refine g_iload_n C dX0_hasHold_0 rfl 1 rfl ?_
  refine g_aload_n C dX0_hasHold_1 rfl 0 rfl ?_
  refine g_get C (T := TX0) hcl0 (lot_O hk) rfl (j := 7) (by decide) wl_154 (v := .int (rI m k 7)) rfl dX0_hasHold_2 ?_
  obtain ⟨r1, hX2, h⟩ := bd1_inv h
  refine g_callSN C (c_X5_within l hX2) ⟨va_cnB 2 C.2.2.2.2.1 (wl_ws wl_520) rfl rfl rfl (C.nest 3 rfl) (C.2.2.2.2.1 _ wl_109) (by decide +kernel) ⟨Nat.le_of_ble_eq_true rfl, Nat.le_of_ble_eq_true rfl⟩, C.2.2.2.2.1 _ wl_519, trivial⟩ rfl rfl rfl (Nat.le_of_ble_eq_true rfl) dX0_hasHold_5 ?_
  obtain ⟨hz, h⟩ := Gu_inv h
  obtain rfl := so_inj h
  exact g_zret C hr hlk dX0_hasHold_8 hz rfl

def rmX0_refusal : Room := { frames := 0, cells := 0, slots := 0, locals := 0 }
set_option maxRecDepth 100000 in
set_option maxHeartbeats 4000000 in
theorem c_X0_refusal (l : Launch) {F : Nat}  {k : Nat} {a0 : Int32} {a1 : Int32} (hk : isLot k) {m : MM} {r : Int32} (h : f_X0_refusal F k a0 a1 m = some r) : CT l yX0_refusal cX0_refusal 7 (some .int) rmX0_refusal cfC 73 (fun ad tb => [.ref (ad k), .int a0, .int a1]) m (some (.int r)) m := by
  refine CT.of (cc := cX0_refusal) (maxL := 7) (ret := (some .int)) (by decide) ⟨rfl, rfl⟩ (fun _ _ => Nat.le_of_ble_eq_true rfl) ?_
  intro p e s mt args below meth c D cA ad tb C hr hlk
  refine g_lv (lv' := [(0, .ref (ad k)), (1, .int a0), (2, .int a1)]) rfl ?_
  have hcl0 : ∀ w ∈ wsX00, w.before args s = true := fun w hw => C.2.2.2.2.1 w (inlX0 w hw)
  unfold f_X0_refusal at h
  refine g_aload_n C dX0_refusal_0 rfl 0 rfl ?_
  refine g_get C (T := TX0) hcl0 (lot_O hk) rfl (j := 6) (by decide) wl_149 (v := .ref (ad (k + 7))) rfl dX0_refusal_1 ?_
  refine g_iload_n C dX0_refusal_4 rfl 1 rfl ?_
  refine g_iald C (lot_I7 hk) dX0_refusal_5 h (fun h => ?_)
  refine g_iload_n C dX0_refusal_6 rfl 2 rfl ?_
  refine g_icmp_ne (tgt := 12) C dX0_refusal_7 (by decide) h (fun h => ?_) (fun h => ?_)
  · refine g_iconst (v := (1 : Int32)) C dX0_refusal_10 (by decide) ?_
    obtain rfl := so_inj h
    exact g_iret C hr hlk dX0_refusal_11 rfl
  · refine g_aload_n C dX0_refusal_12 rfl 0 rfl ?_
    refine g_get C (T := TX0) hcl0 (lot_O hk) rfl (j := 3) (by decide) wl_143 (v := .ref (ad (k + 4))) rfl dX0_refusal_13 ?_
    refine g_iload_n C dX0_refusal_16 rfl 1 rfl ?_
    refine g_iald C (lot_I4 hk) dX0_refusal_17 h (fun h => ?_)
    refine nm_i h (fun x3_1 h => ?_)
    refine g_istore_n (lv' := [(3, .int x3_1), (0, .ref (ad k)), (1, .int a0), (2, .int a1)]) C dX0_refusal_18 rfl (by decide) rfl ?_
    refine g_iconst (v := (1 : Int32)) C dX0_refusal_19 (by decide) ?_
    refine g_istore (lv' := [(4, .int (1 : Int32)), (3, .int x3_1), (0, .ref (ad k)), (1, .int a0), (2, .int a1)]) C dX0_refusal_20 (by decide) rfl ?_
    refine g_iconst (v := (0 : Int32)) C dX0_refusal_22 (by decide) ?_
    refine g_istore (lv' := [(5, .int (0 : Int32)), (4, .int (1 : Int32)), (3, .int x3_1), (0, .ref (ad k)), (1, .int a0), (2, .int a1)]) C dX0_refusal_23 (by decide) rfl ?_
    refine g_iconst (v := (0 : Int32)) C dX0_refusal_25 (by decide) ?_
    refine g_istore (lv' := [(6, .int (0 : Int32)), (5, .int (0 : Int32)), (4, .int (1 : Int32)), (3, .int x3_1), (0, .ref (ad k)), (1, .int a0), (2, .int a1)]) C dX0_refusal_26 (by decide) rfl ?_
    refine g_sub [4, 5, 6, 3, 2, 1, 0] rfl ?_
    refine g_loop_IIII (L := f_X0_refusal_L28 k a1 m) h 28 76 (fun x3_2 x4_3 x5_4 x6_5 => [(0, .ref (ad k)), (1, .int a0), (2, .int a1), (3, .int x3_2), (4, .int x4_3), (5, .int x5_4), (6, .int x6_5)]) (fun x3_2 x4_3 x5_4 x6_5 => [(0, .ref (ad k)), (1, .int a0), (2, .int a1), (3, .int x3_2), (4, .int x4_3), (5, .int x5_4)]) (fun x3_2 x4_3 x5_4 x6_5 => []) (fun x3_2 x4_3 x5_4 x6_5 => []) ?_ ?_ (fun _ _ _ _ _ => rfl)
    · intro x3_2 x4_3 x5_4 x6_5 h
      refine g_iload_n C dX0_refusal_76 rfl 3 rfl ?_
      refine g_aload_n C dX0_refusal_77 rfl 0 rfl ?_
      refine g_get C (T := TX0) hcl0 (lot_O hk) rfl (j := 2) (by decide) wl_141 (v := .ref (ad (k + 3))) rfl dX0_refusal_78 ?_
      refine g_iload_n C dX0_refusal_81 rfl 2 rfl ?_
      refine g_iald C (lot_I3 hk) dX0_refusal_82 h (fun h => ?_)
      refine g_icmp_le (tgt := 88) C dX0_refusal_83 (by decide) h (fun h => ?_) (fun h => ?_)
      · refine g_iload C dX0_refusal_88 4 rfl ?_
        refine g_getsN C 1 (by decide) (mem_i 1 rfl) dX0_refusal_90 ?_
        refine g_aload_n C dX0_refusal_93 rfl 0 rfl ?_
        refine g_get C (T := TX0) hcl0 (lot_O hk) rfl (j := 0) (by decide) wl_137 (v := .ref (ad (k + 1))) rfl dX0_refusal_94 ?_
        refine g_iload_n C dX0_refusal_97 rfl 2 rfl ?_
        refine g_iald C (lot_I1 hk) dX0_refusal_98 h (fun h => ?_)
        refine g_sald C (q := 1) (by decide) dX0_refusal_99 h (fun h => ?_)
        refine g_icmp_le (tgt := 105) C dX0_refusal_100 (by decide) h (fun h => ?_) (fun h => ?_)
        · refine g_aload_n C dX0_refusal_105 rfl 0 rfl ?_
          refine g_get C (T := TX0) hcl0 (lot_O hk) rfl (j := 4) (by decide) wl_145 (v := .ref (ad (k + 5))) rfl dX0_refusal_106 ?_
          refine g_iload_n C dX0_refusal_109 rfl 1 rfl ?_
          refine g_iald C (lot_I5 hk) dX0_refusal_110 h (fun h => ?_)
          refine g_iconst (v := (1 : Int32)) C dX0_refusal_111 (by decide) ?_
          refine g_join_ h 131 ([(0, .ref (ad k)), (1, .int a0), (5, .int x5_4)]) ([]) ?_ ?_
          · intro h
            refine g_aload_n C dX0_refusal_131 rfl 0 rfl ?_
            refine g_get C (T := TX0) hcl0 (lot_O hk) rfl (j := 5) (by decide) wl_147 (v := .ref (ad (k + 6))) rfl dX0_refusal_132 ?_
            refine g_iload_n C dX0_refusal_135 rfl 1 rfl ?_
            refine g_iald C (lot_I6 hk) dX0_refusal_136 h (fun h => ?_)
            refine g_iload C dX0_refusal_137 2 rfl ?_
            refine g_iand C dX0_refusal_139 ?_
            refine g_if_eq (tgt := 147) C dX0_refusal_140 (by decide) h (fun h => ?_) (fun h => ?_)
            · refine g_iconst (v := (0 : Int32)) C dX0_refusal_147 (by decide) ?_
              obtain rfl := so_inj h
              exact g_iret C hr hlk dX0_refusal_148 rfl
            · refine g_iconst (v := (5 : Int32)) C dX0_refusal_143 (by decide) ?_
              refine g_goto (tgt := 148) C dX0_refusal_144 (by decide) ?_
              obtain rfl := so_inj h
              exact g_iret C hr hlk dX0_refusal_148 rfl
          intro J12 hJ12 h
          refine g_icmp_ne (tgt := 131) C dX0_refusal_112 (by decide) h (fun h => ?_) (fun h => ?_)
          · refine g_getsN C 2 (by decide) (mem_i 0 rfl) dX0_refusal_115 ?_
            refine g_aload_n C dX0_refusal_118 rfl 0 rfl ?_
            refine g_get C (T := TX0) hcl0 (lot_O hk) rfl (j := 0) (by decide) wl_137 (v := .ref (ad (k + 1))) rfl dX0_refusal_119 ?_
            refine g_iload_n C dX0_refusal_122 rfl 2 rfl ?_
            refine g_iald C (lot_I1 hk) dX0_refusal_123 h (fun h => ?_)
            refine g_sald C (q := 2) (by decide) dX0_refusal_124 h (fun h => ?_)
            refine g_iconst (v := (1 : Int32)) C dX0_refusal_125 (by decide) ?_
            refine g_icmp_ne (tgt := 131) C dX0_refusal_126 (by decide) h (fun h => ?_) (fun h => ?_)
            · refine g_iconst (v := (4 : Int32)) C dX0_refusal_129 (by decide) ?_
              obtain rfl := so_inj h
              exact g_iret C hr hlk dX0_refusal_130 rfl
            · exact g_sub [0, 1, 5] rfl (hJ12  h)
          · exact g_sub [0, 1, 5] rfl (hJ12  h)
        · refine g_iconst (v := (3 : Int32)) C dX0_refusal_103 (by decide) ?_
          obtain rfl := so_inj h
          exact g_iret C hr hlk dX0_refusal_104 rfl
      · refine g_iconst (v := (2 : Int32)) C dX0_refusal_86 (by decide) ?_
        obtain rfl := so_inj h
        exact g_iret C hr hlk dX0_refusal_87 rfl
    · intro K6 hK6 n ih x3_2 x4_3 x5_4 x6_5 h
      rw [f_X0_refusal_L28] at h
      refine g_iload C dX0_refusal_28 6 rfl ?_
      refine g_aload_n C dX0_refusal_30 rfl 0 rfl ?_
      refine g_get C (T := TX0) hcl0 (lot_O hk) rfl (j := 8) (by decide) wl_156 (v := .int (rI m k 8)) rfl dX0_refusal_31 ?_
      refine g_icmp_ge (tgt := 76) C dX0_refusal_34 (by decide) h (fun h => ?_) (fun h => ?_)
      · exact g_sub [0, 1, 2, 3, 4, 5] rfl (hK6 _ _ _ _ h)
      · refine g_aload_n C dX0_refusal_37 rfl 0 rfl ?_
        refine g_get C (T := TX0) hcl0 (lot_O hk) rfl (j := 6) (by decide) wl_149 (v := .ref (ad (k + 7))) rfl dX0_refusal_38 ?_
        refine g_iload C dX0_refusal_41 6 rfl ?_
        refine g_iald C (lot_I7 hk) dX0_refusal_43 h (fun h => ?_)
        refine g_iload_n C dX0_refusal_44 rfl 2 rfl ?_
        refine g_icmp_ne (tgt := 70) C dX0_refusal_45 (by decide) h (fun h => ?_) (fun h => ?_)
        · refine g_iload_n C dX0_refusal_48 rfl 3 rfl ?_
          refine g_aload_n C dX0_refusal_49 rfl 0 rfl ?_
          refine g_get C (T := TX0) hcl0 (lot_O hk) rfl (j := 3) (by decide) wl_143 (v := .ref (ad (k + 4))) rfl dX0_refusal_50 ?_
          refine g_iload C dX0_refusal_53 6 rfl ?_
          refine g_iald C (lot_I4 hk) dX0_refusal_55 h (fun h => ?_)
          refine g_iadd C dX0_refusal_56 ?_
          refine nm_i h (fun x3_7 h => ?_)
          refine g_istore_n (lv' := [(3, .int x3_7), (0, .ref (ad k)), (1, .int a0), (2, .int a1), (4, .int x4_3), (5, .int x5_4), (6, .int x6_5)]) C dX0_refusal_57 rfl (by decide) rfl ?_
          refine g_iinc (lv' := [(3, .int x3_7), (0, .ref (ad k)), (1, .int a0), (2, .int a1), (5, .int x5_4), (6, .int x6_5)]) C dX0_refusal_58 (q := 4) rfl (by decide) h rfl (fun _ => rfl) (fun x4_8 h => ?_)
          refine g_iload C dX0_refusal_61 5 rfl ?_
          refine g_iconst (v := (1 : Int32)) C dX0_refusal_63 (by decide) ?_
          refine g_iload C dX0_refusal_64 6 rfl ?_
          refine g_ishl C dX0_refusal_66 ?_
          refine g_ior C dX0_refusal_67 ?_
          refine nm_i h (fun x5_9 h => ?_)
          refine g_istore (lv' := [(5, .int x5_9), (4, .int x4_8), (3, .int x3_7), (0, .ref (ad k)), (1, .int a0), (2, .int a1), (6, .int x6_5)]) C dX0_refusal_68 (by decide) rfl ?_
          refine g_iinc (lv' := [(5, .int x5_9), (4, .int x4_8), (3, .int x3_7), (0, .ref (ad k)), (1, .int a0), (2, .int a1)]) C dX0_refusal_70 (q := 6) rfl (by decide) h rfl (fun _ => rfl) (fun x6_10 h => ?_)
          refine g_goto (tgt := 28) C dX0_refusal_73 (by decide) ?_
          exact g_sub [4, 5, 6, 3, 2, 1, 0] rfl (ih _ _ _ _ h)
        · refine g_iinc (lv' := [(0, .ref (ad k)), (1, .int a0), (2, .int a1), (3, .int x3_2), (4, .int x4_3), (5, .int x5_4)]) C dX0_refusal_70 (q := 6) rfl (by decide) h rfl (fun _ => rfl) (fun x6_11 h => ?_)
          refine g_goto (tgt := 28) C dX0_refusal_73 (by decide) ?_
          exact g_sub [1, 2, 3, 4, 5, 6, 0] rfl (ih _ _ _ _ h)

def rmX5_thing : Room := { frames := 2, cells := 0, slots := 0, locals := 42 }
set_option maxRecDepth 100000 in
set_option maxHeartbeats 4000000 in
theorem c_X5_thing (l : Launch) {F : Nat}  {a0 : Int32} {a1 : Int32}  {m : MM} {m' : MM} {r : Int32} (h : f_X5_thing F a0 a1 m = some (r, m')) : CT l yX5_thing cX5_thing 6 (some .int) rmX5_thing cfC 73 (fun ad tb => [.ref (ad 0), .int a0, .int a1]) m (some (.int r)) m' := by
  refine CT.of (cc := cX5_thing) (maxL := 6) (ret := (some .int)) (by decide) ⟨rfl, rfl⟩ (fun _ _ => Nat.le_of_ble_eq_true rfl) ?_
  intro p e s mt args below meth c D cA ad tb C hr hlk
  refine g_lv (lv' := [(0, .ref (ad 0)), (1, .int a0), (2, .int a1)]) rfl ?_
  have hcl0 : ∀ w ∈ wsX00, w.before args s = true := fun w hw => C.2.2.2.2.1 w (inlX0 w hw)
  have hcl5 : ∀ w ∈ wsX50, w.before args s = true := fun w hw => C.2.2.2.2.1 w (inlX5 w hw)
  unfold f_X5_thing at h
  refine g_iload_n C dX5_thing_0 rfl 1 rfl ?_
  refine g_bipush (v := (10 : Int32)) C dX5_thing_1 (by decide) ?_
  refine g_idiv C dX5_thing_3 h (fun h => ?_)
  refine nm_i h (fun x3_1 h => ?_)
  refine g_istore_n (lv' := [(3, .int x3_1), (0, .ref (ad 0)), (1, .int a0), (2, .int a1)]) C dX5_thing_4 rfl (by decide) rfl ?_
  refine g_iload_n C dX5_thing_5 rfl 2 rfl ?_
  refine g_bipush (v := (10 : Int32)) C dX5_thing_6 (by decide) ?_
  refine g_irem C dX5_thing_8 h (fun h => ?_)
  refine nm_i h (fun x4_2 h => ?_)
  refine g_istore (lv' := [(4, .int x4_2), (3, .int x3_1), (0, .ref (ad 0)), (1, .int a0), (2, .int a1)]) C dX5_thing_9 (by decide) rfl ?_
  refine g_iload_n C dX5_thing_11 rfl 1 rfl ?_
  refine g_iconst (v := (1 : Int32)) C dX5_thing_12 (by decide) ?_
  refine g_icmp_lt (tgt := 42) C dX5_thing_13 (by decide) h (fun h => ?_) (fun h => ?_)
  · refine g_bipush (v := (-2 : Int32)) C dX5_thing_42 (by decide) ?_
    obtain ⟨rfl, rfl⟩ := sp_inj h
    exact g_iret C hr hlk dX5_thing_44 rfl
  · refine g_iload_n C dX5_thing_16 rfl 1 rfl ?_
    refine g_bipush (v := (9 : Int32)) C dX5_thing_17 (by decide) ?_
    refine g_icmp_gt (tgt := 42) C dX5_thing_19 (by decide) h (fun h => ?_) (fun h => ?_)
    · refine g_bipush (v := (-2 : Int32)) C dX5_thing_42 (by decide) ?_
      obtain ⟨rfl, rfl⟩ := sp_inj h
      exact g_iret C hr hlk dX5_thing_44 rfl
    · refine g_iload C dX5_thing_22 0 rfl ?_
      refine g_iconst (v := (2 : Int32)) C dX5_thing_24 (by decide) ?_
      obtain ⟨r3, hX4, h⟩ := bd1_inv h
      refine g_callS C (c_X5_within l hX4) (cwSw 2 C.2.2.2.2.1 wl_518 wl_519 wl_109 wl_520 rfl rfl (by decide +kernel) ⟨Nat.le_of_ble_eq_true rfl, Nat.le_of_ble_eq_true rfl⟩) rfl rfl rfl (Nat.le_of_ble_eq_true rfl) dX5_thing_25 ?_
      refine g_if_eq (tgt := 42) C dX5_thing_28 (by decide) h (fun h => ?_) (fun h => ?_)
      · refine g_bipush (v := (-2 : Int32)) C dX5_thing_42 (by decide) ?_
        obtain ⟨rfl, rfl⟩ := sp_inj h
        exact g_iret C hr hlk dX5_thing_44 rfl
      · refine g_aload_n C dX5_thing_31 rfl 2 rfl ?_
        refine g_get C (T := TX5) hcl5 cO_0 rfl (j := 0) (by decide) wl_482 (v := .ref (ad 1)) rfl dX5_thing_32 ?_
        refine g_iload_n C dX5_thing_35 rfl 4 rfl ?_
        obtain ⟨r5, hX6, h⟩ := bd1_inv h
        refine g_callV C (c_X0_hasHold l lot_1 hX6) (cwVw 1 C.2.2.2.2.1 wl_532 wl_533 wl_534 wl_110 wl_535 rfl rfl (by decide +kernel) ⟨Nat.le_of_ble_eq_true rfl, Nat.le_of_ble_eq_true rfl⟩) cO_1 rfl rfl rfl rfl (Nat.le_of_ble_eq_true rfl) dX5_thing_36 ?_
        refine g_if_ne (tgt := 45) C dX5_thing_39 (by decide) h (fun h => ?_) (fun h => ?_)
        · refine g_bipush (v := (-2 : Int32)) C dX5_thing_42 (by decide) ?_
          obtain ⟨rfl, rfl⟩ := sp_inj h
          exact g_iret C hr hlk dX5_thing_44 rfl
        · refine g_aload_n C dX5_thing_45 rfl 2 rfl ?_
          refine g_get C (T := TX5) hcl5 cO_0 rfl (j := 0) (by decide) wl_482 (v := .ref (ad 1)) rfl dX5_thing_46 ?_
          refine g_get C (T := TX0) hcl0 cO_1 rfl (j := 8) (by decide) wl_157 (v := .int (rI m 1 8)) rfl dX5_thing_49 ?_
          refine g_iconst (v := (5 : Int32)) C dX5_thing_52 (by decide) ?_
          refine g_icmp_lt (tgt := 59) C dX5_thing_53 (by decide) h (fun h => ?_) (fun h => ?_)
          · refine g_aload_n C dX5_thing_59 rfl 2 rfl ?_
            refine g_get C (T := TX5) hcl5 cO_0 rfl (j := 0) (by decide) wl_482 (v := .ref (ad 1)) rfl dX5_thing_60 ?_
            refine g_get C (T := TX0) hcl0 cO_1 rfl (j := 8) (by decide) wl_157 (v := .int (rI m 1 8)) rfl dX5_thing_63 ?_
            refine nm_i h (fun x5_7 h => ?_)
            refine g_istore (lv' := [(5, .int x5_7), (4, .int x4_2), (3, .int x3_1), (0, .ref (ad 0)), (1, .int a0), (2, .int a1)]) C dX5_thing_66 (by decide) rfl ?_
            refine g_aload_n C dX5_thing_68 rfl 3 rfl ?_
            refine g_get C (T := TX5) hcl5 cO_0 rfl (j := 0) (by decide) wl_482 (v := .ref (ad 1)) rfl dX5_thing_69 ?_
            refine g_get C (T := TX0) hcl0 cO_1 rfl (j := 3) (by decide) wl_144 (v := .ref (ad 5)) rfl dX5_thing_72 ?_
            refine g_iload C dX5_thing_75 0 rfl ?_
            refine g_iload_n C dX5_thing_77 rfl 2 rfl ?_
            refine g_iast C cI_5 dX5_thing_78 h (fun m8 h => ?_)
            refine g_aload_n C dX5_thing_79 rfl 3 rfl ?_
            refine g_get C (T := TX5) hcl5 cO_0 rfl (j := 0) (by decide) wl_482 (v := .ref (ad 1)) rfl dX5_thing_80 ?_
            refine g_get C (T := TX0) hcl0 cO_1 rfl (j := 4) (by decide) wl_146 (v := .ref (ad 6)) rfl dX5_thing_83 ?_
            refine g_iload C dX5_thing_86 0 rfl ?_
            refine g_iload C dX5_thing_88 1 rfl ?_
            refine g_iast C cI_6 dX5_thing_90 h (fun m9 h => ?_)
            refine g_aload_n C dX5_thing_91 rfl 3 rfl ?_
            refine g_get C (T := TX5) hcl5 cO_0 rfl (j := 0) (by decide) wl_482 (v := .ref (ad 1)) rfl dX5_thing_92 ?_
            refine g_get C (T := TX0) hcl0 cO_1 rfl (j := 5) (by decide) wl_148 (v := .ref (ad 7)) rfl dX5_thing_95 ?_
            refine g_iload C dX5_thing_98 0 rfl ?_
            refine g_iconst (v := (0 : Int32)) C dX5_thing_100 (by decide) ?_
            refine g_iast C cI_7 dX5_thing_101 h (fun m10 h => ?_)
            refine g_aload_n C dX5_thing_102 rfl 3 rfl ?_
            refine g_get C (T := TX5) hcl5 cO_0 rfl (j := 0) (by decide) wl_482 (v := .ref (ad 1)) rfl dX5_thing_103 ?_
            refine g_get C (T := TX0) hcl0 cO_1 rfl (j := 6) (by decide) wl_151 (v := .ref (ad 8)) rfl dX5_thing_106 ?_
            refine g_iload C dX5_thing_109 0 rfl ?_
            refine g_iconst (v := (-1 : Int32)) C dX5_thing_111 (by decide) ?_
            refine g_iast C cI_8 dX5_thing_112 h (fun m11 h => ?_)
            refine g_aload_n C dX5_thing_113 rfl 3 rfl ?_
            refine g_get C (T := TX5) hcl5 cO_0 rfl (j := 0) (by decide) wl_482 (v := .ref (ad 1)) rfl dX5_thing_114 ?_
            refine g_iload C dX5_thing_117 0 rfl ?_
            refine g_iload_n C dX5_thing_119 rfl 5 rfl ?_
            obtain ⟨r12, hX13, h⟩ := bd1_inv h
            refine g_callV C (c_X0_refusal l lot_1 hX13) (cwVw 2 C.2.2.2.2.1 wl_537 wl_538 wl_539 wl_110 wl_540 rfl rfl (by decide +kernel) ⟨Nat.le_of_ble_eq_true rfl, Nat.le_of_ble_eq_true rfl⟩) cO_1 rfl rfl rfl rfl (Nat.le_of_ble_eq_true rfl) dX5_thing_120 ?_
            refine g_if_eq (tgt := 129) C dX5_thing_123 (by decide) h (fun h => ?_) (fun h => ?_)
            · refine g_aload_n C dX5_thing_129 rfl 3 rfl ?_
              refine g_get C (T := TX5) hcl5 cO_0 rfl (j := 0) (by decide) wl_482 (v := .ref (ad 1)) rfl dX5_thing_130 ?_
              refine g_get C (T := TX0) hcl0 cO_1 rfl (j := 6) (by decide) wl_151 (v := .ref (ad 8)) rfl dX5_thing_133 ?_
              refine g_iload C dX5_thing_136 0 rfl ?_
              refine g_iload_n C dX5_thing_138 rfl 5 rfl ?_
              refine g_iast C cI_8 dX5_thing_139 h (fun m14 h => ?_)
              refine g_aload_n C dX5_thing_140 rfl 3 rfl ?_
              refine g_get C (T := TX5) hcl5 cO_0 rfl (j := 0) (by decide) wl_482 (v := .ref (ad 1)) rfl dX5_thing_141 ?_
              refine g_dup C dX5_thing_144 rfl ?_
              refine g_get C (T := TX0) hcl0 cO_1 rfl (j := 8) (by decide) wl_157 (v := .int (rI m14 1 8)) rfl dX5_thing_145 ?_
              refine g_iconst (v := (1 : Int32)) C dX5_thing_148 (by decide) ?_
              refine g_iadd C dX5_thing_149 ?_
              refine g_putI C (T := TX0) hcl0 cO_1 rfl (j := 8) (by decide) wl_157 tyX0 tyX0_ok nmX0 rfl rfl pfX0_8 (plX0 8 (by decide)) dX5_thing_150 h (fun m15 h => ?_)
              refine g_iload C dX5_thing_153 0 rfl ?_
              obtain ⟨rfl, rfl⟩ := sp_inj h
              exact g_iret C hr hlk dX5_thing_155 rfl
            · refine g_bipush (v := (-3 : Int32)) C dX5_thing_126 (by decide) ?_
              obtain ⟨rfl, rfl⟩ := sp_inj h
              exact g_iret C hr hlk dX5_thing_128 rfl
          · refine g_bipush (v := (-4 : Int32)) C dX5_thing_56 (by decide) ?_
            obtain ⟨rfl, rfl⟩ := sp_inj h
            exact g_iret C hr hlk dX5_thing_58 rfl

def rmX5_setFree : Room := { frames := 1, cells := 0, slots := 0, locals := 21 }
set_option maxRecDepth 100000 in
set_option maxHeartbeats 4000000 in
theorem c_X5_setFree (l : Launch)  {a0 : Int32}  {m : MM} {m' : MM} {r : Int32} (h : f_X5_setFree a0 m = some (r, m')) : CT l yX5_setFree cX5_setFree 3 (some .int) rmX5_setFree cfC 73 (fun ad tb => [.ref (ad 0), .int a0]) m (some (.int r)) m' := by
  refine CT.of (cc := cX5_setFree) (maxL := 3) (ret := (some .int)) (by decide) ⟨rfl, rfl⟩ (fun _ _ => Nat.le_of_ble_eq_true rfl) ?_
  intro p e s mt args below meth c D cA ad tb C hr hlk
  refine g_lv (lv' := [(0, .ref (ad 0)), (1, .int a0)]) rfl ?_
  have hcl0 : ∀ w ∈ wsX00, w.before args s = true := fun w hw => C.2.2.2.2.1 w (inlX0 w hw)
  have hcl5 : ∀ w ∈ wsX50, w.before args s = true := fun w hw => C.2.2.2.2.1 w (inlX5 w hw)
  unfold f_X5_setFree at h
  refine g_iload_n C dX5_setFree_0 rfl 1 rfl ?_
  refine g_iconst (v := (4 : Int32)) C dX5_setFree_1 (by decide) ?_
  obtain ⟨r1, hX2, h⟩ := bd1_inv h
  refine g_callS C (c_X5_within l hX2) (cwSw 2 C.2.2.2.2.1 wl_518 wl_519 wl_109 wl_520 rfl rfl (by decide +kernel) ⟨Nat.le_of_ble_eq_true rfl, Nat.le_of_ble_eq_true rfl⟩) rfl rfl rfl (Nat.le_of_ble_eq_true rfl) dX5_setFree_2 ?_
  refine g_if_ne (tgt := 11) C dX5_setFree_5 (by decide) h (fun h => ?_) (fun h => ?_)
  · refine g_bipush (v := (-100 : Int32)) C dX5_setFree_8 (by decide) ?_
    obtain ⟨rfl, rfl⟩ := sp_inj h
    exact g_iret C hr hlk dX5_setFree_10 rfl
  · refine g_aload_n C dX5_setFree_11 rfl 0 rfl ?_
    refine g_get C (T := TX5) hcl5 cO_0 rfl (j := 0) (by decide) wl_482 (v := .ref (ad 1)) rfl dX5_setFree_12 ?_
    refine g_get C (T := TX0) hcl0 cO_1 rfl (j := 10) (by decide) wl_161 (v := .int (rI m 1 10)) rfl dX5_setFree_15 ?_
    refine nm_i h (fun x2_3 h => ?_)
    refine g_istore_n (lv' := [(2, .int x2_3), (0, .ref (ad 0)), (1, .int a0)]) C dX5_setFree_18 rfl (by decide) rfl ?_
    refine g_aload_n C dX5_setFree_19 rfl 1 rfl ?_
    refine g_get C (T := TX5) hcl5 cO_0 rfl (j := 0) (by decide) wl_482 (v := .ref (ad 1)) rfl dX5_setFree_20 ?_
    refine g_iload_n C dX5_setFree_23 rfl 2 rfl ?_
    refine g_putI C (T := TX0) hcl0 cO_1 rfl (j := 10) (by decide) wl_161 tyX0 tyX0_ok nmX0 rfl rfl pfX0_10 (plX0 10 (by decide)) dX5_setFree_24 h (fun m4 h => ?_)
    refine g_iload_n C dX5_setFree_27 rfl 0 rfl ?_
    obtain ⟨rfl, rfl⟩ := sp_inj h
    exact g_iret C hr hlk dX5_setFree_28 rfl

def rmX0_hasThing : Room := { frames := 1, cells := 0, slots := 0, locals := 21 }
set_option maxRecDepth 100000 in
set_option maxHeartbeats 4000000 in
theorem c_X0_hasThing (l : Launch)  {k : Nat} {a0 : Int32} (hk : isLot k) {m : MM} {r : Int32} (h : f_X0_hasThing k a0 m = some r) : CT l yX0_hasThing cX0_hasThing 2 (some .boolean) rmX0_hasThing cfC 73 (fun ad tb => [.ref (ad k), .int a0]) m (some (.int r)) m := by
  refine CT.of (cc := cX0_hasThing) (maxL := 2) (ret := (some .boolean)) (by decide) ⟨rfl, rfl⟩ (fun _ _ => Nat.le_of_ble_eq_true rfl) ?_
  intro p e s mt args below meth c D cA ad tb C hr hlk
  refine g_lv (lv' := [(0, .ref (ad k)), (1, .int a0)]) rfl ?_
  have hcl0 : ∀ w ∈ wsX00, w.before args s = true := fun w hw => C.2.2.2.2.1 w (inlX0 w hw)
  unfold f_X0_hasThing at h
  refine g_iload_n C dX0_hasThing_0 rfl 1 rfl ?_
  refine g_aload_n C dX0_hasThing_1 rfl 0 rfl ?_
  refine g_get C (T := TX0) hcl0 (lot_O hk) rfl (j := 8) (by decide) wl_156 (v := .int (rI m k 8)) rfl dX0_hasThing_2 ?_
  obtain ⟨r1, hX2, h⟩ := bd1_inv h
  refine g_callSN C (c_X5_within l hX2) ⟨va_cnB 2 C.2.2.2.2.1 (wl_ws wl_520) rfl rfl rfl (C.nest 3 rfl) (C.2.2.2.2.1 _ wl_109) (by decide +kernel) ⟨Nat.le_of_ble_eq_true rfl, Nat.le_of_ble_eq_true rfl⟩, C.2.2.2.2.1 _ wl_519, trivial⟩ rfl rfl rfl (Nat.le_of_ble_eq_true rfl) dX0_hasThing_5 ?_
  obtain ⟨hz, h⟩ := Gu_inv h
  obtain rfl := so_inj h
  exact g_zret C hr hlk dX0_hasThing_8 hz rfl

def rmX5_setKey : Room := { frames := 2, cells := 0, slots := 0, locals := 42 }
set_option maxRecDepth 100000 in
set_option maxHeartbeats 4000000 in
theorem c_X5_setKey (l : Launch)  {a0 : Int32}  {m : MM} {m' : MM} {r : Int32} (h : f_X5_setKey a0 m = some (r, m')) : CT l yX5_setKey cX5_setKey 3 (some .int) rmX5_setKey cfC 73 (fun ad tb => [.ref (ad 0), .int a0]) m (some (.int r)) m' := by
  refine CT.of (cc := cX5_setKey) (maxL := 3) (ret := (some .int)) (by decide) ⟨rfl, rfl⟩ (fun _ _ => Nat.le_of_ble_eq_true rfl) ?_
  intro p e s mt args below meth c D cA ad tb C hr hlk
  refine g_lv (lv' := [(0, .ref (ad 0)), (1, .int a0)]) rfl ?_
  have hcl0 : ∀ w ∈ wsX00, w.before args s = true := fun w hw => C.2.2.2.2.1 w (inlX0 w hw)
  have hcl5 : ∀ w ∈ wsX50, w.before args s = true := fun w hw => C.2.2.2.2.1 w (inlX5 w hw)
  unfold f_X5_setKey at h
  refine g_iload_n C dX5_setKey_0 rfl 1 rfl ?_
  refine g_iconst (v := (-1 : Int32)) C dX5_setKey_1 (by decide) ?_
  refine g_join_ h 19 ([(0, .ref (ad 0)), (1, .int a0)]) ([]) ?_ ?_
  · intro h
    refine g_aload_n C dX5_setKey_19 rfl 0 rfl ?_
    refine g_get C (T := TX5) hcl5 cO_0 rfl (j := 0) (by decide) wl_482 (v := .ref (ad 1)) rfl dX5_setKey_20 ?_
    refine g_get C (T := TX0) hcl0 cO_1 rfl (j := 9) (by decide) wl_159 (v := .int (rI m 1 9)) rfl dX5_setKey_23 ?_
    refine nm_i h (fun x2_2 h => ?_)
    refine g_istore_n (lv' := [(2, .int x2_2), (0, .ref (ad 0)), (1, .int a0)]) C dX5_setKey_26 rfl (by decide) rfl ?_
    refine g_aload_n C dX5_setKey_27 rfl 1 rfl ?_
    refine g_get C (T := TX5) hcl5 cO_0 rfl (j := 0) (by decide) wl_482 (v := .ref (ad 1)) rfl dX5_setKey_28 ?_
    refine g_iload_n C dX5_setKey_31 rfl 2 rfl ?_
    refine g_putI C (T := TX0) hcl0 cO_1 rfl (j := 9) (by decide) wl_159 tyX0 tyX0_ok nmX0 rfl rfl pfX0_9 (plX0 9 (by decide)) dX5_setKey_32 h (fun m3 h => ?_)
    refine g_iload_n C dX5_setKey_35 rfl 0 rfl ?_
    obtain ⟨rfl, rfl⟩ := sp_inj h
    exact g_iret C hr hlk dX5_setKey_36 rfl
  intro J1 hJ1 h
  refine g_icmp_eq (tgt := 19) C dX5_setKey_2 (by decide) h (fun h => ?_) (fun h => ?_)
  · exact g_sub [0, 1] rfl (hJ1  h)
  · refine g_aload_n C dX5_setKey_5 rfl 0 rfl ?_
    refine g_get C (T := TX5) hcl5 cO_0 rfl (j := 0) (by decide) wl_482 (v := .ref (ad 1)) rfl dX5_setKey_6 ?_
    refine g_iload_n C dX5_setKey_9 rfl 1 rfl ?_
    obtain ⟨r4, hX5, h⟩ := bd1_inv h
    refine g_callV C (c_X0_hasThing l lot_1 hX5) (cwVw 1 C.2.2.2.2.1 wl_557 wl_558 wl_559 wl_110 wl_560 rfl rfl (by decide +kernel) ⟨Nat.le_of_ble_eq_true rfl, Nat.le_of_ble_eq_true rfl⟩) cO_1 rfl rfl rfl rfl (Nat.le_of_ble_eq_true rfl) dX5_setKey_10 ?_
    refine g_if_ne (tgt := 19) C dX5_setKey_13 (by decide) h (fun h => ?_) (fun h => ?_)
    · refine g_bipush (v := (-100 : Int32)) C dX5_setKey_16 (by decide) ?_
      obtain ⟨rfl, rfl⟩ := sp_inj h
      exact g_iret C hr hlk dX5_setKey_18 rfl
    · exact g_sub [0, 1] rfl (hJ1  h)

def rmX0_left : Room := { frames := 0, cells := 0, slots := 0, locals := 0 }
set_option maxRecDepth 100000 in
set_option maxHeartbeats 4000000 in
theorem c_X0_left (l : Launch) {F : Nat}  {k : Nat} {a0 : Int32} (hk : isLot k) {m : MM} {r : Int32} (h : f_X0_left F k a0 m = some r) : CT l yX0_left cX0_left 4 (some .int) rmX0_left cfC 73 (fun ad tb => [.ref (ad k), .int a0]) m (some (.int r)) m := by
  refine CT.of (cc := cX0_left) (maxL := 4) (ret := (some .int)) (by decide) ⟨rfl, rfl⟩ (fun _ _ => Nat.le_of_ble_eq_true rfl) ?_
  intro p e s mt args below meth c D cA ad tb C hr hlk
  refine g_lv (lv' := [(0, .ref (ad k)), (1, .int a0)]) rfl ?_
  have hcl0 : ∀ w ∈ wsX00, w.before args s = true := fun w hw => C.2.2.2.2.1 w (inlX0 w hw)
  unfold f_X0_left at h
  refine g_aload_n C dX0_left_0 rfl 0 rfl ?_
  refine g_get C (T := TX0) hcl0 (lot_O hk) rfl (j := 2) (by decide) wl_141 (v := .ref (ad (k + 3))) rfl dX0_left_1 ?_
  refine g_iload_n C dX0_left_4 rfl 1 rfl ?_
  refine g_iald C (lot_I3 hk) dX0_left_5 h (fun h => ?_)
  refine nm_i h (fun x2_1 h => ?_)
  refine g_istore_n (lv' := [(2, .int x2_1), (0, .ref (ad k)), (1, .int a0)]) C dX0_left_6 rfl (by decide) rfl ?_
  refine g_iconst (v := (0 : Int32)) C dX0_left_7 (by decide) ?_
  refine g_istore_n (lv' := [(3, .int (0 : Int32)), (2, .int x2_1), (0, .ref (ad k)), (1, .int a0)]) C dX0_left_8 rfl (by decide) rfl ?_
  refine g_sub [2, 3, 1, 0] rfl ?_
  refine g_loop_II (L := f_X0_left_L9 k a0 m) h 9 42 (fun x2_2 x3_3 => [(0, .ref (ad k)), (1, .int a0), (2, .int x2_2), (3, .int x3_3)]) (fun x2_2 x3_3 => [(2, .int x2_2)]) (fun x2_2 x3_3 => []) (fun x2_2 x3_3 => []) ?_ ?_ (fun _ _ _ => rfl)
  · intro x2_2 x3_3 h
    refine g_iload_n C dX0_left_42 rfl 0 rfl ?_
    obtain rfl := so_inj h
    exact g_iret C hr hlk dX0_left_43 rfl
  · intro K4 hK4 n ih x2_2 x3_3 h
    rw [f_X0_left_L9] at h
    refine g_iload_n C dX0_left_9 rfl 3 rfl ?_
    refine g_aload_n C dX0_left_10 rfl 0 rfl ?_
    refine g_get C (T := TX0) hcl0 (lot_O hk) rfl (j := 8) (by decide) wl_156 (v := .int (rI m k 8)) rfl dX0_left_11 ?_
    refine g_icmp_ge (tgt := 42) C dX0_left_14 (by decide) h (fun h => ?_) (fun h => ?_)
    · exact g_sub [2] rfl (hK4 _ _ h)
    · refine g_aload_n C dX0_left_17 rfl 0 rfl ?_
      refine g_get C (T := TX0) hcl0 (lot_O hk) rfl (j := 6) (by decide) wl_149 (v := .ref (ad (k + 7))) rfl dX0_left_18 ?_
      refine g_iload_n C dX0_left_21 rfl 3 rfl ?_
      refine g_iald C (lot_I7 hk) dX0_left_22 h (fun h => ?_)
      refine g_iload_n C dX0_left_23 rfl 1 rfl ?_
      refine g_icmp_ne (tgt := 36) C dX0_left_24 (by decide) h (fun h => ?_) (fun h => ?_)
      · refine g_iload_n C dX0_left_27 rfl 2 rfl ?_
        refine g_aload_n C dX0_left_28 rfl 0 rfl ?_
        refine g_get C (T := TX0) hcl0 (lot_O hk) rfl (j := 3) (by decide) wl_143 (v := .ref (ad (k + 4))) rfl dX0_left_29 ?_
        refine g_iload_n C dX0_left_32 rfl 3 rfl ?_
        refine g_iald C (lot_I4 hk) dX0_left_33 h (fun h => ?_)
        refine g_isub C dX0_left_34 ?_
        refine nm_i h (fun x2_5 h => ?_)
        refine g_istore_n (lv' := [(2, .int x2_5), (0, .ref (ad k)), (1, .int a0), (3, .int x3_3)]) C dX0_left_35 rfl (by decide) rfl ?_
        refine g_iinc (lv' := [(2, .int x2_5), (0, .ref (ad k)), (1, .int a0)]) C dX0_left_36 (q := 3) rfl (by decide) h rfl (fun _ => rfl) (fun x3_6 h => ?_)
        refine g_goto (tgt := 9) C dX0_left_39 (by decide) ?_
        exact g_sub [2, 3, 1, 0] rfl (ih _ _ h)
      · refine g_iinc (lv' := [(0, .ref (ad k)), (1, .int a0), (2, .int x2_2)]) C dX0_left_36 (q := 3) rfl (by decide) h rfl (fun _ => rfl) (fun x3_7 h => ?_)
        refine g_goto (tgt := 9) C dX0_left_39 (by decide) ?_
        exact g_sub [1, 2, 3, 0] rfl (ih _ _ h)

def rmX5_setNumber : Room := { frames := 2, cells := 0, slots := 0, locals := 45 }
set_option maxRecDepth 100000 in
set_option maxHeartbeats 4000000 in
theorem c_X5_setNumber (l : Launch) {F : Nat}  {a0 : Int32} {a1 : Int32}  {m : MM} {m' : MM} {r : Int32} (h : f_X5_setNumber F a0 a1 m = some (r, m')) : CT l yX5_setNumber cX5_setNumber 4 (some .int) rmX5_setNumber cfC 73 (fun ad tb => [.ref (ad 0), .int a0, .int a1]) m (some (.int r)) m' := by
  refine CT.of (cc := cX5_setNumber) (maxL := 4) (ret := (some .int)) (by decide) ⟨rfl, rfl⟩ (fun _ _ => Nat.le_of_ble_eq_true rfl) ?_
  intro p e s mt args below meth c D cA ad tb C hr hlk
  refine g_lv (lv' := [(0, .ref (ad 0)), (1, .int a0), (2, .int a1)]) rfl ?_
  have hcl0 : ∀ w ∈ wsX00, w.before args s = true := fun w hw => C.2.2.2.2.1 w (inlX0 w hw)
  have hcl5 : ∀ w ∈ wsX50, w.before args s = true := fun w hw => C.2.2.2.2.1 w (inlX5 w hw)
  unfold f_X5_setNumber at h
  refine g_aload_n C dX5_setNumber_0 rfl 0 rfl ?_
  refine g_get C (T := TX5) hcl5 cO_0 rfl (j := 0) (by decide) wl_482 (v := .ref (ad 1)) rfl dX5_setNumber_1 ?_
  refine g_iload_n C dX5_setNumber_4 rfl 1 rfl ?_
  obtain ⟨r1, hX2, h⟩ := bd1_inv h
  refine g_callV C (c_X0_hasHold l lot_1 hX2) (cwVw 1 C.2.2.2.2.1 wl_532 wl_533 wl_534 wl_110 wl_535 rfl rfl (by decide +kernel) ⟨Nat.le_of_ble_eq_true rfl, Nat.le_of_ble_eq_true rfl⟩) cO_1 rfl rfl rfl rfl (Nat.le_of_ble_eq_true rfl) dX5_setNumber_5 ?_
  refine g_if_eq (tgt := 20) C dX5_setNumber_8 (by decide) h (fun h => ?_) (fun h => ?_)
  · refine g_bipush (v := (-100 : Int32)) C dX5_setNumber_20 (by decide) ?_
    obtain ⟨rfl, rfl⟩ := sp_inj h
    exact g_iret C hr hlk dX5_setNumber_22 rfl
  · refine g_iload_n C dX5_setNumber_11 rfl 2 rfl ?_
    refine g_bipush (v := (10 : Int32)) C dX5_setNumber_12 (by decide) ?_
    obtain ⟨r3, hX4, h⟩ := bd1_inv h
    refine g_callS C (c_X5_within l hX4) (cwSw 2 C.2.2.2.2.1 wl_518 wl_519 wl_109 wl_520 rfl rfl (by decide +kernel) ⟨Nat.le_of_ble_eq_true rfl, Nat.le_of_ble_eq_true rfl⟩) rfl rfl rfl (Nat.le_of_ble_eq_true rfl) dX5_setNumber_14 ?_
    refine g_if_ne (tgt := 23) C dX5_setNumber_17 (by decide) h (fun h => ?_) (fun h => ?_)
    · refine g_bipush (v := (-100 : Int32)) C dX5_setNumber_20 (by decide) ?_
      obtain ⟨rfl, rfl⟩ := sp_inj h
      exact g_iret C hr hlk dX5_setNumber_22 rfl
    · refine g_aload_n C dX5_setNumber_23 rfl 0 rfl ?_
      refine g_get C (T := TX5) hcl5 cO_0 rfl (j := 0) (by decide) wl_482 (v := .ref (ad 1)) rfl dX5_setNumber_24 ?_
      refine g_get C (T := TX0) hcl0 cO_1 rfl (j := 1) (by decide) wl_140 (v := .ref (ad 3)) rfl dX5_setNumber_27 ?_
      refine g_iload_n C dX5_setNumber_30 rfl 1 rfl ?_
      refine g_iald C cI_3 dX5_setNumber_31 h (fun h => ?_)
      refine nm_i h (fun x3_5 h => ?_)
      refine g_istore_n (lv' := [(3, .int x3_5), (0, .ref (ad 0)), (1, .int a0), (2, .int a1)]) C dX5_setNumber_32 rfl (by decide) rfl ?_
      refine g_aload_n C dX5_setNumber_33 rfl 1 rfl ?_
      refine g_get C (T := TX5) hcl5 cO_0 rfl (j := 0) (by decide) wl_482 (v := .ref (ad 1)) rfl dX5_setNumber_34 ?_
      refine g_iload_n C dX5_setNumber_37 rfl 2 rfl ?_
      refine g_iload_n C dX5_setNumber_38 rfl 3 rfl ?_
      obtain ⟨m7, hX6, h⟩ := bd1_inv h
      refine g_callV C (c_X0_renumber l lot_1 hX6) (cwVw 2 C.2.2.2.2.1 wl_521 wl_522 wl_523 wl_110 wl_524 rfl rfl (by decide +kernel) ⟨Nat.le_of_ble_eq_true rfl, Nat.le_of_ble_eq_true rfl⟩) cO_1 rfl rfl rfl rfl (Nat.le_of_ble_eq_true rfl) dX5_setNumber_39 ?_
      refine g_aload_n C dX5_setNumber_42 rfl 1 rfl ?_
      refine g_get C (T := TX5) hcl5 cO_0 rfl (j := 0) (by decide) wl_482 (v := .ref (ad 1)) rfl dX5_setNumber_43 ?_
      refine g_iload_n C dX5_setNumber_46 rfl 2 rfl ?_
      obtain ⟨r8, hX9, h⟩ := bd1_inv h
      refine g_callV C (c_X0_left l lot_1 hX9) (cwVw 1 C.2.2.2.2.1 wl_565 wl_566 wl_567 wl_110 wl_568 rfl rfl (by decide +kernel) ⟨Nat.le_of_ble_eq_true rfl, Nat.le_of_ble_eq_true rfl⟩) cO_1 rfl rfl rfl rfl (Nat.le_of_ble_eq_true rfl) dX5_setNumber_47 ?_
      refine g_if_ge (tgt := 65) C dX5_setNumber_50 (by decide) h (fun h => ?_) (fun h => ?_)
      · refine g_iload_n C dX5_setNumber_65 rfl 0 rfl ?_
        obtain ⟨rfl, rfl⟩ := sp_inj h
        exact g_iret C hr hlk dX5_setNumber_66 rfl
      · refine g_aload_n C dX5_setNumber_53 rfl 1 rfl ?_
        refine g_get C (T := TX5) hcl5 cO_0 rfl (j := 0) (by decide) wl_482 (v := .ref (ad 1)) rfl dX5_setNumber_54 ?_
        refine g_iload_n C dX5_setNumber_57 rfl 2 rfl ?_
        refine g_iload_n C dX5_setNumber_58 rfl 0 rfl ?_
        obtain ⟨m11, hX10, h⟩ := bd1_inv h
        refine g_callV C (c_X0_renumber l lot_1 hX10) (cwVw 2 C.2.2.2.2.1 wl_521 wl_522 wl_523 wl_110 wl_524 rfl rfl (by decide +kernel) ⟨Nat.le_of_ble_eq_true rfl, Nat.le_of_ble_eq_true rfl⟩) cO_1 rfl rfl rfl rfl (Nat.le_of_ble_eq_true rfl) dX5_setNumber_59 ?_
        refine g_bipush (v := (-3 : Int32)) C dX5_setNumber_62 (by decide) ?_
        obtain ⟨rfl, rfl⟩ := sp_inj h
        exact g_iret C hr hlk dX5_setNumber_64 rfl

def rmX0_wet : Room := { frames := 0, cells := 0, slots := 0, locals := 0 }
set_option maxRecDepth 100000 in
set_option maxHeartbeats 4000000 in
theorem c_X0_wet (l : Launch)  {k : Nat} {a0 : Int32} (hk : isLot k) {m : MM} {r : Int32} (h : f_X0_wet k a0 m = some r) : CT l yX0_wet cX0_wet 2 (some .int) rmX0_wet cfC 73 (fun ad tb => [.ref (ad k), .int a0]) m (some (.int r)) m := by
  refine CT.of (cc := cX0_wet) (maxL := 2) (ret := (some .int)) (by decide) ⟨rfl, rfl⟩ (fun _ _ => Nat.le_of_ble_eq_true rfl) ?_
  intro p e s mt args below meth c D cA ad tb C hr hlk
  refine g_lv (lv' := [(0, .ref (ad k)), (1, .int a0)]) rfl ?_
  have hcl0 : ∀ w ∈ wsX00, w.before args s = true := fun w hw => C.2.2.2.2.1 w (inlX0 w hw)
  unfold f_X0_wet at h
  refine g_getsN C 2 (by decide) (mem_i 0 rfl) dX0_wet_0 ?_
  refine g_aload_n C dX0_wet_3 rfl 0 rfl ?_
  refine g_get C (T := TX0) hcl0 (lot_O hk) rfl (j := 0) (by decide) wl_137 (v := .ref (ad (k + 1))) rfl dX0_wet_4 ?_
  refine g_iload_n C dX0_wet_7 rfl 1 rfl ?_
  refine g_iald C (lot_I1 hk) dX0_wet_8 h (fun h => ?_)
  refine g_sald C (q := 2) (by decide) dX0_wet_9 h (fun h => ?_)
  obtain rfl := so_inj h
  exact g_iret C hr hlk dX0_wet_10 rfl

def rmX5_setDry : Room := { frames := 2, cells := 0, slots := 0, locals := 42 }
set_option maxRecDepth 100000 in
set_option maxHeartbeats 4000000 in
theorem c_X5_setDry (l : Launch)  {a0 : Int32} {a1 : Int32}  {m : MM} {m' : MM} {r : Int32} (h : f_X5_setDry a0 a1 m = some (r, m')) : CT l yX5_setDry cX5_setDry 4 (some .int) rmX5_setDry cfC 73 (fun ad tb => [.ref (ad 0), .int a0, .int a1]) m (some (.int r)) m' := by
  refine CT.of (cc := cX5_setDry) (maxL := 4) (ret := (some .int)) (by decide) ⟨rfl, rfl⟩ (fun _ _ => Nat.le_of_ble_eq_true rfl) ?_
  intro p e s mt args below meth c D cA ad tb C hr hlk
  refine g_lv (lv' := [(0, .ref (ad 0)), (1, .int a0), (2, .int a1)]) rfl ?_
  have hcl0 : ∀ w ∈ wsX00, w.before args s = true := fun w hw => C.2.2.2.2.1 w (inlX0 w hw)
  have hcl5 : ∀ w ∈ wsX50, w.before args s = true := fun w hw => C.2.2.2.2.1 w (inlX5 w hw)
  unfold f_X5_setDry at h
  refine g_aload_n C dX5_setDry_0 rfl 0 rfl ?_
  refine g_get C (T := TX5) hcl5 cO_0 rfl (j := 0) (by decide) wl_482 (v := .ref (ad 1)) rfl dX5_setDry_1 ?_
  refine g_iload_n C dX5_setDry_4 rfl 1 rfl ?_
  obtain ⟨r1, hX2, h⟩ := bd1_inv h
  refine g_callV C (c_X0_hasThing l lot_1 hX2) (cwVw 1 C.2.2.2.2.1 wl_557 wl_558 wl_559 wl_110 wl_560 rfl rfl (by decide +kernel) ⟨Nat.le_of_ble_eq_true rfl, Nat.le_of_ble_eq_true rfl⟩) cO_1 rfl rfl rfl rfl (Nat.le_of_ble_eq_true rfl) dX5_setDry_5 ?_
  refine g_if_eq (tgt := 19) C dX5_setDry_8 (by decide) h (fun h => ?_) (fun h => ?_)
  · refine g_bipush (v := (-100 : Int32)) C dX5_setDry_19 (by decide) ?_
    obtain ⟨rfl, rfl⟩ := sp_inj h
    exact g_iret C hr hlk dX5_setDry_21 rfl
  · refine g_iload_n C dX5_setDry_11 rfl 2 rfl ?_
    refine g_iconst (v := (2 : Int32)) C dX5_setDry_12 (by decide) ?_
    obtain ⟨r3, hX4, h⟩ := bd1_inv h
    refine g_callS C (c_X5_within l hX4) (cwSw 2 C.2.2.2.2.1 wl_518 wl_519 wl_109 wl_520 rfl rfl (by decide +kernel) ⟨Nat.le_of_ble_eq_true rfl, Nat.le_of_ble_eq_true rfl⟩) rfl rfl rfl (Nat.le_of_ble_eq_true rfl) dX5_setDry_13 ?_
    refine g_if_ne (tgt := 22) C dX5_setDry_16 (by decide) h (fun h => ?_) (fun h => ?_)
    · refine g_bipush (v := (-100 : Int32)) C dX5_setDry_19 (by decide) ?_
      obtain ⟨rfl, rfl⟩ := sp_inj h
      exact g_iret C hr hlk dX5_setDry_21 rfl
    · refine g_iload_n C dX5_setDry_22 rfl 2 rfl ?_
      refine g_iconst (v := (1 : Int32)) C dX5_setDry_23 (by decide) ?_
      refine g_join_ h 50 ([(0, .ref (ad 0)), (1, .int a0), (2, .int a1)]) ([]) ?_ ?_
      · intro h
        refine g_aload_n C dX5_setDry_50 rfl 0 rfl ?_
        refine g_get C (T := TX5) hcl5 cO_0 rfl (j := 0) (by decide) wl_482 (v := .ref (ad 1)) rfl dX5_setDry_51 ?_
        refine g_get C (T := TX0) hcl0 cO_1 rfl (j := 4) (by decide) wl_146 (v := .ref (ad 6)) rfl dX5_setDry_54 ?_
        refine g_iload_n C dX5_setDry_57 rfl 1 rfl ?_
        refine g_iald C cI_6 dX5_setDry_58 h (fun h => ?_)
        refine nm_i h (fun x3_6 h => ?_)
        refine g_istore_n (lv' := [(3, .int x3_6), (0, .ref (ad 0)), (1, .int a0), (2, .int a1)]) C dX5_setDry_59 rfl (by decide) rfl ?_
        refine g_aload_n C dX5_setDry_60 rfl 1 rfl ?_
        refine g_get C (T := TX5) hcl5 cO_0 rfl (j := 0) (by decide) wl_482 (v := .ref (ad 1)) rfl dX5_setDry_61 ?_
        refine g_get C (T := TX0) hcl0 cO_1 rfl (j := 4) (by decide) wl_146 (v := .ref (ad 6)) rfl dX5_setDry_64 ?_
        refine g_iload_n C dX5_setDry_67 rfl 2 rfl ?_
        refine g_iload_n C dX5_setDry_68 rfl 3 rfl ?_
        refine g_iast C cI_6 dX5_setDry_69 h (fun m7 h => ?_)
        refine g_iload_n C dX5_setDry_70 rfl 0 rfl ?_
        obtain ⟨rfl, rfl⟩ := sp_inj h
        exact g_iret C hr hlk dX5_setDry_71 rfl
      intro J5 hJ5 h
      refine g_icmp_ne (tgt := 50) C dX5_setDry_24 (by decide) h (fun h => ?_) (fun h => ?_)
      · refine g_aload_n C dX5_setDry_27 rfl 0 rfl ?_
        refine g_get C (T := TX5) hcl5 cO_0 rfl (j := 0) (by decide) wl_482 (v := .ref (ad 1)) rfl dX5_setDry_28 ?_
        refine g_aload_n C dX5_setDry_31 rfl 0 rfl ?_
        refine g_get C (T := TX5) hcl5 cO_0 rfl (j := 0) (by decide) wl_482 (v := .ref (ad 1)) rfl dX5_setDry_32 ?_
        refine g_get C (T := TX0) hcl0 cO_1 rfl (j := 6) (by decide) wl_151 (v := .ref (ad 8)) rfl dX5_setDry_35 ?_
        refine g_iload_n C dX5_setDry_38 rfl 1 rfl ?_
        refine g_iald C cI_8 dX5_setDry_39 h (fun h => ?_)
        obtain ⟨r8, hX9, h⟩ := bd1_inv h
        refine g_callV C (c_X0_wet l lot_1 hX9) (cwVw 1 C.2.2.2.2.1 wl_573 wl_574 wl_575 wl_110 wl_576 rfl rfl (by decide +kernel) ⟨Nat.le_of_ble_eq_true rfl, Nat.le_of_ble_eq_true rfl⟩) cO_1 rfl rfl rfl rfl (Nat.le_of_ble_eq_true rfl) dX5_setDry_40 ?_
        refine g_iconst (v := (1 : Int32)) C dX5_setDry_43 (by decide) ?_
        refine g_icmp_ne (tgt := 50) C dX5_setDry_44 (by decide) h (fun h => ?_) (fun h => ?_)
        · refine g_bipush (v := (-3 : Int32)) C dX5_setDry_47 (by decide) ?_
          obtain ⟨rfl, rfl⟩ := sp_inj h
          exact g_iret C hr hlk dX5_setDry_49 rfl
        · exact g_sub [0, 1, 2] rfl (hJ5  h)
      · exact g_sub [0, 1, 2] rfl (hJ5  h)

def rmX5_set : Room := { frames := 3, cells := 0, slots := 0, locals := 68 }
set_option maxRecDepth 100000 in
set_option maxHeartbeats 4000000 in
theorem c_X5_set (l : Launch) {F : Nat}  {a0 : Int32} {a1 : Int32} {a2 : Int32}  {m : MM} {m' : MM} {r : Int32} (h : f_X5_set F a0 a1 a2 m = some (r, m')) : CT l yX5_set cX5_set 4 (some .int) rmX5_set cfC 73 (fun ad tb => [.ref (ad 0), .int a0, .int a1, .int a2]) m (some (.int r)) m' := by
  refine CT.of (cc := cX5_set) (maxL := 4) (ret := (some .int)) (by decide) ⟨rfl, rfl⟩ (fun _ _ => Nat.le_of_ble_eq_true rfl) ?_
  intro p e s mt args below meth c D cA ad tb C hr hlk
  refine g_lv (lv' := [(0, .ref (ad 0)), (1, .int a0), (2, .int a1), (3, .int a2)]) rfl ?_
  unfold f_X5_set at h
  refine g_iload_n C dX5_set_0 rfl 1 rfl ?_
  by_cases q1 : a0 = (0 : Int32)
  · rw [if_pos q1] at h
    refine g_tbl (tgt := 32) C dX5_set_1 (0 : Int32) q1 (by decide) rfl (by decide) ?_
    refine g_aload_n C dX5_set_32 rfl 0 rfl ?_
    refine g_iload_n C dX5_set_33 rfl 3 rfl ?_
    obtain ⟨r2, m4, hX3, h⟩ := bd2_inv h
    refine g_callV C (c_X5_setFree l hX3) (cwVw 1 C.2.2.2.2.1 wl_549 wl_551 wl_7 wl_109 wl_552 rfl rfl (by decide +kernel) ⟨Nat.le_of_ble_eq_true rfl, Nat.le_of_ble_eq_true rfl⟩) cO_0 rfl rfl rfl rfl (Nat.le_of_ble_eq_true rfl) dX5_set_34 ?_
    obtain ⟨rfl, rfl⟩ := sp_inj h
    exact g_iret C hr hlk dX5_set_37 rfl
  rw [if_neg q1] at h
  by_cases q5 : a0 = (1 : Int32)
  · rw [if_pos q5] at h
    refine g_tbl (tgt := 38) C dX5_set_1 (1 : Int32) q5 (by decide) rfl (by decide) ?_
    refine g_aload_n C dX5_set_38 rfl 0 rfl ?_
    refine g_iload_n C dX5_set_39 rfl 3 rfl ?_
    obtain ⟨r6, m8, hX7, h⟩ := bd2_inv h
    refine g_callV C (c_X5_setKey l hX7) (cwVw 1 C.2.2.2.2.1 wl_553 wl_555 wl_8 wl_109 wl_556 rfl rfl (by decide +kernel) ⟨Nat.le_of_ble_eq_true rfl, Nat.le_of_ble_eq_true rfl⟩) cO_0 rfl rfl rfl rfl (Nat.le_of_ble_eq_true rfl) dX5_set_40 ?_
    obtain ⟨rfl, rfl⟩ := sp_inj h
    exact g_iret C hr hlk dX5_set_43 rfl
  rw [if_neg q5] at h
  by_cases q9 : a0 = (2 : Int32)
  · rw [if_pos q9] at h
    refine g_tbl (tgt := 44) C dX5_set_1 (2 : Int32) q9 (by decide) rfl (by decide) ?_
    refine g_aload_n C dX5_set_44 rfl 0 rfl ?_
    refine g_iload_n C dX5_set_45 rfl 2 rfl ?_
    refine g_iload_n C dX5_set_46 rfl 3 rfl ?_
    obtain ⟨r10, m12, hX11, h⟩ := bd2_inv h
    refine g_callV C (c_X5_setNumber l hX11) (cwVw 2 C.2.2.2.2.1 wl_561 wl_563 wl_9 wl_109 wl_564 rfl rfl (by decide +kernel) ⟨Nat.le_of_ble_eq_true rfl, Nat.le_of_ble_eq_true rfl⟩) cO_0 rfl rfl rfl rfl (Nat.le_of_ble_eq_true rfl) dX5_set_47 ?_
    obtain ⟨rfl, rfl⟩ := sp_inj h
    exact g_iret C hr hlk dX5_set_50 rfl
  rw [if_neg q9] at h
  by_cases q13 : a0 = (3 : Int32)
  · rw [if_pos q13] at h
    refine g_tbl (tgt := 51) C dX5_set_1 (3 : Int32) q13 (by decide) rfl (by decide) ?_
    refine g_aload_n C dX5_set_51 rfl 0 rfl ?_
    refine g_iload_n C dX5_set_52 rfl 2 rfl ?_
    refine g_iload_n C dX5_set_53 rfl 3 rfl ?_
    obtain ⟨r14, m16, hX15, h⟩ := bd2_inv h
    refine g_callV C (c_X5_setDry l hX15) (cwVw 2 C.2.2.2.2.1 wl_569 wl_571 wl_10 wl_109 wl_572 rfl rfl (by decide +kernel) ⟨Nat.le_of_ble_eq_true rfl, Nat.le_of_ble_eq_true rfl⟩) cO_0 rfl rfl rfl rfl (Nat.le_of_ble_eq_true rfl) dX5_set_54 ?_
    obtain ⟨rfl, rfl⟩ := sp_inj h
    exact g_iret C hr hlk dX5_set_57 rfl
  rw [if_neg q13] at h
  refine g_tblOut (tgt := 58) C dX5_set_1 (by have t0 := ti_ne q1 (z := 0) (by decide); have t1 := ti_ne q5 (z := 1) (by decide); have t2 := ti_ne q9 (z := 2) (by decide); have t3 := ti_ne q13 (z := 3) (by decide); omega) (by decide) ?_
  refine g_bipush (v := (-100 : Int32)) C dX5_set_58 (by decide) ?_
  obtain ⟨rfl, rfl⟩ := sp_inj h
  exact g_iret C hr hlk dX5_set_60 rfl

def rmX5_withBit : Room := { frames := 0, cells := 0, slots := 0, locals := 0 }
set_option maxRecDepth 100000 in
set_option maxHeartbeats 4000000 in
theorem c_X5_withBit (l : Launch)  {a0 : Int32} {a1 : Int32} {a2 : Int32}  {m : MM} {r : Int32} (h : f_X5_withBit a0 a1 a2 m = some r) : CT l yX5_withBit cX5_withBit 3 (some .int) rmX5_withBit cfC 73 (fun ad tb => [.int a0, .int a1, .int a2]) m (some (.int r)) m := by
  refine CT.of (cc := cX5_withBit) (maxL := 3) (ret := (some .int)) (by decide) ⟨rfl, rfl⟩ (fun _ _ => Nat.le_of_ble_eq_true rfl) ?_
  intro p e s mt args below meth c D cA ad tb C hr hlk
  refine g_lv (lv' := [(0, .int a0), (1, .int a1), (2, .int a2)]) rfl ?_
  unfold f_X5_withBit at h
  refine g_iload_n C dX5_withBit_0 rfl 2 rfl ?_
  refine g_iconst (v := (1 : Int32)) C dX5_withBit_1 (by decide) ?_
  refine g_icmp_ne (tgt := 13) C dX5_withBit_2 (by decide) h (fun h => ?_) (fun h => ?_)
  · refine g_iload_n C dX5_withBit_5 rfl 0 rfl ?_
    refine g_iconst (v := (1 : Int32)) C dX5_withBit_6 (by decide) ?_
    refine g_iload_n C dX5_withBit_7 rfl 1 rfl ?_
    refine g_ishl C dX5_withBit_8 ?_
    refine g_ior C dX5_withBit_9 ?_
    refine g_goto (tgt := 20) C dX5_withBit_10 (by decide) ?_
    obtain rfl := so_inj h
    exact g_iret C hr hlk dX5_withBit_20 rfl
  · refine g_iload_n C dX5_withBit_13 rfl 0 rfl ?_
    refine g_iconst (v := (1 : Int32)) C dX5_withBit_14 (by decide) ?_
    refine g_iload_n C dX5_withBit_15 rfl 1 rfl ?_
    refine g_ishl C dX5_withBit_16 ?_
    refine g_iconst (v := (-1 : Int32)) C dX5_withBit_17 (by decide) ?_
    refine g_ixor C dX5_withBit_18 ?_
    refine g_iand C dX5_withBit_19 ?_
    obtain rfl := so_inj h
    exact g_iret C hr hlk dX5_withBit_20 rfl

def rmX5_part : Room := { frames := 2, cells := 0, slots := 0, locals := 42 }
set_option maxRecDepth 100000 in
set_option maxHeartbeats 4000000 in
theorem c_X5_part (l : Launch)  {a0 : Int32} {a1 : Int32} {a2 : Int32}  {m : MM} {m' : MM} {r : Int32} (h : f_X5_part a0 a1 a2 m = some (r, m')) : CT l yX5_part cX5_part 5 (some .int) rmX5_part cfC 73 (fun ad tb => [.ref (ad 0), .int a0, .int a1, .int a2]) m (some (.int r)) m' := by
  refine CT.of (cc := cX5_part) (maxL := 5) (ret := (some .int)) (by decide) ⟨rfl, rfl⟩ (fun _ _ => Nat.le_of_ble_eq_true rfl) ?_
  intro p e s mt args below meth c D cA ad tb C hr hlk
  refine g_lv (lv' := [(0, .ref (ad 0)), (1, .int a0), (2, .int a1), (3, .int a2)]) rfl ?_
  have hcl0 : ∀ w ∈ wsX00, w.before args s = true := fun w hw => C.2.2.2.2.1 w (inlX0 w hw)
  have hcl5 : ∀ w ∈ wsX50, w.before args s = true := fun w hw => C.2.2.2.2.1 w (inlX5 w hw)
  unfold f_X5_part at h
  refine g_aload_n C dX5_part_0 rfl 0 rfl ?_
  refine g_get C (T := TX5) hcl5 cO_0 rfl (j := 0) (by decide) wl_482 (v := .ref (ad 1)) rfl dX5_part_1 ?_
  refine g_iload_n C dX5_part_4 rfl 1 rfl ?_
  obtain ⟨r1, hX2, h⟩ := bd1_inv h
  refine g_callV C (c_X0_hasThing l lot_1 hX2) (cwVw 1 C.2.2.2.2.1 wl_557 wl_558 wl_559 wl_110 wl_560 rfl rfl (by decide +kernel) ⟨Nat.le_of_ble_eq_true rfl, Nat.le_of_ble_eq_true rfl⟩) cO_1 rfl rfl rfl rfl (Nat.le_of_ble_eq_true rfl) dX5_part_5 ?_
  refine g_if_eq (tgt := 35) C dX5_part_8 (by decide) h (fun h => ?_) (fun h => ?_)
  · refine g_bipush (v := (-2 : Int32)) C dX5_part_35 (by decide) ?_
    obtain ⟨rfl, rfl⟩ := sp_inj h
    exact g_iret C hr hlk dX5_part_37 rfl
  · refine g_aload_n C dX5_part_11 rfl 0 rfl ?_
    refine g_get C (T := TX5) hcl5 cO_0 rfl (j := 0) (by decide) wl_482 (v := .ref (ad 1)) rfl dX5_part_12 ?_
    refine g_iload_n C dX5_part_15 rfl 2 rfl ?_
    obtain ⟨r3, hX4, h⟩ := bd1_inv h
    refine g_callV C (c_X0_hasThing l lot_1 hX4) (cwVw 1 C.2.2.2.2.1 wl_557 wl_558 wl_559 wl_110 wl_560 rfl rfl (by decide +kernel) ⟨Nat.le_of_ble_eq_true rfl, Nat.le_of_ble_eq_true rfl⟩) cO_1 rfl rfl rfl rfl (Nat.le_of_ble_eq_true rfl) dX5_part_16 ?_
    refine g_if_eq (tgt := 35) C dX5_part_19 (by decide) h (fun h => ?_) (fun h => ?_)
    · refine g_bipush (v := (-2 : Int32)) C dX5_part_35 (by decide) ?_
      obtain ⟨rfl, rfl⟩ := sp_inj h
      exact g_iret C hr hlk dX5_part_37 rfl
    · refine g_iload_n C dX5_part_22 rfl 1 rfl ?_
      refine g_iload_n C dX5_part_23 rfl 2 rfl ?_
      refine g_icmp_eq (tgt := 35) C dX5_part_24 (by decide) h (fun h => ?_) (fun h => ?_)
      · refine g_bipush (v := (-2 : Int32)) C dX5_part_35 (by decide) ?_
        obtain ⟨rfl, rfl⟩ := sp_inj h
        exact g_iret C hr hlk dX5_part_37 rfl
      · refine g_iload_n C dX5_part_27 rfl 3 rfl ?_
        refine g_iconst (v := (2 : Int32)) C dX5_part_28 (by decide) ?_
        obtain ⟨r5, hX6, h⟩ := bd1_inv h
        refine g_callS C (c_X5_within l hX6) (cwSw 2 C.2.2.2.2.1 wl_518 wl_519 wl_109 wl_520 rfl rfl (by decide +kernel) ⟨Nat.le_of_ble_eq_true rfl, Nat.le_of_ble_eq_true rfl⟩) rfl rfl rfl (Nat.le_of_ble_eq_true rfl) dX5_part_29 ?_
        refine g_if_ne (tgt := 38) C dX5_part_32 (by decide) h (fun h => ?_) (fun h => ?_)
        · refine g_bipush (v := (-2 : Int32)) C dX5_part_35 (by decide) ?_
          obtain ⟨rfl, rfl⟩ := sp_inj h
          exact g_iret C hr hlk dX5_part_37 rfl
        · refine g_iload_n C dX5_part_38 rfl 3 rfl ?_
          refine g_iconst (v := (1 : Int32)) C dX5_part_39 (by decide) ?_
          refine g_join_ h 67 ([(0, .ref (ad 0)), (1, .int a0), (2, .int a1), (3, .int a2)]) ([]) ?_ ?_
          · intro h
            refine g_aload_n C dX5_part_67 rfl 0 rfl ?_
            refine g_get C (T := TX5) hcl5 cO_0 rfl (j := 0) (by decide) wl_482 (v := .ref (ad 1)) rfl dX5_part_68 ?_
            refine g_get C (T := TX0) hcl0 cO_1 rfl (j := 5) (by decide) wl_148 (v := .ref (ad 7)) rfl dX5_part_71 ?_
            refine g_iload_n C dX5_part_74 rfl 1 rfl ?_
            refine g_iald C cI_7 dX5_part_75 h (fun h => ?_)
            refine g_iload_n C dX5_part_76 rfl 2 rfl ?_
            refine g_ishr C dX5_part_77 ?_
            refine g_iconst (v := (1 : Int32)) C dX5_part_78 (by decide) ?_
            refine g_iand C dX5_part_79 ?_
            refine nm_i h (fun x4_8 h => ?_)
            refine g_istore (lv' := [(4, .int x4_8), (0, .ref (ad 0)), (1, .int a0), (2, .int a1), (3, .int a2)]) C dX5_part_80 (by decide) rfl ?_
            refine g_aload_n C dX5_part_82 rfl 1 rfl ?_
            refine g_get C (T := TX5) hcl5 cO_0 rfl (j := 0) (by decide) wl_482 (v := .ref (ad 1)) rfl dX5_part_83 ?_
            refine g_get C (T := TX0) hcl0 cO_1 rfl (j := 5) (by decide) wl_148 (v := .ref (ad 7)) rfl dX5_part_86 ?_
            refine g_iload_n C dX5_part_89 rfl 2 rfl ?_
            refine g_aload_n C dX5_part_90 rfl 1 rfl ?_
            refine g_get C (T := TX5) hcl5 cO_0 rfl (j := 0) (by decide) wl_482 (v := .ref (ad 1)) rfl dX5_part_91 ?_
            refine g_get C (T := TX0) hcl0 cO_1 rfl (j := 5) (by decide) wl_148 (v := .ref (ad 7)) rfl dX5_part_94 ?_
            refine g_iload_n C dX5_part_97 rfl 2 rfl ?_
            refine g_iald C cI_7 dX5_part_98 h (fun h => ?_)
            refine g_iload_n C dX5_part_99 rfl 3 rfl ?_
            refine g_iload_n C dX5_part_100 rfl 4 rfl ?_
            obtain ⟨r9, hX10, h⟩ := bd1_inv h
            refine g_callS C (c_X5_withBit l hX10) (cwSw 3 C.2.2.2.2.1 wl_581 wl_582 wl_109 wl_583 rfl rfl (by decide +kernel) ⟨Nat.le_of_ble_eq_true rfl, Nat.le_of_ble_eq_true rfl⟩) rfl rfl rfl (Nat.le_of_ble_eq_true rfl) dX5_part_101 ?_
            refine g_iast C cI_7 dX5_part_104 h (fun m11 h => ?_)
            refine g_aload_n C dX5_part_105 rfl 1 rfl ?_
            refine g_get C (T := TX5) hcl5 cO_0 rfl (j := 0) (by decide) wl_482 (v := .ref (ad 1)) rfl dX5_part_106 ?_
            refine g_get C (T := TX0) hcl0 cO_1 rfl (j := 5) (by decide) wl_148 (v := .ref (ad 7)) rfl dX5_part_109 ?_
            refine g_iload_n C dX5_part_112 rfl 3 rfl ?_
            refine g_aload_n C dX5_part_113 rfl 1 rfl ?_
            refine g_get C (T := TX5) hcl5 cO_0 rfl (j := 0) (by decide) wl_482 (v := .ref (ad 1)) rfl dX5_part_114 ?_
            refine g_get C (T := TX0) hcl0 cO_1 rfl (j := 5) (by decide) wl_148 (v := .ref (ad 7)) rfl dX5_part_117 ?_
            refine g_iload_n C dX5_part_120 rfl 3 rfl ?_
            refine g_iald C cI_7 dX5_part_121 h (fun h => ?_)
            refine g_iload_n C dX5_part_122 rfl 2 rfl ?_
            refine g_iload_n C dX5_part_123 rfl 4 rfl ?_
            obtain ⟨r12, hX13, h⟩ := bd1_inv h
            refine g_callS C (c_X5_withBit l hX13) (cwSw 3 C.2.2.2.2.1 wl_581 wl_582 wl_109 wl_583 rfl rfl (by decide +kernel) ⟨Nat.le_of_ble_eq_true rfl, Nat.le_of_ble_eq_true rfl⟩) rfl rfl rfl (Nat.le_of_ble_eq_true rfl) dX5_part_124 ?_
            refine g_iast C cI_7 dX5_part_127 h (fun m14 h => ?_)
            refine g_iload C dX5_part_128 0 rfl ?_
            obtain ⟨rfl, rfl⟩ := sp_inj h
            exact g_iret C hr hlk dX5_part_130 rfl
          intro J7 hJ7 h
          refine g_icmp_ne (tgt := 67) C dX5_part_40 (by decide) h (fun h => ?_) (fun h => ?_)
          · refine g_aload_n C dX5_part_43 rfl 0 rfl ?_
            refine g_get C (T := TX5) hcl5 cO_0 rfl (j := 0) (by decide) wl_482 (v := .ref (ad 1)) rfl dX5_part_44 ?_
            refine g_get C (T := TX0) hcl0 cO_1 rfl (j := 6) (by decide) wl_151 (v := .ref (ad 8)) rfl dX5_part_47 ?_
            refine g_iload_n C dX5_part_50 rfl 1 rfl ?_
            refine g_iald C cI_8 dX5_part_51 h (fun h => ?_)
            refine g_aload_n C dX5_part_52 rfl 0 rfl ?_
            refine g_get C (T := TX5) hcl5 cO_0 rfl (j := 0) (by decide) wl_482 (v := .ref (ad 1)) rfl dX5_part_53 ?_
            refine g_get C (T := TX0) hcl0 cO_1 rfl (j := 6) (by decide) wl_151 (v := .ref (ad 8)) rfl dX5_part_56 ?_
            refine g_iload_n C dX5_part_59 rfl 2 rfl ?_
            refine g_iald C cI_8 dX5_part_60 h (fun h => ?_)
            refine g_icmp_ne (tgt := 67) C dX5_part_61 (by decide) h (fun h => ?_) (fun h => ?_)
            · refine g_bipush (v := (-3 : Int32)) C dX5_part_64 (by decide) ?_
              obtain ⟨rfl, rfl⟩ := sp_inj h
              exact g_iret C hr hlk dX5_part_66 rfl
            · exact g_sub [0, 1, 2, 3] rfl (hJ7  h)
          · exact g_sub [0, 1, 2, 3] rfl (hJ7  h)

def rmX0_lying : Room := { frames := 0, cells := 0, slots := 0, locals := 0 }
set_option maxRecDepth 100000 in
set_option maxHeartbeats 4000000 in
theorem c_X0_lying (l : Launch) {F : Nat}  {k : Nat} {a0 : Int32} (hk : isLot k) {m : MM} {r : Int32} (h : f_X0_lying F k a0 m = some r) : CT l yX0_lying cX0_lying 4 (some .int) rmX0_lying cfC 73 (fun ad tb => [.ref (ad k), .int a0]) m (some (.int r)) m := by
  refine CT.of (cc := cX0_lying) (maxL := 4) (ret := (some .int)) (by decide) ⟨rfl, rfl⟩ (fun _ _ => Nat.le_of_ble_eq_true rfl) ?_
  intro p e s mt args below meth c D cA ad tb C hr hlk
  refine g_lv (lv' := [(0, .ref (ad k)), (1, .int a0)]) rfl ?_
  have hcl0 : ∀ w ∈ wsX00, w.before args s = true := fun w hw => C.2.2.2.2.1 w (inlX0 w hw)
  unfold f_X0_lying at h
  refine g_iconst (v := (0 : Int32)) C dX0_lying_0 (by decide) ?_
  refine g_istore_n (lv' := [(2, .int (0 : Int32)), (0, .ref (ad k)), (1, .int a0)]) C dX0_lying_1 rfl (by decide) rfl ?_
  refine g_iconst (v := (0 : Int32)) C dX0_lying_2 (by decide) ?_
  refine g_istore_n (lv' := [(3, .int (0 : Int32)), (2, .int (0 : Int32)), (0, .ref (ad k)), (1, .int a0)]) C dX0_lying_3 rfl (by decide) rfl ?_
  refine g_sub [2, 3, 1, 0] rfl ?_
  refine g_loop_II (L := f_X0_lying_L4 k a0 m) h 4 34 (fun x2_1 x3_2 => [(0, .ref (ad k)), (1, .int a0), (2, .int x2_1), (3, .int x3_2)]) (fun x2_1 x3_2 => [(2, .int x2_1)]) (fun x2_1 x3_2 => []) (fun x2_1 x3_2 => []) ?_ ?_ (fun _ _ _ => rfl)
  · intro x2_1 x3_2 h
    refine g_iload_n C dX0_lying_34 rfl 0 rfl ?_
    obtain rfl := so_inj h
    exact g_iret C hr hlk dX0_lying_35 rfl
  · intro K3 hK3 n ih x2_1 x3_2 h
    rw [f_X0_lying_L4] at h
    refine g_iload_n C dX0_lying_4 rfl 3 rfl ?_
    refine g_aload_n C dX0_lying_5 rfl 0 rfl ?_
    refine g_get C (T := TX0) hcl0 (lot_O hk) rfl (j := 8) (by decide) wl_156 (v := .int (rI m k 8)) rfl dX0_lying_6 ?_
    refine g_icmp_ge (tgt := 34) C dX0_lying_9 (by decide) h (fun h => ?_) (fun h => ?_)
    · exact g_sub [2] rfl (hK3 _ _ h)
    · refine g_aload_n C dX0_lying_12 rfl 0 rfl ?_
      refine g_get C (T := TX0) hcl0 (lot_O hk) rfl (j := 6) (by decide) wl_149 (v := .ref (ad (k + 7))) rfl dX0_lying_13 ?_
      refine g_iload_n C dX0_lying_16 rfl 3 rfl ?_
      refine g_iald C (lot_I7 hk) dX0_lying_17 h (fun h => ?_)
      refine g_iload_n C dX0_lying_18 rfl 1 rfl ?_
      refine g_icmp_ne (tgt := 28) C dX0_lying_19 (by decide) h (fun h => ?_) (fun h => ?_)
      · refine g_iload_n C dX0_lying_22 rfl 2 rfl ?_
        refine g_iconst (v := (1 : Int32)) C dX0_lying_23 (by decide) ?_
        refine g_iload_n C dX0_lying_24 rfl 3 rfl ?_
        refine g_ishl C dX0_lying_25 ?_
        refine g_ior C dX0_lying_26 ?_
        refine nm_i h (fun x2_4 h => ?_)
        refine g_istore_n (lv' := [(2, .int x2_4), (0, .ref (ad k)), (1, .int a0), (3, .int x3_2)]) C dX0_lying_27 rfl (by decide) rfl ?_
        refine g_iinc (lv' := [(2, .int x2_4), (0, .ref (ad k)), (1, .int a0)]) C dX0_lying_28 (q := 3) rfl (by decide) h rfl (fun _ => rfl) (fun x3_5 h => ?_)
        refine g_goto (tgt := 4) C dX0_lying_31 (by decide) ?_
        exact g_sub [2, 3, 1, 0] rfl (ih _ _ h)
      · refine g_iinc (lv' := [(0, .ref (ad k)), (1, .int a0), (2, .int x2_1)]) C dX0_lying_28 (q := 3) rfl (by decide) h rfl (fun _ => rfl) (fun x3_6 h => ?_)
        refine g_goto (tgt := 4) C dX0_lying_31 (by decide) ?_
        exact g_sub [1, 2, 3, 0] rfl (ih _ _ h)

def rmX5_toldOfHold : Room := { frames := 1, cells := 0, slots := 0, locals := 23 }
set_option maxRecDepth 100000 in
set_option maxHeartbeats 4000000 in
theorem c_X5_toldOfHold (l : Launch) {F : Nat}  {a0 : Int32} {a1 : Int32}  {m : MM} {r : Int32} (h : f_X5_toldOfHold F a0 a1 m = some r) : CT l yX5_toldOfHold cX5_toldOfHold 3 (some .int) rmX5_toldOfHold cfC 73 (fun ad tb => [.ref (ad 0), .int a0, .int a1]) m (some (.int r)) m := by
  refine CT.of (cc := cX5_toldOfHold) (maxL := 3) (ret := (some .int)) (by decide) ⟨rfl, rfl⟩ (fun _ _ => Nat.le_of_ble_eq_true rfl) ?_
  intro p e s mt args below meth c D cA ad tb C hr hlk
  refine g_lv (lv' := [(0, .ref (ad 0)), (1, .int a0), (2, .int a1)]) rfl ?_
  have hcl0 : ∀ w ∈ wsX00, w.before args s = true := fun w hw => C.2.2.2.2.1 w (inlX0 w hw)
  have hcl5 : ∀ w ∈ wsX50, w.before args s = true := fun w hw => C.2.2.2.2.1 w (inlX5 w hw)
  unfold f_X5_toldOfHold at h
  refine g_iload_n C dX5_toldOfHold_0 rfl 2 rfl ?_
  by_cases q1 : a1 = (0 : Int32)
  · rw [if_pos q1] at h
    refine g_tbl (tgt := 44) C dX5_toldOfHold_1 (0 : Int32) q1 (by decide) rfl (by decide) ?_
    refine g_aload_n C dX5_toldOfHold_44 rfl 0 rfl ?_
    refine g_get C (T := TX5) hcl5 cO_0 rfl (j := 0) (by decide) wl_482 (v := .ref (ad 1)) rfl dX5_toldOfHold_45 ?_
    refine g_get C (T := TX0) hcl0 cO_1 rfl (j := 0) (by decide) wl_138 (v := .ref (ad 2)) rfl dX5_toldOfHold_48 ?_
    refine g_iload_n C dX5_toldOfHold_51 rfl 1 rfl ?_
    refine g_iald C cI_2 dX5_toldOfHold_52 h (fun h => ?_)
    obtain rfl := so_inj h
    exact g_iret C hr hlk dX5_toldOfHold_53 rfl
  rw [if_neg q1] at h
  by_cases q2 : a1 = (1 : Int32)
  · rw [if_pos q2] at h
    refine g_tbl (tgt := 54) C dX5_toldOfHold_1 (1 : Int32) q2 (by decide) rfl (by decide) ?_
    refine g_aload_n C dX5_toldOfHold_54 rfl 0 rfl ?_
    refine g_get C (T := TX5) hcl5 cO_0 rfl (j := 0) (by decide) wl_482 (v := .ref (ad 1)) rfl dX5_toldOfHold_55 ?_
    refine g_get C (T := TX0) hcl0 cO_1 rfl (j := 1) (by decide) wl_140 (v := .ref (ad 3)) rfl dX5_toldOfHold_58 ?_
    refine g_iload_n C dX5_toldOfHold_61 rfl 1 rfl ?_
    refine g_iald C cI_3 dX5_toldOfHold_62 h (fun h => ?_)
    obtain rfl := so_inj h
    exact g_iret C hr hlk dX5_toldOfHold_63 rfl
  rw [if_neg q2] at h
  by_cases q3 : a1 = (2 : Int32)
  · rw [if_pos q3] at h
    refine g_tbl (tgt := 64) C dX5_toldOfHold_1 (2 : Int32) q3 (by decide) rfl (by decide) ?_
    refine g_aload_n C dX5_toldOfHold_64 rfl 0 rfl ?_
    refine g_get C (T := TX5) hcl5 cO_0 rfl (j := 0) (by decide) wl_482 (v := .ref (ad 1)) rfl dX5_toldOfHold_65 ?_
    refine g_get C (T := TX0) hcl0 cO_1 rfl (j := 2) (by decide) wl_142 (v := .ref (ad 4)) rfl dX5_toldOfHold_68 ?_
    refine g_iload_n C dX5_toldOfHold_71 rfl 1 rfl ?_
    refine g_iald C cI_4 dX5_toldOfHold_72 h (fun h => ?_)
    obtain rfl := so_inj h
    exact g_iret C hr hlk dX5_toldOfHold_73 rfl
  rw [if_neg q3] at h
  by_cases q4 : a1 = (3 : Int32)
  · rw [if_pos q4] at h
    refine g_tbl (tgt := 74) C dX5_toldOfHold_1 (3 : Int32) q4 (by decide) rfl (by decide) ?_
    refine g_gets C 1 (by decide) wl_592 dX5_toldOfHold_74 ?_
    refine g_aload_n C dX5_toldOfHold_77 rfl 0 rfl ?_
    refine g_get C (T := TX5) hcl5 cO_0 rfl (j := 0) (by decide) wl_482 (v := .ref (ad 1)) rfl dX5_toldOfHold_78 ?_
    refine g_get C (T := TX0) hcl0 cO_1 rfl (j := 0) (by decide) wl_138 (v := .ref (ad 2)) rfl dX5_toldOfHold_81 ?_
    refine g_iload_n C dX5_toldOfHold_84 rfl 1 rfl ?_
    refine g_iald C cI_2 dX5_toldOfHold_85 h (fun h => ?_)
    refine g_sald C (q := 1) (by decide) dX5_toldOfHold_86 h (fun h => ?_)
    obtain rfl := so_inj h
    exact g_iret C hr hlk dX5_toldOfHold_87 rfl
  rw [if_neg q4] at h
  by_cases q5 : a1 = (4 : Int32)
  · rw [if_pos q5] at h
    refine g_tbl (tgt := 88) C dX5_toldOfHold_1 (4 : Int32) q5 (by decide) rfl (by decide) ?_
    refine g_aload_n C dX5_toldOfHold_88 rfl 0 rfl ?_
    refine g_get C (T := TX5) hcl5 cO_0 rfl (j := 0) (by decide) wl_482 (v := .ref (ad 1)) rfl dX5_toldOfHold_89 ?_
    refine g_iload_n C dX5_toldOfHold_92 rfl 1 rfl ?_
    obtain ⟨r6, hX7, h⟩ := bd1_inv h
    refine g_callV C (c_X0_wet l lot_1 hX7) (cwVw 1 C.2.2.2.2.1 wl_573 wl_574 wl_575 wl_110 wl_576 rfl rfl (by decide +kernel) ⟨Nat.le_of_ble_eq_true rfl, Nat.le_of_ble_eq_true rfl⟩) cO_1 rfl rfl rfl rfl (Nat.le_of_ble_eq_true rfl) dX5_toldOfHold_93 ?_
    obtain rfl := so_inj h
    exact g_iret C hr hlk dX5_toldOfHold_96 rfl
  rw [if_neg q5] at h
  by_cases q8 : a1 = (5 : Int32)
  · rw [if_pos q8] at h
    refine g_tbl (tgt := 97) C dX5_toldOfHold_1 (5 : Int32) q8 (by decide) rfl (by decide) ?_
    refine g_gets C 3 (by decide) wl_593 dX5_toldOfHold_97 ?_
    refine g_aload_n C dX5_toldOfHold_100 rfl 0 rfl ?_
    refine g_get C (T := TX5) hcl5 cO_0 rfl (j := 0) (by decide) wl_482 (v := .ref (ad 1)) rfl dX5_toldOfHold_101 ?_
    refine g_get C (T := TX0) hcl0 cO_1 rfl (j := 0) (by decide) wl_138 (v := .ref (ad 2)) rfl dX5_toldOfHold_104 ?_
    refine g_iload_n C dX5_toldOfHold_107 rfl 1 rfl ?_
    refine g_iald C cI_2 dX5_toldOfHold_108 h (fun h => ?_)
    refine g_sald C (q := 3) (by decide) dX5_toldOfHold_109 h (fun h => ?_)
    obtain rfl := so_inj h
    exact g_iret C hr hlk dX5_toldOfHold_110 rfl
  rw [if_neg q8] at h
  by_cases q9 : a1 = (6 : Int32)
  · rw [if_pos q9] at h
    refine g_tbl (tgt := 111) C dX5_toldOfHold_1 (6 : Int32) q9 (by decide) rfl (by decide) ?_
    refine g_aload_n C dX5_toldOfHold_111 rfl 0 rfl ?_
    refine g_get C (T := TX5) hcl5 cO_0 rfl (j := 0) (by decide) wl_482 (v := .ref (ad 1)) rfl dX5_toldOfHold_112 ?_
    refine g_iload_n C dX5_toldOfHold_115 rfl 1 rfl ?_
    obtain ⟨r10, hX11, h⟩ := bd1_inv h
    refine g_callV C (c_X0_lying l lot_1 hX11) (cwVw 1 C.2.2.2.2.1 wl_595 wl_596 wl_597 wl_110 wl_598 rfl rfl (by decide +kernel) ⟨Nat.le_of_ble_eq_true rfl, Nat.le_of_ble_eq_true rfl⟩) cO_1 rfl rfl rfl rfl (Nat.le_of_ble_eq_true rfl) dX5_toldOfHold_116 ?_
    obtain rfl := so_inj h
    exact g_iret C hr hlk dX5_toldOfHold_119 rfl
  rw [if_neg q9] at h
  refine g_tblOut (tgt := 120) C dX5_toldOfHold_1 (by have t0 := ti_ne q1 (z := 0) (by decide); have t1 := ti_ne q2 (z := 1) (by decide); have t2 := ti_ne q3 (z := 2) (by decide); have t3 := ti_ne q4 (z := 3) (by decide); have t4 := ti_ne q5 (z := 4) (by decide); have t5 := ti_ne q8 (z := 5) (by decide); have t6 := ti_ne q9 (z := 6) (by decide); omega) (by decide) ?_
  refine g_aload_n C dX5_toldOfHold_120 rfl 0 rfl ?_
  refine g_get C (T := TX5) hcl5 cO_0 rfl (j := 0) (by decide) wl_482 (v := .ref (ad 1)) rfl dX5_toldOfHold_121 ?_
  refine g_iload_n C dX5_toldOfHold_124 rfl 1 rfl ?_
  obtain ⟨r12, hX13, h⟩ := bd1_inv h
  refine g_callV C (c_X0_left l lot_1 hX13) (cwVw 1 C.2.2.2.2.1 wl_565 wl_566 wl_567 wl_110 wl_568 rfl rfl (by decide +kernel) ⟨Nat.le_of_ble_eq_true rfl, Nat.le_of_ble_eq_true rfl⟩) cO_1 rfl rfl rfl rfl (Nat.le_of_ble_eq_true rfl) dX5_toldOfHold_125 ?_
  obtain rfl := so_inj h
  exact g_iret C hr hlk dX5_toldOfHold_128 rfl

def rmX5_toldOfThing : Room := { frames := 0, cells := 0, slots := 0, locals := 0 }
set_option maxRecDepth 100000 in
set_option maxHeartbeats 4000000 in
theorem c_X5_toldOfThing (l : Launch)  {a0 : Int32} {a1 : Int32}  {m : MM} {r : Int32} (h : f_X5_toldOfThing a0 a1 m = some r) : CT l yX5_toldOfThing cX5_toldOfThing 3 (some .int) rmX5_toldOfThing cfC 73 (fun ad tb => [.ref (ad 0), .int a0, .int a1]) m (some (.int r)) m := by
  refine CT.of (cc := cX5_toldOfThing) (maxL := 3) (ret := (some .int)) (by decide) ⟨rfl, rfl⟩ (fun _ _ => Nat.le_of_ble_eq_true rfl) ?_
  intro p e s mt args below meth c D cA ad tb C hr hlk
  refine g_lv (lv' := [(0, .ref (ad 0)), (1, .int a0), (2, .int a1)]) rfl ?_
  have hcl0 : ∀ w ∈ wsX00, w.before args s = true := fun w hw => C.2.2.2.2.1 w (inlX0 w hw)
  have hcl5 : ∀ w ∈ wsX50, w.before args s = true := fun w hw => C.2.2.2.2.1 w (inlX5 w hw)
  unfold f_X5_toldOfThing at h
  refine g_iload_n C dX5_toldOfThing_0 rfl 2 rfl ?_
  by_cases q1 : a1 = (8 : Int32)
  · rw [if_pos q1] at h
    refine g_tbl (tgt := 28) C dX5_toldOfThing_1 (8 : Int32) q1 (by decide) rfl (by decide) ?_
    refine g_aload_n C dX5_toldOfThing_28 rfl 0 rfl ?_
    refine g_get C (T := TX5) hcl5 cO_0 rfl (j := 0) (by decide) wl_482 (v := .ref (ad 1)) rfl dX5_toldOfThing_29 ?_
    refine g_get C (T := TX0) hcl0 cO_1 rfl (j := 3) (by decide) wl_144 (v := .ref (ad 5)) rfl dX5_toldOfThing_32 ?_
    refine g_iload_n C dX5_toldOfThing_35 rfl 1 rfl ?_
    refine g_iald C cI_5 dX5_toldOfThing_36 h (fun h => ?_)
    obtain rfl := so_inj h
    exact g_iret C hr hlk dX5_toldOfThing_37 rfl
  rw [if_neg q1] at h
  by_cases q2 : a1 = (9 : Int32)
  · rw [if_pos q2] at h
    refine g_tbl (tgt := 38) C dX5_toldOfThing_1 (9 : Int32) q2 (by decide) rfl (by decide) ?_
    refine g_aload_n C dX5_toldOfThing_38 rfl 0 rfl ?_
    refine g_get C (T := TX5) hcl5 cO_0 rfl (j := 0) (by decide) wl_482 (v := .ref (ad 1)) rfl dX5_toldOfThing_39 ?_
    refine g_get C (T := TX0) hcl0 cO_1 rfl (j := 4) (by decide) wl_146 (v := .ref (ad 6)) rfl dX5_toldOfThing_42 ?_
    refine g_iload_n C dX5_toldOfThing_45 rfl 1 rfl ?_
    refine g_iald C cI_6 dX5_toldOfThing_46 h (fun h => ?_)
    obtain rfl := so_inj h
    exact g_iret C hr hlk dX5_toldOfThing_47 rfl
  rw [if_neg q2] at h
  by_cases q3 : a1 = (10 : Int32)
  · rw [if_pos q3] at h
    refine g_tbl (tgt := 48) C dX5_toldOfThing_1 (10 : Int32) q3 (by decide) rfl (by decide) ?_
    refine g_aload_n C dX5_toldOfThing_48 rfl 0 rfl ?_
    refine g_get C (T := TX5) hcl5 cO_0 rfl (j := 0) (by decide) wl_482 (v := .ref (ad 1)) rfl dX5_toldOfThing_49 ?_
    refine g_get C (T := TX0) hcl0 cO_1 rfl (j := 6) (by decide) wl_151 (v := .ref (ad 8)) rfl dX5_toldOfThing_52 ?_
    refine g_iload_n C dX5_toldOfThing_55 rfl 1 rfl ?_
    refine g_iald C cI_8 dX5_toldOfThing_56 h (fun h => ?_)
    obtain rfl := so_inj h
    exact g_iret C hr hlk dX5_toldOfThing_57 rfl
  rw [if_neg q3] at h
  refine g_tblOut (tgt := 58) C dX5_toldOfThing_1 (by have t0 := ti_ne q1 (z := 8) (by decide); have t1 := ti_ne q2 (z := 9) (by decide); have t2 := ti_ne q3 (z := 10) (by decide); omega) (by decide) ?_
  refine g_aload_n C dX5_toldOfThing_58 rfl 0 rfl ?_
  refine g_get C (T := TX5) hcl5 cO_0 rfl (j := 0) (by decide) wl_482 (v := .ref (ad 1)) rfl dX5_toldOfThing_59 ?_
  refine g_get C (T := TX0) hcl0 cO_1 rfl (j := 5) (by decide) wl_148 (v := .ref (ad 7)) rfl dX5_toldOfThing_62 ?_
  refine g_iload_n C dX5_toldOfThing_65 rfl 1 rfl ?_
  refine g_iald C cI_7 dX5_toldOfThing_66 h (fun h => ?_)
  obtain rfl := so_inj h
  exact g_iret C hr hlk dX5_toldOfThing_67 rfl

def rmX5_told : Room := { frames := 2, cells := 0, slots := 0, locals := 45 }
set_option maxRecDepth 100000 in
set_option maxHeartbeats 4000000 in
theorem c_X5_told (l : Launch) {F : Nat}  {a0 : Int32} {a1 : Int32}  {m : MM} {r : Int32} (h : f_X5_told F a0 a1 m = some r) : CT l yX5_told cX5_told 3 (some .int) rmX5_told cfC 73 (fun ad tb => [.ref (ad 0), .int a0, .int a1]) m (some (.int r)) m := by
  refine CT.of (cc := cX5_told) (maxL := 3) (ret := (some .int)) (by decide) ⟨rfl, rfl⟩ (fun _ _ => Nat.le_of_ble_eq_true rfl) ?_
  intro p e s mt args below meth c D cA ad tb C hr hlk
  refine g_lv (lv' := [(0, .ref (ad 0)), (1, .int a0), (2, .int a1)]) rfl ?_
  have hcl5 : ∀ w ∈ wsX50, w.before args s = true := fun w hw => C.2.2.2.2.1 w (inlX5 w hw)
  unfold f_X5_told at h
  refine g_iload_n C dX5_told_0 rfl 2 rfl ?_
  refine g_join_ h 28 ([(0, .ref (ad 0)), (1, .int a0), (2, .int a1)]) ([]) ?_ ?_
  · intro h
    refine g_iload_n C dX5_told_28 rfl 2 rfl ?_
    refine g_bipush (v := (8 : Int32)) C dX5_told_29 (by decide) ?_
    refine g_icmp_lt (tgt := 58) C dX5_told_31 (by decide) h (fun h => ?_) (fun h => ?_)
    · refine g_bipush (v := (-100 : Int32)) C dX5_told_58 (by decide) ?_
      obtain rfl := so_inj h
      exact g_iret C hr hlk dX5_told_60 rfl
    · refine g_iload_n C dX5_told_34 rfl 2 rfl ?_
      refine g_bipush (v := (11 : Int32)) C dX5_told_35 (by decide) ?_
      refine g_icmp_gt (tgt := 58) C dX5_told_37 (by decide) h (fun h => ?_) (fun h => ?_)
      · refine g_bipush (v := (-100 : Int32)) C dX5_told_58 (by decide) ?_
        obtain rfl := so_inj h
        exact g_iret C hr hlk dX5_told_60 rfl
      · refine g_aload_n C dX5_told_40 rfl 0 rfl ?_
        refine g_get C (T := TX5) hcl5 cO_0 rfl (j := 0) (by decide) wl_482 (v := .ref (ad 1)) rfl dX5_told_41 ?_
        refine g_iload_n C dX5_told_44 rfl 1 rfl ?_
        obtain ⟨r2, hX3, h⟩ := bd1_inv h
        refine g_callV C (c_X0_hasThing l lot_1 hX3) (cwVw 1 C.2.2.2.2.1 wl_557 wl_558 wl_559 wl_110 wl_560 rfl rfl (by decide +kernel) ⟨Nat.le_of_ble_eq_true rfl, Nat.le_of_ble_eq_true rfl⟩) cO_1 rfl rfl rfl rfl (Nat.le_of_ble_eq_true rfl) dX5_told_45 ?_
        refine g_if_eq (tgt := 58) C dX5_told_48 (by decide) h (fun h => ?_) (fun h => ?_)
        · refine g_bipush (v := (-100 : Int32)) C dX5_told_58 (by decide) ?_
          obtain rfl := so_inj h
          exact g_iret C hr hlk dX5_told_60 rfl
        · refine g_aload_n C dX5_told_51 rfl 0 rfl ?_
          refine g_iload_n C dX5_told_52 rfl 1 rfl ?_
          refine g_iload_n C dX5_told_53 rfl 2 rfl ?_
          obtain ⟨r4, hX5, h⟩ := bd1_inv h
          refine g_callV C (c_X5_toldOfThing l hX5) (cwVw 2 C.2.2.2.2.1 wl_599 wl_601 wl_12 wl_109 wl_602 rfl rfl (by decide +kernel) ⟨Nat.le_of_ble_eq_true rfl, Nat.le_of_ble_eq_true rfl⟩) cO_0 rfl rfl rfl rfl (Nat.le_of_ble_eq_true rfl) dX5_told_54 ?_
          obtain rfl := so_inj h
          exact g_iret C hr hlk dX5_told_57 rfl
  intro J1 hJ1 h
  refine g_if_lt (tgt := 28) C dX5_told_1 (by decide) h (fun h => ?_) (fun h => ?_)
  · exact g_sub [0, 1, 2] rfl (hJ1  h)
  · refine g_iload_n C dX5_told_4 rfl 2 rfl ?_
    refine g_bipush (v := (7 : Int32)) C dX5_told_5 (by decide) ?_
    refine g_icmp_gt (tgt := 28) C dX5_told_7 (by decide) h (fun h => ?_) (fun h => ?_)
    · exact g_sub [0, 1, 2] rfl (hJ1  h)
    · refine g_aload_n C dX5_told_10 rfl 0 rfl ?_
      refine g_get C (T := TX5) hcl5 cO_0 rfl (j := 0) (by decide) wl_482 (v := .ref (ad 1)) rfl dX5_told_11 ?_
      refine g_iload_n C dX5_told_14 rfl 1 rfl ?_
      obtain ⟨r6, hX7, h⟩ := bd1_inv h
      refine g_callV C (c_X0_hasHold l lot_1 hX7) (cwVw 1 C.2.2.2.2.1 wl_532 wl_533 wl_534 wl_110 wl_535 rfl rfl (by decide +kernel) ⟨Nat.le_of_ble_eq_true rfl, Nat.le_of_ble_eq_true rfl⟩) cO_1 rfl rfl rfl rfl (Nat.le_of_ble_eq_true rfl) dX5_told_15 ?_
      refine g_if_eq (tgt := 28) C dX5_told_18 (by decide) h (fun h => ?_) (fun h => ?_)
      · exact g_sub [0, 1, 2] rfl (hJ1  h)
      · refine g_aload_n C dX5_told_21 rfl 0 rfl ?_
        refine g_iload_n C dX5_told_22 rfl 1 rfl ?_
        refine g_iload_n C dX5_told_23 rfl 2 rfl ?_
        obtain ⟨r8, hX9, h⟩ := bd1_inv h
        refine g_callV C (c_X5_toldOfHold l hX9) (cwVw 2 C.2.2.2.2.1 wl_588 wl_590 wl_11 wl_109 wl_591 rfl rfl (by decide +kernel) ⟨Nat.le_of_ble_eq_true rfl, Nat.le_of_ble_eq_true rfl⟩) cO_0 rfl rfl rfl rfl (Nat.le_of_ble_eq_true rfl) dX5_told_24 ?_
        obtain rfl := so_inj h
        exact g_iret C hr hlk dX5_told_27 rfl

def rmX3_add : Room := { frames := 0, cells := 0, slots := 0, locals := 0 }
set_option maxRecDepth 100000 in
set_option maxHeartbeats 4000000 in
theorem c_X3_add (l : Launch)  {a0 : Int32}  {m : MM} {m' : MM} (h : f_X3_add a0 m = some m') : CT l yX3_add cX3_add 2 none rmX3_add cfC 73 (fun ad tb => [.ref (ad 36), .int a0]) m none m' := by
  refine CT.of (cc := cX3_add) (maxL := 2) (ret := none) (by decide) ⟨rfl, rfl⟩ (fun _ _ => Nat.le_of_ble_eq_true rfl) ?_
  intro p e s mt args below meth c D cA ad tb C hr hlk
  refine g_lv (lv' := [(0, .ref (ad 36)), (1, .int a0)]) rfl ?_
  have hcl3 : ∀ w ∈ wsX30, w.before args s = true := fun w hw => C.2.2.2.2.1 w (inlX3 w hw)
  unfold f_X3_add at h
  refine g_aload_n C dX3_add_0 rfl 0 rfl ?_
  refine g_get C (T := TX3) hcl3 cO_36 rfl (j := 1) (by decide) wl_251 (v := .int (rI m 36 1)) rfl dX3_add_1 ?_
  refine g_sipush (v := (160 : Int32)) C dX3_add_4 (by decide) ?_
  refine g_icmp_ge (tgt := 27) C dX3_add_7 (by decide) h (fun h => ?_) (fun h => ?_)
  · obtain rfl := so_inj h
    exact g_vret C hr hlk dX3_add_27 rfl
  · refine g_aload_n C dX3_add_10 rfl 0 rfl ?_
    refine g_get C (T := TX3) hcl3 cO_36 rfl (j := 0) (by decide) wl_250 (v := .ref (ad 37)) rfl dX3_add_11 ?_
    refine g_aload_n C dX3_add_14 rfl 0 rfl ?_
    refine g_dup C dX3_add_15 rfl ?_
    refine g_get C (T := TX3) hcl3 cO_36 rfl (j := 1) (by decide) wl_251 (v := .int (rI m 36 1)) rfl dX3_add_16 ?_
    refine g_dup_x1 C dX3_add_19 rfl rfl ?_
    refine g_iconst (v := (1 : Int32)) C dX3_add_20 (by decide) ?_
    refine g_iadd C dX3_add_21 ?_
    refine g_putI C (T := TX3) hcl3 cO_36 rfl (j := 1) (by decide) wl_251 tyX3 tyX3_ok nmX3 rfl rfl pfX3_1 (plX3 1 (by decide)) dX3_add_22 h (fun m1 h => ?_)
    refine g_iload_n C dX3_add_25 rfl 1 rfl ?_
    refine g_iast C cI_37 dX3_add_26 h (fun m2 h => ?_)
    obtain rfl := so_inj h
    exact g_vret C hr hlk dX3_add_27 rfl

def rmX5_feed : Room := { frames := 1, cells := 0, slots := 0, locals := 21 }
set_option maxRecDepth 100000 in
set_option maxHeartbeats 4000000 in
theorem c_X5_feed (l : Launch)  {a0 : Int32}  {m : MM} {m' : MM} {r : Int32} (h : f_X5_feed a0 m = some (r, m')) : CT l yX5_feed cX5_feed 2 (some .int) rmX5_feed cfC 73 (fun ad tb => [.ref (ad 0), .int a0]) m (some (.int r)) m' := by
  refine CT.of (cc := cX5_feed) (maxL := 2) (ret := (some .int)) (by decide) ⟨rfl, rfl⟩ (fun _ _ => Nat.le_of_ble_eq_true rfl) ?_
  intro p e s mt args below meth c D cA ad tb C hr hlk
  refine g_lv (lv' := [(0, .ref (ad 0)), (1, .int a0)]) rfl ?_
  have hcl3 : ∀ w ∈ wsX30, w.before args s = true := fun w hw => C.2.2.2.2.1 w (inlX3 w hw)
  have hcl5 : ∀ w ∈ wsX50, w.before args s = true := fun w hw => C.2.2.2.2.1 w (inlX5 w hw)
  unfold f_X5_feed at h
  refine g_iload_n C dX5_feed_0 rfl 1 rfl ?_
  refine g_sipush (v := (256 : Int32)) C dX5_feed_1 (by decide) ?_
  obtain ⟨r1, hX2, h⟩ := bd1_inv h
  refine g_callS C (c_X5_within l hX2) (cwSw 2 C.2.2.2.2.1 wl_518 wl_519 wl_109 wl_520 rfl rfl (by decide +kernel) ⟨Nat.le_of_ble_eq_true rfl, Nat.le_of_ble_eq_true rfl⟩) rfl rfl rfl (Nat.le_of_ble_eq_true rfl) dX5_feed_4 ?_
  refine g_if_ne (tgt := 13) C dX5_feed_7 (by decide) h (fun h => ?_) (fun h => ?_)
  · refine g_bipush (v := (-2 : Int32)) C dX5_feed_10 (by decide) ?_
    obtain ⟨rfl, rfl⟩ := sp_inj h
    exact g_iret C hr hlk dX5_feed_12 rfl
  · refine g_aload_n C dX5_feed_13 rfl 0 rfl ?_
    refine g_get C (T := TX5) hcl5 cO_0 rfl (j := 4) (by decide) wl_486 (v := .ref (ad 36)) rfl dX5_feed_14 ?_
    refine g_get C (T := TX3) hcl3 cO_36 rfl (j := 1) (by decide) wl_252 (v := .int (rI m 36 1)) rfl dX5_feed_17 ?_
    refine g_sipush (v := (160 : Int32)) C dX5_feed_20 (by decide) ?_
    refine g_icmp_lt (tgt := 29) C dX5_feed_23 (by decide) h (fun h => ?_) (fun h => ?_)
    · refine g_aload_n C dX5_feed_29 rfl 0 rfl ?_
      refine g_get C (T := TX5) hcl5 cO_0 rfl (j := 4) (by decide) wl_486 (v := .ref (ad 36)) rfl dX5_feed_30 ?_
      refine g_iload_n C dX5_feed_33 rfl 1 rfl ?_
      obtain ⟨m4, hX3, h⟩ := bd1_inv h
      refine g_callV C (c_X3_add l hX3) (cwVw 1 C.2.2.2.2.1 wl_362 wl_363 wl_364 wl_112 wl_365 rfl rfl (by decide +kernel) ⟨Nat.le_of_ble_eq_true rfl, Nat.le_of_ble_eq_true rfl⟩) cO_36 rfl rfl rfl rfl (Nat.le_of_ble_eq_true rfl) dX5_feed_34 ?_
      refine g_aload_n C dX5_feed_37 rfl 0 rfl ?_
      refine g_get C (T := TX5) hcl5 cO_0 rfl (j := 4) (by decide) wl_486 (v := .ref (ad 36)) rfl dX5_feed_38 ?_
      refine g_get C (T := TX3) hcl3 cO_36 rfl (j := 1) (by decide) wl_252 (v := .int (rI m4 36 1)) rfl dX5_feed_41 ?_
      obtain ⟨rfl, rfl⟩ := sp_inj h
      exact g_iret C hr hlk dX5_feed_44 rfl
    · refine g_bipush (v := (-4 : Int32)) C dX5_feed_26 (by decide) ?_
      obtain ⟨rfl, rfl⟩ := sp_inj h
      exact g_iret C hr hlk dX5_feed_28 rfl
