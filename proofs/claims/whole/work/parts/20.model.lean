/-! contracts: X6_in X6_hold X6_isHold X6_inside X6_sizeOf X6_roomOf X6_bitsOf X6_mostOf X6_wetOf X6_bars X6_thing X6_isThing X6_set X6_part X6_opensOf X6_told X6_feed X6_byteAt X6_next -/
def rmX6_in : Room := { frames := 0, cells := 0, slots := 0, locals := 0 }
set_option maxRecDepth 100000 in
set_option maxHeartbeats 4000000 in
theorem c_X6_in (l : Launch)  {a0 : Int64} {a1 : Int64} {a2 : Int64}  {m : MM} {r : Int32} (h : f_X6_in a0 a1 a2 m = some r) : CT l yX6_in cX6_in 6 (some .boolean) rmX6_in cfM 23 (fun ad tb => [.long a0, .long a1, .long a2]) m (some (.int r)) m := by
  refine CT.of (cc := cX6_in) (maxL := 6) (ret := (some .boolean)) (by decide) ⟨rfl, rfl⟩ (fun _ _ => Nat.le_of_ble_eq_true rfl) ?_
  intro p e s mt args below meth c D cA ad tb C hr hlk
  refine g_lv (lv' := [(0, .long a0), (2, .long a1), (4, .long a2)]) rfl ?_
  unfold f_X6_in at h
  refine g_lload_n C dX6_in_0 rfl 0 rfl ?_
  refine g_lload_n C dX6_in_1 rfl 1 rfl ?_
  refine g_lcmp C dX6_in_2 ?_
  refine g_if_lt (tgt := 17) C dX6_in_3 (by decide) h (fun h => ?_) (fun h => ?_)
  · refine g_iconst (v := (0 : Int32)) C dX6_in_17 (by decide) ?_
    obtain rfl := so_inj h
    exact g_zret C hr hlk dX6_in_18 rfl rfl
  · refine g_lload_n C dX6_in_6 rfl 0 rfl ?_
    refine g_lload C dX6_in_7 2 rfl ?_
    refine g_lcmp C dX6_in_9 ?_
    refine g_if_gt (tgt := 17) C dX6_in_10 (by decide) h (fun h => ?_) (fun h => ?_)
    · refine g_iconst (v := (0 : Int32)) C dX6_in_17 (by decide) ?_
      obtain rfl := so_inj h
      exact g_zret C hr hlk dX6_in_18 rfl rfl
    · refine g_iconst (v := (1 : Int32)) C dX6_in_13 (by decide) ?_
      refine g_goto (tgt := 18) C dX6_in_14 (by decide) ?_
      obtain rfl := so_inj h
      exact g_zret C hr hlk dX6_in_18 rfl rfl

def rmX6_hold : Room := { frames := 1, cells := 0, slots := 0, locals := 25 }
set_option maxRecDepth 100000 in
set_option maxHeartbeats 4000000 in
theorem c_X6_hold (l : Launch)  {a0 : Int32} {a1 : Int32}  {m : MM} {m' : MM} {r : Int32} (h : f_X6_hold a0 a1 m = some (r, m')) : CT l yX6_hold cX6_hold 3 (some .int) rmX6_hold cfM 23 (fun ad tb => [.ref (ad 0), .int a0, .int a1]) m (some (.int r)) m' := by
  refine CT.of (cc := cX6_hold) (maxL := 3) (ret := (some .int)) (by decide) ⟨rfl, rfl⟩ (fun _ _ => Nat.le_of_ble_eq_true rfl) ?_
  intro p e s mt args below meth c D cA ad tb C hr hlk
  refine g_lv (lv' := [(0, .ref (ad 0)), (1, .int a0), (2, .int a1)]) rfl ?_
  have hcl6 : ∀ w ∈ wsX60, w.before args s = true := fun w hw => C.2.2.2.2.1 w (inlX6 w hw)
  unfold f_X6_hold at h
  refine g_iload_n C dX6_hold_0 rfl 1 rfl ?_
  refine g_i2l C dX6_hold_1 ?_
  refine g_lconst (v := (0 : Int64)) C dX6_hold_2 (by decide) ?_
  refine g_ldc2 (v := (5 : Int64)) C dX6_hold_3 wl_1088 ?_
  obtain ⟨r1, hX2, h⟩ := bd1_inv h
  refine g_callS C (c_X6_in l hX2) (cwSw 3 C.2.2.2.2.1 wl_1089 wl_1090 wl_121 wl_1091 rfl rfl (by decide +kernel) ⟨Nat.le_of_ble_eq_true rfl, Nat.le_of_ble_eq_true rfl⟩) rfl rfl rfl (Nat.le_of_ble_eq_true rfl) dX6_hold_6 ?_
  refine g_if_eq (tgt := 24) C dX6_hold_9 (by decide) h (fun h => ?_) (fun h => ?_)
  · refine g_bipush (v := (-2 : Int32)) C dX6_hold_24 (by decide) ?_
    obtain ⟨rfl, rfl⟩ := sp_inj h
    exact g_iret C hr hlk dX6_hold_26 rfl
  · refine g_iload_n C dX6_hold_12 rfl 2 rfl ?_
    refine g_i2l C dX6_hold_13 ?_
    refine g_lconst (v := (0 : Int64)) C dX6_hold_14 (by decide) ?_
    refine g_ldc2 (v := (9 : Int64)) C dX6_hold_15 wl_1092 ?_
    obtain ⟨r3, hX4, h⟩ := bd1_inv h
    refine g_callS C (c_X6_in l hX4) (cwSw 3 C.2.2.2.2.1 wl_1089 wl_1090 wl_121 wl_1091 rfl rfl (by decide +kernel) ⟨Nat.le_of_ble_eq_true rfl, Nat.le_of_ble_eq_true rfl⟩) rfl rfl rfl (Nat.le_of_ble_eq_true rfl) dX6_hold_18 ?_
    refine g_if_ne (tgt := 27) C dX6_hold_21 (by decide) h (fun h => ?_) (fun h => ?_)
    · refine g_bipush (v := (-2 : Int32)) C dX6_hold_24 (by decide) ?_
      obtain ⟨rfl, rfl⟩ := sp_inj h
      exact g_iret C hr hlk dX6_hold_26 rfl
    · refine g_aload_n C dX6_hold_27 rfl 0 rfl ?_
      refine g_get C (T := TX6) hcl6 mO_0 rfl (j := 9) (by decide) wl_928 (v := .int (rI m 0 9)) rfl dX6_hold_28 ?_
      refine g_iconst (v := (5 : Int32)) C dX6_hold_31 (by decide) ?_
      refine g_icmp_ne (tgt := 38) C dX6_hold_32 (by decide) h (fun h => ?_) (fun h => ?_)
      · refine g_bipush (v := (-4 : Int32)) C dX6_hold_35 (by decide) ?_
        obtain ⟨rfl, rfl⟩ := sp_inj h
        exact g_iret C hr hlk dX6_hold_37 rfl
      · refine g_aload_n C dX6_hold_38 rfl 0 rfl ?_
        refine g_get C (T := TX6) hcl6 mO_0 rfl (j := 7) (by decide) wl_926 (v := .ref (ad 4)) rfl dX6_hold_39 ?_
        refine g_aload_n C dX6_hold_42 rfl 0 rfl ?_
        refine g_get C (T := TX6) hcl6 mO_0 rfl (j := 9) (by decide) wl_928 (v := .int (rI m 0 9)) rfl dX6_hold_43 ?_
        refine g_iload_n C dX6_hold_46 rfl 1 rfl ?_
        refine g_iast C mI_4 dX6_hold_47 h (fun m5 h => ?_)
        refine g_aload_n C dX6_hold_48 rfl 0 rfl ?_
        refine g_get C (T := TX6) hcl6 mO_0 rfl (j := 8) (by decide) wl_927 (v := .ref (ad 5)) rfl dX6_hold_49 ?_
        refine g_aload_n C dX6_hold_52 rfl 0 rfl ?_
        refine g_get C (T := TX6) hcl6 mO_0 rfl (j := 9) (by decide) wl_928 (v := .int (rI m5 0 9)) rfl dX6_hold_53 ?_
        refine g_iload_n C dX6_hold_56 rfl 2 rfl ?_
        refine g_iast C mI_5 dX6_hold_57 h (fun m6 h => ?_)
        refine g_aload_n C dX6_hold_58 rfl 0 rfl ?_
        refine g_dup C dX6_hold_59 rfl ?_
        refine g_get C (T := TX6) hcl6 mO_0 rfl (j := 9) (by decide) wl_928 (v := .int (rI m6 0 9)) rfl dX6_hold_60 ?_
        refine g_iconst (v := (1 : Int32)) C dX6_hold_63 (by decide) ?_
        refine g_iadd C dX6_hold_64 ?_
        refine g_putI C (T := TX6) hcl6 mO_0 rfl (j := 9) (by decide) wl_928 tyX6 tyX6_ok nmX6 rfl rfl pfX6_9 (plX6 9 (by decide)) dX6_hold_65 h (fun m7 h => ?_)
        refine g_aload_n C dX6_hold_68 rfl 0 rfl ?_
        refine g_get C (T := TX6) hcl6 mO_0 rfl (j := 9) (by decide) wl_928 (v := .int (rI m7 0 9)) rfl dX6_hold_69 ?_
        refine g_iconst (v := (1 : Int32)) C dX6_hold_72 (by decide) ?_
        refine g_isub C dX6_hold_73 ?_
        obtain ⟨rfl, rfl⟩ := sp_inj h
        exact g_iret C hr hlk dX6_hold_74 rfl

def rmX6_isHold : Room := { frames := 1, cells := 0, slots := 0, locals := 25 }
set_option maxRecDepth 100000 in
set_option maxHeartbeats 4000000 in
theorem c_X6_isHold (l : Launch)  {a0 : Int32}  {m : MM} {r : Int32} (h : f_X6_isHold a0 m = some r) : CT l yX6_isHold cX6_isHold 2 (some .boolean) rmX6_isHold cfM 23 (fun ad tb => [.ref (ad 0), .int a0]) m (some (.int r)) m := by
  refine CT.of (cc := cX6_isHold) (maxL := 2) (ret := (some .boolean)) (by decide) ⟨rfl, rfl⟩ (fun _ _ => Nat.le_of_ble_eq_true rfl) ?_
  intro p e s mt args below meth c D cA ad tb C hr hlk
  refine g_lv (lv' := [(0, .ref (ad 0)), (1, .int a0)]) rfl ?_
  have hcl6 : ∀ w ∈ wsX60, w.before args s = true := fun w hw => C.2.2.2.2.1 w (inlX6 w hw)
  unfold f_X6_isHold at h
  refine g_iload_n C dX6_isHold_0 rfl 1 rfl ?_
  refine g_i2l C dX6_isHold_1 ?_
  refine g_lconst (v := (0 : Int64)) C dX6_isHold_2 (by decide) ?_
  refine g_aload_n C dX6_isHold_3 rfl 0 rfl ?_
  refine g_get C (T := TX6) hcl6 mO_0 rfl (j := 9) (by decide) wl_928 (v := .int (rI m 0 9)) rfl dX6_isHold_4 ?_
  refine g_iconst (v := (1 : Int32)) C dX6_isHold_7 (by decide) ?_
  refine g_isub C dX6_isHold_8 ?_
  refine g_i2l C dX6_isHold_9 ?_
  obtain ⟨r1, hX2, h⟩ := bd1_inv h
  refine g_callS C (c_X6_in l hX2) (cwSw 3 C.2.2.2.2.1 wl_1089 wl_1090 wl_121 wl_1091 rfl rfl (by decide +kernel) ⟨Nat.le_of_ble_eq_true rfl, Nat.le_of_ble_eq_true rfl⟩) rfl rfl rfl (Nat.le_of_ble_eq_true rfl) dX6_isHold_10 ?_
  obtain ⟨hz, h⟩ := Gu_inv h
  obtain rfl := so_inj h
  exact g_zret C hr hlk dX6_isHold_13 hz rfl

def rmX6_inside : Room := { frames := 0, cells := 0, slots := 0, locals := 0 }
set_option maxRecDepth 100000 in
set_option maxHeartbeats 4000000 in
theorem c_X6_inside (l : Launch) {F : Nat}  {a0 : Int32}  {m : MM} {r : Int32} (h : f_X6_inside F a0 m = some r) : CT l yX6_inside cX6_inside 4 (some .int) rmX6_inside cfM 23 (fun ad tb => [.ref (ad 0), .int a0]) m (some (.int r)) m := by
  refine CT.of (cc := cX6_inside) (maxL := 4) (ret := (some .int)) (by decide) ⟨rfl, rfl⟩ (fun _ _ => Nat.le_of_ble_eq_true rfl) ?_
  intro p e s mt args below meth c D cA ad tb C hr hlk
  refine g_lv (lv' := [(0, .ref (ad 0)), (1, .int a0)]) rfl ?_
  have hcl6 : ∀ w ∈ wsX60, w.before args s = true := fun w hw => C.2.2.2.2.1 w (inlX6 w hw)
  unfold f_X6_inside at h
  refine g_iconst (v := (0 : Int32)) C dX6_inside_0 (by decide) ?_
  refine g_istore_n (lv' := [(2, .int (0 : Int32)), (0, .ref (ad 0)), (1, .int a0)]) C dX6_inside_1 rfl (by decide) rfl ?_
  refine g_iconst (v := (0 : Int32)) C dX6_inside_2 (by decide) ?_
  refine g_istore_n (lv' := [(3, .int (0 : Int32)), (2, .int (0 : Int32)), (0, .ref (ad 0)), (1, .int a0)]) C dX6_inside_3 rfl (by decide) rfl ?_
  refine g_sub [2, 3, 1, 0] rfl ?_
  refine g_loop_II (L := f_X6_inside_L4 a0 m) h 4 46 (fun x2_1 x3_2 => [(0, .ref (ad 0)), (1, .int a0), (2, .int x2_1), (3, .int x3_2)]) (fun x2_1 x3_2 => [(2, .int x2_1)]) (fun x2_1 x3_2 => []) (fun x2_1 x3_2 => []) ?_ ?_ (fun _ _ _ => rfl)
  · intro x2_1 x3_2 h
    refine g_iload_n C dX6_inside_46 rfl 0 rfl ?_
    obtain rfl := so_inj h
    exact g_iret C hr hlk dX6_inside_47 rfl
  · intro K3 hK3 n ih x2_1 x3_2 h
    rw [f_X6_inside_L4] at h
    refine g_iload_n C dX6_inside_4 rfl 3 rfl ?_
    refine g_aload_n C dX6_inside_5 rfl 0 rfl ?_
    refine g_get C (T := TX6) hcl6 mO_0 rfl (j := 14) (by decide) wl_933 (v := .int (rI m 0 14)) rfl dX6_inside_6 ?_
    refine g_icmp_ge (tgt := 46) C dX6_inside_9 (by decide) h (fun h => ?_) (fun h => ?_)
    · exact g_sub [2] rfl (hK3 _ _ h)
    · refine g_iload_n C dX6_inside_12 rfl 2 rfl ?_
      refine g_iload_n C dX6_inside_13 rfl 3 rfl ?_
      refine g_aload_n C dX6_inside_14 rfl 0 rfl ?_
      refine g_get C (T := TX6) hcl6 mO_0 rfl (j := 18) (by decide) wl_937 (v := .int (rI m 0 18)) rfl dX6_inside_15 ?_
      refine g_join_I h 36 (fun s4 => [(0, .ref (ad 0)), (1, .int a0), (3, .int x3_2)]) (fun s4 => [.int s4, .int x2_1]) ?_ ?_
      · intro s4 h
        refine g_iload_n C dX6_inside_36 rfl 2 rfl ?_
        refine g_ishl C dX6_inside_37 ?_
        refine g_ior C dX6_inside_38 ?_
        refine nm_i h (fun x2_6 h => ?_)
        refine g_istore_n (lv' := [(2, .int x2_6), (0, .ref (ad 0)), (1, .int a0), (3, .int x3_2)]) C dX6_inside_39 rfl (by decide) rfl ?_
        refine g_iinc (lv' := [(2, .int x2_6), (0, .ref (ad 0)), (1, .int a0)]) C dX6_inside_40 (q := 3) rfl (by decide) h rfl (fun _ => rfl) (fun x3_7 h => ?_)
        refine g_goto (tgt := 4) C dX6_inside_43 (by decide) ?_
        exact g_sub [2, 3, 1, 0] rfl (ih _ _ h)
      intro J5 hJ5 h
      refine g_join_ h 35 ([(0, .ref (ad 0)), (1, .int a0), (3, .int x3_2)]) ([.int x2_1]) ?_ ?_
      · intro h
        refine g_iconst (v := (0 : Int32)) C dX6_inside_35 (by decide) ?_
        exact g_sub [0, 1, 2] rfl (hJ5 _ h)
      intro J8 hJ8 h
      refine g_icmp_eq (tgt := 35) C dX6_inside_18 (by decide) h (fun h => ?_) (fun h => ?_)
      · exact g_sub [0, 1, 3] rfl (hJ8  h)
      · refine g_aload_n C dX6_inside_21 rfl 0 rfl ?_
        refine g_get C (T := TX6) hcl6 mO_0 rfl (j := 12) (by decide) wl_931 (v := .ref (ad 8)) rfl dX6_inside_22 ?_
        refine g_iload_n C dX6_inside_25 rfl 3 rfl ?_
        refine g_iald C mI_8 dX6_inside_26 h (fun h => ?_)
        refine g_iload_n C dX6_inside_27 rfl 1 rfl ?_
        refine g_icmp_ne (tgt := 35) C dX6_inside_28 (by decide) h (fun h => ?_) (fun h => ?_)
        · refine g_iconst (v := (1 : Int32)) C dX6_inside_31 (by decide) ?_
          refine g_goto (tgt := 36) C dX6_inside_32 (by decide) ?_
          exact g_sub [0, 1, 3] rfl (hJ5 _ h)
        · exact g_sub [0, 1, 3] rfl (hJ8  h)

def rmX6_sizeOf : Room := { frames := 0, cells := 0, slots := 0, locals := 0 }
set_option maxRecDepth 100000 in
set_option maxHeartbeats 4000000 in
theorem c_X6_sizeOf (l : Launch) {F : Nat}  {a0 : Int32}  {m : MM} {r : Int32} (h : f_X6_sizeOf F a0 m = some r) : CT l yX6_sizeOf cX6_sizeOf 4 (some .int) rmX6_sizeOf cfM 23 (fun ad tb => [.ref (ad 0), .int a0]) m (some (.int r)) m := by
  refine CT.of (cc := cX6_sizeOf) (maxL := 4) (ret := (some .int)) (by decide) ⟨rfl, rfl⟩ (fun _ _ => Nat.le_of_ble_eq_true rfl) ?_
  intro p e s mt args below meth c D cA ad tb C hr hlk
  refine g_lv (lv' := [(0, .ref (ad 0)), (1, .int a0)]) rfl ?_
  have hcl6 : ∀ w ∈ wsX60, w.before args s = true := fun w hw => C.2.2.2.2.1 w (inlX6 w hw)
  unfold f_X6_sizeOf at h
  refine g_iconst (v := (0 : Int32)) C dX6_sizeOf_0 (by decide) ?_
  refine g_istore_n (lv' := [(2, .int (0 : Int32)), (0, .ref (ad 0)), (1, .int a0)]) C dX6_sizeOf_1 rfl (by decide) rfl ?_
  refine g_iconst (v := (0 : Int32)) C dX6_sizeOf_2 (by decide) ?_
  refine g_istore_n (lv' := [(3, .int (0 : Int32)), (2, .int (0 : Int32)), (0, .ref (ad 0)), (1, .int a0)]) C dX6_sizeOf_3 rfl (by decide) rfl ?_
  refine g_sub [2, 3, 1, 0] rfl ?_
  refine g_loop_II (L := f_X6_sizeOf_L4 a0 m) h 4 40 (fun x2_1 x3_2 => [(0, .ref (ad 0)), (1, .int a0), (2, .int x2_1), (3, .int x3_2)]) (fun x2_1 x3_2 => [(2, .int x2_1)]) (fun x2_1 x3_2 => []) (fun x2_1 x3_2 => []) ?_ ?_ (fun _ _ _ => rfl)
  · intro x2_1 x3_2 h
    refine g_iload_n C dX6_sizeOf_40 rfl 0 rfl ?_
    obtain rfl := so_inj h
    exact g_iret C hr hlk dX6_sizeOf_41 rfl
  · intro K3 hK3 n ih x2_1 x3_2 h
    rw [f_X6_sizeOf_L4] at h
    refine g_iload_n C dX6_sizeOf_4 rfl 3 rfl ?_
    refine g_aload_n C dX6_sizeOf_5 rfl 0 rfl ?_
    refine g_get C (T := TX6) hcl6 mO_0 rfl (j := 14) (by decide) wl_933 (v := .int (rI m 0 14)) rfl dX6_sizeOf_6 ?_
    refine g_icmp_ge (tgt := 40) C dX6_sizeOf_9 (by decide) h (fun h => ?_) (fun h => ?_)
    · exact g_sub [2] rfl (hK3 _ _ h)
    · refine g_iload_n C dX6_sizeOf_12 rfl 2 rfl ?_
      refine g_iload_n C dX6_sizeOf_13 rfl 1 rfl ?_
      refine g_iload_n C dX6_sizeOf_14 rfl 3 rfl ?_
      refine g_ishr C dX6_sizeOf_15 ?_
      refine g_iconst (v := (1 : Int32)) C dX6_sizeOf_16 (by decide) ?_
      refine g_iand C dX6_sizeOf_17 ?_
      refine g_iconst (v := (1 : Int32)) C dX6_sizeOf_18 (by decide) ?_
      refine g_join_I h 32 (fun s4 => [(0, .ref (ad 0)), (1, .int a0), (3, .int x3_2)]) (fun s4 => [.int s4, .int x2_1]) ?_ ?_
      · intro s4 h
        refine g_iadd C dX6_sizeOf_32 ?_
        refine nm_i h (fun x2_6 h => ?_)
        refine g_istore_n (lv' := [(2, .int x2_6), (0, .ref (ad 0)), (1, .int a0), (3, .int x3_2)]) C dX6_sizeOf_33 rfl (by decide) rfl ?_
        refine g_iinc (lv' := [(2, .int x2_6), (0, .ref (ad 0)), (1, .int a0)]) C dX6_sizeOf_34 (q := 3) rfl (by decide) h rfl (fun _ => rfl) (fun x3_7 h => ?_)
        refine g_goto (tgt := 4) C dX6_sizeOf_37 (by decide) ?_
        exact g_sub [2, 3, 1, 0] rfl (ih _ _ h)
      intro J5 hJ5 h
      refine g_icmp_ne (tgt := 31) C dX6_sizeOf_19 (by decide) h (fun h => ?_) (fun h => ?_)
      · refine g_aload_n C dX6_sizeOf_22 rfl 0 rfl ?_
        refine g_get C (T := TX6) hcl6 mO_0 rfl (j := 10) (by decide) wl_929 (v := .ref (ad 6)) rfl dX6_sizeOf_23 ?_
        refine g_iload_n C dX6_sizeOf_26 rfl 3 rfl ?_
        refine g_iald C mI_6 dX6_sizeOf_27 h (fun h => ?_)
        refine g_goto (tgt := 32) C dX6_sizeOf_28 (by decide) ?_
        exact g_sub [0, 1, 3] rfl (hJ5 _ h)
      · refine g_iconst (v := (0 : Int32)) C dX6_sizeOf_31 (by decide) ?_
        exact g_sub [0, 1, 3] rfl (hJ5 _ h)

def rmX6_roomOf : Room := { frames := 0, cells := 0, slots := 0, locals := 0 }
set_option maxRecDepth 100000 in
set_option maxHeartbeats 4000000 in
theorem c_X6_roomOf (l : Launch)  {a0 : Int32}  {m : MM} {r : Int32} (h : f_X6_roomOf a0 m = some r) : CT l yX6_roomOf cX6_roomOf 5 (some .int) rmX6_roomOf cfM 23 (fun ad tb => [.ref (ad 0), .int a0]) m (some (.int r)) m := by
  refine CT.of (cc := cX6_roomOf) (maxL := 5) (ret := (some .int)) (by decide) ⟨rfl, rfl⟩ (fun _ _ => Nat.le_of_ble_eq_true rfl) ?_
  intro p e s mt args below meth c D cA ad tb C hr hlk
  refine g_lv (lv' := [(0, .ref (ad 0)), (1, .int a0)]) rfl ?_
  have hcl6 : ∀ w ∈ wsX60, w.before args s = true := fun w hw => C.2.2.2.2.1 w (inlX6 w hw)
  unfold f_X6_roomOf at h
  refine g_aload_n C dX6_roomOf_0 rfl 0 rfl ?_
  refine g_get C (T := TX6) hcl6 mO_0 rfl (j := 7) (by decide) wl_926 (v := .ref (ad 4)) rfl dX6_roomOf_1 ?_
  refine g_iload_n C dX6_roomOf_4 rfl 1 rfl ?_
  refine g_iald C mI_4 dX6_roomOf_5 h (fun h => ?_)
  refine nm_i h (fun x2_1 h => ?_)
  refine g_istore_n (lv' := [(2, .int x2_1), (0, .ref (ad 0)), (1, .int a0)]) C dX6_roomOf_6 rfl (by decide) rfl ?_
  refine g_aload_n C dX6_roomOf_7 rfl 1 rfl ?_
  refine g_get C (T := TX6) hcl6 mO_0 rfl (j := 8) (by decide) wl_927 (v := .ref (ad 5)) rfl dX6_roomOf_8 ?_
  refine g_iload_n C dX6_roomOf_11 rfl 2 rfl ?_
  refine g_iald C mI_5 dX6_roomOf_12 h (fun h => ?_)
  refine g_bipush (v := (6 : Int32)) C dX6_roomOf_13 (by decide) ?_
  refine g_iadd C dX6_roomOf_15 ?_
  refine nm_i h (fun x3_2 h => ?_)
  refine g_istore_n (lv' := [(3, .int x3_2), (2, .int x2_1), (0, .ref (ad 0)), (1, .int a0)]) C dX6_roomOf_16 rfl (by decide) rfl ?_
  refine g_iload_n C dX6_roomOf_17 rfl 1 rfl ?_
  refine g_join_I h 73 (fun s3 => [(0, .ref (ad 0)), (1, .int a0)]) (fun s3 => [.int s3]) ?_ ?_
  · intro s3 h
    refine g_istore (lv' := [(4, .int s3), (0, .ref (ad 0)), (1, .int a0)]) C dX6_roomOf_73 (by decide) rfl ?_
    refine g_iload_n C dX6_roomOf_75 rfl 2 rfl ?_
    refine g_aload_n C dX6_roomOf_76 rfl 1 rfl ?_
    refine g_get C (T := TX6) hcl6 mO_0 rfl (j := 17) (by decide) wl_936 (v := .int (rI m 0 17)) rfl dX6_roomOf_77 ?_
    refine g_icmp_ne (tgt := 90) C dX6_roomOf_80 (by decide) h (fun h => ?_) (fun h => ?_)
    · refine g_iload C dX6_roomOf_83 0 rfl ?_
      refine g_iconst (v := (1 : Int32)) C dX6_roomOf_85 (by decide) ?_
      refine g_iadd C dX6_roomOf_86 ?_
      refine g_goto (tgt := 92) C dX6_roomOf_87 (by decide) ?_
      obtain rfl := so_inj h
      exact g_iret C hr hlk dX6_roomOf_92 rfl
    · refine g_iload C dX6_roomOf_90 0 rfl ?_
      obtain rfl := so_inj h
      exact g_iret C hr hlk dX6_roomOf_92 rfl
  intro J4 hJ4 h
  refine g_if_ne (tgt := 25) C dX6_roomOf_18 (by decide) h (fun h => ?_) (fun h => ?_)
  · refine g_iload_n C dX6_roomOf_21 rfl 0 rfl ?_
    refine g_goto (tgt := 73) C dX6_roomOf_22 (by decide) ?_
    exact g_sub [2, 3] rfl (hJ4 _ h)
  · refine g_iload_n C dX6_roomOf_25 rfl 1 rfl ?_
    refine g_iconst (v := (1 : Int32)) C dX6_roomOf_26 (by decide) ?_
    refine g_icmp_ne (tgt := 36) C dX6_roomOf_27 (by decide) h (fun h => ?_) (fun h => ?_)
    · refine g_iload_n C dX6_roomOf_30 rfl 0 rfl ?_
      refine g_iconst (v := (3 : Int32)) C dX6_roomOf_31 (by decide) ?_
      refine g_isub C dX6_roomOf_32 ?_
      refine g_goto (tgt := 73) C dX6_roomOf_33 (by decide) ?_
      exact g_sub [2, 3] rfl (hJ4 _ h)
    · refine g_iload_n C dX6_roomOf_36 rfl 1 rfl ?_
      refine g_iconst (v := (2 : Int32)) C dX6_roomOf_37 (by decide) ?_
      refine g_join_ h 46 ([(0, .ref (ad 0)), (1, .int a0), (3, .int x3_2)]) ([]) ?_ ?_
      · intro h
        refine g_iconst (v := (2 : Int32)) C dX6_roomOf_46 (by decide) ?_
        refine g_iload_n C dX6_roomOf_47 rfl 2 rfl ?_
        refine g_imul C dX6_roomOf_48 ?_
        refine g_goto (tgt := 73) C dX6_roomOf_49 (by decide) ?_
        exact g_sub [0, 1] rfl (hJ4 _ h)
      intro J5 hJ5 h
      refine g_icmp_eq (tgt := 46) C dX6_roomOf_38 (by decide) h (fun h => ?_) (fun h => ?_)
      · exact g_sub [2, 3, 0] rfl (hJ5  h)
      · refine g_iload_n C dX6_roomOf_41 rfl 1 rfl ?_
        refine g_iconst (v := (5 : Int32)) C dX6_roomOf_42 (by decide) ?_
        refine g_icmp_ne (tgt := 52) C dX6_roomOf_43 (by decide) h (fun h => ?_) (fun h => ?_)
        · exact g_sub [2, 3, 0] rfl (hJ5  h)
        · refine g_iload_n C dX6_roomOf_52 rfl 1 rfl ?_
          refine g_iconst (v := (3 : Int32)) C dX6_roomOf_53 (by decide) ?_
          refine g_icmp_ne (tgt := 65) C dX6_roomOf_54 (by decide) h (fun h => ?_) (fun h => ?_)
          · refine g_iload_n C dX6_roomOf_57 rfl 0 rfl ?_
            refine g_iconst (v := (3 : Int32)) C dX6_roomOf_58 (by decide) ?_
            refine g_isub C dX6_roomOf_59 ?_
            refine g_iconst (v := (2 : Int32)) C dX6_roomOf_60 (by decide) ?_
            refine g_idiv C dX6_roomOf_61 h (fun h => ?_)
            refine g_goto (tgt := 73) C dX6_roomOf_62 (by decide) ?_
            exact g_sub [2, 3] rfl (hJ4 _ h)
          · refine g_aload_n C dX6_roomOf_65 rfl 2 rfl ?_
            refine g_get C (T := TX6) hcl6 mO_0 rfl (j := 8) (by decide) wl_927 (v := .ref (ad 5)) rfl dX6_roomOf_66 ?_
            refine g_iload_n C dX6_roomOf_69 rfl 3 rfl ?_
            refine g_iald C mI_5 dX6_roomOf_70 h (fun h => ?_)
            refine g_iconst (v := (1 : Int32)) C dX6_roomOf_71 (by decide) ?_
            refine g_iadd C dX6_roomOf_72 ?_
            exact g_sub [2, 3] rfl (hJ4 _ h)

def rmX6_bitsOf : Room := { frames := 0, cells := 0, slots := 0, locals := 0 }
set_option maxRecDepth 100000 in
set_option maxHeartbeats 4000000 in
theorem c_X6_bitsOf (l : Launch) {F : Nat}  {a0 : Int32}  {m : MM} {r : Int32} (h : f_X6_bitsOf F a0 m = some r) : CT l yX6_bitsOf cX6_bitsOf 3 (some .int) rmX6_bitsOf cfM 23 (fun ad tb => [.int a0]) m (some (.int r)) m := by
  refine CT.of (cc := cX6_bitsOf) (maxL := 3) (ret := (some .int)) (by decide) ⟨rfl, rfl⟩ (fun _ _ => Nat.le_of_ble_eq_true rfl) ?_
  intro p e s mt args below meth c D cA ad tb C hr hlk
  refine g_lv (lv' := [(0, .int a0)]) rfl ?_
  unfold f_X6_bitsOf at h
  refine g_iconst (v := (0 : Int32)) C dX6_bitsOf_0 (by decide) ?_
  refine g_istore_n (lv' := [(1, .int (0 : Int32)), (0, .int a0)]) C dX6_bitsOf_1 rfl (by decide) rfl ?_
  refine g_iload_n C dX6_bitsOf_2 rfl 1 rfl ?_
  refine g_istore_n (lv' := [(2, .int a0), (1, .int (0 : Int32)), (0, .int a0)]) C dX6_bitsOf_3 rfl (by decide) rfl ?_
  refine g_sub [1, 0] rfl ?_
  refine g_loop_II (L := f_X6_bitsOf_L4) h 4 20 (fun x1_1 x2_2 => [(1, .int x1_1), (2, .int x2_2)]) (fun x1_1 x2_2 => [(1, .int x1_1)]) (fun x1_1 x2_2 => []) (fun x1_1 x2_2 => []) ?_ ?_ (fun _ _ _ => rfl)
  · intro x1_1 x2_2 h
    refine g_iload_n C dX6_bitsOf_20 rfl 0 rfl ?_
    obtain rfl := so_inj h
    exact g_iret C hr hlk dX6_bitsOf_21 rfl
  · intro K3 hK3 n ih x1_1 x2_2 h
    rw [f_X6_bitsOf_L4] at h
    refine g_iload_n C dX6_bitsOf_4 rfl 1 rfl ?_
    refine g_if_eq (tgt := 20) C dX6_bitsOf_5 (by decide) h (fun h => ?_) (fun h => ?_)
    · exact g_sub [0] rfl (hK3 _ _ h)
    · refine g_iinc (lv' := [(2, .int x2_2)]) C dX6_bitsOf_8 (q := 0) rfl (by decide) h rfl (fun _ => rfl) (fun x1_4 h => ?_)
      refine g_iload_n C dX6_bitsOf_11 rfl 1 rfl ?_
      refine g_iload_n C dX6_bitsOf_12 rfl 1 rfl ?_
      refine g_iconst (v := (1 : Int32)) C dX6_bitsOf_13 (by decide) ?_
      refine g_isub C dX6_bitsOf_14 ?_
      refine g_iand C dX6_bitsOf_15 ?_
      refine nm_i h (fun x2_5 h => ?_)
      refine g_istore_n (lv' := [(2, .int x2_5), (1, .int x1_4)]) C dX6_bitsOf_16 rfl (by decide) rfl ?_
      refine g_goto (tgt := 4) C dX6_bitsOf_17 (by decide) ?_
      exact g_sub [1, 0] rfl (ih _ _ h)

def rmX6_mostOf : Room := { frames := 0, cells := 0, slots := 0, locals := 0 }
set_option maxRecDepth 100000 in
set_option maxHeartbeats 4000000 in
theorem c_X6_mostOf (l : Launch)  {a0 : Int32}  {m : MM} {r : Int32} (h : f_X6_mostOf a0 m = some r) : CT l yX6_mostOf cX6_mostOf 3 (some .int) rmX6_mostOf cfM 23 (fun ad tb => [.ref (ad 0), .int a0]) m (some (.int r)) m := by
  refine CT.of (cc := cX6_mostOf) (maxL := 3) (ret := (some .int)) (by decide) ⟨rfl, rfl⟩ (fun _ _ => Nat.le_of_ble_eq_true rfl) ?_
  intro p e s mt args below meth c D cA ad tb C hr hlk
  refine g_lv (lv' := [(0, .ref (ad 0)), (1, .int a0)]) rfl ?_
  have hcl6 : ∀ w ∈ wsX60, w.before args s = true := fun w hw => C.2.2.2.2.1 w (inlX6 w hw)
  unfold f_X6_mostOf at h
  refine g_aload_n C dX6_mostOf_0 rfl 0 rfl ?_
  refine g_get C (T := TX6) hcl6 mO_0 rfl (j := 7) (by decide) wl_926 (v := .ref (ad 4)) rfl dX6_mostOf_1 ?_
  refine g_iload_n C dX6_mostOf_4 rfl 1 rfl ?_
  refine g_iald C mI_4 dX6_mostOf_5 h (fun h => ?_)
  refine nm_i h (fun x2_1 h => ?_)
  refine g_istore_n (lv' := [(2, .int x2_1), (0, .ref (ad 0)), (1, .int a0)]) C dX6_mostOf_6 rfl (by decide) rfl ?_
  refine g_iload_n C dX6_mostOf_7 rfl 0 rfl ?_
  refine g_iconst (v := (1 : Int32)) C dX6_mostOf_8 (by decide) ?_
  refine g_icmp_ne (tgt := 16) C dX6_mostOf_9 (by decide) h (fun h => ?_) (fun h => ?_)
  · refine g_iconst (v := (3 : Int32)) C dX6_mostOf_12 (by decide) ?_
    refine g_goto (tgt := 31) C dX6_mostOf_13 (by decide) ?_
    obtain rfl := so_inj h
    exact g_iret C hr hlk dX6_mostOf_31 rfl
  · refine g_iload_n C dX6_mostOf_16 rfl 0 rfl ?_
    refine g_iconst (v := (3 : Int32)) C dX6_mostOf_17 (by decide) ?_
    refine g_icmp_eq (tgt := 26) C dX6_mostOf_18 (by decide) h (fun h => ?_) (fun h => ?_)
    · refine g_iconst (v := (1 : Int32)) C dX6_mostOf_26 (by decide) ?_
      refine g_goto (tgt := 31) C dX6_mostOf_27 (by decide) ?_
      obtain rfl := so_inj h
      exact g_iret C hr hlk dX6_mostOf_31 rfl
    · refine g_iload_n C dX6_mostOf_21 rfl 0 rfl ?_
      refine g_iconst (v := (4 : Int32)) C dX6_mostOf_22 (by decide) ?_
      refine g_icmp_ne (tgt := 30) C dX6_mostOf_23 (by decide) h (fun h => ?_) (fun h => ?_)
      · refine g_iconst (v := (1 : Int32)) C dX6_mostOf_26 (by decide) ?_
        refine g_goto (tgt := 31) C dX6_mostOf_27 (by decide) ?_
        obtain rfl := so_inj h
        exact g_iret C hr hlk dX6_mostOf_31 rfl
      · refine g_iconst (v := (5 : Int32)) C dX6_mostOf_30 (by decide) ?_
        obtain rfl := so_inj h
        exact g_iret C hr hlk dX6_mostOf_31 rfl

def rmX6_wetOf : Room := { frames := 0, cells := 0, slots := 0, locals := 0 }
set_option maxRecDepth 100000 in
set_option maxHeartbeats 4000000 in
theorem c_X6_wetOf (l : Launch)  {a0 : Int32}  {m : MM} {r : Int32} (h : f_X6_wetOf a0 m = some r) : CT l yX6_wetOf cX6_wetOf 2 (some .int) rmX6_wetOf cfM 23 (fun ad tb => [.ref (ad 0), .int a0]) m (some (.int r)) m := by
  refine CT.of (cc := cX6_wetOf) (maxL := 2) (ret := (some .int)) (by decide) ⟨rfl, rfl⟩ (fun _ _ => Nat.le_of_ble_eq_true rfl) ?_
  intro p e s mt args below meth c D cA ad tb C hr hlk
  refine g_lv (lv' := [(0, .ref (ad 0)), (1, .int a0)]) rfl ?_
  have hcl6 : ∀ w ∈ wsX60, w.before args s = true := fun w hw => C.2.2.2.2.1 w (inlX6 w hw)
  unfold f_X6_wetOf at h
  refine g_aload_n C dX6_wetOf_0 rfl 0 rfl ?_
  refine g_get C (T := TX6) hcl6 mO_0 rfl (j := 7) (by decide) wl_926 (v := .ref (ad 4)) rfl dX6_wetOf_1 ?_
  refine g_iload_n C dX6_wetOf_4 rfl 1 rfl ?_
  refine g_iald C mI_4 dX6_wetOf_5 h (fun h => ?_)
  refine g_iconst (v := (5 : Int32)) C dX6_wetOf_6 (by decide) ?_
  refine g_icmp_ne (tgt := 14) C dX6_wetOf_7 (by decide) h (fun h => ?_) (fun h => ?_)
  · refine g_iconst (v := (1 : Int32)) C dX6_wetOf_10 (by decide) ?_
    refine g_goto (tgt := 15) C dX6_wetOf_11 (by decide) ?_
    obtain rfl := so_inj h
    exact g_iret C hr hlk dX6_wetOf_15 rfl
  · refine g_iconst (v := (0 : Int32)) C dX6_wetOf_14 (by decide) ?_
    obtain rfl := so_inj h
    exact g_iret C hr hlk dX6_wetOf_15 rfl

def rmX6_bars : Room := { frames := 1, cells := 0, slots := 0, locals := 24 }
set_option maxRecDepth 100000 in
set_option maxHeartbeats 4000000 in
theorem c_X6_bars (l : Launch) {F : Nat}  {a0 : Int32} {a1 : Int32} {a2 : Int32} {a3 : Int32} {a4 : Int32}  {m : MM} {r : Int32} (h : f_X6_bars F a0 a1 a2 a3 a4 m = some r) : CT l yX6_bars cX6_bars 6 (some .int) rmX6_bars cfM 23 (fun ad tb => [.ref (ad 0), .int a0, .int a1, .int a2, .int a3, .int a4]) m (some (.int r)) m := by
  refine CT.of (cc := cX6_bars) (maxL := 6) (ret := (some .int)) (by decide) ⟨rfl, rfl⟩ (fun _ _ => Nat.le_of_ble_eq_true rfl) ?_
  intro p e s mt args below meth c D cA ad tb C hr hlk
  refine g_lv (lv' := [(0, .ref (ad 0)), (1, .int a0), (2, .int a1), (3, .int a2), (4, .int a3), (5, .int a4)]) rfl ?_
  unfold f_X6_bars at h
  refine g_aload_n C dX6_bars_0 rfl 0 rfl ?_
  refine g_iload C dX6_bars_1 5 rfl ?_
  obtain ⟨r1, hX2, h⟩ := bd1_inv h
  refine g_callV C (c_X6_sizeOf l hX2) (cwVw 1 C.2.2.2.2.1 wl_1111 wl_1113 wl_39 wl_121 wl_1114 rfl rfl (by decide +kernel) ⟨Nat.le_of_ble_eq_true rfl, Nat.le_of_ble_eq_true rfl⟩) mO_0 rfl rfl rfl rfl (Nat.le_of_ble_eq_true rfl) dX6_bars_3 ?_
  refine g_iload_n C dX6_bars_6 rfl 1 rfl ?_
  refine g_iadd C dX6_bars_7 ?_
  refine g_aload_n C dX6_bars_8 rfl 0 rfl ?_
  refine g_iload C dX6_bars_9 4 rfl ?_
  obtain ⟨r3, hX4, h⟩ := bd1_inv h
  refine g_callV C (c_X6_roomOf l hX4) (cwVw 1 C.2.2.2.2.1 wl_1115 wl_1117 wl_40 wl_121 wl_1118 rfl rfl (by decide +kernel) ⟨Nat.le_of_ble_eq_true rfl, Nat.le_of_ble_eq_true rfl⟩) mO_0 rfl rfl rfl rfl (Nat.le_of_ble_eq_true rfl) dX6_bars_11 ?_
  refine g_icmp_le (tgt := 19) C dX6_bars_14 (by decide) h (fun h => ?_) (fun h => ?_)
  · refine g_iload C dX6_bars_19 5 rfl ?_
    obtain ⟨r5, hX6, h⟩ := bd1_inv h
    refine g_callS C (c_X6_bitsOf l hX6) (cwSw 1 C.2.2.2.2.1 wl_1119 wl_1120 wl_121 wl_1121 rfl rfl (by decide +kernel) ⟨Nat.le_of_ble_eq_true rfl, Nat.le_of_ble_eq_true rfl⟩) rfl rfl rfl (Nat.le_of_ble_eq_true rfl) dX6_bars_21 ?_
    refine g_iconst (v := (1 : Int32)) C dX6_bars_24 (by decide) ?_
    refine g_iadd C dX6_bars_25 ?_
    refine g_aload_n C dX6_bars_26 rfl 0 rfl ?_
    refine g_iload C dX6_bars_27 4 rfl ?_
    obtain ⟨r7, hX8, h⟩ := bd1_inv h
    refine g_callV C (c_X6_mostOf l hX8) (cwVw 1 C.2.2.2.2.1 wl_1122 wl_1124 wl_41 wl_121 wl_1125 rfl rfl (by decide +kernel) ⟨Nat.le_of_ble_eq_true rfl, Nat.le_of_ble_eq_true rfl⟩) mO_0 rfl rfl rfl rfl (Nat.le_of_ble_eq_true rfl) dX6_bars_29 ?_
    refine g_icmp_le (tgt := 37) C dX6_bars_32 (by decide) h (fun h => ?_) (fun h => ?_)
    · refine g_iload_n C dX6_bars_37 rfl 2 rfl ?_
      refine g_iconst (v := (1 : Int32)) C dX6_bars_38 (by decide) ?_
      refine g_join_ h 54 ([(3, .int a2), (5, .int a4)]) ([]) ?_ ?_
      · intro h
        refine g_iload C dX6_bars_54 1 rfl ?_
        refine g_iload_n C dX6_bars_56 rfl 0 rfl ?_
        refine g_iand C dX6_bars_57 ?_
        refine g_if_eq (tgt := 65) C dX6_bars_58 (by decide) h (fun h => ?_) (fun h => ?_)
        · refine g_iconst (v := (0 : Int32)) C dX6_bars_65 (by decide) ?_
          obtain rfl := so_inj h
          exact g_iret C hr hlk dX6_bars_66 rfl
        · refine g_iconst (v := (5 : Int32)) C dX6_bars_61 (by decide) ?_
          refine g_goto (tgt := 66) C dX6_bars_62 (by decide) ?_
          obtain rfl := so_inj h
          exact g_iret C hr hlk dX6_bars_66 rfl
      intro J9 hJ9 h
      refine g_icmp_ne (tgt := 54) C dX6_bars_39 (by decide) h (fun h => ?_) (fun h => ?_)
      · refine g_aload_n C dX6_bars_42 rfl 0 rfl ?_
        refine g_iload C dX6_bars_43 4 rfl ?_
        obtain ⟨r10, hX11, h⟩ := bd1_inv h
        refine g_callV C (c_X6_wetOf l hX11) (cwVw 1 C.2.2.2.2.1 wl_1126 wl_1128 wl_42 wl_121 wl_1129 rfl rfl (by decide +kernel) ⟨Nat.le_of_ble_eq_true rfl, Nat.le_of_ble_eq_true rfl⟩) mO_0 rfl rfl rfl rfl (Nat.le_of_ble_eq_true rfl) dX6_bars_45 ?_
        refine g_iconst (v := (1 : Int32)) C dX6_bars_48 (by decide) ?_
        refine g_icmp_ne (tgt := 54) C dX6_bars_49 (by decide) h (fun h => ?_) (fun h => ?_)
        · refine g_iconst (v := (4 : Int32)) C dX6_bars_52 (by decide) ?_
          obtain rfl := so_inj h
          exact g_iret C hr hlk dX6_bars_53 rfl
        · exact g_sub [3, 5] rfl (hJ9  h)
      · exact g_sub [3, 5] rfl (hJ9  h)
    · refine g_iconst (v := (3 : Int32)) C dX6_bars_35 (by decide) ?_
      obtain rfl := so_inj h
      exact g_iret C hr hlk dX6_bars_36 rfl
  · refine g_iconst (v := (2 : Int32)) C dX6_bars_17 (by decide) ?_
    obtain rfl := so_inj h
    exact g_iret C hr hlk dX6_bars_18 rfl

def rmX6_thing : Room := { frames := 2, cells := 0, slots := 0, locals := 49 }
set_option maxRecDepth 100000 in
set_option maxHeartbeats 4000000 in
theorem c_X6_thing (l : Launch) {F : Nat}  {a0 : Int32} {a1 : Int32}  {m : MM} {m' : MM} {r : Int32} (h : f_X6_thing F a0 a1 m = some (r, m')) : CT l yX6_thing cX6_thing 4 (some .int) rmX6_thing cfM 23 (fun ad tb => [.ref (ad 0), .int a0, .int a1]) m (some (.int r)) m' := by
  refine CT.of (cc := cX6_thing) (maxL := 4) (ret := (some .int)) (by decide) ⟨rfl, rfl⟩ (fun _ _ => Nat.le_of_ble_eq_true rfl) ?_
  intro p e s mt args below meth c D cA ad tb C hr hlk
  refine g_lv (lv' := [(0, .ref (ad 0)), (1, .int a0), (2, .int a1)]) rfl ?_
  have hcl6 : ∀ w ∈ wsX60, w.before args s = true := fun w hw => C.2.2.2.2.1 w (inlX6 w hw)
  unfold f_X6_thing at h
  refine g_iload_n C dX6_thing_0 rfl 1 rfl ?_
  refine g_i2l C dX6_thing_1 ?_
  refine g_ldc2 (v := (10 : Int64)) C dX6_thing_2 wl_1097 ?_
  refine g_ldc2 (v := (99 : Int64)) C dX6_thing_5 wl_1098 ?_
  obtain ⟨r1, hX2, h⟩ := bd1_inv h
  refine g_callS C (c_X6_in l hX2) (cwSw 3 C.2.2.2.2.1 wl_1089 wl_1090 wl_121 wl_1091 rfl rfl (by decide +kernel) ⟨Nat.le_of_ble_eq_true rfl, Nat.le_of_ble_eq_true rfl⟩) rfl rfl rfl (Nat.le_of_ble_eq_true rfl) dX6_thing_8 ?_
  refine g_if_eq (tgt := 30) C dX6_thing_11 (by decide) h (fun h => ?_) (fun h => ?_)
  · refine g_bipush (v := (-2 : Int32)) C dX6_thing_30 (by decide) ?_
    obtain ⟨rfl, rfl⟩ := sp_inj h
    exact g_iret C hr hlk dX6_thing_32 rfl
  · refine g_iload_n C dX6_thing_14 rfl 1 rfl ?_
    refine g_bipush (v := (10 : Int32)) C dX6_thing_15 (by decide) ?_
    refine g_irem C dX6_thing_17 h (fun h => ?_)
    refine g_iconst (v := (1 : Int32)) C dX6_thing_18 (by decide) ?_
    refine g_icmp_gt (tgt := 30) C dX6_thing_19 (by decide) h (fun h => ?_) (fun h => ?_)
    · refine g_bipush (v := (-2 : Int32)) C dX6_thing_30 (by decide) ?_
      obtain ⟨rfl, rfl⟩ := sp_inj h
      exact g_iret C hr hlk dX6_thing_32 rfl
    · refine g_aload_n C dX6_thing_22 rfl 0 rfl ?_
      refine g_iload_n C dX6_thing_23 rfl 2 rfl ?_
      obtain ⟨r3, hX4, h⟩ := bd1_inv h
      refine g_callV C (c_X6_isHold l hX4) (cwVw 1 C.2.2.2.2.1 wl_1099 wl_1101 wl_36 wl_121 wl_1102 rfl rfl (by decide +kernel) ⟨Nat.le_of_ble_eq_true rfl, Nat.le_of_ble_eq_true rfl⟩) mO_0 rfl rfl rfl rfl (Nat.le_of_ble_eq_true rfl) dX6_thing_24 ?_
      refine g_if_ne (tgt := 33) C dX6_thing_27 (by decide) h (fun h => ?_) (fun h => ?_)
      · refine g_bipush (v := (-2 : Int32)) C dX6_thing_30 (by decide) ?_
        obtain ⟨rfl, rfl⟩ := sp_inj h
        exact g_iret C hr hlk dX6_thing_32 rfl
      · refine g_aload_n C dX6_thing_33 rfl 0 rfl ?_
        refine g_get C (T := TX6) hcl6 mO_0 rfl (j := 14) (by decide) wl_933 (v := .int (rI m 0 14)) rfl dX6_thing_34 ?_
        refine g_iconst (v := (5 : Int32)) C dX6_thing_37 (by decide) ?_
        refine g_icmp_ne (tgt := 44) C dX6_thing_38 (by decide) h (fun h => ?_) (fun h => ?_)
        · refine g_bipush (v := (-4 : Int32)) C dX6_thing_41 (by decide) ?_
          obtain ⟨rfl, rfl⟩ := sp_inj h
          exact g_iret C hr hlk dX6_thing_43 rfl
        · refine g_aload_n C dX6_thing_44 rfl 0 rfl ?_
          refine g_iload_n C dX6_thing_45 rfl 1 rfl ?_
          refine g_bipush (v := (10 : Int32)) C dX6_thing_46 (by decide) ?_
          refine g_idiv C dX6_thing_48 h (fun h => ?_)
          refine g_iload_n C dX6_thing_49 rfl 1 rfl ?_
          refine g_bipush (v := (10 : Int32)) C dX6_thing_50 (by decide) ?_
          refine g_irem C dX6_thing_52 h (fun h => ?_)
          refine g_iconst (v := (0 : Int32)) C dX6_thing_53 (by decide) ?_
          refine g_iload_n C dX6_thing_54 rfl 2 rfl ?_
          refine g_aload_n C dX6_thing_55 rfl 0 rfl ?_
          refine g_iload_n C dX6_thing_56 rfl 2 rfl ?_
          obtain ⟨r5, hX6, h⟩ := bd1_inv h
          refine g_callV C (c_X6_inside l hX6) (cwVw 1 C.2.2.2.2.1 wl_1103 wl_1105 wl_37 wl_121 wl_1106 rfl rfl (by decide +kernel) ⟨Nat.le_of_ble_eq_true rfl, Nat.le_of_ble_eq_true rfl⟩) mO_0 rfl rfl rfl rfl (Nat.le_of_ble_eq_true rfl) dX6_thing_57 ?_
          obtain ⟨r7, hX8, h⟩ := bd1_inv h
          refine g_callV C (c_X6_bars l hX8) (cwVw 5 C.2.2.2.2.1 wl_1107 wl_1109 wl_38 wl_121 wl_1110 rfl rfl (by decide +kernel) ⟨Nat.le_of_ble_eq_true rfl, Nat.le_of_ble_eq_true rfl⟩) mO_0 rfl rfl rfl rfl (Nat.le_of_ble_eq_true rfl) dX6_thing_60 ?_
          refine g_if_eq (tgt := 69) C dX6_thing_63 (by decide) h (fun h => ?_) (fun h => ?_)
          · refine g_aload_n C dX6_thing_69 rfl 0 rfl ?_
            refine g_get C (T := TX6) hcl6 mO_0 rfl (j := 10) (by decide) wl_929 (v := .ref (ad 6)) rfl dX6_thing_70 ?_
            refine g_aload_n C dX6_thing_73 rfl 0 rfl ?_
            refine g_get C (T := TX6) hcl6 mO_0 rfl (j := 14) (by decide) wl_933 (v := .int (rI m 0 14)) rfl dX6_thing_74 ?_
            refine g_iload_n C dX6_thing_77 rfl 1 rfl ?_
            refine g_bipush (v := (10 : Int32)) C dX6_thing_78 (by decide) ?_
            refine g_idiv C dX6_thing_80 h (fun h => ?_)
            refine g_iast C mI_6 dX6_thing_81 h (fun m9 h => ?_)
            refine g_aload_n C dX6_thing_82 rfl 0 rfl ?_
            refine g_get C (T := TX6) hcl6 mO_0 rfl (j := 11) (by decide) wl_930 (v := .ref (ad 7)) rfl dX6_thing_83 ?_
            refine g_aload_n C dX6_thing_86 rfl 0 rfl ?_
            refine g_get C (T := TX6) hcl6 mO_0 rfl (j := 14) (by decide) wl_933 (v := .int (rI m9 0 14)) rfl dX6_thing_87 ?_
            refine g_iload_n C dX6_thing_90 rfl 1 rfl ?_
            refine g_bipush (v := (10 : Int32)) C dX6_thing_91 (by decide) ?_
            refine g_irem C dX6_thing_93 h (fun h => ?_)
            refine g_iast C mI_7 dX6_thing_94 h (fun m10 h => ?_)
            refine g_aload_n C dX6_thing_95 rfl 0 rfl ?_
            refine g_get C (T := TX6) hcl6 mO_0 rfl (j := 12) (by decide) wl_931 (v := .ref (ad 8)) rfl dX6_thing_96 ?_
            refine g_aload_n C dX6_thing_99 rfl 0 rfl ?_
            refine g_get C (T := TX6) hcl6 mO_0 rfl (j := 14) (by decide) wl_933 (v := .int (rI m10 0 14)) rfl dX6_thing_100 ?_
            refine g_iload_n C dX6_thing_103 rfl 2 rfl ?_
            refine g_iast C mI_8 dX6_thing_104 h (fun m11 h => ?_)
            refine g_aload_n C dX6_thing_105 rfl 0 rfl ?_
            refine g_get C (T := TX6) hcl6 mO_0 rfl (j := 13) (by decide) wl_932 (v := .ref (ad 9)) rfl dX6_thing_106 ?_
            refine g_aload_n C dX6_thing_109 rfl 0 rfl ?_
            refine g_get C (T := TX6) hcl6 mO_0 rfl (j := 14) (by decide) wl_933 (v := .int (rI m11 0 14)) rfl dX6_thing_110 ?_
            refine g_iconst (v := (0 : Int32)) C dX6_thing_113 (by decide) ?_
            refine g_iast C mI_9 dX6_thing_114 h (fun m12 h => ?_)
            refine g_iconst (v := (0 : Int32)) C dX6_thing_115 (by decide) ?_
            refine g_istore_n (lv' := [(3, .int (0 : Int32)), (0, .ref (ad 0)), (1, .int a0), (2, .int a1)]) C dX6_thing_116 rfl (by decide) rfl ?_
            refine g_sub [1, 0] rfl ?_
            refine g_loop_IM (L := f_X6_thing_L117) h 117 145 (fun x3_13 m14 => [(0, .ref (ad 0)), (3, .int x3_13)]) (fun x3_13 m14 => [(0, .ref (ad 0))]) (fun x3_13 m14 => []) (fun x3_13 m14 => []) ?_ ?_ (fun _ _ _ => rfl)
            · intro x3_13 m14 h
              refine g_aload_n C dX6_thing_145 rfl 0 rfl ?_
              refine g_dup C dX6_thing_146 rfl ?_
              refine g_get C (T := TX6) hcl6 mO_0 rfl (j := 14) (by decide) wl_933 (v := .int (rI m14 0 14)) rfl dX6_thing_147 ?_
              refine g_iconst (v := (1 : Int32)) C dX6_thing_150 (by decide) ?_
              refine g_iadd C dX6_thing_151 ?_
              refine g_putI C (T := TX6) hcl6 mO_0 rfl (j := 14) (by decide) wl_933 tyX6 tyX6_ok nmX6 rfl rfl pfX6_14 (plX6 14 (by decide)) dX6_thing_152 h (fun m18 h => ?_)
              refine g_aload_n C dX6_thing_155 rfl 0 rfl ?_
              refine g_get C (T := TX6) hcl6 mO_0 rfl (j := 14) (by decide) wl_933 (v := .int (rI m18 0 14)) rfl dX6_thing_156 ?_
              refine g_iconst (v := (1 : Int32)) C dX6_thing_159 (by decide) ?_
              refine g_isub C dX6_thing_160 ?_
              obtain ⟨rfl, rfl⟩ := sp_inj h
              exact g_iret C hr hlk dX6_thing_161 rfl
            · intro K15 hK15 n ih x3_13 m14 h
              rw [f_X6_thing_L117] at h
              refine g_iload_n C dX6_thing_117 rfl 1 rfl ?_
              refine g_iconst (v := (5 : Int32)) C dX6_thing_118 (by decide) ?_
              refine g_icmp_ge (tgt := 145) C dX6_thing_119 (by decide) h (fun h => ?_) (fun h => ?_)
              · exact g_sub [0] rfl (hK15 _ _ h)
              · refine g_aload_n C dX6_thing_122 rfl 0 rfl ?_
                refine g_get C (T := TX6) hcl6 mO_0 rfl (j := 13) (by decide) wl_932 (v := .ref (ad 9)) rfl dX6_thing_123 ?_
                refine g_iload_n C dX6_thing_126 rfl 1 rfl ?_
                refine g_dup2 C dX6_thing_127 rfl rfl ?_
                refine g_iald C mI_9 dX6_thing_128 h (fun h => ?_)
                refine g_iconst (v := (1 : Int32)) C dX6_thing_129 (by decide) ?_
                refine g_aload_n C dX6_thing_130 rfl 0 rfl ?_
                refine g_get C (T := TX6) hcl6 mO_0 rfl (j := 14) (by decide) wl_933 (v := .int (rI m14 0 14)) rfl dX6_thing_131 ?_
                refine g_ishl C dX6_thing_134 ?_
                refine g_iconst (v := (-1 : Int32)) C dX6_thing_135 (by decide) ?_
                refine g_ixor C dX6_thing_136 ?_
                refine g_iand C dX6_thing_137 ?_
                refine g_iast C mI_9 dX6_thing_138 h (fun m16 h => ?_)
                refine g_iinc (lv' := [(0, .ref (ad 0))]) C dX6_thing_139 (q := 1) rfl (by decide) h rfl (fun _ => rfl) (fun x3_17 h => ?_)
                refine g_goto (tgt := 117) C dX6_thing_142 (by decide) ?_
                exact g_sub [1, 0] rfl (ih _ _ h)
          · refine g_bipush (v := (-3 : Int32)) C dX6_thing_66 (by decide) ?_
            obtain ⟨rfl, rfl⟩ := sp_inj h
            exact g_iret C hr hlk dX6_thing_68 rfl

def rmX6_isThing : Room := { frames := 1, cells := 0, slots := 0, locals := 25 }
set_option maxRecDepth 100000 in
set_option maxHeartbeats 4000000 in
theorem c_X6_isThing (l : Launch)  {a0 : Int32}  {m : MM} {r : Int32} (h : f_X6_isThing a0 m = some r) : CT l yX6_isThing cX6_isThing 2 (some .boolean) rmX6_isThing cfM 23 (fun ad tb => [.ref (ad 0), .int a0]) m (some (.int r)) m := by
  refine CT.of (cc := cX6_isThing) (maxL := 2) (ret := (some .boolean)) (by decide) ⟨rfl, rfl⟩ (fun _ _ => Nat.le_of_ble_eq_true rfl) ?_
  intro p e s mt args below meth c D cA ad tb C hr hlk
  refine g_lv (lv' := [(0, .ref (ad 0)), (1, .int a0)]) rfl ?_
  have hcl6 : ∀ w ∈ wsX60, w.before args s = true := fun w hw => C.2.2.2.2.1 w (inlX6 w hw)
  unfold f_X6_isThing at h
  refine g_iload_n C dX6_isThing_0 rfl 1 rfl ?_
  refine g_i2l C dX6_isThing_1 ?_
  refine g_lconst (v := (0 : Int64)) C dX6_isThing_2 (by decide) ?_
  refine g_aload_n C dX6_isThing_3 rfl 0 rfl ?_
  refine g_get C (T := TX6) hcl6 mO_0 rfl (j := 14) (by decide) wl_933 (v := .int (rI m 0 14)) rfl dX6_isThing_4 ?_
  refine g_iconst (v := (1 : Int32)) C dX6_isThing_7 (by decide) ?_
  refine g_isub C dX6_isThing_8 ?_
  refine g_i2l C dX6_isThing_9 ?_
  obtain ⟨r1, hX2, h⟩ := bd1_inv h
  refine g_callS C (c_X6_in l hX2) (cwSw 3 C.2.2.2.2.1 wl_1089 wl_1090 wl_121 wl_1091 rfl rfl (by decide +kernel) ⟨Nat.le_of_ble_eq_true rfl, Nat.le_of_ble_eq_true rfl⟩) rfl rfl rfl (Nat.le_of_ble_eq_true rfl) dX6_isThing_10 ?_
  obtain ⟨hz, h⟩ := Gu_inv h
  obtain rfl := so_inj h
  exact g_zret C hr hlk dX6_isThing_13 hz rfl

def rmX6_set : Room := { frames := 2, cells := 0, slots := 0, locals := 46 }
set_option maxRecDepth 100000 in
set_option maxHeartbeats 4000000 in
theorem c_X6_set (l : Launch) {F : Nat}  {a0 : Int32} {a1 : Int32} {a2 : Int32}  {m : MM} {m' : MM} {r : Int32} (h : f_X6_set F a0 a1 a2 m = some (r, m')) : CT l yX6_set cX6_set 5 (some .int) rmX6_set cfM 23 (fun ad tb => [.ref (ad 0), .int a0, .int a1, .int a2]) m (some (.int r)) m' := by
  refine CT.of (cc := cX6_set) (maxL := 5) (ret := (some .int)) (by decide) ⟨rfl, rfl⟩ (fun _ _ => Nat.le_of_ble_eq_true rfl) ?_
  intro p e s mt args below meth c D cA ad tb C hr hlk
  refine g_lv (lv' := [(0, .ref (ad 0)), (1, .int a0), (2, .int a1), (3, .int a2)]) rfl ?_
  have hcl6 : ∀ w ∈ wsX60, w.before args s = true := fun w hw => C.2.2.2.2.1 w (inlX6 w hw)
  unfold f_X6_set at h
  refine g_iload_n C dX6_set_0 rfl 1 rfl ?_
  refine g_i2l C dX6_set_1 ?_
  refine g_lconst (v := (0 : Int64)) C dX6_set_2 (by decide) ?_
  refine g_ldc2 (v := (3 : Int64)) C dX6_set_3 wl_1134 ?_
  obtain ⟨r1, hX2, h⟩ := bd1_inv h
  refine g_callS C (c_X6_in l hX2) (cwSw 3 C.2.2.2.2.1 wl_1089 wl_1090 wl_121 wl_1091 rfl rfl (by decide +kernel) ⟨Nat.le_of_ble_eq_true rfl, Nat.le_of_ble_eq_true rfl⟩) rfl rfl rfl (Nat.le_of_ble_eq_true rfl) dX6_set_6 ?_
  refine g_if_eq (tgt := 38) C dX6_set_9 (by decide) h (fun h => ?_) (fun h => ?_)
  · refine g_bipush (v := (-100 : Int32)) C dX6_set_38 (by decide) ?_
    obtain ⟨rfl, rfl⟩ := sp_inj h
    exact g_iret C hr hlk dX6_set_40 rfl
  · refine g_iload_n C dX6_set_12 rfl 1 rfl ?_
    refine g_iconst (v := (2 : Int32)) C dX6_set_13 (by decide) ?_
    refine g_join_ h 25 ([(0, .ref (ad 0)), (1, .int a0), (2, .int a1), (3, .int a2)]) ([]) ?_ ?_
    · intro h
      refine g_iload_n C dX6_set_25 rfl 1 rfl ?_
      refine g_iconst (v := (3 : Int32)) C dX6_set_26 (by decide) ?_
      refine g_join_ h 41 ([(0, .ref (ad 0)), (1, .int a0), (2, .int a1), (3, .int a2)]) ([]) ?_ ?_
      · intro h
        refine g_iload_n C dX6_set_41 rfl 1 rfl ?_
        refine g_iconst (v := (1 : Int32)) C dX6_set_42 (by decide) ?_
        refine g_join_ h 96 ([(0, .ref (ad 0)), (1, .int a0), (2, .int a1), (3, .int a2)]) ([]) ?_ ?_
        · intro h
          refine g_iload_n C dX6_set_96 rfl 1 rfl ?_
          refine g_join_I h 139 (fun s6 => [(0, .ref (ad 0)), (1, .int a0), (2, .int a1), (3, .int a2)]) (fun s6 => [.int s6]) ?_ ?_
          · intro s6 h
            refine g_istore (lv' := [(4, .int s6), (0, .ref (ad 0)), (1, .int a0), (2, .int a1), (3, .int a2)]) C dX6_set_139 (by decide) rfl ?_
            refine g_iload_n C dX6_set_141 rfl 2 rfl ?_
            refine g_if_ne (tgt := 153) C dX6_set_142 (by decide) h (fun h => ?_) (fun h => ?_)
            · refine g_aload_n C dX6_set_145 rfl 1 rfl ?_
              refine g_iload_n C dX6_set_146 rfl 4 rfl ?_
              refine g_putI C (T := TX6) hcl6 mO_0 rfl (j := 16) (by decide) wl_935 tyX6 tyX6_ok nmX6 rfl rfl pfX6_16 (plX6 16 (by decide)) dX6_set_147 h (fun m8 h => ?_)
              refine g_goto (tgt := 235) C dX6_set_150 (by decide) ?_
              refine g_iload C dX6_set_235 0 rfl ?_
              obtain ⟨rfl, rfl⟩ := sp_inj h
              exact g_iret C hr hlk dX6_set_237 rfl
            · refine g_iload_n C dX6_set_153 rfl 2 rfl ?_
              refine g_iconst (v := (1 : Int32)) C dX6_set_154 (by decide) ?_
              refine g_icmp_ne (tgt := 166) C dX6_set_155 (by decide) h (fun h => ?_) (fun h => ?_)
              · refine g_aload_n C dX6_set_158 rfl 1 rfl ?_
                refine g_iload_n C dX6_set_159 rfl 4 rfl ?_
                refine g_putI C (T := TX6) hcl6 mO_0 rfl (j := 15) (by decide) wl_934 tyX6 tyX6_ok nmX6 rfl rfl pfX6_15 (plX6 15 (by decide)) dX6_set_160 h (fun m9 h => ?_)
                refine g_goto (tgt := 235) C dX6_set_163 (by decide) ?_
                refine g_iload C dX6_set_235 0 rfl ?_
                obtain ⟨rfl, rfl⟩ := sp_inj h
                exact g_iret C hr hlk dX6_set_237 rfl
              · refine g_iload_n C dX6_set_166 rfl 2 rfl ?_
                refine g_iconst (v := (2 : Int32)) C dX6_set_167 (by decide) ?_
                refine g_icmp_ne (tgt := 206) C dX6_set_168 (by decide) h (fun h => ?_) (fun h => ?_)
                · refine g_aload_n C dX6_set_171 rfl 1 rfl ?_
                  refine g_get C (T := TX6) hcl6 mO_0 rfl (j := 8) (by decide) wl_927 (v := .ref (ad 5)) rfl dX6_set_172 ?_
                  refine g_iload_n C dX6_set_175 rfl 3 rfl ?_
                  refine g_iload_n C dX6_set_176 rfl 4 rfl ?_
                  refine g_iast C mI_5 dX6_set_177 h (fun m10 h => ?_)
                  refine g_aload_n C dX6_set_178 rfl 1 rfl ?_
                  refine g_aload_n C dX6_set_179 rfl 1 rfl ?_
                  refine g_iload_n C dX6_set_180 rfl 3 rfl ?_
                  obtain ⟨r11, hX12, h⟩ := bd1_inv h
                  refine g_callV C (c_X6_inside l hX12) (cwVw 1 C.2.2.2.2.1 wl_1103 wl_1105 wl_37 wl_121 wl_1106 rfl rfl (by decide +kernel) ⟨Nat.le_of_ble_eq_true rfl, Nat.le_of_ble_eq_true rfl⟩) mO_0 rfl rfl rfl rfl (Nat.le_of_ble_eq_true rfl) dX6_set_181 ?_
                  obtain ⟨r13, hX14, h⟩ := bd1_inv h
                  refine g_callV C (c_X6_sizeOf l hX14) (cwVw 1 C.2.2.2.2.1 wl_1111 wl_1113 wl_39 wl_121 wl_1114 rfl rfl (by decide +kernel) ⟨Nat.le_of_ble_eq_true rfl, Nat.le_of_ble_eq_true rfl⟩) mO_0 rfl rfl rfl rfl (Nat.le_of_ble_eq_true rfl) dX6_set_184 ?_
                  refine g_aload_n C dX6_set_187 rfl 1 rfl ?_
                  refine g_iload_n C dX6_set_188 rfl 3 rfl ?_
                  obtain ⟨r15, hX16, h⟩ := bd1_inv h
                  refine g_callV C (c_X6_roomOf l hX16) (cwVw 1 C.2.2.2.2.1 wl_1115 wl_1117 wl_40 wl_121 wl_1118 rfl rfl (by decide +kernel) ⟨Nat.le_of_ble_eq_true rfl, Nat.le_of_ble_eq_true rfl⟩) mO_0 rfl rfl rfl rfl (Nat.le_of_ble_eq_true rfl) dX6_set_189 ?_
                  refine g_icmp_le (tgt := 235) C dX6_set_192 (by decide) h (fun h => ?_) (fun h => ?_)
                  · refine g_iload C dX6_set_235 0 rfl ?_
                    obtain ⟨rfl, rfl⟩ := sp_inj h
                    exact g_iret C hr hlk dX6_set_237 rfl
                  · refine g_aload_n C dX6_set_195 rfl 1 rfl ?_
                    refine g_get C (T := TX6) hcl6 mO_0 rfl (j := 8) (by decide) wl_927 (v := .ref (ad 5)) rfl dX6_set_196 ?_
                    refine g_iload_n C dX6_set_199 rfl 3 rfl ?_
                    refine g_iload C dX6_set_200 0 rfl ?_
                    refine g_iast C mI_5 dX6_set_202 h (fun m17 h => ?_)
                    refine g_bipush (v := (-3 : Int32)) C dX6_set_203 (by decide) ?_
                    obtain ⟨rfl, rfl⟩ := sp_inj h
                    exact g_iret C hr hlk dX6_set_205 rfl
                · refine g_iload_n C dX6_set_206 rfl 4 rfl ?_
                  refine g_iconst (v := (1 : Int32)) C dX6_set_207 (by decide) ?_
                  refine g_join_ h 228 ([(0, .ref (ad 0)), (2, .int a1), (3, .int a2), (4, .int s6)]) ([]) ?_ ?_
                  · intro h
                    refine g_aload_n C dX6_set_228 rfl 0 rfl ?_
                    refine g_get C (T := TX6) hcl6 mO_0 rfl (j := 11) (by decide) wl_930 (v := .ref (ad 7)) rfl dX6_set_229 ?_
                    refine g_iload_n C dX6_set_232 rfl 1 rfl ?_
                    refine g_iload_n C dX6_set_233 rfl 2 rfl ?_
                    refine g_iast C mI_7 dX6_set_234 h (fun m19 h => ?_)
                    refine g_iload C dX6_set_235 3 rfl ?_
                    obtain ⟨rfl, rfl⟩ := sp_inj h
                    exact g_iret C hr hlk dX6_set_237 rfl
                  intro J18 hJ18 h
                  refine g_icmp_ne (tgt := 228) C dX6_set_208 (by decide) h (fun h => ?_) (fun h => ?_)
                  · refine g_aload_n C dX6_set_211 rfl 1 rfl ?_
                    refine g_aload_n C dX6_set_212 rfl 1 rfl ?_
                    refine g_get C (T := TX6) hcl6 mO_0 rfl (j := 12) (by decide) wl_931 (v := .ref (ad 8)) rfl dX6_set_213 ?_
                    refine g_iload_n C dX6_set_216 rfl 3 rfl ?_
                    refine g_iald C mI_8 dX6_set_217 h (fun h => ?_)
                    obtain ⟨r20, hX21, h⟩ := bd1_inv h
                    refine g_callV C (c_X6_wetOf l hX21) (cwVw 1 C.2.2.2.2.1 wl_1126 wl_1128 wl_42 wl_121 wl_1129 rfl rfl (by decide +kernel) ⟨Nat.le_of_ble_eq_true rfl, Nat.le_of_ble_eq_true rfl⟩) mO_0 rfl rfl rfl rfl (Nat.le_of_ble_eq_true rfl) dX6_set_218 ?_
                    refine g_iconst (v := (1 : Int32)) C dX6_set_221 (by decide) ?_
                    refine g_icmp_ne (tgt := 228) C dX6_set_222 (by decide) h (fun h => ?_) (fun h => ?_)
                    · refine g_bipush (v := (-3 : Int32)) C dX6_set_225 (by decide) ?_
                      obtain ⟨rfl, rfl⟩ := sp_inj h
                      exact g_iret C hr hlk dX6_set_227 rfl
                    · exact g_sub [1, 3, 4, 0] rfl (hJ18  h)
                  · exact g_sub [1, 3, 4, 0] rfl (hJ18  h)
          intro J7 hJ7 h
          refine g_if_ne (tgt := 107) C dX6_set_97 (by decide) h (fun h => ?_) (fun h => ?_)
          · refine g_aload_n C dX6_set_100 rfl 0 rfl ?_
            refine g_get C (T := TX6) hcl6 mO_0 rfl (j := 16) (by decide) wl_935 (v := .int (rI m 0 16)) rfl dX6_set_101 ?_
            refine g_goto (tgt := 139) C dX6_set_104 (by decide) ?_
            exact g_sub [0, 1, 2, 3] rfl (hJ7 _ h)
          · refine g_iload_n C dX6_set_107 rfl 1 rfl ?_
            refine g_iconst (v := (1 : Int32)) C dX6_set_108 (by decide) ?_
            refine g_icmp_ne (tgt := 119) C dX6_set_109 (by decide) h (fun h => ?_) (fun h => ?_)
            · refine g_aload_n C dX6_set_112 rfl 0 rfl ?_
              refine g_get C (T := TX6) hcl6 mO_0 rfl (j := 15) (by decide) wl_934 (v := .int (rI m 0 15)) rfl dX6_set_113 ?_
              refine g_goto (tgt := 139) C dX6_set_116 (by decide) ?_
              exact g_sub [0, 1, 2, 3] rfl (hJ7 _ h)
            · refine g_iload_n C dX6_set_119 rfl 1 rfl ?_
              refine g_iconst (v := (2 : Int32)) C dX6_set_120 (by decide) ?_
              refine g_icmp_ne (tgt := 133) C dX6_set_121 (by decide) h (fun h => ?_) (fun h => ?_)
              · refine g_aload_n C dX6_set_124 rfl 0 rfl ?_
                refine g_get C (T := TX6) hcl6 mO_0 rfl (j := 8) (by decide) wl_927 (v := .ref (ad 5)) rfl dX6_set_125 ?_
                refine g_iload_n C dX6_set_128 rfl 2 rfl ?_
                refine g_iald C mI_5 dX6_set_129 h (fun h => ?_)
                refine g_goto (tgt := 139) C dX6_set_130 (by decide) ?_
                exact g_sub [0, 1, 2, 3] rfl (hJ7 _ h)
              · refine g_aload_n C dX6_set_133 rfl 0 rfl ?_
                refine g_get C (T := TX6) hcl6 mO_0 rfl (j := 11) (by decide) wl_930 (v := .ref (ad 7)) rfl dX6_set_134 ?_
                refine g_iload_n C dX6_set_137 rfl 2 rfl ?_
                refine g_iald C mI_7 dX6_set_138 h (fun h => ?_)
                exact g_sub [0, 1, 2, 3] rfl (hJ7 _ h)
        intro J5 hJ5 h
        refine g_icmp_ne (tgt := 62) C dX6_set_43 (by decide) h (fun h => ?_) (fun h => ?_)
        · refine g_iload_n C dX6_set_46 rfl 3 rfl ?_
          refine g_iconst (v := (-1 : Int32)) C dX6_set_47 (by decide) ?_
          refine g_icmp_eq (tgt := 96) C dX6_set_48 (by decide) h (fun h => ?_) (fun h => ?_)
          · exact g_sub [0, 1, 2, 3] rfl (hJ5  h)
          · refine g_aload_n C dX6_set_51 rfl 0 rfl ?_
            refine g_iload_n C dX6_set_52 rfl 3 rfl ?_
            obtain ⟨r22, hX23, h⟩ := bd1_inv h
            refine g_callV C (c_X6_isThing l hX23) (cwVw 1 C.2.2.2.2.1 wl_1135 wl_1137 wl_43 wl_121 wl_1138 rfl rfl (by decide +kernel) ⟨Nat.le_of_ble_eq_true rfl, Nat.le_of_ble_eq_true rfl⟩) mO_0 rfl rfl rfl rfl (Nat.le_of_ble_eq_true rfl) dX6_set_53 ?_
            refine g_if_ne (tgt := 96) C dX6_set_56 (by decide) h (fun h => ?_) (fun h => ?_)
            · refine g_goto (tgt := 93) C dX6_set_59 (by decide) ?_
              refine g_bipush (v := (-100 : Int32)) C dX6_set_93 (by decide) ?_
              obtain ⟨rfl, rfl⟩ := sp_inj h
              exact g_iret C hr hlk dX6_set_95 rfl
            · exact g_sub [0, 1, 2, 3] rfl (hJ5  h)
        · refine g_iload_n C dX6_set_62 rfl 3 rfl ?_
          refine g_i2l C dX6_set_63 ?_
          refine g_lconst (v := (0 : Int64)) C dX6_set_64 (by decide) ?_
          refine g_iload_n C dX6_set_65 rfl 1 rfl ?_
          refine g_join_L h 87 (fun s24 => [(0, .ref (ad 0)), (1, .int a0), (2, .int a1), (3, .int a2)]) (fun s24 => [.long s24, .long (0 : Int64), .long (Int32.toInt64 a2)]) ?_ ?_
          · intro s24 h
            obtain ⟨r26, hX27, h⟩ := bd1_inv h
            refine g_callS C (c_X6_in l hX27) (cwSw 3 C.2.2.2.2.1 wl_1089 wl_1090 wl_121 wl_1091 rfl rfl (by decide +kernel) ⟨Nat.le_of_ble_eq_true rfl, Nat.le_of_ble_eq_true rfl⟩) rfl rfl rfl (Nat.le_of_ble_eq_true rfl) dX6_set_87 ?_
            refine g_if_ne (tgt := 96) C dX6_set_90 (by decide) h (fun h => ?_) (fun h => ?_)
            · refine g_bipush (v := (-100 : Int32)) C dX6_set_93 (by decide) ?_
              obtain ⟨rfl, rfl⟩ := sp_inj h
              exact g_iret C hr hlk dX6_set_95 rfl
            · exact g_sub [0, 1, 2, 3] rfl (hJ5  h)
          intro J25 hJ25 h
          refine g_if_ne (tgt := 75) C dX6_set_66 (by decide) h (fun h => ?_) (fun h => ?_)
          · refine g_ldc2 (v := (3 : Int64)) C dX6_set_69 wl_1134 ?_
            refine g_goto (tgt := 87) C dX6_set_72 (by decide) ?_
            exact g_sub [0, 1, 2, 3] rfl (hJ25 _ h)
          · refine g_iload_n C dX6_set_75 rfl 1 rfl ?_
            refine g_iconst (v := (2 : Int32)) C dX6_set_76 (by decide) ?_
            refine g_icmp_ne (tgt := 86) C dX6_set_77 (by decide) h (fun h => ?_) (fun h => ?_)
            · refine g_ldc2 (v := (9 : Int64)) C dX6_set_80 wl_1092 ?_
              refine g_goto (tgt := 87) C dX6_set_83 (by decide) ?_
              exact g_sub [0, 1, 2, 3] rfl (hJ25 _ h)
            · refine g_lconst (v := (1 : Int64)) C dX6_set_86 (by decide) ?_
              exact g_sub [0, 1, 2, 3] rfl (hJ25 _ h)
      intro J4 hJ4 h
      refine g_icmp_ne (tgt := 41) C dX6_set_27 (by decide) h (fun h => ?_) (fun h => ?_)
      · refine g_aload_n C dX6_set_30 rfl 0 rfl ?_
        refine g_iload_n C dX6_set_31 rfl 2 rfl ?_
        obtain ⟨r28, hX29, h⟩ := bd1_inv h
        refine g_callV C (c_X6_isThing l hX29) (cwVw 1 C.2.2.2.2.1 wl_1135 wl_1137 wl_43 wl_121 wl_1138 rfl rfl (by decide +kernel) ⟨Nat.le_of_ble_eq_true rfl, Nat.le_of_ble_eq_true rfl⟩) mO_0 rfl rfl rfl rfl (Nat.le_of_ble_eq_true rfl) dX6_set_32 ?_
        refine g_if_ne (tgt := 41) C dX6_set_35 (by decide) h (fun h => ?_) (fun h => ?_)
        · refine g_bipush (v := (-100 : Int32)) C dX6_set_38 (by decide) ?_
          obtain ⟨rfl, rfl⟩ := sp_inj h
          exact g_iret C hr hlk dX6_set_40 rfl
        · exact g_sub [0, 1, 2, 3] rfl (hJ4  h)
      · exact g_sub [0, 1, 2, 3] rfl (hJ4  h)
    intro J3 hJ3 h
    refine g_icmp_ne (tgt := 25) C dX6_set_14 (by decide) h (fun h => ?_) (fun h => ?_)
    · refine g_aload_n C dX6_set_17 rfl 0 rfl ?_
      refine g_iload_n C dX6_set_18 rfl 2 rfl ?_
      obtain ⟨r30, hX31, h⟩ := bd1_inv h
      refine g_callV C (c_X6_isHold l hX31) (cwVw 1 C.2.2.2.2.1 wl_1099 wl_1101 wl_36 wl_121 wl_1102 rfl rfl (by decide +kernel) ⟨Nat.le_of_ble_eq_true rfl, Nat.le_of_ble_eq_true rfl⟩) mO_0 rfl rfl rfl rfl (Nat.le_of_ble_eq_true rfl) dX6_set_19 ?_
      refine g_if_eq (tgt := 38) C dX6_set_22 (by decide) h (fun h => ?_) (fun h => ?_)
      · refine g_bipush (v := (-100 : Int32)) C dX6_set_38 (by decide) ?_
        obtain ⟨rfl, rfl⟩ := sp_inj h
        exact g_iret C hr hlk dX6_set_40 rfl
      · exact g_sub [0, 1, 2, 3] rfl (hJ3  h)
    · exact g_sub [0, 1, 2, 3] rfl (hJ3  h)

def rmX6_part : Room := { frames := 2, cells := 0, slots := 0, locals := 46 }
set_option maxRecDepth 100000 in
set_option maxHeartbeats 4000000 in
theorem c_X6_part (l : Launch)  {a0 : Int32} {a1 : Int32} {a2 : Int32}  {m : MM} {m' : MM} {r : Int32} (h : f_X6_part a0 a1 a2 m = some (r, m')) : CT l yX6_part cX6_part 5 (some .int) rmX6_part cfM 23 (fun ad tb => [.ref (ad 0), .int a0, .int a1, .int a2]) m (some (.int r)) m' := by
  refine CT.of (cc := cX6_part) (maxL := 5) (ret := (some .int)) (by decide) ⟨rfl, rfl⟩ (fun _ _ => Nat.le_of_ble_eq_true rfl) ?_
  intro p e s mt args below meth c D cA ad tb C hr hlk
  refine g_lv (lv' := [(0, .ref (ad 0)), (1, .int a0), (2, .int a1), (3, .int a2)]) rfl ?_
  have hcl6 : ∀ w ∈ wsX60, w.before args s = true := fun w hw => C.2.2.2.2.1 w (inlX6 w hw)
  unfold f_X6_part at h
  refine g_aload_n C dX6_part_0 rfl 0 rfl ?_
  refine g_iload_n C dX6_part_1 rfl 1 rfl ?_
  obtain ⟨r1, hX2, h⟩ := bd1_inv h
  refine g_callV C (c_X6_isThing l hX2) (cwVw 1 C.2.2.2.2.1 wl_1135 wl_1137 wl_43 wl_121 wl_1138 rfl rfl (by decide +kernel) ⟨Nat.le_of_ble_eq_true rfl, Nat.le_of_ble_eq_true rfl⟩) mO_0 rfl rfl rfl rfl (Nat.le_of_ble_eq_true rfl) dX6_part_2 ?_
  refine g_if_eq (tgt := 31) C dX6_part_5 (by decide) h (fun h => ?_) (fun h => ?_)
  · refine g_bipush (v := (-2 : Int32)) C dX6_part_31 (by decide) ?_
    obtain ⟨rfl, rfl⟩ := sp_inj h
    exact g_iret C hr hlk dX6_part_33 rfl
  · refine g_aload_n C dX6_part_8 rfl 0 rfl ?_
    refine g_iload_n C dX6_part_9 rfl 2 rfl ?_
    obtain ⟨r3, hX4, h⟩ := bd1_inv h
    refine g_callV C (c_X6_isThing l hX4) (cwVw 1 C.2.2.2.2.1 wl_1135 wl_1137 wl_43 wl_121 wl_1138 rfl rfl (by decide +kernel) ⟨Nat.le_of_ble_eq_true rfl, Nat.le_of_ble_eq_true rfl⟩) mO_0 rfl rfl rfl rfl (Nat.le_of_ble_eq_true rfl) dX6_part_10 ?_
    refine g_if_eq (tgt := 31) C dX6_part_13 (by decide) h (fun h => ?_) (fun h => ?_)
    · refine g_bipush (v := (-2 : Int32)) C dX6_part_31 (by decide) ?_
      obtain ⟨rfl, rfl⟩ := sp_inj h
      exact g_iret C hr hlk dX6_part_33 rfl
    · refine g_iload_n C dX6_part_16 rfl 1 rfl ?_
      refine g_iload_n C dX6_part_17 rfl 2 rfl ?_
      refine g_icmp_eq (tgt := 31) C dX6_part_18 (by decide) h (fun h => ?_) (fun h => ?_)
      · refine g_bipush (v := (-2 : Int32)) C dX6_part_31 (by decide) ?_
        obtain ⟨rfl, rfl⟩ := sp_inj h
        exact g_iret C hr hlk dX6_part_33 rfl
      · refine g_iload_n C dX6_part_21 rfl 3 rfl ?_
        refine g_i2l C dX6_part_22 ?_
        refine g_lconst (v := (0 : Int64)) C dX6_part_23 (by decide) ?_
        refine g_lconst (v := (1 : Int64)) C dX6_part_24 (by decide) ?_
        obtain ⟨r5, hX6, h⟩ := bd1_inv h
        refine g_callS C (c_X6_in l hX6) (cwSw 3 C.2.2.2.2.1 wl_1089 wl_1090 wl_121 wl_1091 rfl rfl (by decide +kernel) ⟨Nat.le_of_ble_eq_true rfl, Nat.le_of_ble_eq_true rfl⟩) rfl rfl rfl (Nat.le_of_ble_eq_true rfl) dX6_part_25 ?_
        refine g_if_ne (tgt := 34) C dX6_part_28 (by decide) h (fun h => ?_) (fun h => ?_)
        · refine g_bipush (v := (-2 : Int32)) C dX6_part_31 (by decide) ?_
          obtain ⟨rfl, rfl⟩ := sp_inj h
          exact g_iret C hr hlk dX6_part_33 rfl
        · refine g_iload_n C dX6_part_34 rfl 3 rfl ?_
          refine g_iconst (v := (1 : Int32)) C dX6_part_35 (by decide) ?_
          refine g_join_ h 57 ([(0, .ref (ad 0)), (1, .int a0), (2, .int a1), (3, .int a2)]) ([]) ?_ ?_
          · intro h
            refine g_aload_n C dX6_part_57 rfl 0 rfl ?_
            refine g_get C (T := TX6) hcl6 mO_0 rfl (j := 13) (by decide) wl_932 (v := .ref (ad 9)) rfl dX6_part_58 ?_
            refine g_iload_n C dX6_part_61 rfl 1 rfl ?_
            refine g_iald C mI_9 dX6_part_62 h (fun h => ?_)
            refine g_iload_n C dX6_part_63 rfl 2 rfl ?_
            refine g_ishr C dX6_part_64 ?_
            refine g_iconst (v := (1 : Int32)) C dX6_part_65 (by decide) ?_
            refine g_iand C dX6_part_66 ?_
            refine nm_i h (fun x4_8 h => ?_)
            refine g_istore (lv' := [(4, .int x4_8), (0, .ref (ad 0)), (1, .int a0), (2, .int a1), (3, .int a2)]) C dX6_part_67 (by decide) rfl ?_
            refine g_aload_n C dX6_part_69 rfl 1 rfl ?_
            refine g_get C (T := TX6) hcl6 mO_0 rfl (j := 13) (by decide) wl_932 (v := .ref (ad 9)) rfl dX6_part_70 ?_
            refine g_iload_n C dX6_part_73 rfl 2 rfl ?_
            refine g_aload_n C dX6_part_74 rfl 1 rfl ?_
            refine g_get C (T := TX6) hcl6 mO_0 rfl (j := 13) (by decide) wl_932 (v := .ref (ad 9)) rfl dX6_part_75 ?_
            refine g_iload_n C dX6_part_78 rfl 2 rfl ?_
            refine g_iald C mI_9 dX6_part_79 h (fun h => ?_)
            refine g_iconst (v := (1 : Int32)) C dX6_part_80 (by decide) ?_
            refine g_iload_n C dX6_part_81 rfl 3 rfl ?_
            refine g_ishl C dX6_part_82 ?_
            refine g_iconst (v := (-1 : Int32)) C dX6_part_83 (by decide) ?_
            refine g_ixor C dX6_part_84 ?_
            refine g_iand C dX6_part_85 ?_
            refine g_iload_n C dX6_part_86 rfl 4 rfl ?_
            refine g_iload_n C dX6_part_87 rfl 3 rfl ?_
            refine g_ishl C dX6_part_88 ?_
            refine g_ior C dX6_part_89 ?_
            refine g_iast C mI_9 dX6_part_90 h (fun m9 h => ?_)
            refine g_aload_n C dX6_part_91 rfl 1 rfl ?_
            refine g_get C (T := TX6) hcl6 mO_0 rfl (j := 13) (by decide) wl_932 (v := .ref (ad 9)) rfl dX6_part_92 ?_
            refine g_iload_n C dX6_part_95 rfl 3 rfl ?_
            refine g_aload_n C dX6_part_96 rfl 1 rfl ?_
            refine g_get C (T := TX6) hcl6 mO_0 rfl (j := 13) (by decide) wl_932 (v := .ref (ad 9)) rfl dX6_part_97 ?_
            refine g_iload_n C dX6_part_100 rfl 3 rfl ?_
            refine g_iald C mI_9 dX6_part_101 h (fun h => ?_)
            refine g_iconst (v := (1 : Int32)) C dX6_part_102 (by decide) ?_
            refine g_iload_n C dX6_part_103 rfl 2 rfl ?_
            refine g_ishl C dX6_part_104 ?_
            refine g_iconst (v := (-1 : Int32)) C dX6_part_105 (by decide) ?_
            refine g_ixor C dX6_part_106 ?_
            refine g_iand C dX6_part_107 ?_
            refine g_iload_n C dX6_part_108 rfl 4 rfl ?_
            refine g_iload_n C dX6_part_109 rfl 2 rfl ?_
            refine g_ishl C dX6_part_110 ?_
            refine g_ior C dX6_part_111 ?_
            refine g_iast C mI_9 dX6_part_112 h (fun m10 h => ?_)
            refine g_iload C dX6_part_113 0 rfl ?_
            obtain ⟨rfl, rfl⟩ := sp_inj h
            exact g_iret C hr hlk dX6_part_115 rfl
          intro J7 hJ7 h
          refine g_icmp_ne (tgt := 57) C dX6_part_36 (by decide) h (fun h => ?_) (fun h => ?_)
          · refine g_aload_n C dX6_part_39 rfl 0 rfl ?_
            refine g_get C (T := TX6) hcl6 mO_0 rfl (j := 12) (by decide) wl_931 (v := .ref (ad 8)) rfl dX6_part_40 ?_
            refine g_iload_n C dX6_part_43 rfl 1 rfl ?_
            refine g_iald C mI_8 dX6_part_44 h (fun h => ?_)
            refine g_aload_n C dX6_part_45 rfl 0 rfl ?_
            refine g_get C (T := TX6) hcl6 mO_0 rfl (j := 12) (by decide) wl_931 (v := .ref (ad 8)) rfl dX6_part_46 ?_
            refine g_iload_n C dX6_part_49 rfl 2 rfl ?_
            refine g_iald C mI_8 dX6_part_50 h (fun h => ?_)
            refine g_icmp_ne (tgt := 57) C dX6_part_51 (by decide) h (fun h => ?_) (fun h => ?_)
            · refine g_bipush (v := (-3 : Int32)) C dX6_part_54 (by decide) ?_
              obtain ⟨rfl, rfl⟩ := sp_inj h
              exact g_iret C hr hlk dX6_part_56 rfl
            · exact g_sub [0, 1, 2, 3] rfl (hJ7  h)
          · exact g_sub [0, 1, 2, 3] rfl (hJ7  h)

def rmX6_opensOf : Room := { frames := 0, cells := 0, slots := 0, locals := 0 }
set_option maxRecDepth 100000 in
set_option maxHeartbeats 4000000 in
theorem c_X6_opensOf (l : Launch)  {a0 : Int32}  {m : MM} {r : Int32} (h : f_X6_opensOf a0 m = some r) : CT l yX6_opensOf cX6_opensOf 2 (some .int) rmX6_opensOf cfM 23 (fun ad tb => [.ref (ad 0), .int a0]) m (some (.int r)) m := by
  refine CT.of (cc := cX6_opensOf) (maxL := 2) (ret := (some .int)) (by decide) ⟨rfl, rfl⟩ (fun _ _ => Nat.le_of_ble_eq_true rfl) ?_
  intro p e s mt args below meth c D cA ad tb C hr hlk
  refine g_lv (lv' := [(0, .ref (ad 0)), (1, .int a0)]) rfl ?_
  have hcl6 : ∀ w ∈ wsX60, w.before args s = true := fun w hw => C.2.2.2.2.1 w (inlX6 w hw)
  unfold f_X6_opensOf at h
  refine g_aload_n C dX6_opensOf_0 rfl 0 rfl ?_
  refine g_get C (T := TX6) hcl6 mO_0 rfl (j := 7) (by decide) wl_926 (v := .ref (ad 4)) rfl dX6_opensOf_1 ?_
  refine g_iload_n C dX6_opensOf_4 rfl 1 rfl ?_
  refine g_iald C mI_4 dX6_opensOf_5 h (fun h => ?_)
  refine g_iconst (v := (1 : Int32)) C dX6_opensOf_6 (by decide) ?_
  refine g_icmp_ne (tgt := 14) C dX6_opensOf_7 (by decide) h (fun h => ?_) (fun h => ?_)
  · refine g_iconst (v := (1 : Int32)) C dX6_opensOf_10 (by decide) ?_
    refine g_goto (tgt := 15) C dX6_opensOf_11 (by decide) ?_
    obtain rfl := so_inj h
    exact g_iret C hr hlk dX6_opensOf_15 rfl
  · refine g_iconst (v := (0 : Int32)) C dX6_opensOf_14 (by decide) ?_
    obtain rfl := so_inj h
    exact g_iret C hr hlk dX6_opensOf_15 rfl

def rmX6_told : Room := { frames := 2, cells := 0, slots := 0, locals := 46 }
set_option maxRecDepth 100000 in
set_option maxHeartbeats 4000000 in
theorem c_X6_told (l : Launch) {F : Nat}  {a0 : Int32} {a1 : Int32}  {m : MM} {r : Int32} (h : f_X6_told F a0 a1 m = some r) : CT l yX6_told cX6_told 3 (some .int) rmX6_told cfM 23 (fun ad tb => [.ref (ad 0), .int a0, .int a1]) m (some (.int r)) m := by
  refine CT.of (cc := cX6_told) (maxL := 3) (ret := (some .int)) (by decide) ⟨rfl, rfl⟩ (fun _ _ => Nat.le_of_ble_eq_true rfl) ?_
  intro p e s mt args below meth c D cA ad tb C hr hlk
  refine g_lv (lv' := [(0, .ref (ad 0)), (1, .int a0), (2, .int a1)]) rfl ?_
  have hcl6 : ∀ w ∈ wsX60, w.before args s = true := fun w hw => C.2.2.2.2.1 w (inlX6 w hw)
  unfold f_X6_told at h
  refine g_iload_n C dX6_told_0 rfl 2 rfl ?_
  refine g_i2l C dX6_told_1 ?_
  refine g_lconst (v := (0 : Int64)) C dX6_told_2 (by decide) ?_
  refine g_ldc2 (v := (11 : Int64)) C dX6_told_3 wl_1147 ?_
  obtain ⟨r1, hX2, h⟩ := bd1_inv h
  refine g_callS C (c_X6_in l hX2) (cwSw 3 C.2.2.2.2.1 wl_1089 wl_1090 wl_121 wl_1091 rfl rfl (by decide +kernel) ⟨Nat.le_of_ble_eq_true rfl, Nat.le_of_ble_eq_true rfl⟩) rfl rfl rfl (Nat.le_of_ble_eq_true rfl) dX6_told_6 ?_
  refine g_if_eq (tgt := 37) C dX6_told_9 (by decide) h (fun h => ?_) (fun h => ?_)
  · refine g_bipush (v := (-100 : Int32)) C dX6_told_37 (by decide) ?_
    obtain rfl := so_inj h
    exact g_iret C hr hlk dX6_told_39 rfl
  · refine g_iload_n C dX6_told_12 rfl 2 rfl ?_
    refine g_bipush (v := (8 : Int32)) C dX6_told_13 (by decide) ?_
    refine g_join_ h 40 ([(0, .ref (ad 0)), (1, .int a0), (2, .int a1)]) ([]) ?_ ?_
    · intro h
      refine g_iload_n C dX6_told_40 rfl 2 rfl ?_
      refine g_bipush (v := (6 : Int32)) C dX6_told_41 (by decide) ?_
      refine g_icmp_ge (tgt := 118) C dX6_told_43 (by decide) h (fun h => ?_) (fun h => ?_)
      · refine g_iload_n C dX6_told_118 rfl 2 rfl ?_
        refine g_bipush (v := (8 : Int32)) C dX6_told_119 (by decide) ?_
        refine g_icmp_ge (tgt := 154) C dX6_told_121 (by decide) h (fun h => ?_) (fun h => ?_)
        · refine g_iload_n C dX6_told_154 rfl 2 rfl ?_
          refine g_bipush (v := (8 : Int32)) C dX6_told_155 (by decide) ?_
          refine g_icmp_ne (tgt := 169) C dX6_told_157 (by decide) h (fun h => ?_) (fun h => ?_)
          · refine g_aload_n C dX6_told_160 rfl 0 rfl ?_
            refine g_get C (T := TX6) hcl6 mO_0 rfl (j := 10) (by decide) wl_929 (v := .ref (ad 6)) rfl dX6_told_161 ?_
            refine g_iload_n C dX6_told_164 rfl 1 rfl ?_
            refine g_iald C mI_6 dX6_told_165 h (fun h => ?_)
            refine g_goto (tgt := 205) C dX6_told_166 (by decide) ?_
            obtain rfl := so_inj h
            exact g_iret C hr hlk dX6_told_205 rfl
          · refine g_iload_n C dX6_told_169 rfl 2 rfl ?_
            refine g_bipush (v := (9 : Int32)) C dX6_told_170 (by decide) ?_
            refine g_icmp_ne (tgt := 184) C dX6_told_172 (by decide) h (fun h => ?_) (fun h => ?_)
            · refine g_aload_n C dX6_told_175 rfl 0 rfl ?_
              refine g_get C (T := TX6) hcl6 mO_0 rfl (j := 11) (by decide) wl_930 (v := .ref (ad 7)) rfl dX6_told_176 ?_
              refine g_iload_n C dX6_told_179 rfl 1 rfl ?_
              refine g_iald C mI_7 dX6_told_180 h (fun h => ?_)
              refine g_goto (tgt := 205) C dX6_told_181 (by decide) ?_
              obtain rfl := so_inj h
              exact g_iret C hr hlk dX6_told_205 rfl
            · refine g_iload_n C dX6_told_184 rfl 2 rfl ?_
              refine g_bipush (v := (10 : Int32)) C dX6_told_185 (by decide) ?_
              refine g_icmp_ne (tgt := 199) C dX6_told_187 (by decide) h (fun h => ?_) (fun h => ?_)
              · refine g_aload_n C dX6_told_190 rfl 0 rfl ?_
                refine g_get C (T := TX6) hcl6 mO_0 rfl (j := 12) (by decide) wl_931 (v := .ref (ad 8)) rfl dX6_told_191 ?_
                refine g_iload_n C dX6_told_194 rfl 1 rfl ?_
                refine g_iald C mI_8 dX6_told_195 h (fun h => ?_)
                refine g_goto (tgt := 205) C dX6_told_196 (by decide) ?_
                obtain rfl := so_inj h
                exact g_iret C hr hlk dX6_told_205 rfl
              · refine g_aload_n C dX6_told_199 rfl 0 rfl ?_
                refine g_get C (T := TX6) hcl6 mO_0 rfl (j := 13) (by decide) wl_932 (v := .ref (ad 9)) rfl dX6_told_200 ?_
                refine g_iload_n C dX6_told_203 rfl 1 rfl ?_
                refine g_iald C mI_9 dX6_told_204 h (fun h => ?_)
                obtain rfl := so_inj h
                exact g_iret C hr hlk dX6_told_205 rfl
        · refine g_iload_n C dX6_told_124 rfl 2 rfl ?_
          refine g_bipush (v := (6 : Int32)) C dX6_told_125 (by decide) ?_
          refine g_icmp_ne (tgt := 138) C dX6_told_127 (by decide) h (fun h => ?_) (fun h => ?_)
          · refine g_aload_n C dX6_told_130 rfl 0 rfl ?_
            refine g_iload_n C dX6_told_131 rfl 1 rfl ?_
            obtain ⟨r4, hX5, h⟩ := bd1_inv h
            refine g_callV C (c_X6_inside l hX5) (cwVw 1 C.2.2.2.2.1 wl_1103 wl_1105 wl_37 wl_121 wl_1106 rfl rfl (by decide +kernel) ⟨Nat.le_of_ble_eq_true rfl, Nat.le_of_ble_eq_true rfl⟩) mO_0 rfl rfl rfl rfl (Nat.le_of_ble_eq_true rfl) dX6_told_132 ?_
            refine g_goto (tgt := 153) C dX6_told_135 (by decide) ?_
            obtain rfl := so_inj h
            exact g_iret C hr hlk dX6_told_153 rfl
          · refine g_aload_n C dX6_told_138 rfl 0 rfl ?_
            refine g_iload_n C dX6_told_139 rfl 1 rfl ?_
            obtain ⟨r6, hX7, h⟩ := bd1_inv h
            refine g_callV C (c_X6_roomOf l hX7) (cwVw 1 C.2.2.2.2.1 wl_1115 wl_1117 wl_40 wl_121 wl_1118 rfl rfl (by decide +kernel) ⟨Nat.le_of_ble_eq_true rfl, Nat.le_of_ble_eq_true rfl⟩) mO_0 rfl rfl rfl rfl (Nat.le_of_ble_eq_true rfl) dX6_told_140 ?_
            refine g_aload_n C dX6_told_143 rfl 0 rfl ?_
            refine g_aload_n C dX6_told_144 rfl 0 rfl ?_
            refine g_iload_n C dX6_told_145 rfl 1 rfl ?_
            obtain ⟨r8, hX9, h⟩ := bd1_inv h
            refine g_callV C (c_X6_inside l hX9) (cwVw 1 C.2.2.2.2.1 wl_1103 wl_1105 wl_37 wl_121 wl_1106 rfl rfl (by decide +kernel) ⟨Nat.le_of_ble_eq_true rfl, Nat.le_of_ble_eq_true rfl⟩) mO_0 rfl rfl rfl rfl (Nat.le_of_ble_eq_true rfl) dX6_told_146 ?_
            obtain ⟨r10, hX11, h⟩ := bd1_inv h
            refine g_callV C (c_X6_sizeOf l hX11) (cwVw 1 C.2.2.2.2.1 wl_1111 wl_1113 wl_39 wl_121 wl_1114 rfl rfl (by decide +kernel) ⟨Nat.le_of_ble_eq_true rfl, Nat.le_of_ble_eq_true rfl⟩) mO_0 rfl rfl rfl rfl (Nat.le_of_ble_eq_true rfl) dX6_told_149 ?_
            refine g_isub C dX6_told_152 ?_
            obtain rfl := so_inj h
            exact g_iret C hr hlk dX6_told_153 rfl
      · refine g_iload_n C dX6_told_46 rfl 2 rfl ?_
        refine g_if_ne (tgt := 59) C dX6_told_47 (by decide) h (fun h => ?_) (fun h => ?_)
        · refine g_aload_n C dX6_told_50 rfl 0 rfl ?_
          refine g_get C (T := TX6) hcl6 mO_0 rfl (j := 7) (by decide) wl_926 (v := .ref (ad 4)) rfl dX6_told_51 ?_
          refine g_iload_n C dX6_told_54 rfl 1 rfl ?_
          refine g_iald C mI_4 dX6_told_55 h (fun h => ?_)
          refine g_goto (tgt := 117) C dX6_told_56 (by decide) ?_
          obtain rfl := so_inj h
          exact g_iret C hr hlk dX6_told_117 rfl
        · refine g_iload_n C dX6_told_59 rfl 2 rfl ?_
          refine g_iconst (v := (1 : Int32)) C dX6_told_60 (by decide) ?_
          refine g_icmp_ne (tgt := 73) C dX6_told_61 (by decide) h (fun h => ?_) (fun h => ?_)
          · refine g_aload_n C dX6_told_64 rfl 0 rfl ?_
            refine g_get C (T := TX6) hcl6 mO_0 rfl (j := 8) (by decide) wl_927 (v := .ref (ad 5)) rfl dX6_told_65 ?_
            refine g_iload_n C dX6_told_68 rfl 1 rfl ?_
            refine g_iald C mI_5 dX6_told_69 h (fun h => ?_)
            refine g_goto (tgt := 117) C dX6_told_70 (by decide) ?_
            obtain rfl := so_inj h
            exact g_iret C hr hlk dX6_told_117 rfl
          · refine g_iload_n C dX6_told_73 rfl 2 rfl ?_
            refine g_iconst (v := (2 : Int32)) C dX6_told_74 (by decide) ?_
            refine g_icmp_ne (tgt := 86) C dX6_told_75 (by decide) h (fun h => ?_) (fun h => ?_)
            · refine g_aload_n C dX6_told_78 rfl 0 rfl ?_
              refine g_iload_n C dX6_told_79 rfl 1 rfl ?_
              obtain ⟨r12, hX13, h⟩ := bd1_inv h
              refine g_callV C (c_X6_roomOf l hX13) (cwVw 1 C.2.2.2.2.1 wl_1115 wl_1117 wl_40 wl_121 wl_1118 rfl rfl (by decide +kernel) ⟨Nat.le_of_ble_eq_true rfl, Nat.le_of_ble_eq_true rfl⟩) mO_0 rfl rfl rfl rfl (Nat.le_of_ble_eq_true rfl) dX6_told_80 ?_
              refine g_goto (tgt := 117) C dX6_told_83 (by decide) ?_
              obtain rfl := so_inj h
              exact g_iret C hr hlk dX6_told_117 rfl
            · refine g_iload_n C dX6_told_86 rfl 2 rfl ?_
              refine g_iconst (v := (3 : Int32)) C dX6_told_87 (by decide) ?_
              refine g_icmp_ne (tgt := 99) C dX6_told_88 (by decide) h (fun h => ?_) (fun h => ?_)
              · refine g_aload_n C dX6_told_91 rfl 0 rfl ?_
                refine g_iload_n C dX6_told_92 rfl 1 rfl ?_
                obtain ⟨r14, hX15, h⟩ := bd1_inv h
                refine g_callV C (c_X6_mostOf l hX15) (cwVw 1 C.2.2.2.2.1 wl_1122 wl_1124 wl_41 wl_121 wl_1125 rfl rfl (by decide +kernel) ⟨Nat.le_of_ble_eq_true rfl, Nat.le_of_ble_eq_true rfl⟩) mO_0 rfl rfl rfl rfl (Nat.le_of_ble_eq_true rfl) dX6_told_93 ?_
                refine g_goto (tgt := 117) C dX6_told_96 (by decide) ?_
                obtain rfl := so_inj h
                exact g_iret C hr hlk dX6_told_117 rfl
              · refine g_iload_n C dX6_told_99 rfl 2 rfl ?_
                refine g_iconst (v := (4 : Int32)) C dX6_told_100 (by decide) ?_
                refine g_icmp_ne (tgt := 112) C dX6_told_101 (by decide) h (fun h => ?_) (fun h => ?_)
                · refine g_aload_n C dX6_told_104 rfl 0 rfl ?_
                  refine g_iload_n C dX6_told_105 rfl 1 rfl ?_
                  obtain ⟨r16, hX17, h⟩ := bd1_inv h
                  refine g_callV C (c_X6_wetOf l hX17) (cwVw 1 C.2.2.2.2.1 wl_1126 wl_1128 wl_42 wl_121 wl_1129 rfl rfl (by decide +kernel) ⟨Nat.le_of_ble_eq_true rfl, Nat.le_of_ble_eq_true rfl⟩) mO_0 rfl rfl rfl rfl (Nat.le_of_ble_eq_true rfl) dX6_told_106 ?_
                  refine g_goto (tgt := 117) C dX6_told_109 (by decide) ?_
                  obtain rfl := so_inj h
                  exact g_iret C hr hlk dX6_told_117 rfl
                · refine g_aload_n C dX6_told_112 rfl 0 rfl ?_
                  refine g_iload_n C dX6_told_113 rfl 1 rfl ?_
                  obtain ⟨r18, hX19, h⟩ := bd1_inv h
                  refine g_callV C (c_X6_opensOf l hX19) (cwVw 1 C.2.2.2.2.1 wl_1148 wl_1150 wl_44 wl_121 wl_1151 rfl rfl (by decide +kernel) ⟨Nat.le_of_ble_eq_true rfl, Nat.le_of_ble_eq_true rfl⟩) mO_0 rfl rfl rfl rfl (Nat.le_of_ble_eq_true rfl) dX6_told_114 ?_
                  obtain rfl := so_inj h
                  exact g_iret C hr hlk dX6_told_117 rfl
    intro J3 hJ3 h
    refine g_icmp_ge (tgt := 29) C dX6_told_15 (by decide) h (fun h => ?_) (fun h => ?_)
    · refine g_aload_n C dX6_told_29 rfl 0 rfl ?_
      refine g_iload_n C dX6_told_30 rfl 1 rfl ?_
      obtain ⟨r20, hX21, h⟩ := bd1_inv h
      refine g_callV C (c_X6_isThing l hX21) (cwVw 1 C.2.2.2.2.1 wl_1135 wl_1137 wl_43 wl_121 wl_1138 rfl rfl (by decide +kernel) ⟨Nat.le_of_ble_eq_true rfl, Nat.le_of_ble_eq_true rfl⟩) mO_0 rfl rfl rfl rfl (Nat.le_of_ble_eq_true rfl) dX6_told_31 ?_
      refine g_if_ne (tgt := 40) C dX6_told_34 (by decide) h (fun h => ?_) (fun h => ?_)
      · refine g_bipush (v := (-100 : Int32)) C dX6_told_37 (by decide) ?_
        obtain rfl := so_inj h
        exact g_iret C hr hlk dX6_told_39 rfl
      · exact g_sub [0, 1, 2] rfl (hJ3  h)
    · refine g_aload_n C dX6_told_18 rfl 0 rfl ?_
      refine g_iload_n C dX6_told_19 rfl 1 rfl ?_
      obtain ⟨r22, hX23, h⟩ := bd1_inv h
      refine g_callV C (c_X6_isHold l hX23) (cwVw 1 C.2.2.2.2.1 wl_1099 wl_1101 wl_36 wl_121 wl_1102 rfl rfl (by decide +kernel) ⟨Nat.le_of_ble_eq_true rfl, Nat.le_of_ble_eq_true rfl⟩) mO_0 rfl rfl rfl rfl (Nat.le_of_ble_eq_true rfl) dX6_told_20 ?_
      refine g_if_eq (tgt := 37) C dX6_told_23 (by decide) h (fun h => ?_) (fun h => ?_)
      · refine g_bipush (v := (-100 : Int32)) C dX6_told_37 (by decide) ?_
        obtain rfl := so_inj h
        exact g_iret C hr hlk dX6_told_39 rfl
      · refine g_goto (tgt := 40) C dX6_told_26 (by decide) ?_
        exact g_sub [0, 1, 2] rfl (hJ3  h)

def rmX6_feed : Room := { frames := 1, cells := 0, slots := 0, locals := 25 }
set_option maxRecDepth 100000 in
set_option maxHeartbeats 4000000 in
theorem c_X6_feed (l : Launch)  {a0 : Int32}  {m : MM} {m' : MM} {r : Int32} (h : f_X6_feed a0 m = some (r, m')) : CT l yX6_feed cX6_feed 2 (some .int) rmX6_feed cfM 23 (fun ad tb => [.ref (ad 0), .int a0]) m (some (.int r)) m' := by
  refine CT.of (cc := cX6_feed) (maxL := 2) (ret := (some .int)) (by decide) ⟨rfl, rfl⟩ (fun _ _ => Nat.le_of_ble_eq_true rfl) ?_
  intro p e s mt args below meth c D cA ad tb C hr hlk
  refine g_lv (lv' := [(0, .ref (ad 0)), (1, .int a0)]) rfl ?_
  have hcl6 : ∀ w ∈ wsX60, w.before args s = true := fun w hw => C.2.2.2.2.1 w (inlX6 w hw)
  unfold f_X6_feed at h
  refine g_iload_n C dX6_feed_0 rfl 1 rfl ?_
  refine g_i2l C dX6_feed_1 ?_
  refine g_lconst (v := (0 : Int64)) C dX6_feed_2 (by decide) ?_
  refine g_ldc2 (v := (255 : Int64)) C dX6_feed_3 wl_1156 ?_
  obtain ⟨r1, hX2, h⟩ := bd1_inv h
  refine g_callS C (c_X6_in l hX2) (cwSw 3 C.2.2.2.2.1 wl_1089 wl_1090 wl_121 wl_1091 rfl rfl (by decide +kernel) ⟨Nat.le_of_ble_eq_true rfl, Nat.le_of_ble_eq_true rfl⟩) rfl rfl rfl (Nat.le_of_ble_eq_true rfl) dX6_feed_6 ?_
  refine g_if_ne (tgt := 15) C dX6_feed_9 (by decide) h (fun h => ?_) (fun h => ?_)
  · refine g_bipush (v := (-2 : Int32)) C dX6_feed_12 (by decide) ?_
    obtain ⟨rfl, rfl⟩ := sp_inj h
    exact g_iret C hr hlk dX6_feed_14 rfl
  · refine g_aload_n C dX6_feed_15 rfl 0 rfl ?_
    refine g_get C (T := TX6) hcl6 mO_0 rfl (j := 6) (by decide) wl_925 (v := .int (rI m 0 6)) rfl dX6_feed_16 ?_
    refine g_sipush (v := (160 : Int32)) C dX6_feed_19 (by decide) ?_
    refine g_icmp_ne (tgt := 28) C dX6_feed_22 (by decide) h (fun h => ?_) (fun h => ?_)
    · refine g_bipush (v := (-4 : Int32)) C dX6_feed_25 (by decide) ?_
      obtain ⟨rfl, rfl⟩ := sp_inj h
      exact g_iret C hr hlk dX6_feed_27 rfl
    · refine g_aload_n C dX6_feed_28 rfl 0 rfl ?_
      refine g_get C (T := TX6) hcl6 mO_0 rfl (j := 5) (by decide) wl_924 (v := .ref (ad 3)) rfl dX6_feed_29 ?_
      refine g_aload_n C dX6_feed_32 rfl 0 rfl ?_
      refine g_get C (T := TX6) hcl6 mO_0 rfl (j := 6) (by decide) wl_925 (v := .int (rI m 0 6)) rfl dX6_feed_33 ?_
      refine g_iload_n C dX6_feed_36 rfl 1 rfl ?_
      refine g_iast C mI_3 dX6_feed_37 h (fun m3 h => ?_)
      refine g_aload_n C dX6_feed_38 rfl 0 rfl ?_
      refine g_dup C dX6_feed_39 rfl ?_
      refine g_get C (T := TX6) hcl6 mO_0 rfl (j := 6) (by decide) wl_925 (v := .int (rI m3 0 6)) rfl dX6_feed_40 ?_
      refine g_iconst (v := (1 : Int32)) C dX6_feed_43 (by decide) ?_
      refine g_iadd C dX6_feed_44 ?_
      refine g_putI C (T := TX6) hcl6 mO_0 rfl (j := 6) (by decide) wl_925 tyX6 tyX6_ok nmX6 rfl rfl pfX6_6 (plX6 6 (by decide)) dX6_feed_45 h (fun m4 h => ?_)
      refine g_aload_n C dX6_feed_48 rfl 0 rfl ?_
      refine g_get C (T := TX6) hcl6 mO_0 rfl (j := 6) (by decide) wl_925 (v := .int (rI m4 0 6)) rfl dX6_feed_49 ?_
      obtain ⟨rfl, rfl⟩ := sp_inj h
      exact g_iret C hr hlk dX6_feed_52 rfl

def rmX6_byteAt : Room := { frames := 0, cells := 0, slots := 0, locals := 0 }
set_option maxRecDepth 100000 in
set_option maxHeartbeats 4000000 in
theorem c_X6_byteAt (l : Launch)  {a0 : Int32}  {m : MM} {r : Int32} (h : f_X6_byteAt a0 m = some r) : CT l yX6_byteAt cX6_byteAt 2 (some .int) rmX6_byteAt cfM 23 (fun ad tb => [.ref (ad 0), .int a0]) m (some (.int r)) m := by
  refine CT.of (cc := cX6_byteAt) (maxL := 2) (ret := (some .int)) (by decide) ⟨rfl, rfl⟩ (fun _ _ => Nat.le_of_ble_eq_true rfl) ?_
  intro p e s mt args below meth c D cA ad tb C hr hlk
  refine g_lv (lv' := [(0, .ref (ad 0)), (1, .int a0)]) rfl ?_
  have hcl6 : ∀ w ∈ wsX60, w.before args s = true := fun w hw => C.2.2.2.2.1 w (inlX6 w hw)
  unfold f_X6_byteAt at h
  refine g_iload_n C dX6_byteAt_0 rfl 1 rfl ?_
  refine g_aload_n C dX6_byteAt_1 rfl 0 rfl ?_
  refine g_get C (T := TX6) hcl6 mO_0 rfl (j := 26) (by decide) wl_945 (v := .int (rI m 0 26)) rfl dX6_byteAt_2 ?_
  refine g_icmp_ge (tgt := 22) C dX6_byteAt_5 (by decide) h (fun h => ?_) (fun h => ?_)
  · refine g_iconst (v := (-1 : Int32)) C dX6_byteAt_22 (by decide) ?_
    obtain rfl := so_inj h
    exact g_iret C hr hlk dX6_byteAt_23 rfl
  · refine g_aload_n C dX6_byteAt_8 rfl 0 rfl ?_
    refine g_get C (T := TX6) hcl6 mO_0 rfl (j := 1) (by decide) wl_920 (v := .ref (ad 1)) rfl dX6_byteAt_9 ?_
    refine g_aload_n C dX6_byteAt_12 rfl 0 rfl ?_
    refine g_get C (T := TX6) hcl6 mO_0 rfl (j := 25) (by decide) wl_944 (v := .int (rI m 0 25)) rfl dX6_byteAt_13 ?_
    refine g_iload_n C dX6_byteAt_16 rfl 1 rfl ?_
    refine g_iadd C dX6_byteAt_17 ?_
    refine g_iald C mI_1 dX6_byteAt_18 h (fun h => ?_)
    refine g_goto (tgt := 23) C dX6_byteAt_19 (by decide) ?_
    obtain rfl := so_inj h
    exact g_iret C hr hlk dX6_byteAt_23 rfl

def rmX6_next : Room := { frames := 1, cells := 0, slots := 0, locals := 25 }
set_option maxRecDepth 100000 in
set_option maxHeartbeats 4000000 in
theorem c_X6_next (l : Launch) {F : Nat}    {m : MM} {m' : MM} (h : f_X6_next F m = some m') : CT l yX6_next cX6_next 3 none rmX6_next cfM 23 (fun ad tb => [.ref (ad 0)]) m none m' := by
  refine CT.of (cc := cX6_next) (maxL := 3) (ret := none) (by decide) ⟨rfl, rfl⟩ (fun _ _ => Nat.le_of_ble_eq_true rfl) ?_
  intro p e s mt args below meth c D cA ad tb C hr hlk
  refine g_lv (lv' := [(0, .ref (ad 0))]) rfl ?_
  have hcl6 : ∀ w ∈ wsX60, w.before args s = true := fun w hw => C.2.2.2.2.1 w (inlX6 w hw)
  unfold f_X6_next at h
  refine g_sub [0] rfl ?_
  refine g_loop_M (L := f_X6_next_L0) h 0 39 (fun m1 => [(0, .ref (ad 0))]) (fun m1 => [(0, .ref (ad 0))]) (fun m1 => []) (fun m1 => []) ?_ ?_ (fun _ _ => rfl)
  · intro m1 h
    refine g_aload_n C dX6_next_39 rfl 0 rfl ?_
    refine g_aload_n C dX6_next_40 rfl 0 rfl ?_
    refine g_get C (T := TX6) hcl6 mO_0 rfl (j := 27) (by decide) wl_946 (v := .int (rI m1 0 27)) rfl dX6_next_41 ?_
    refine g_putI C (T := TX6) hcl6 mO_0 rfl (j := 29) (by decide) wl_948 tyX6 tyX6_ok nmX6 rfl rfl pfX6_29 (plX6 29 (by decide)) dX6_next_44 h (fun m9 h => ?_)
    refine g_aload_n C dX6_next_47 rfl 0 rfl ?_
    refine g_aload_n C dX6_next_48 rfl 0 rfl ?_
    refine g_get C (T := TX6) hcl6 mO_0 rfl (j := 27) (by decide) wl_946 (v := .int (rI m9 0 27)) rfl dX6_next_49 ?_
    obtain ⟨r10, hX11, h⟩ := bd1_inv h
    refine g_callV C (c_X6_byteAt l hX11) (cwVw 1 C.2.2.2.2.1 wl_1169 wl_1171 wl_47 wl_121 wl_1172 rfl rfl (by decide +kernel) ⟨Nat.le_of_ble_eq_true rfl, Nat.le_of_ble_eq_true rfl⟩) mO_0 rfl rfl rfl rfl (Nat.le_of_ble_eq_true rfl) dX6_next_52 ?_
    refine g_istore_n (lv' := [(1, .int r10), (0, .ref (ad 0))]) C dX6_next_55 rfl (by decide) rfl ?_
    refine g_aload_n C dX6_next_56 rfl 1 rfl ?_
    refine g_iconst (v := (4 : Int32)) C dX6_next_57 (by decide) ?_
    refine g_putI C (T := TX6) hcl6 mO_0 rfl (j := 28) (by decide) wl_947 tyX6 tyX6_ok nmX6 rfl rfl pfX6_28 (plX6 28 (by decide)) dX6_next_58 h (fun m12 h => ?_)
    refine g_iload_n C dX6_next_61 rfl 0 rfl ?_
    refine g_if_ge (tgt := 81) C dX6_next_62 (by decide) h (fun h => ?_) (fun h => ?_)
    · refine g_iload_n C dX6_next_81 rfl 0 rfl ?_
      refine g_i2l C dX6_next_82 ?_
      refine g_ldc2 (v := (97 : Int64)) C dX6_next_83 wl_1173 ?_
      refine g_ldc2 (v := (122 : Int64)) C dX6_next_86 wl_1174 ?_
      obtain ⟨r13, hX14, h⟩ := bd1_inv h
      refine g_callS C (c_X6_in l hX14) (cwSw 3 C.2.2.2.2.1 wl_1089 wl_1090 wl_121 wl_1091 rfl rfl (by decide +kernel) ⟨Nat.le_of_ble_eq_true rfl, Nat.le_of_ble_eq_true rfl⟩) rfl rfl rfl (Nat.le_of_ble_eq_true rfl) dX6_next_89 ?_
      refine g_if_eq (tgt := 134) C dX6_next_92 (by decide) h (fun h => ?_) (fun h => ?_)
      · refine g_iload_n C dX6_next_134 rfl 0 rfl ?_
        refine g_i2l C dX6_next_135 ?_
        refine g_ldc2 (v := (48 : Int64)) C dX6_next_136 wl_1175 ?_
        refine g_ldc2 (v := (57 : Int64)) C dX6_next_139 wl_1176 ?_
        obtain ⟨r15, hX16, h⟩ := bd1_inv h
        refine g_callS C (c_X6_in l hX16) (cwSw 3 C.2.2.2.2.1 wl_1089 wl_1090 wl_121 wl_1091 rfl rfl (by decide +kernel) ⟨Nat.le_of_ble_eq_true rfl, Nat.le_of_ble_eq_true rfl⟩) rfl rfl rfl (Nat.le_of_ble_eq_true rfl) dX6_next_142 ?_
        refine g_if_eq (tgt := 252) C dX6_next_145 (by decide) h (fun h => ?_) (fun h => ?_)
        · refine g_iload_n C dX6_next_252 rfl 0 rfl ?_
          refine g_bipush (v := (40 : Int32)) C dX6_next_253 (by decide) ?_
          refine g_join_ h 300 ([(0, .ref (ad 0)), (1, .int r10)]) ([]) ?_ ?_
          · intro h
            refine g_aload_n C dX6_next_300 rfl 0 rfl ?_
            refine g_iconst (v := (3 : Int32)) C dX6_next_301 (by decide) ?_
            refine g_putI C (T := TX6) hcl6 mO_0 rfl (j := 28) (by decide) wl_947 tyX6 tyX6_ok nmX6 rfl rfl pfX6_28 (plX6 28 (by decide)) dX6_next_302 h (fun m18 h => ?_)
            refine g_aload_n C dX6_next_305 rfl 0 rfl ?_
            refine g_iload_n C dX6_next_306 rfl 1 rfl ?_
            refine g_i2l C dX6_next_307 ?_
            refine g_putL C (T := TX6) hcl6 mO_0 rfl (j := 30) (by decide) wl_949 tyX6 tyX6_ok nmX6 rfl rfl pfX6_30 (plX6 30 (by decide)) dX6_next_308 h (fun m19 h => ?_)
            refine g_aload_n C dX6_next_311 rfl 0 rfl ?_
            refine g_dup C dX6_next_312 rfl ?_
            refine g_get C (T := TX6) hcl6 mO_0 rfl (j := 27) (by decide) wl_946 (v := .int (rI m19 0 27)) rfl dX6_next_313 ?_
            refine g_iconst (v := (1 : Int32)) C dX6_next_316 (by decide) ?_
            refine g_iadd C dX6_next_317 ?_
            refine g_putI C (T := TX6) hcl6 mO_0 rfl (j := 27) (by decide) wl_946 tyX6 tyX6_ok nmX6 rfl rfl pfX6_27 (plX6 27 (by decide)) dX6_next_318 h (fun m20 h => ?_)
            obtain rfl := so_inj h
            exact g_vret C hr hlk dX6_next_321 rfl
          intro J17 hJ17 h
          refine g_icmp_eq (tgt := 300) C dX6_next_255 (by decide) h (fun h => ?_) (fun h => ?_)
          · exact g_sub [1, 0] rfl (hJ17  h)
          · refine g_iload_n C dX6_next_258 rfl 0 rfl ?_
            refine g_bipush (v := (41 : Int32)) C dX6_next_259 (by decide) ?_
            refine g_icmp_eq (tgt := 300) C dX6_next_261 (by decide) h (fun h => ?_) (fun h => ?_)
            · exact g_sub [1, 0] rfl (hJ17  h)
            · refine g_iload_n C dX6_next_264 rfl 0 rfl ?_
              refine g_bipush (v := (59 : Int32)) C dX6_next_265 (by decide) ?_
              refine g_icmp_eq (tgt := 300) C dX6_next_267 (by decide) h (fun h => ?_) (fun h => ?_)
              · exact g_sub [1, 0] rfl (hJ17  h)
              · refine g_iload_n C dX6_next_270 rfl 0 rfl ?_
                refine g_bipush (v := (43 : Int32)) C dX6_next_271 (by decide) ?_
                refine g_icmp_eq (tgt := 300) C dX6_next_273 (by decide) h (fun h => ?_) (fun h => ?_)
                · exact g_sub [1, 0] rfl (hJ17  h)
                · refine g_iload_n C dX6_next_276 rfl 0 rfl ?_
                  refine g_bipush (v := (45 : Int32)) C dX6_next_277 (by decide) ?_
                  refine g_icmp_eq (tgt := 300) C dX6_next_279 (by decide) h (fun h => ?_) (fun h => ?_)
                  · exact g_sub [1, 0] rfl (hJ17  h)
                  · refine g_iload_n C dX6_next_282 rfl 0 rfl ?_
                    refine g_bipush (v := (42 : Int32)) C dX6_next_283 (by decide) ?_
                    refine g_icmp_eq (tgt := 300) C dX6_next_285 (by decide) h (fun h => ?_) (fun h => ?_)
                    · exact g_sub [1, 0] rfl (hJ17  h)
                    · refine g_iload_n C dX6_next_288 rfl 0 rfl ?_
                      refine g_bipush (v := (60 : Int32)) C dX6_next_289 (by decide) ?_
                      refine g_icmp_eq (tgt := 300) C dX6_next_291 (by decide) h (fun h => ?_) (fun h => ?_)
                      · exact g_sub [1, 0] rfl (hJ17  h)
                      · refine g_iload_n C dX6_next_294 rfl 0 rfl ?_
                        refine g_bipush (v := (61 : Int32)) C dX6_next_295 (by decide) ?_
                        refine g_icmp_ne (tgt := 321) C dX6_next_297 (by decide) h (fun h => ?_) (fun h => ?_)
                        · exact g_sub [1, 0] rfl (hJ17  h)
                        · obtain rfl := so_inj h
                          exact g_vret C hr hlk dX6_next_321 rfl
        · refine g_aload_n C dX6_next_148 rfl 1 rfl ?_
          refine g_iconst (v := (2 : Int32)) C dX6_next_149 (by decide) ?_
          refine g_putI C (T := TX6) hcl6 mO_0 rfl (j := 28) (by decide) wl_947 tyX6 tyX6_ok nmX6 rfl rfl pfX6_28 (plX6 28 (by decide)) dX6_next_150 h (fun m21 h => ?_)
          refine g_aload_n C dX6_next_153 rfl 1 rfl ?_
          refine g_lconst (v := (0 : Int64)) C dX6_next_154 (by decide) ?_
          refine g_putL C (T := TX6) hcl6 mO_0 rfl (j := 30) (by decide) wl_949 tyX6 tyX6_ok nmX6 rfl rfl pfX6_30 (plX6 30 (by decide)) dX6_next_155 h (fun m22 h => ?_)
          refine g_iconst (v := (0 : Int32)) C dX6_next_158 (by decide) ?_
          refine g_istore_n (lv' := [(2, .int (0 : Int32)), (1, .int r10), (0, .ref (ad 0))]) C dX6_next_159 rfl (by decide) rfl ?_
          refine g_sub [2, 0] rfl ?_
          refine g_loop_IM (L := f_X6_next_L160) h 160 235 (fun x2_23 m24 => [(0, .ref (ad 0)), (2, .int x2_23)]) (fun x2_23 m24 => [(0, .ref (ad 0)), (2, .int x2_23)]) (fun x2_23 m24 => []) (fun x2_23 m24 => []) ?_ ?_ (fun _ _ _ => rfl)
          · intro x2_23 m24 h
            refine g_aload_n C dX6_next_235 rfl 0 rfl ?_
            refine g_iload_n C dX6_next_236 rfl 1 rfl ?_
            refine g_iconst (v := (4 : Int32)) C dX6_next_237 (by decide) ?_
            refine g_join_I h 246 (fun s37 => []) (fun s37 => [.int s37, .ref (ad 0)]) ?_ ?_
            · intro s37 h
              refine g_putI C (T := TX6) hcl6 mO_0 rfl (j := 28) (by decide) wl_947 tyX6 tyX6_ok nmX6 rfl rfl pfX6_28 (plX6 28 (by decide)) dX6_next_246 h (fun m39 h => ?_)
              refine g_goto (tgt := 321) C dX6_next_249 (by decide) ?_
              obtain rfl := so_inj h
              exact g_vret C hr hlk dX6_next_321 rfl
            intro J38 hJ38 h
            refine g_icmp_le (tgt := 245) C dX6_next_238 (by decide) h (fun h => ?_) (fun h => ?_)
            · refine g_iconst (v := (2 : Int32)) C dX6_next_245 (by decide) ?_
              exact g_sub [] rfl (hJ38 _ h)
            · refine g_iconst (v := (4 : Int32)) C dX6_next_241 (by decide) ?_
              refine g_goto (tgt := 246) C dX6_next_242 (by decide) ?_
              exact g_sub [] rfl (hJ38 _ h)
          · intro K25 hK25 n ih x2_23 m24 h
            rw [f_X6_next_L160] at h
            refine g_aload_n C dX6_next_160 rfl 0 rfl ?_
            refine g_aload_n C dX6_next_161 rfl 0 rfl ?_
            refine g_get C (T := TX6) hcl6 mO_0 rfl (j := 27) (by decide) wl_946 (v := .int (rI m24 0 27)) rfl dX6_next_162 ?_
            obtain ⟨r26, hX27, h⟩ := bd1_inv h
            refine g_callV C (c_X6_byteAt l hX27) (cwVw 1 C.2.2.2.2.1 wl_1169 wl_1171 wl_47 wl_121 wl_1172 rfl rfl (by decide +kernel) ⟨Nat.le_of_ble_eq_true rfl, Nat.le_of_ble_eq_true rfl⟩) mO_0 rfl rfl rfl rfl (Nat.le_of_ble_eq_true rfl) dX6_next_165 ?_
            refine g_i2l C dX6_next_168 ?_
            refine g_ldc2 (v := (48 : Int64)) C dX6_next_169 wl_1175 ?_
            refine g_ldc2 (v := (57 : Int64)) C dX6_next_172 wl_1176 ?_
            obtain ⟨r28, hX29, h⟩ := bd1_inv h
            refine g_callS C (c_X6_in l hX29) (cwSw 3 C.2.2.2.2.1 wl_1089 wl_1090 wl_121 wl_1091 rfl rfl (by decide +kernel) ⟨Nat.le_of_ble_eq_true rfl, Nat.le_of_ble_eq_true rfl⟩) rfl rfl rfl (Nat.le_of_ble_eq_true rfl) dX6_next_175 ?_
            refine g_if_eq (tgt := 235) C dX6_next_178 (by decide) h (fun h => ?_) (fun h => ?_)
            · exact g_sub [0, 1] rfl (hK25 _ _ h)
            · refine g_aload_n C dX6_next_181 rfl 0 rfl ?_
              refine g_iload_n C dX6_next_182 rfl 1 rfl ?_
              refine g_iconst (v := (4 : Int32)) C dX6_next_183 (by decide) ?_
              refine g_join_L h 216 (fun s30 => [(0, .ref (ad 0)), (2, .int x2_23)]) (fun s30 => [.long s30, .ref (ad 0)]) ?_ ?_
              · intro s30 h
                refine g_putL C (T := TX6) hcl6 mO_0 rfl (j := 30) (by decide) wl_949 tyX6 tyX6_ok nmX6 rfl rfl pfX6_30 (plX6 30 (by decide)) dX6_next_216 h (fun m32 h => ?_)
                refine g_iinc (lv' := [(0, .ref (ad 0))]) C dX6_next_219 (q := 1) rfl (by decide) h rfl (fun _ => rfl) (fun x2_33 h => ?_)
                refine g_aload_n C dX6_next_222 rfl 1 rfl ?_
                refine g_dup C dX6_next_223 rfl ?_
                refine g_get C (T := TX6) hcl6 mO_0 rfl (j := 27) (by decide) wl_946 (v := .int (rI m32 0 27)) rfl dX6_next_224 ?_
                refine g_iconst (v := (1 : Int32)) C dX6_next_227 (by decide) ?_
                refine g_iadd C dX6_next_228 ?_
                refine g_putI C (T := TX6) hcl6 mO_0 rfl (j := 27) (by decide) wl_946 tyX6 tyX6_ok nmX6 rfl rfl pfX6_27 (plX6 27 (by decide)) dX6_next_229 h (fun m34 h => ?_)
                refine g_goto (tgt := 160) C dX6_next_232 (by decide) ?_
                exact g_sub [1, 0] rfl (ih _ _ h)
              intro J31 hJ31 h
              refine g_icmp_ge (tgt := 212) C dX6_next_184 (by decide) h (fun h => ?_) (fun h => ?_)
              · refine g_aload_n C dX6_next_212 rfl 0 rfl ?_
                refine g_get C (T := TX6) hcl6 mO_0 rfl (j := 30) (by decide) wl_949 (v := .long (rL m24 0 30)) rfl dX6_next_213 ?_
                exact g_sub [0, 1] rfl (hJ31 _ h)
              · refine g_ldc2 (v := (10 : Int64)) C dX6_next_187 wl_1097 ?_
                refine g_aload_n C dX6_next_190 rfl 0 rfl ?_
                refine g_get C (T := TX6) hcl6 mO_0 rfl (j := 30) (by decide) wl_949 (v := .long (rL m24 0 30)) rfl dX6_next_191 ?_
                refine g_lmul C dX6_next_194 ?_
                refine g_aload_n C dX6_next_195 rfl 0 rfl ?_
                refine g_aload_n C dX6_next_196 rfl 0 rfl ?_
                refine g_get C (T := TX6) hcl6 mO_0 rfl (j := 27) (by decide) wl_946 (v := .int (rI m24 0 27)) rfl dX6_next_197 ?_
                obtain ⟨r35, hX36, h⟩ := bd1_inv h
                refine g_callV C (c_X6_byteAt l hX36) (cwVw 1 C.2.2.2.2.1 wl_1169 wl_1171 wl_47 wl_121 wl_1172 rfl rfl (by decide +kernel) ⟨Nat.le_of_ble_eq_true rfl, Nat.le_of_ble_eq_true rfl⟩) mO_0 rfl rfl rfl rfl (Nat.le_of_ble_eq_true rfl) dX6_next_200 ?_
                refine g_i2l C dX6_next_203 ?_
                refine g_ladd C dX6_next_204 ?_
                refine g_ldc2 (v := (48 : Int64)) C dX6_next_205 wl_1175 ?_
                refine g_lsub C dX6_next_208 ?_
                refine g_goto (tgt := 216) C dX6_next_209 (by decide) ?_
                exact g_sub [0, 1] rfl (hJ31 _ h)
      · refine g_aload_n C dX6_next_95 rfl 1 rfl ?_
        refine g_iconst (v := (1 : Int32)) C dX6_next_96 (by decide) ?_
        refine g_putI C (T := TX6) hcl6 mO_0 rfl (j := 28) (by decide) wl_947 tyX6 tyX6_ok nmX6 rfl rfl pfX6_28 (plX6 28 (by decide)) dX6_next_97 h (fun m40 h => ?_)
        refine g_sub [1] rfl ?_
        refine g_loop_M (L := f_X6_next_L100) h 100 0 (fun m41 => [(0, .ref (ad 0))]) (fun m41 => []) (fun m41 => []) (fun m41 => []) ?_ ?_ (fun _ _ => rfl)
        · intro m41 h
          cases h
        · intro K42 hK42 n ih m41 h
          rw [f_X6_next_L100] at h
          refine g_aload_n C dX6_next_100 rfl 0 rfl ?_
          refine g_aload_n C dX6_next_101 rfl 0 rfl ?_
          refine g_get C (T := TX6) hcl6 mO_0 rfl (j := 27) (by decide) wl_946 (v := .int (rI m41 0 27)) rfl dX6_next_102 ?_
          obtain ⟨r43, hX44, h⟩ := bd1_inv h
          refine g_callV C (c_X6_byteAt l hX44) (cwVw 1 C.2.2.2.2.1 wl_1169 wl_1171 wl_47 wl_121 wl_1172 rfl rfl (by decide +kernel) ⟨Nat.le_of_ble_eq_true rfl, Nat.le_of_ble_eq_true rfl⟩) mO_0 rfl rfl rfl rfl (Nat.le_of_ble_eq_true rfl) dX6_next_105 ?_
          refine g_i2l C dX6_next_108 ?_
          refine g_ldc2 (v := (97 : Int64)) C dX6_next_109 wl_1173 ?_
          refine g_ldc2 (v := (122 : Int64)) C dX6_next_112 wl_1174 ?_
          obtain ⟨r45, hX46, h⟩ := bd1_inv h
          refine g_callS C (c_X6_in l hX46) (cwSw 3 C.2.2.2.2.1 wl_1089 wl_1090 wl_121 wl_1091 rfl rfl (by decide +kernel) ⟨Nat.le_of_ble_eq_true rfl, Nat.le_of_ble_eq_true rfl⟩) rfl rfl rfl (Nat.le_of_ble_eq_true rfl) dX6_next_115 ?_
          refine g_if_eq (tgt := 321) C dX6_next_118 (by decide) h (fun h => ?_) (fun h => ?_)
          · obtain rfl := so_inj h
            exact g_vret C hr hlk dX6_next_321 rfl
          · refine g_aload_n C dX6_next_121 rfl 0 rfl ?_
            refine g_dup C dX6_next_122 rfl ?_
            refine g_get C (T := TX6) hcl6 mO_0 rfl (j := 27) (by decide) wl_946 (v := .int (rI m41 0 27)) rfl dX6_next_123 ?_
            refine g_iconst (v := (1 : Int32)) C dX6_next_126 (by decide) ?_
            refine g_iadd C dX6_next_127 ?_
            refine g_putI C (T := TX6) hcl6 mO_0 rfl (j := 27) (by decide) wl_946 tyX6 tyX6_ok nmX6 rfl rfl pfX6_27 (plX6 27 (by decide)) dX6_next_128 h (fun m47 h => ?_)
            refine g_goto (tgt := 100) C dX6_next_131 (by decide) ?_
            exact g_sub [0] rfl (ih _ h)
    · refine g_aload_n C dX6_next_65 rfl 1 rfl ?_
      refine g_iconst (v := (0 : Int32)) C dX6_next_66 (by decide) ?_
      refine g_putI C (T := TX6) hcl6 mO_0 rfl (j := 28) (by decide) wl_947 tyX6 tyX6_ok nmX6 rfl rfl pfX6_28 (plX6 28 (by decide)) dX6_next_67 h (fun m48 h => ?_)
      refine g_aload_n C dX6_next_70 rfl 1 rfl ?_
      refine g_aload_n C dX6_next_71 rfl 1 rfl ?_
      refine g_get C (T := TX6) hcl6 mO_0 rfl (j := 26) (by decide) wl_945 (v := .int (rI m48 0 26)) rfl dX6_next_72 ?_
      refine g_putI C (T := TX6) hcl6 mO_0 rfl (j := 29) (by decide) wl_948 tyX6 tyX6_ok nmX6 rfl rfl pfX6_29 (plX6 29 (by decide)) dX6_next_75 h (fun m49 h => ?_)
      refine g_goto (tgt := 321) C dX6_next_78 (by decide) ?_
      obtain rfl := so_inj h
      exact g_vret C hr hlk dX6_next_321 rfl
  · intro K2 hK2 n ih m1 h
    rw [f_X6_next_L0] at h
    refine g_aload_n C dX6_next_0 rfl 0 rfl ?_
    refine g_aload_n C dX6_next_1 rfl 0 rfl ?_
    refine g_get C (T := TX6) hcl6 mO_0 rfl (j := 27) (by decide) wl_946 (v := .int (rI m1 0 27)) rfl dX6_next_2 ?_
    obtain ⟨r3, hX4, h⟩ := bd1_inv h
    refine g_callV C (c_X6_byteAt l hX4) (cwVw 1 C.2.2.2.2.1 wl_1169 wl_1171 wl_47 wl_121 wl_1172 rfl rfl (by decide +kernel) ⟨Nat.le_of_ble_eq_true rfl, Nat.le_of_ble_eq_true rfl⟩) mO_0 rfl rfl rfl rfl (Nat.le_of_ble_eq_true rfl) dX6_next_5 ?_
    refine g_bipush (v := (32 : Int32)) C dX6_next_8 (by decide) ?_
    refine g_join_ h 26 ([(0, .ref (ad 0))]) ([]) ?_ ?_
    · intro h
      refine g_aload_n C dX6_next_26 rfl 0 rfl ?_
      refine g_dup C dX6_next_27 rfl ?_
      refine g_get C (T := TX6) hcl6 mO_0 rfl (j := 27) (by decide) wl_946 (v := .int (rI m1 0 27)) rfl dX6_next_28 ?_
      refine g_iconst (v := (1 : Int32)) C dX6_next_31 (by decide) ?_
      refine g_iadd C dX6_next_32 ?_
      refine g_putI C (T := TX6) hcl6 mO_0 rfl (j := 27) (by decide) wl_946 tyX6 tyX6_ok nmX6 rfl rfl pfX6_27 (plX6 27 (by decide)) dX6_next_33 h (fun m6 h => ?_)
      refine g_goto (tgt := 0) C dX6_next_36 (by decide) ?_
      exact g_sub [0] rfl (ih _ h)
    intro J5 hJ5 h
    refine g_icmp_eq (tgt := 26) C dX6_next_10 (by decide) h (fun h => ?_) (fun h => ?_)
    · exact g_sub [0] rfl (hJ5  h)
    · refine g_aload_n C dX6_next_13 rfl 0 rfl ?_
      refine g_aload_n C dX6_next_14 rfl 0 rfl ?_
      refine g_get C (T := TX6) hcl6 mO_0 rfl (j := 27) (by decide) wl_946 (v := .int (rI m1 0 27)) rfl dX6_next_15 ?_
      obtain ⟨r7, hX8, h⟩ := bd1_inv h
      refine g_callV C (c_X6_byteAt l hX8) (cwVw 1 C.2.2.2.2.1 wl_1169 wl_1171 wl_47 wl_121 wl_1172 rfl rfl (by decide +kernel) ⟨Nat.le_of_ble_eq_true rfl, Nat.le_of_ble_eq_true rfl⟩) mO_0 rfl rfl rfl rfl (Nat.le_of_ble_eq_true rfl) dX6_next_18 ?_
      refine g_bipush (v := (10 : Int32)) C dX6_next_21 (by decide) ?_
      refine g_icmp_ne (tgt := 39) C dX6_next_23 (by decide) h (fun h => ?_) (fun h => ?_)
      · exact g_sub [0] rfl (hJ5  h)
      · exact g_sub [0] rfl (hK2 _ h)
