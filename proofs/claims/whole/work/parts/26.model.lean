/-! contracts: X6_ways X6_soonest X6_draws X6_drawn X6_chance X6_image X6_back X6_count X6_sheet X6_cell X6_copy X6_things X6_over -/
def rmX6_ways : Room := { frames := 45, cells := 0, slots := 0, locals := 1000 }
set_option maxRecDepth 100000 in
set_option maxHeartbeats 4000000 in
theorem c_X6_ways (l : Launch) {F : Nat}  {a0 : Int32} {a1 : Int32}  {m : MM} {m' : MM} {r : Int64} (h : f_X6_ways F a0 a1 m = some (r, m')) : CT l yX6_ways cX6_ways 5 (some .long) rmX6_ways cfM 23 (fun ad tb => [.ref (ad 0), .int a0, .int a1]) m (some (.long r)) m' := by
  refine CT.of (cc := cX6_ways) (maxL := 5) (ret := (some .long)) (by decide) ⟨rfl, rfl⟩ (fun _ _ => Nat.le_of_ble_eq_true rfl) ?_
  intro p e s mt args below meth c D cA ad tb C hr hlk
  refine g_lv (lv' := [(0, .ref (ad 0)), (1, .int a0), (2, .int a1)]) rfl ?_
  have hcl6 : ∀ w ∈ wsX60, w.before args s = true := fun w hw => C.2.2.2.2.1 w (inlX6 w hw)
  unfold f_X6_ways at h
  refine g_iload_n C dX6_ways_0 rfl 1 rfl ?_
  obtain ⟨r1, hX2, h⟩ := bd1_inv h
  refine g_callS C (c_X6_isSheet l hX2) (cwSw 1 C.2.2.2.2.1 wl_1454 wl_1455 wl_121 wl_1456 rfl rfl (by decide +kernel) ⟨Nat.le_of_ble_eq_true rfl, Nat.le_of_ble_eq_true rfl⟩) rfl rfl rfl (Nat.le_of_ble_eq_true rfl) dX6_ways_1 ?_
  refine g_if_eq (tgt := 41) C dX6_ways_4 (by decide) h (fun h => ?_) (fun h => ?_)
  · refine g_ldc2 (v := (-4611686018427387904 : Int64)) C dX6_ways_41 wl_1467 ?_
    obtain ⟨rfl, rfl⟩ := sp_inj h
    exact g_lret C hr hlk dX6_ways_44 rfl
  · refine g_iload_n C dX6_ways_7 rfl 2 rfl ?_
    refine g_i2l C dX6_ways_8 ?_
    refine g_lconst (v := (0 : Int64)) C dX6_ways_9 (by decide) ?_
    refine g_ldc2 (v := (8 : Int64)) C dX6_ways_10 wl_1466 ?_
    obtain ⟨r3, hX4, h⟩ := bd1_inv h
    refine g_callS C (c_X6_in l hX4) (cwSw 3 C.2.2.2.2.1 wl_1089 wl_1090 wl_121 wl_1091 rfl rfl (by decide +kernel) ⟨Nat.le_of_ble_eq_true rfl, Nat.le_of_ble_eq_true rfl⟩) rfl rfl rfl (Nat.le_of_ble_eq_true rfl) dX6_ways_13 ?_
    refine g_if_eq (tgt := 41) C dX6_ways_16 (by decide) h (fun h => ?_) (fun h => ?_)
    · refine g_ldc2 (v := (-4611686018427387904 : Int64)) C dX6_ways_41 wl_1467 ?_
      obtain ⟨rfl, rfl⟩ := sp_inj h
      exact g_lret C hr hlk dX6_ways_44 rfl
    · refine g_aload_n C dX6_ways_19 rfl 0 rfl ?_
      refine g_get C (T := TX6) hcl6 mO_0 rfl (j := 50) (by decide) wl_969 (v := .ref (ad 19)) rfl dX6_ways_20 ?_
      refine g_iload_n C dX6_ways_23 rfl 1 rfl ?_
      refine g_zald C mZ_19 dX6_ways_24 h (fun h => ?_)
      refine g_if_eq (tgt := 41) C dX6_ways_25 (by decide) h (fun h => ?_) (fun h => ?_)
      · refine g_ldc2 (v := (-4611686018427387904 : Int64)) C dX6_ways_41 wl_1467 ?_
        obtain ⟨rfl, rfl⟩ := sp_inj h
        exact g_lret C hr hlk dX6_ways_44 rfl
      · refine g_aload_n C dX6_ways_28 rfl 0 rfl ?_
        refine g_get C (T := TX6) hcl6 mO_0 rfl (j := 52) (by decide) wl_971 (v := .ref (ad 21)) rfl dX6_ways_29 ?_
        refine g_iload_n C dX6_ways_32 rfl 1 rfl ?_
        refine g_iald C mI_21 dX6_ways_33 h (fun h => ?_)
        refine g_aload_n C dX6_ways_34 rfl 0 rfl ?_
        refine g_get C (T := TX6) hcl6 mO_0 rfl (j := 14) (by decide) wl_933 (v := .int (rI m 0 14)) rfl dX6_ways_35 ?_
        refine g_icmp_eq (tgt := 45) C dX6_ways_38 (by decide) h (fun h => ?_) (fun h => ?_)
        · refine g_aload_n C dX6_ways_45 rfl 0 rfl ?_
          refine g_iload_n C dX6_ways_46 rfl 1 rfl ?_
          obtain ⟨r5, hX6, h⟩ := bd1_inv h
          refine g_callV C (c_X6_codeOf l hX6) (cwVw 1 C.2.2.2.2.1 wl_1468 wl_1470 wl_104 wl_121 wl_1471 rfl rfl (by decide +kernel) ⟨Nat.le_of_ble_eq_true rfl, Nat.le_of_ble_eq_true rfl⟩) mO_0 rfl rfl rfl rfl (Nat.le_of_ble_eq_true rfl) dX6_ways_47 ?_
          refine g_istore_n (lv' := [(3, .int r5), (0, .ref (ad 0)), (1, .int a0), (2, .int a1)]) C dX6_ways_50 rfl (by decide) rfl ?_
          refine g_iload_n C dX6_ways_51 rfl 0 rfl ?_
          refine g_iconst (v := (-1 : Int32)) C dX6_ways_52 (by decide) ?_
          refine g_icmp_ne (tgt := 58) C dX6_ways_53 (by decide) h (fun h => ?_) (fun h => ?_)
          · refine g_lconst (v := (0 : Int64)) C dX6_ways_56 (by decide) ?_
            obtain ⟨rfl, rfl⟩ := sp_inj h
            exact g_lret C hr hlk dX6_ways_57 rfl
          · refine g_aload_n C dX6_ways_58 rfl 1 rfl ?_
            obtain ⟨m8, hX7, h⟩ := bd1_inv h
            refine g_callV C (c_X6_begins l hX7) (cwVw 0 C.2.2.2.2.1 wl_1472 wl_1474 wl_105 wl_121 wl_1475 rfl rfl (by decide +kernel) ⟨Nat.le_of_ble_eq_true rfl, Nat.le_of_ble_eq_true rfl⟩) mO_0 rfl rfl rfl rfl (Nat.le_of_ble_eq_true rfl) dX6_ways_59 ?_
            refine g_iconst (v := (0 : Int32)) C dX6_ways_62 (by decide) ?_
            refine g_istore (lv' := [(4, .int (0 : Int32)), (3, .int r5), (0, .ref (ad 0)), (1, .int a0), (2, .int a1)]) C dX6_ways_63 (by decide) rfl ?_
            refine g_sub [2, 4, 1, 0] rfl ?_
            refine g_loop_IM (L := f_X6_ways_L65 F a1) h 65 81 (fun x4_9 m10 => [(0, .ref (ad 0)), (2, .int a1), (3, .int r5), (4, .int x4_9)]) (fun x4_9 m10 => [(0, .ref (ad 0)), (3, .int r5)]) (fun x4_9 m10 => []) (fun x4_9 m10 => []) ?_ ?_ (fun _ _ _ => rfl)
            · intro x4_9 m10 h
              refine g_aload_n C dX6_ways_81 rfl 0 rfl ?_
              refine g_get C (T := TX6) hcl6 mO_0 rfl (j := 42) (by decide) wl_961 (v := .ref (ad 16)) rfl dX6_ways_82 ?_
              refine g_iload_n C dX6_ways_85 rfl 1 rfl ?_
              refine g_lald C mL_16 dX6_ways_86 h (fun h => ?_)
              obtain ⟨rfl, rfl⟩ := sp_inj h
              exact g_lret C hr hlk dX6_ways_87 rfl
            · intro K11 hK11 n ih x4_9 m10 h
              rw [f_X6_ways_L65] at h
              refine g_iload C dX6_ways_65 3 rfl ?_
              refine g_iload_n C dX6_ways_67 rfl 1 rfl ?_
              refine g_icmp_ge (tgt := 81) C dX6_ways_68 (by decide) h (fun h => ?_) (fun h => ?_)
              · exact g_sub [0, 2] rfl (hK11 _ _ h)
              · refine g_aload_n C dX6_ways_71 rfl 0 rfl ?_
                obtain ⟨m13, hX12, h⟩ := bd1_inv h
                refine g_callV C (c_X6_steps l hX12) (cwVw 0 C.2.2.2.2.1 wl_1476 wl_1478 wl_106 wl_121 wl_1479 rfl rfl (by decide +kernel) ⟨Nat.le_of_ble_eq_true rfl, Nat.le_of_ble_eq_true rfl⟩) mO_0 rfl rfl rfl rfl (Nat.le_of_ble_eq_true rfl) dX6_ways_72 ?_
                refine g_iinc (lv' := [(0, .ref (ad 0)), (2, .int a1), (3, .int r5)]) C dX6_ways_75 (q := 3) rfl (by decide) h rfl (fun _ => rfl) (fun x4_14 h => ?_)
                refine g_goto (tgt := 65) C dX6_ways_78 (by decide) ?_
                exact g_sub [1, 2, 3, 0] rfl (ih _ _ h)
        · refine g_ldc2 (v := (-4611686018427387904 : Int64)) C dX6_ways_41 wl_1467 ?_
          obtain ⟨rfl, rfl⟩ := sp_inj h
          exact g_lret C hr hlk dX6_ways_44 rfl

def rmX6_soonest : Room := { frames := 45, cells := 0, slots := 0, locals := 1000 }
set_option maxRecDepth 100000 in
set_option maxHeartbeats 4000000 in
theorem c_X6_soonest (l : Launch) {F : Nat}  {a0 : Int32}  {m : MM} {m' : MM} {r : Int32} (h : f_X6_soonest F a0 m = some (r, m')) : CT l yX6_soonest cX6_soonest 4 (some .int) rmX6_soonest cfM 23 (fun ad tb => [.ref (ad 0), .int a0]) m (some (.int r)) m' := by
  refine CT.of (cc := cX6_soonest) (maxL := 4) (ret := (some .int)) (by decide) ⟨rfl, rfl⟩ (fun _ _ => Nat.le_of_ble_eq_true rfl) ?_
  intro p e s mt args below meth c D cA ad tb C hr hlk
  refine g_lv (lv' := [(0, .ref (ad 0)), (1, .int a0)]) rfl ?_
  have hcl6 : ∀ w ∈ wsX60, w.before args s = true := fun w hw => C.2.2.2.2.1 w (inlX6 w hw)
  unfold f_X6_soonest at h
  refine g_iload_n C dX6_soonest_0 rfl 1 rfl ?_
  obtain ⟨r1, hX2, h⟩ := bd1_inv h
  refine g_callS C (c_X6_isSheet l hX2) (cwSw 1 C.2.2.2.2.1 wl_1454 wl_1455 wl_121 wl_1456 rfl rfl (by decide +kernel) ⟨Nat.le_of_ble_eq_true rfl, Nat.le_of_ble_eq_true rfl⟩) rfl rfl rfl (Nat.le_of_ble_eq_true rfl) dX6_soonest_1 ?_
  refine g_if_ne (tgt := 10) C dX6_soonest_4 (by decide) h (fun h => ?_) (fun h => ?_)
  · refine g_bipush (v := (-2 : Int32)) C dX6_soonest_7 (by decide) ?_
    obtain ⟨rfl, rfl⟩ := sp_inj h
    exact g_iret C hr hlk dX6_soonest_9 rfl
  · refine g_aload_n C dX6_soonest_10 rfl 0 rfl ?_
    refine g_get C (T := TX6) hcl6 mO_0 rfl (j := 50) (by decide) wl_969 (v := .ref (ad 19)) rfl dX6_soonest_11 ?_
    refine g_iload_n C dX6_soonest_14 rfl 1 rfl ?_
    refine g_zald C mZ_19 dX6_soonest_15 h (fun h => ?_)
    refine g_if_ne (tgt := 22) C dX6_soonest_16 (by decide) h (fun h => ?_) (fun h => ?_)
    · refine g_bipush (v := (-11 : Int32)) C dX6_soonest_19 (by decide) ?_
      obtain ⟨rfl, rfl⟩ := sp_inj h
      exact g_iret C hr hlk dX6_soonest_21 rfl
    · refine g_aload_n C dX6_soonest_22 rfl 0 rfl ?_
      refine g_get C (T := TX6) hcl6 mO_0 rfl (j := 52) (by decide) wl_971 (v := .ref (ad 21)) rfl dX6_soonest_23 ?_
      refine g_iload_n C dX6_soonest_26 rfl 1 rfl ?_
      refine g_iald C mI_21 dX6_soonest_27 h (fun h => ?_)
      refine g_aload_n C dX6_soonest_28 rfl 0 rfl ?_
      refine g_get C (T := TX6) hcl6 mO_0 rfl (j := 14) (by decide) wl_933 (v := .int (rI m 0 14)) rfl dX6_soonest_29 ?_
      refine g_icmp_eq (tgt := 38) C dX6_soonest_32 (by decide) h (fun h => ?_) (fun h => ?_)
      · refine g_aload_n C dX6_soonest_38 rfl 0 rfl ?_
        refine g_iload_n C dX6_soonest_39 rfl 1 rfl ?_
        obtain ⟨r3, hX4, h⟩ := bd1_inv h
        refine g_callV C (c_X6_codeOf l hX4) (cwVw 1 C.2.2.2.2.1 wl_1468 wl_1470 wl_104 wl_121 wl_1471 rfl rfl (by decide +kernel) ⟨Nat.le_of_ble_eq_true rfl, Nat.le_of_ble_eq_true rfl⟩) mO_0 rfl rfl rfl rfl (Nat.le_of_ble_eq_true rfl) dX6_soonest_40 ?_
        refine g_istore_n (lv' := [(2, .int r3), (0, .ref (ad 0)), (1, .int a0)]) C dX6_soonest_43 rfl (by decide) rfl ?_
        refine g_iload_n C dX6_soonest_44 rfl 0 rfl ?_
        refine g_iconst (v := (-1 : Int32)) C dX6_soonest_45 (by decide) ?_
        refine g_icmp_ne (tgt := 51) C dX6_soonest_46 (by decide) h (fun h => ?_) (fun h => ?_)
        · refine g_iconst (v := (-1 : Int32)) C dX6_soonest_49 (by decide) ?_
          obtain ⟨rfl, rfl⟩ := sp_inj h
          exact g_iret C hr hlk dX6_soonest_50 rfl
        · refine g_aload_n C dX6_soonest_51 rfl 1 rfl ?_
          obtain ⟨m6, hX5, h⟩ := bd1_inv h
          refine g_callV C (c_X6_begins l hX5) (cwVw 0 C.2.2.2.2.1 wl_1472 wl_1474 wl_105 wl_121 wl_1475 rfl rfl (by decide +kernel) ⟨Nat.le_of_ble_eq_true rfl, Nat.le_of_ble_eq_true rfl⟩) mO_0 rfl rfl rfl rfl (Nat.le_of_ble_eq_true rfl) dX6_soonest_52 ?_
          refine g_iconst (v := (0 : Int32)) C dX6_soonest_55 (by decide) ?_
          refine g_istore_n (lv' := [(3, .int (0 : Int32)), (2, .int r3), (0, .ref (ad 0)), (1, .int a0)]) C dX6_soonest_56 rfl (by decide) rfl ?_
          refine g_sub [2, 1, 0] rfl ?_
          refine g_loop_IM (L := f_X6_soonest_L57 F r3) h 57 86 (fun x3_7 m8 => [(0, .ref (ad 0)), (2, .int r3), (3, .int x3_7)]) (fun x3_7 m8 => []) (fun x3_7 m8 => []) (fun x3_7 m8 => []) ?_ ?_ (fun _ _ _ => rfl)
          · intro x3_7 m8 h
            refine g_iconst (v := (-1 : Int32)) C dX6_soonest_86 (by decide) ?_
            obtain ⟨rfl, rfl⟩ := sp_inj h
            exact g_iret C hr hlk dX6_soonest_87 rfl
          · intro K9 hK9 n ih x3_7 m8 h
            rw [f_X6_soonest_L57] at h
            refine g_iload_n C dX6_soonest_57 rfl 2 rfl ?_
            refine g_bipush (v := (9 : Int32)) C dX6_soonest_58 (by decide) ?_
            refine g_icmp_ge (tgt := 86) C dX6_soonest_60 (by decide) h (fun h => ?_) (fun h => ?_)
            · exact g_sub [] rfl (hK9 _ _ h)
            · refine g_aload_n C dX6_soonest_63 rfl 0 rfl ?_
              refine g_get C (T := TX6) hcl6 mO_0 rfl (j := 42) (by decide) wl_961 (v := .ref (ad 16)) rfl dX6_soonest_64 ?_
              refine g_iload_n C dX6_soonest_67 rfl 1 rfl ?_
              refine g_lald C mL_16 dX6_soonest_68 h (fun h => ?_)
              refine g_lconst (v := (0 : Int64)) C dX6_soonest_69 (by decide) ?_
              refine g_lcmp C dX6_soonest_70 ?_
              refine g_if_le (tgt := 76) C dX6_soonest_71 (by decide) h (fun h => ?_) (fun h => ?_)
              · refine g_aload_n C dX6_soonest_76 rfl 0 rfl ?_
                obtain ⟨m11, hX10, h⟩ := bd1_inv h
                refine g_callV C (c_X6_steps l hX10) (cwVw 0 C.2.2.2.2.1 wl_1476 wl_1478 wl_106 wl_121 wl_1479 rfl rfl (by decide +kernel) ⟨Nat.le_of_ble_eq_true rfl, Nat.le_of_ble_eq_true rfl⟩) mO_0 rfl rfl rfl rfl (Nat.le_of_ble_eq_true rfl) dX6_soonest_77 ?_
                refine g_iinc (lv' := [(0, .ref (ad 0)), (2, .int r3)]) C dX6_soonest_80 (q := 2) rfl (by decide) h rfl (fun _ => rfl) (fun x3_12 h => ?_)
                refine g_goto (tgt := 57) C dX6_soonest_83 (by decide) ?_
                exact g_sub [1, 2, 0] rfl (ih _ _ h)
              · refine g_iload_n C dX6_soonest_74 rfl 2 rfl ?_
                obtain ⟨rfl, rfl⟩ := sp_inj h
                exact g_iret C hr hlk dX6_soonest_75 rfl
      · refine g_bipush (v := (-2 : Int32)) C dX6_soonest_35 (by decide) ?_
        obtain ⟨rfl, rfl⟩ := sp_inj h
        exact g_iret C hr hlk dX6_soonest_37 rfl

def rmX6_draws : Room := { frames := 4, cells := 0, slots := 0, locals := 93 }
set_option maxRecDepth 100000 in
set_option maxHeartbeats 4000000 in
theorem c_X6_draws (l : Launch) {F : Nat}  {a0 : Int32} {a1 : Int32}  {m : MM} {m' : MM} {r : Int32} (h : f_X6_draws F a0 a1 m = some (r, m')) : CT l yX6_draws cX6_draws 8 (some .int) rmX6_draws cfM 23 (fun ad tb => [.ref (ad 0), .int a0, .int a1]) m (some (.int r)) m' := by
  refine CT.of (cc := cX6_draws) (maxL := 8) (ret := (some .int)) (by decide) ⟨rfl, rfl⟩ (fun _ _ => Nat.le_of_ble_eq_true rfl) ?_
  intro p e s mt args below meth c D cA ad tb C hr hlk
  refine g_lv (lv' := [(0, .ref (ad 0)), (1, .int a0), (2, .int a1)]) rfl ?_
  have hcl6 : ∀ w ∈ wsX60, w.before args s = true := fun w hw => C.2.2.2.2.1 w (inlX6 w hw)
  unfold f_X6_draws at h
  refine g_iconst (v := (0 : Int32)) C dX6_draws_0 (by decide) ?_
  refine g_istore_n (lv' := [(3, .int (0 : Int32)), (0, .ref (ad 0)), (1, .int a0), (2, .int a1)]) C dX6_draws_1 rfl (by decide) rfl ?_
  refine g_sub [1, 2, 3, 0] rfl ?_
  refine g_loop_IM (L := f_X6_draws_L2) h 2 25 (fun x3_1 m2 => [(0, .ref (ad 0)), (1, .int a0), (2, .int a1), (3, .int x3_1)]) (fun x3_1 m2 => [(0, .ref (ad 0)), (1, .int a0), (2, .int a1)]) (fun x3_1 m2 => []) (fun x3_1 m2 => []) ?_ ?_ (fun _ _ _ => rfl)
  · intro x3_1 m2 h
    refine g_iload_n C dX6_draws_25 rfl 1 rfl ?_
    refine g_istore_n (lv' := [(3, .int a0), (0, .ref (ad 0)), (1, .int a0), (2, .int a1)]) C dX6_draws_26 rfl (by decide) rfl ?_
    refine g_aload_n C dX6_draws_27 rfl 1 rfl ?_
    obtain ⟨r6, hX7, h⟩ := bd1_inv h
    refine g_callV C (c_X6_isOpen l hX7) (cwVw 0 C.2.2.2.2.1 wl_1387 wl_1389 wl_94 wl_121 wl_1390 rfl rfl (by decide +kernel) ⟨Nat.le_of_ble_eq_true rfl, Nat.le_of_ble_eq_true rfl⟩) mO_0 rfl rfl rfl rfl (Nat.le_of_ble_eq_true rfl) dX6_draws_28 ?_
    refine g_join_I h 39 (fun s8 => [(0, .ref (ad 0)), (2, .int a1), (3, .int a0)]) (fun s8 => [.int s8]) ?_ ?_
    · intro s8 h
      refine g_istore (lv' := [(4, .int s8), (0, .ref (ad 0)), (2, .int a1), (3, .int a0)]) C dX6_draws_39 (by decide) rfl ?_
      refine g_iconst (v := (1 : Int32)) C dX6_draws_41 (by decide) ?_
      refine g_istore (lv' := [(5, .int (1 : Int32)), (4, .int s8), (0, .ref (ad 0)), (2, .int a1), (3, .int a0)]) C dX6_draws_42 (by decide) rfl ?_
      refine g_sub [2, 3, 4, 1, 0] rfl ?_
      refine g_loop_IIIM (L := f_X6_draws_L44 F a1) h 44 136 (fun x3_10 x4_11 x5_12 m13 => [(0, .ref (ad 0)), (2, .int a1), (3, .int x3_10), (4, .int x4_11), (5, .int x5_12)]) (fun x3_10 x4_11 x5_12 m13 => [(0, .ref (ad 0)), (4, .int x4_11)]) (fun x3_10 x4_11 x5_12 m13 => []) (fun x3_10 x4_11 x5_12 m13 => []) ?_ ?_ (fun _ _ _ _ _ => rfl)
      · intro x3_10 x4_11 x5_12 m13 h
        refine g_iconst (v := (0 : Int32)) C dX6_draws_136 (by decide) ?_
        refine g_istore (lv' := [(5, .int (0 : Int32)), (0, .ref (ad 0)), (4, .int x4_11)]) C dX6_draws_137 (by decide) rfl ?_
        refine g_sub [1, 2, 0] rfl ?_
        refine g_loop_IM (L := f_X6_draws_L139) h 139 165 (fun x5_28 m29 => [(0, .ref (ad 0)), (4, .int x4_11), (5, .int x5_28)]) (fun x5_28 m29 => [(4, .int x4_11)]) (fun x5_28 m29 => []) (fun x5_28 m29 => []) ?_ ?_ (fun _ _ _ => rfl)
        · intro x5_28 m29 h
          refine g_iload C dX6_draws_165 0 rfl ?_
          obtain ⟨rfl, rfl⟩ := sp_inj h
          exact g_iret C hr hlk dX6_draws_167 rfl
        · intro K30 hK30 n ih x5_28 m29 h
          rw [f_X6_draws_L139] at h
          refine g_iload C dX6_draws_139 2 rfl ?_
          refine g_iconst (v := (5 : Int32)) C dX6_draws_141 (by decide) ?_
          refine g_icmp_ge (tgt := 165) C dX6_draws_142 (by decide) h (fun h => ?_) (fun h => ?_)
          · exact g_sub [1] rfl (hK30 _ _ h)
          · refine g_aload_n C dX6_draws_145 rfl 0 rfl ?_
            refine g_get C (T := TX6) hcl6 mO_0 rfl (j := 12) (by decide) wl_931 (v := .ref (ad 8)) rfl dX6_draws_146 ?_
            refine g_iload C dX6_draws_149 2 rfl ?_
            refine g_aload_n C dX6_draws_151 rfl 0 rfl ?_
            refine g_get C (T := TX6) hcl6 mO_0 rfl (j := 34) (by decide) wl_953 (v := .ref (ad 10)) rfl dX6_draws_152 ?_
            refine g_iload C dX6_draws_155 2 rfl ?_
            refine g_iald C mI_10 dX6_draws_157 h (fun h => ?_)
            refine g_iast C mI_8 dX6_draws_158 h (fun m31 h => ?_)
            refine g_iinc (lv' := [(0, .ref (ad 0)), (4, .int x4_11)]) C dX6_draws_159 (q := 2) rfl (by decide) h rfl (fun _ => rfl) (fun x5_32 h => ?_)
            refine g_goto (tgt := 139) C dX6_draws_162 (by decide) ?_
            exact g_sub [1, 2, 0] rfl (ih _ _ h)
      · intro K14 hK14 n ih x3_10 x4_11 x5_12 m13 h
        rw [f_X6_draws_L44] at h
        refine g_iload C dX6_draws_44 4 rfl ?_
        refine g_iload_n C dX6_draws_46 rfl 1 rfl ?_
        refine g_icmp_gt (tgt := 136) C dX6_draws_47 (by decide) h (fun h => ?_) (fun h => ?_)
        · exact g_sub [0, 3] rfl (hK14 _ _ _ _ h)
        · refine g_iload C dX6_draws_50 3 rfl ?_
          refine g_iconst (v := (-1 : Int32)) C dX6_draws_52 (by decide) ?_
          refine g_icmp_ne (tgt := 136) C dX6_draws_53 (by decide) h (fun h => ?_) (fun h => ?_)
          · refine g_aload_n C dX6_draws_56 rfl 0 rfl ?_
            refine g_get C (T := TX6) hcl6 mO_0 rfl (j := 14) (by decide) wl_933 (v := .int (rI m13 0 14)) rfl dX6_draws_57 ?_
            refine g_if_le (tgt := 136) C dX6_draws_60 (by decide) h (fun h => ?_) (fun h => ?_)
            · exact g_sub [0, 3] rfl (hK14 _ _ _ _ h)
            · refine g_iload_n C dX6_draws_63 rfl 2 rfl ?_
              refine g_ldcw (v := (1103515245 : Int32)) C dX6_draws_64 wl_1493 ?_
              refine g_imul C dX6_draws_67 ?_
              refine g_sipush (v := (12345 : Int32)) C dX6_draws_68 (by decide) ?_
              refine g_iadd C dX6_draws_71 ?_
              refine nm_i h (fun x3_15 h => ?_)
              refine g_istore_n (lv' := [(3, .int x3_15), (0, .ref (ad 0)), (2, .int a1), (4, .int x4_11), (5, .int x5_12)]) C dX6_draws_72 rfl (by decide) rfl ?_
              refine g_iload_n C dX6_draws_73 rfl 0 rfl ?_
              refine g_bipush (v := (9 : Int32)) C dX6_draws_74 (by decide) ?_
              refine g_iushr C dX6_draws_76 ?_
              refine g_aload_n C dX6_draws_77 rfl 1 rfl ?_
              refine g_get C (T := TX6) hcl6 mO_0 rfl (j := 14) (by decide) wl_933 (v := .int (rI m13 0 14)) rfl dX6_draws_78 ?_
              refine g_irem C dX6_draws_81 h (fun h => ?_)
              refine nm_i h (fun x6_16 h => ?_)
              refine g_istore (lv' := [(6, .int x6_16), (3, .int x3_15), (0, .ref (ad 0)), (2, .int a1), (4, .int x4_11), (5, .int x5_12)]) C dX6_draws_82 (by decide) rfl ?_
              refine g_iload_n C dX6_draws_84 rfl 1 rfl ?_
              refine g_bipush (v := (17 : Int32)) C dX6_draws_85 (by decide) ?_
              refine g_iushr C dX6_draws_87 ?_
              refine g_aload_n C dX6_draws_88 rfl 2 rfl ?_
              refine g_get C (T := TX6) hcl6 mO_0 rfl (j := 9) (by decide) wl_928 (v := .int (rI m13 0 9)) rfl dX6_draws_89 ?_
              refine g_irem C dX6_draws_92 h (fun h => ?_)
              refine nm_i h (fun x7_17 h => ?_)
              refine g_istore (lv' := [(7, .int x7_17), (6, .int x6_16), (3, .int x3_15), (0, .ref (ad 0)), (2, .int a1), (4, .int x4_11), (5, .int x5_12)]) C dX6_draws_93 (by decide) rfl ?_
              refine g_aload_n C dX6_draws_95 rfl 3 rfl ?_
              refine g_iload C dX6_draws_96 1 rfl ?_
              refine g_iload C dX6_draws_98 0 rfl ?_
              obtain ⟨r18, hX19, h⟩ := bd1_inv h
              refine g_callV C (c_X6_canGo l hX19) (cwVw 2 C.2.2.2.2.1 wl_1371 wl_1373 wl_92 wl_121 wl_1374 rfl rfl (by decide +kernel) ⟨Nat.le_of_ble_eq_true rfl, Nat.le_of_ble_eq_true rfl⟩) mO_0 rfl rfl rfl rfl (Nat.le_of_ble_eq_true rfl) dX6_draws_100 ?_
              refine g_join_M h 115 (fun m20 => [(0, .ref (ad 0)), (2, .int a1), (3, .int x3_15), (5, .int x5_12)]) (fun m20 => []) ?_ ?_
              · intro m20 h
                refine g_aload_n C dX6_draws_115 rfl 0 rfl ?_
                obtain ⟨r22, hX23, h⟩ := bd1_inv h
                refine g_callV C (c_X6_isOpen l hX23) (cwVw 0 C.2.2.2.2.1 wl_1387 wl_1389 wl_94 wl_121 wl_1390 rfl rfl (by decide +kernel) ⟨Nat.le_of_ble_eq_true rfl, Nat.le_of_ble_eq_true rfl⟩) mO_0 rfl rfl rfl rfl (Nat.le_of_ble_eq_true rfl) dX6_draws_116 ?_
                refine g_join_I h 128 (fun s24 => [(0, .ref (ad 0)), (2, .int a1), (3, .int x3_15), (5, .int x5_12)]) (fun s24 => [.int s24]) ?_ ?_
                · intro s24 h
                  refine g_istore (lv' := [(4, .int s24), (0, .ref (ad 0)), (2, .int a1), (3, .int x3_15), (5, .int x5_12)]) C dX6_draws_128 (by decide) rfl ?_
                  refine g_iinc (lv' := [(4, .int s24), (0, .ref (ad 0)), (2, .int a1), (3, .int x3_15)]) C dX6_draws_130 (q := 4) rfl (by decide) h rfl (fun _ => rfl) (fun x5_26 h => ?_)
                  refine g_goto (tgt := 44) C dX6_draws_133 (by decide) ?_
                  exact g_sub [2, 3, 4, 1, 0] rfl (ih _ _ _ _ h)
                intro J25 hJ25 h
                refine g_if_eq (tgt := 127) C dX6_draws_119 (by decide) h (fun h => ?_) (fun h => ?_)
                · refine g_iconst (v := (-1 : Int32)) C dX6_draws_127 (by decide) ?_
                  exact g_sub [0, 1, 2, 3] rfl (hJ25 _ h)
                · refine g_iload C dX6_draws_122 3 rfl ?_
                  refine g_goto (tgt := 128) C dX6_draws_124 (by decide) ?_
                  exact g_sub [0, 1, 2, 3] rfl (hJ25 _ h)
              intro J21 hJ21 h
              refine g_if_eq (tgt := 115) C dX6_draws_103 (by decide) h (fun h => ?_) (fun h => ?_)
              · exact g_sub [3, 4, 2, 6] rfl (hJ21 _ h)
              · refine g_aload_n C dX6_draws_106 rfl 3 rfl ?_
                refine g_get C (T := TX6) hcl6 mO_0 rfl (j := 12) (by decide) wl_931 (v := .ref (ad 8)) rfl dX6_draws_107 ?_
                refine g_iload C dX6_draws_110 1 rfl ?_
                refine g_iload C dX6_draws_112 0 rfl ?_
                refine g_iast C mI_8 dX6_draws_114 h (fun m27 h => ?_)
                exact g_sub [3, 4, 2, 6] rfl (hJ21 _ h)
          · exact g_sub [0, 3] rfl (hK14 _ _ _ _ h)
    intro J9 hJ9 h
    refine g_if_eq (tgt := 38) C dX6_draws_31 (by decide) h (fun h => ?_) (fun h => ?_)
    · refine g_iconst (v := (-1 : Int32)) C dX6_draws_38 (by decide) ?_
      exact g_sub [1, 3, 0] rfl (hJ9 _ h)
    · refine g_iconst (v := (0 : Int32)) C dX6_draws_34 (by decide) ?_
      refine g_goto (tgt := 39) C dX6_draws_35 (by decide) ?_
      exact g_sub [1, 3, 0] rfl (hJ9 _ h)
  · intro K3 hK3 n ih x3_1 m2 h
    rw [f_X6_draws_L2] at h
    refine g_iload_n C dX6_draws_2 rfl 3 rfl ?_
    refine g_iconst (v := (5 : Int32)) C dX6_draws_3 (by decide) ?_
    refine g_icmp_ge (tgt := 25) C dX6_draws_4 (by decide) h (fun h => ?_) (fun h => ?_)
    · exact g_sub [0, 1, 2] rfl (hK3 _ _ h)
    · refine g_aload_n C dX6_draws_7 rfl 0 rfl ?_
      refine g_get C (T := TX6) hcl6 mO_0 rfl (j := 34) (by decide) wl_953 (v := .ref (ad 10)) rfl dX6_draws_8 ?_
      refine g_iload_n C dX6_draws_11 rfl 3 rfl ?_
      refine g_aload_n C dX6_draws_12 rfl 0 rfl ?_
      refine g_get C (T := TX6) hcl6 mO_0 rfl (j := 12) (by decide) wl_931 (v := .ref (ad 8)) rfl dX6_draws_13 ?_
      refine g_iload_n C dX6_draws_16 rfl 3 rfl ?_
      refine g_iald C mI_8 dX6_draws_17 h (fun h => ?_)
      refine g_iast C mI_10 dX6_draws_18 h (fun m4 h => ?_)
      refine g_iinc (lv' := [(0, .ref (ad 0)), (1, .int a0), (2, .int a1)]) C dX6_draws_19 (q := 3) rfl (by decide) h rfl (fun _ => rfl) (fun x3_5 h => ?_)
      refine g_goto (tgt := 2) C dX6_draws_22 (by decide) ?_
      exact g_sub [1, 2, 3, 0] rfl (ih _ _ h)

def rmX6_drawn : Room := { frames := 5, cells := 0, slots := 0, locals := 120 }
set_option maxRecDepth 100000 in
set_option maxHeartbeats 4000000 in
theorem c_X6_drawn (l : Launch) {F : Nat}  {a0 : Int32} {a1 : Int32}  {m : MM} {m' : MM} {r : Int32} (h : f_X6_drawn F a0 a1 m = some (r, m')) : CT l yX6_drawn cX6_drawn 3 (some .int) rmX6_drawn cfM 23 (fun ad tb => [.ref (ad 0), .int a0, .int a1]) m (some (.int r)) m' := by
  refine CT.of (cc := cX6_drawn) (maxL := 3) (ret := (some .int)) (by decide) ⟨rfl, rfl⟩ (fun _ _ => Nat.le_of_ble_eq_true rfl) ?_
  intro p e s mt args below meth c D cA ad tb C hr hlk
  refine g_lv (lv' := [(0, .ref (ad 0)), (1, .int a0), (2, .int a1)]) rfl ?_
  unfold f_X6_drawn at h
  refine g_iload_n C dX6_drawn_0 rfl 2 rfl ?_
  refine g_i2l C dX6_drawn_1 ?_
  refine g_lconst (v := (1 : Int64)) C dX6_drawn_2 (by decide) ?_
  refine g_ldc2 (v := (40 : Int64)) C dX6_drawn_3 wl_1488 ?_
  obtain ⟨r1, hX2, h⟩ := bd1_inv h
  refine g_callS C (c_X6_in l hX2) (cwSw 3 C.2.2.2.2.1 wl_1089 wl_1090 wl_121 wl_1091 rfl rfl (by decide +kernel) ⟨Nat.le_of_ble_eq_true rfl, Nat.le_of_ble_eq_true rfl⟩) rfl rfl rfl (Nat.le_of_ble_eq_true rfl) dX6_drawn_6 ?_
  refine g_if_eq (tgt := 21) C dX6_drawn_9 (by decide) h (fun h => ?_) (fun h => ?_)
  · refine g_bipush (v := (-2 : Int32)) C dX6_drawn_21 (by decide) ?_
    obtain ⟨rfl, rfl⟩ := sp_inj h
    exact g_iret C hr hlk dX6_drawn_23 rfl
  · refine g_aload_n C dX6_drawn_12 rfl 0 rfl ?_
    refine g_iload_n C dX6_drawn_13 rfl 1 rfl ?_
    refine g_iload_n C dX6_drawn_14 rfl 2 rfl ?_
    obtain ⟨r3, m5, hX4, h⟩ := bd2_inv h
    refine g_callV C (c_X6_draws l hX4) (cwVw 2 C.2.2.2.2.1 wl_1489 wl_1491 wl_107 wl_121 wl_1492 rfl rfl (by decide +kernel) ⟨Nat.le_of_ble_eq_true rfl, Nat.le_of_ble_eq_true rfl⟩) mO_0 rfl rfl rfl rfl (Nat.le_of_ble_eq_true rfl) dX6_drawn_15 ?_
    refine g_goto (tgt := 23) C dX6_drawn_18 (by decide) ?_
    obtain ⟨rfl, rfl⟩ := sp_inj h
    exact g_iret C hr hlk dX6_drawn_23 rfl

def rmX6_chance : Room := { frames := 5, cells := 0, slots := 0, locals := 120 }
set_option maxRecDepth 100000 in
set_option maxHeartbeats 4000000 in
theorem c_X6_chance (l : Launch) {F : Nat}  {a0 : Int32} {a1 : Int32} {a2 : Int32}  {m : MM} {m' : MM} {r : Int64} (h : f_X6_chance F a0 a1 a2 m = some (r, m')) : CT l yX6_chance cX6_chance 12 (some .long) rmX6_chance cfM 23 (fun ad tb => [.ref (ad 0), .int a0, .int a1, .int a2]) m (some (.long r)) m' := by
  refine CT.of (cc := cX6_chance) (maxL := 12) (ret := (some .long)) (by decide) ⟨rfl, rfl⟩ (fun _ _ => Nat.le_of_ble_eq_true rfl) ?_
  intro p e s mt args below meth c D cA ad tb C hr hlk
  refine g_lv (lv' := [(0, .ref (ad 0)), (1, .int a0), (2, .int a1), (3, .int a2)]) rfl ?_
  unfold f_X6_chance at h
  refine g_iload_n C dX6_chance_0 rfl 2 rfl ?_
  refine g_i2l C dX6_chance_1 ?_
  refine g_lconst (v := (1 : Int64)) C dX6_chance_2 (by decide) ?_
  refine g_ldc2 (v := (20 : Int64)) C dX6_chance_3 wl_1498 ?_
  obtain ⟨r1, hX2, h⟩ := bd1_inv h
  refine g_callS C (c_X6_in l hX2) (cwSw 3 C.2.2.2.2.1 wl_1089 wl_1090 wl_121 wl_1091 rfl rfl (by decide +kernel) ⟨Nat.le_of_ble_eq_true rfl, Nat.le_of_ble_eq_true rfl⟩) rfl rfl rfl (Nat.le_of_ble_eq_true rfl) dX6_chance_6 ?_
  refine g_if_eq (tgt := 22) C dX6_chance_9 (by decide) h (fun h => ?_) (fun h => ?_)
  · refine g_ldc2 (v := (-4611686018427387904 : Int64)) C dX6_chance_22 wl_1467 ?_
    obtain ⟨rfl, rfl⟩ := sp_inj h
    exact g_lret C hr hlk dX6_chance_25 rfl
  · refine g_iload_n C dX6_chance_12 rfl 3 rfl ?_
    refine g_i2l C dX6_chance_13 ?_
    refine g_lconst (v := (0 : Int64)) C dX6_chance_14 (by decide) ?_
    refine g_lconst (v := (1 : Int64)) C dX6_chance_15 (by decide) ?_
    obtain ⟨r3, hX4, h⟩ := bd1_inv h
    refine g_callS C (c_X6_in l hX4) (cwSw 3 C.2.2.2.2.1 wl_1089 wl_1090 wl_121 wl_1091 rfl rfl (by decide +kernel) ⟨Nat.le_of_ble_eq_true rfl, Nat.le_of_ble_eq_true rfl⟩) rfl rfl rfl (Nat.le_of_ble_eq_true rfl) dX6_chance_16 ?_
    refine g_if_ne (tgt := 26) C dX6_chance_19 (by decide) h (fun h => ?_) (fun h => ?_)
    · refine g_ldc2 (v := (-4611686018427387904 : Int64)) C dX6_chance_22 wl_1467 ?_
      obtain ⟨rfl, rfl⟩ := sp_inj h
      exact g_lret C hr hlk dX6_chance_25 rfl
    · refine g_lconst (v := (0 : Int64)) C dX6_chance_26 (by decide) ?_
      refine g_lstore (lv' := [(4, .long (0 : Int64)), (0, .ref (ad 0)), (1, .int a0), (2, .int a1), (3, .int a2)]) C dX6_chance_27 (by decide) rfl ?_
      refine g_iconst (v := (0 : Int32)) C dX6_chance_29 (by decide) ?_
      refine g_istore (lv' := [(6, .int (0 : Int32)), (4, .long (0 : Int64)), (0, .ref (ad 0)), (1, .int a0), (2, .int a1), (3, .int a2)]) C dX6_chance_30 (by decide) rfl ?_
      refine g_sub [2, 3, 4, 5, 1, 0] rfl ?_
      refine g_loop_LIM (L := f_X6_chance_L32 F a0 a1) h 32 68 (fun x4_5 x6_6 m7 => [(0, .ref (ad 0)), (1, .int a0), (2, .int a1), (3, .int a2), (4, .long x4_5), (6, .int x6_6)]) (fun x4_5 x6_6 m7 => [(2, .int a1), (3, .int a2), (4, .long x4_5)]) (fun x4_5 x6_6 m7 => []) (fun x4_5 x6_6 m7 => []) ?_ ?_ (fun _ _ _ _ => rfl)
      · intro x4_5 x6_6 m7 h
        refine g_lload C dX6_chance_68 2 rfl ?_
        refine g_lstore (lv' := [(6, .long x4_5), (2, .int a1), (3, .int a2), (4, .long x4_5)]) C dX6_chance_70 (by decide) rfl ?_
        refine g_iload_n C dX6_chance_72 rfl 1 rfl ?_
        refine g_i2l C dX6_chance_73 ?_
        refine nm_l h (fun x8_16 h => ?_)
        refine g_lstore (lv' := [(8, .long x8_16), (6, .long x4_5), (2, .int a1), (3, .int a2), (4, .long x4_5)]) C dX6_chance_74 (by decide) rfl ?_
        refine g_sub [2, 3, 4, 1, 0] rfl ?_
        refine g_loop_LL (L := f_X6_chance_L76) h 76 101 (fun x6_17 x8_18 => [(2, .int a1), (3, .int a2), (4, .long x4_5), (6, .long x6_17), (8, .long x8_18)]) (fun x6_17 x8_18 => [(2, .int a1), (3, .int a2), (4, .long x4_5), (6, .long x6_17)]) (fun x6_17 x8_18 => []) (fun x6_17 x8_18 => []) ?_ ?_ (fun _ _ _ => rfl)
        · intro x6_17 x8_18 h
          refine g_iload_n C dX6_chance_101 rfl 1 rfl ?_
          refine g_if_ne (tgt := 113) C dX6_chance_102 (by decide) h (fun h => ?_) (fun h => ?_)
          · refine g_lload C dX6_chance_105 2 rfl ?_
            refine g_lload C dX6_chance_107 3 rfl ?_
            refine g_ldiv C dX6_chance_109 h (fun h => ?_)
            refine g_goto (tgt := 118) C dX6_chance_110 (by decide) ?_
            obtain ⟨rfl, rfl⟩ := sp_inj h
            exact g_lret C hr hlk dX6_chance_118 rfl
          · refine g_iload_n C dX6_chance_113 rfl 0 rfl ?_
            refine g_i2l C dX6_chance_114 ?_
            refine g_lload C dX6_chance_115 3 rfl ?_
            refine g_ldiv C dX6_chance_117 h (fun h => ?_)
            obtain ⟨rfl, rfl⟩ := sp_inj h
            exact g_lret C hr hlk dX6_chance_118 rfl
        · intro K19 hK19 n ih x6_17 x8_18 h
          rw [f_X6_chance_L76] at h
          refine g_lload C dX6_chance_76 4 rfl ?_
          refine g_lconst (v := (0 : Int64)) C dX6_chance_78 (by decide) ?_
          refine g_lcmp C dX6_chance_79 ?_
          refine g_if_eq (tgt := 101) C dX6_chance_80 (by decide) h (fun h => ?_) (fun h => ?_)
          · exact g_sub [0, 1, 2, 3] rfl (hK19 _ _ h)
          · refine g_lload C dX6_chance_83 3 rfl ?_
            refine g_lload C dX6_chance_85 4 rfl ?_
            refine g_lrem C dX6_chance_87 h (fun h => ?_)
            refine nm_l h (fun x10_20 h => ?_)
            refine g_lstore (lv' := [(10, .long x10_20), (2, .int a1), (3, .int a2), (4, .long x4_5), (6, .long x6_17), (8, .long x8_18)]) C dX6_chance_88 (by decide) rfl ?_
            refine g_lload C dX6_chance_90 5 rfl ?_
            refine g_lstore (lv' := [(6, .long x8_18), (10, .long x10_20), (2, .int a1), (3, .int a2), (4, .long x4_5), (8, .long x8_18)]) C dX6_chance_92 (by decide) rfl ?_
            refine g_lload C dX6_chance_94 1 rfl ?_
            refine g_lstore (lv' := [(8, .long x10_20), (6, .long x8_18), (10, .long x10_20), (2, .int a1), (3, .int a2), (4, .long x4_5)]) C dX6_chance_96 (by decide) rfl ?_
            refine g_goto (tgt := 76) C dX6_chance_98 (by decide) ?_
            exact g_sub [3, 4, 5, 1, 0] rfl (ih _ _ h)
      · intro K8 hK8 n ih x4_5 x6_6 m7 h
        rw [f_X6_chance_L32] at h
        refine g_iload C dX6_chance_32 5 rfl ?_
        refine g_iload_n C dX6_chance_34 rfl 2 rfl ?_
        refine g_icmp_ge (tgt := 68) C dX6_chance_35 (by decide) h (fun h => ?_) (fun h => ?_)
        · exact g_sub [2, 3, 4] rfl (hK8 _ _ _ h)
        · refine g_lload C dX6_chance_38 4 rfl ?_
          refine g_aload_n C dX6_chance_40 rfl 0 rfl ?_
          refine g_iload_n C dX6_chance_41 rfl 1 rfl ?_
          refine g_iload C dX6_chance_42 5 rfl ?_
          refine g_iadd C dX6_chance_44 ?_
          refine g_bipush (v := (40 : Int32)) C dX6_chance_45 (by decide) ?_
          obtain ⟨r9, m11, hX10, h⟩ := bd2_inv h
          refine g_callV C (c_X6_draws l hX10) (cwVw 2 C.2.2.2.2.1 wl_1489 wl_1491 wl_107 wl_121 wl_1492 rfl rfl (by decide +kernel) ⟨Nat.le_of_ble_eq_true rfl, Nat.le_of_ble_eq_true rfl⟩) mO_0 rfl rfl rfl rfl (Nat.le_of_ble_eq_true rfl) dX6_chance_47 ?_
          refine g_iconst (v := (-1 : Int32)) C dX6_chance_50 (by decide) ?_
          refine g_join_L h 59 (fun s12 => [(0, .ref (ad 0)), (1, .int a0), (2, .int a1), (3, .int a2), (6, .int x6_6)]) (fun s12 => [.long s12, .long x4_5]) ?_ ?_
          · intro s12 h
            refine g_ladd C dX6_chance_59 ?_
            refine nm_l h (fun x4_14 h => ?_)
            refine g_lstore (lv' := [(4, .long x4_14), (0, .ref (ad 0)), (1, .int a0), (2, .int a1), (3, .int a2), (6, .int x6_6)]) C dX6_chance_60 (by decide) rfl ?_
            refine g_iinc (lv' := [(4, .long x4_14), (0, .ref (ad 0)), (1, .int a0), (2, .int a1), (3, .int a2)]) C dX6_chance_62 (q := 5) rfl (by decide) h rfl (fun _ => rfl) (fun x6_15 h => ?_)
            refine g_goto (tgt := 32) C dX6_chance_65 (by decide) ?_
            exact g_sub [2, 3, 4, 5, 1, 0] rfl (ih _ _ _ h)
          intro J13 hJ13 h
          refine g_icmp_eq (tgt := 58) C dX6_chance_51 (by decide) h (fun h => ?_) (fun h => ?_)
          · refine g_lconst (v := (0 : Int64)) C dX6_chance_58 (by decide) ?_
            exact g_sub [0, 1, 2, 3, 5] rfl (hJ13 _ h)
          · refine g_lconst (v := (1 : Int64)) C dX6_chance_54 (by decide) ?_
            refine g_goto (tgt := 59) C dX6_chance_55 (by decide) ?_
            exact g_sub [0, 1, 2, 3, 5] rfl (hJ13 _ h)

def rmX6_image : Room := { frames := 0, cells := 0, slots := 0, locals := 0 }
set_option maxRecDepth 100000 in
set_option maxHeartbeats 4000000 in
theorem c_X6_image (l : Launch) {F : Nat}    {m : MM} {m' : MM} {r : Int32} (h : f_X6_image F m = some (r, m')) : CT l yX6_image cX6_image 2 (some .int) rmX6_image cfM 23 (fun ad tb => [.ref (ad 0)]) m (some (.int r)) m' := by
  refine CT.of (cc := cX6_image) (maxL := 2) (ret := (some .int)) (by decide) ⟨rfl, rfl⟩ (fun _ _ => Nat.le_of_ble_eq_true rfl) ?_
  intro p e s mt args below meth c D cA ad tb C hr hlk
  refine g_lv (lv' := [(0, .ref (ad 0))]) rfl ?_
  have hcl6 : ∀ w ∈ wsX60, w.before args s = true := fun w hw => C.2.2.2.2.1 w (inlX6 w hw)
  unfold f_X6_image at h
  refine g_iconst (v := (0 : Int32)) C dX6_image_0 (by decide) ?_
  refine g_istore_n (lv' := [(1, .int (0 : Int32)), (0, .ref (ad 0))]) C dX6_image_1 rfl (by decide) rfl ?_
  refine g_sub [1, 0] rfl ?_
  refine g_loop_IM (L := f_X6_image_L2) h 2 69 (fun x1_1 m2 => [(0, .ref (ad 0)), (1, .int x1_1)]) (fun x1_1 m2 => [(0, .ref (ad 0))]) (fun x1_1 m2 => []) (fun x1_1 m2 => []) ?_ ?_ (fun _ _ _ => rfl)
  · intro x1_1 m2 h
    refine g_aload_n C dX6_image_69 rfl 0 rfl ?_
    refine g_aload_n C dX6_image_70 rfl 0 rfl ?_
    refine g_get C (T := TX6) hcl6 mO_0 rfl (j := 14) (by decide) wl_933 (v := .int (rI m2 0 14)) rfl dX6_image_71 ?_
    refine g_putI C (T := TX6) hcl6 mO_0 rfl (j := 45) (by decide) wl_964 tyX6 tyX6_ok nmX6 rfl rfl pfX6_45 (plX6 45 (by decide)) dX6_image_74 h (fun m9 h => ?_)
    refine g_aload_n C dX6_image_77 rfl 0 rfl ?_
    refine g_aload_n C dX6_image_78 rfl 0 rfl ?_
    refine g_get C (T := TX6) hcl6 mO_0 rfl (j := 9) (by decide) wl_928 (v := .int (rI m9 0 9)) rfl dX6_image_79 ?_
    refine g_putI C (T := TX6) hcl6 mO_0 rfl (j := 46) (by decide) wl_965 tyX6 tyX6_ok nmX6 rfl rfl pfX6_46 (plX6 46 (by decide)) dX6_image_82 h (fun m10 h => ?_)
    refine g_aload_n C dX6_image_85 rfl 0 rfl ?_
    refine g_aload_n C dX6_image_86 rfl 0 rfl ?_
    refine g_get C (T := TX6) hcl6 mO_0 rfl (j := 15) (by decide) wl_934 (v := .int (rI m10 0 15)) rfl dX6_image_87 ?_
    refine g_putI C (T := TX6) hcl6 mO_0 rfl (j := 47) (by decide) wl_966 tyX6 tyX6_ok nmX6 rfl rfl pfX6_47 (plX6 47 (by decide)) dX6_image_90 h (fun m11 h => ?_)
    refine g_aload_n C dX6_image_93 rfl 0 rfl ?_
    refine g_aload_n C dX6_image_94 rfl 0 rfl ?_
    refine g_get C (T := TX6) hcl6 mO_0 rfl (j := 16) (by decide) wl_935 (v := .int (rI m11 0 16)) rfl dX6_image_95 ?_
    refine g_putI C (T := TX6) hcl6 mO_0 rfl (j := 48) (by decide) wl_967 tyX6 tyX6_ok nmX6 rfl rfl pfX6_48 (plX6 48 (by decide)) dX6_image_98 h (fun m12 h => ?_)
    refine g_aload_n C dX6_image_101 rfl 0 rfl ?_
    refine g_aload_n C dX6_image_102 rfl 0 rfl ?_
    refine g_get C (T := TX6) hcl6 mO_0 rfl (j := 4) (by decide) wl_923 (v := .int (rI m12 0 4)) rfl dX6_image_103 ?_
    refine g_putI C (T := TX6) hcl6 mO_0 rfl (j := 49) (by decide) wl_968 tyX6 tyX6_ok nmX6 rfl rfl pfX6_49 (plX6 49 (by decide)) dX6_image_106 h (fun m13 h => ?_)
    refine g_aload_n C dX6_image_109 rfl 0 rfl ?_
    refine g_get C (T := TX6) hcl6 mO_0 rfl (j := 14) (by decide) wl_933 (v := .int (rI m13 0 14)) rfl dX6_image_110 ?_
    obtain ⟨rfl, rfl⟩ := sp_inj h
    exact g_iret C hr hlk dX6_image_113 rfl
  · intro K3 hK3 n ih x1_1 m2 h
    rw [f_X6_image_L2] at h
    refine g_iload_n C dX6_image_2 rfl 1 rfl ?_
    refine g_iconst (v := (5 : Int32)) C dX6_image_3 (by decide) ?_
    refine g_icmp_ge (tgt := 69) C dX6_image_4 (by decide) h (fun h => ?_) (fun h => ?_)
    · exact g_sub [0] rfl (hK3 _ _ h)
    · refine g_aload_n C dX6_image_7 rfl 0 rfl ?_
      refine g_get C (T := TX6) hcl6 mO_0 rfl (j := 44) (by decide) wl_963 (v := .ref (ad 18)) rfl dX6_image_8 ?_
      refine g_iload_n C dX6_image_11 rfl 1 rfl ?_
      refine g_aload_n C dX6_image_12 rfl 0 rfl ?_
      refine g_get C (T := TX6) hcl6 mO_0 rfl (j := 8) (by decide) wl_927 (v := .ref (ad 5)) rfl dX6_image_13 ?_
      refine g_iload_n C dX6_image_16 rfl 1 rfl ?_
      refine g_iald C mI_5 dX6_image_17 h (fun h => ?_)
      refine g_iast C mI_18 dX6_image_18 h (fun m4 h => ?_)
      refine g_aload_n C dX6_image_19 rfl 0 rfl ?_
      refine g_get C (T := TX6) hcl6 mO_0 rfl (j := 44) (by decide) wl_963 (v := .ref (ad 18)) rfl dX6_image_20 ?_
      refine g_iconst (v := (5 : Int32)) C dX6_image_23 (by decide) ?_
      refine g_iload_n C dX6_image_24 rfl 1 rfl ?_
      refine g_iadd C dX6_image_25 ?_
      refine g_aload_n C dX6_image_26 rfl 0 rfl ?_
      refine g_get C (T := TX6) hcl6 mO_0 rfl (j := 12) (by decide) wl_931 (v := .ref (ad 8)) rfl dX6_image_27 ?_
      refine g_iload_n C dX6_image_30 rfl 1 rfl ?_
      refine g_iald C mI_8 dX6_image_31 h (fun h => ?_)
      refine g_iast C mI_18 dX6_image_32 h (fun m5 h => ?_)
      refine g_aload_n C dX6_image_33 rfl 0 rfl ?_
      refine g_get C (T := TX6) hcl6 mO_0 rfl (j := 44) (by decide) wl_963 (v := .ref (ad 18)) rfl dX6_image_34 ?_
      refine g_bipush (v := (10 : Int32)) C dX6_image_37 (by decide) ?_
      refine g_iload_n C dX6_image_39 rfl 1 rfl ?_
      refine g_iadd C dX6_image_40 ?_
      refine g_aload_n C dX6_image_41 rfl 0 rfl ?_
      refine g_get C (T := TX6) hcl6 mO_0 rfl (j := 11) (by decide) wl_930 (v := .ref (ad 7)) rfl dX6_image_42 ?_
      refine g_iload_n C dX6_image_45 rfl 1 rfl ?_
      refine g_iald C mI_7 dX6_image_46 h (fun h => ?_)
      refine g_iast C mI_18 dX6_image_47 h (fun m6 h => ?_)
      refine g_aload_n C dX6_image_48 rfl 0 rfl ?_
      refine g_get C (T := TX6) hcl6 mO_0 rfl (j := 44) (by decide) wl_963 (v := .ref (ad 18)) rfl dX6_image_49 ?_
      refine g_bipush (v := (15 : Int32)) C dX6_image_52 (by decide) ?_
      refine g_iload_n C dX6_image_54 rfl 1 rfl ?_
      refine g_iadd C dX6_image_55 ?_
      refine g_aload_n C dX6_image_56 rfl 0 rfl ?_
      refine g_get C (T := TX6) hcl6 mO_0 rfl (j := 13) (by decide) wl_932 (v := .ref (ad 9)) rfl dX6_image_57 ?_
      refine g_iload_n C dX6_image_60 rfl 1 rfl ?_
      refine g_iald C mI_9 dX6_image_61 h (fun h => ?_)
      refine g_iast C mI_18 dX6_image_62 h (fun m7 h => ?_)
      refine g_iinc (lv' := [(0, .ref (ad 0))]) C dX6_image_63 (q := 1) rfl (by decide) h rfl (fun _ => rfl) (fun x1_8 h => ?_)
      refine g_goto (tgt := 2) C dX6_image_66 (by decide) ?_
      exact g_sub [1, 0] rfl (ih _ _ h)

def rmX6_back : Room := { frames := 0, cells := 0, slots := 0, locals := 0 }
set_option maxRecDepth 100000 in
set_option maxHeartbeats 4000000 in
theorem c_X6_back (l : Launch) {F : Nat}    {m : MM} {m' : MM} {r : Int32} (h : f_X6_back F m = some (r, m')) : CT l yX6_back cX6_back 2 (some .int) rmX6_back cfM 23 (fun ad tb => [.ref (ad 0)]) m (some (.int r)) m' := by
  refine CT.of (cc := cX6_back) (maxL := 2) (ret := (some .int)) (by decide) ⟨rfl, rfl⟩ (fun _ _ => Nat.le_of_ble_eq_true rfl) ?_
  intro p e s mt args below meth c D cA ad tb C hr hlk
  refine g_lv (lv' := [(0, .ref (ad 0))]) rfl ?_
  have hcl6 : ∀ w ∈ wsX60, w.before args s = true := fun w hw => C.2.2.2.2.1 w (inlX6 w hw)
  unfold f_X6_back at h
  refine g_aload_n C dX6_back_0 rfl 0 rfl ?_
  refine g_get C (T := TX6) hcl6 mO_0 rfl (j := 45) (by decide) wl_964 (v := .int (rI m 0 45)) rfl dX6_back_1 ?_
  refine g_iconst (v := (-1 : Int32)) C dX6_back_4 (by decide) ?_
  refine g_icmp_ne (tgt := 11) C dX6_back_5 (by decide) h (fun h => ?_) (fun h => ?_)
  · refine g_bipush (v := (-3 : Int32)) C dX6_back_8 (by decide) ?_
    obtain ⟨rfl, rfl⟩ := sp_inj h
    exact g_iret C hr hlk dX6_back_10 rfl
  · refine g_iconst (v := (0 : Int32)) C dX6_back_11 (by decide) ?_
    refine g_istore_n (lv' := [(1, .int (0 : Int32)), (0, .ref (ad 0))]) C dX6_back_12 rfl (by decide) rfl ?_
    refine g_sub [1, 0] rfl ?_
    refine g_loop_IM (L := f_X6_back_L13) h 13 80 (fun x1_1 m2 => [(0, .ref (ad 0)), (1, .int x1_1)]) (fun x1_1 m2 => [(0, .ref (ad 0))]) (fun x1_1 m2 => []) (fun x1_1 m2 => []) ?_ ?_ (fun _ _ _ => rfl)
    · intro x1_1 m2 h
      refine g_aload_n C dX6_back_80 rfl 0 rfl ?_
      refine g_aload_n C dX6_back_81 rfl 0 rfl ?_
      refine g_get C (T := TX6) hcl6 mO_0 rfl (j := 45) (by decide) wl_964 (v := .int (rI m2 0 45)) rfl dX6_back_82 ?_
      refine g_putI C (T := TX6) hcl6 mO_0 rfl (j := 14) (by decide) wl_933 tyX6 tyX6_ok nmX6 rfl rfl pfX6_14 (plX6 14 (by decide)) dX6_back_85 h (fun m9 h => ?_)
      refine g_aload_n C dX6_back_88 rfl 0 rfl ?_
      refine g_aload_n C dX6_back_89 rfl 0 rfl ?_
      refine g_get C (T := TX6) hcl6 mO_0 rfl (j := 46) (by decide) wl_965 (v := .int (rI m9 0 46)) rfl dX6_back_90 ?_
      refine g_putI C (T := TX6) hcl6 mO_0 rfl (j := 9) (by decide) wl_928 tyX6 tyX6_ok nmX6 rfl rfl pfX6_9 (plX6 9 (by decide)) dX6_back_93 h (fun m10 h => ?_)
      refine g_aload_n C dX6_back_96 rfl 0 rfl ?_
      refine g_aload_n C dX6_back_97 rfl 0 rfl ?_
      refine g_get C (T := TX6) hcl6 mO_0 rfl (j := 47) (by decide) wl_966 (v := .int (rI m10 0 47)) rfl dX6_back_98 ?_
      refine g_putI C (T := TX6) hcl6 mO_0 rfl (j := 15) (by decide) wl_934 tyX6 tyX6_ok nmX6 rfl rfl pfX6_15 (plX6 15 (by decide)) dX6_back_101 h (fun m11 h => ?_)
      refine g_aload_n C dX6_back_104 rfl 0 rfl ?_
      refine g_aload_n C dX6_back_105 rfl 0 rfl ?_
      refine g_get C (T := TX6) hcl6 mO_0 rfl (j := 48) (by decide) wl_967 (v := .int (rI m11 0 48)) rfl dX6_back_106 ?_
      refine g_putI C (T := TX6) hcl6 mO_0 rfl (j := 16) (by decide) wl_935 tyX6 tyX6_ok nmX6 rfl rfl pfX6_16 (plX6 16 (by decide)) dX6_back_109 h (fun m12 h => ?_)
      refine g_aload_n C dX6_back_112 rfl 0 rfl ?_
      refine g_aload_n C dX6_back_113 rfl 0 rfl ?_
      refine g_get C (T := TX6) hcl6 mO_0 rfl (j := 49) (by decide) wl_968 (v := .int (rI m12 0 49)) rfl dX6_back_114 ?_
      refine g_putI C (T := TX6) hcl6 mO_0 rfl (j := 4) (by decide) wl_923 tyX6 tyX6_ok nmX6 rfl rfl pfX6_4 (plX6 4 (by decide)) dX6_back_117 h (fun m13 h => ?_)
      refine g_aload_n C dX6_back_120 rfl 0 rfl ?_
      refine g_get C (T := TX6) hcl6 mO_0 rfl (j := 14) (by decide) wl_933 (v := .int (rI m13 0 14)) rfl dX6_back_121 ?_
      obtain ⟨rfl, rfl⟩ := sp_inj h
      exact g_iret C hr hlk dX6_back_124 rfl
    · intro K3 hK3 n ih x1_1 m2 h
      rw [f_X6_back_L13] at h
      refine g_iload_n C dX6_back_13 rfl 1 rfl ?_
      refine g_iconst (v := (5 : Int32)) C dX6_back_14 (by decide) ?_
      refine g_icmp_ge (tgt := 80) C dX6_back_15 (by decide) h (fun h => ?_) (fun h => ?_)
      · exact g_sub [0] rfl (hK3 _ _ h)
      · refine g_aload_n C dX6_back_18 rfl 0 rfl ?_
        refine g_get C (T := TX6) hcl6 mO_0 rfl (j := 8) (by decide) wl_927 (v := .ref (ad 5)) rfl dX6_back_19 ?_
        refine g_iload_n C dX6_back_22 rfl 1 rfl ?_
        refine g_aload_n C dX6_back_23 rfl 0 rfl ?_
        refine g_get C (T := TX6) hcl6 mO_0 rfl (j := 44) (by decide) wl_963 (v := .ref (ad 18)) rfl dX6_back_24 ?_
        refine g_iload_n C dX6_back_27 rfl 1 rfl ?_
        refine g_iald C mI_18 dX6_back_28 h (fun h => ?_)
        refine g_iast C mI_5 dX6_back_29 h (fun m4 h => ?_)
        refine g_aload_n C dX6_back_30 rfl 0 rfl ?_
        refine g_get C (T := TX6) hcl6 mO_0 rfl (j := 12) (by decide) wl_931 (v := .ref (ad 8)) rfl dX6_back_31 ?_
        refine g_iload_n C dX6_back_34 rfl 1 rfl ?_
        refine g_aload_n C dX6_back_35 rfl 0 rfl ?_
        refine g_get C (T := TX6) hcl6 mO_0 rfl (j := 44) (by decide) wl_963 (v := .ref (ad 18)) rfl dX6_back_36 ?_
        refine g_iconst (v := (5 : Int32)) C dX6_back_39 (by decide) ?_
        refine g_iload_n C dX6_back_40 rfl 1 rfl ?_
        refine g_iadd C dX6_back_41 ?_
        refine g_iald C mI_18 dX6_back_42 h (fun h => ?_)
        refine g_iast C mI_8 dX6_back_43 h (fun m5 h => ?_)
        refine g_aload_n C dX6_back_44 rfl 0 rfl ?_
        refine g_get C (T := TX6) hcl6 mO_0 rfl (j := 11) (by decide) wl_930 (v := .ref (ad 7)) rfl dX6_back_45 ?_
        refine g_iload_n C dX6_back_48 rfl 1 rfl ?_
        refine g_aload_n C dX6_back_49 rfl 0 rfl ?_
        refine g_get C (T := TX6) hcl6 mO_0 rfl (j := 44) (by decide) wl_963 (v := .ref (ad 18)) rfl dX6_back_50 ?_
        refine g_bipush (v := (10 : Int32)) C dX6_back_53 (by decide) ?_
        refine g_iload_n C dX6_back_55 rfl 1 rfl ?_
        refine g_iadd C dX6_back_56 ?_
        refine g_iald C mI_18 dX6_back_57 h (fun h => ?_)
        refine g_iast C mI_7 dX6_back_58 h (fun m6 h => ?_)
        refine g_aload_n C dX6_back_59 rfl 0 rfl ?_
        refine g_get C (T := TX6) hcl6 mO_0 rfl (j := 13) (by decide) wl_932 (v := .ref (ad 9)) rfl dX6_back_60 ?_
        refine g_iload_n C dX6_back_63 rfl 1 rfl ?_
        refine g_aload_n C dX6_back_64 rfl 0 rfl ?_
        refine g_get C (T := TX6) hcl6 mO_0 rfl (j := 44) (by decide) wl_963 (v := .ref (ad 18)) rfl dX6_back_65 ?_
        refine g_bipush (v := (15 : Int32)) C dX6_back_68 (by decide) ?_
        refine g_iload_n C dX6_back_70 rfl 1 rfl ?_
        refine g_iadd C dX6_back_71 ?_
        refine g_iald C mI_18 dX6_back_72 h (fun h => ?_)
        refine g_iast C mI_9 dX6_back_73 h (fun m7 h => ?_)
        refine g_iinc (lv' := [(0, .ref (ad 0))]) C dX6_back_74 (q := 1) rfl (by decide) h rfl (fun _ => rfl) (fun x1_8 h => ?_)
        refine g_goto (tgt := 13) C dX6_back_77 (by decide) ?_
        exact g_sub [1, 0] rfl (ih _ _ h)

def rmX6_count : Room := { frames := 1, cells := 0, slots := 0, locals := 25 }
set_option maxRecDepth 100000 in
set_option maxHeartbeats 4000000 in
theorem c_X6_count (l : Launch)  {a0 : Int32}  {m : MM} {r : Int32} (h : f_X6_count a0 m = some r) : CT l yX6_count cX6_count 2 (some .int) rmX6_count cfM 23 (fun ad tb => [.ref (ad 0), .int a0]) m (some (.int r)) m := by
  refine CT.of (cc := cX6_count) (maxL := 2) (ret := (some .int)) (by decide) ⟨rfl, rfl⟩ (fun _ _ => Nat.le_of_ble_eq_true rfl) ?_
  intro p e s mt args below meth c D cA ad tb C hr hlk
  refine g_lv (lv' := [(0, .ref (ad 0)), (1, .int a0)]) rfl ?_
  have hcl6 : ∀ w ∈ wsX60, w.before args s = true := fun w hw => C.2.2.2.2.1 w (inlX6 w hw)
  unfold f_X6_count at h
  refine g_iload_n C dX6_count_0 rfl 1 rfl ?_
  refine g_i2l C dX6_count_1 ?_
  refine g_lconst (v := (0 : Int64)) C dX6_count_2 (by decide) ?_
  refine g_ldc2 (v := (6 : Int64)) C dX6_count_3 wl_1511 ?_
  obtain ⟨r1, hX2, h⟩ := bd1_inv h
  refine g_callS C (c_X6_in l hX2) (cwSw 3 C.2.2.2.2.1 wl_1089 wl_1090 wl_121 wl_1091 rfl rfl (by decide +kernel) ⟨Nat.le_of_ble_eq_true rfl, Nat.le_of_ble_eq_true rfl⟩) rfl rfl rfl (Nat.le_of_ble_eq_true rfl) dX6_count_6 ?_
  refine g_if_ne (tgt := 15) C dX6_count_9 (by decide) h (fun h => ?_) (fun h => ?_)
  · refine g_bipush (v := (-2 : Int32)) C dX6_count_12 (by decide) ?_
    obtain rfl := so_inj h
    exact g_iret C hr hlk dX6_count_14 rfl
  · refine g_iload_n C dX6_count_15 rfl 1 rfl ?_
    refine g_iconst (v := (4 : Int32)) C dX6_count_16 (by decide) ?_
    refine g_icmp_ge (tgt := 60) C dX6_count_17 (by decide) h (fun h => ?_) (fun h => ?_)
    · refine g_iload_n C dX6_count_60 rfl 1 rfl ?_
      refine g_iconst (v := (4 : Int32)) C dX6_count_61 (by decide) ?_
      refine g_icmp_ne (tgt := 72) C dX6_count_62 (by decide) h (fun h => ?_) (fun h => ?_)
      · refine g_aload_n C dX6_count_65 rfl 0 rfl ?_
        refine g_get C (T := TX6) hcl6 mO_0 rfl (j := 3) (by decide) wl_922 (v := .int (rI m 0 3)) rfl dX6_count_66 ?_
        refine g_goto (tgt := 88) C dX6_count_69 (by decide) ?_
        obtain rfl := so_inj h
        exact g_iret C hr hlk dX6_count_88 rfl
      · refine g_iload_n C dX6_count_72 rfl 1 rfl ?_
        refine g_iconst (v := (5 : Int32)) C dX6_count_73 (by decide) ?_
        refine g_icmp_ne (tgt := 84) C dX6_count_74 (by decide) h (fun h => ?_) (fun h => ?_)
        · refine g_aload_n C dX6_count_77 rfl 0 rfl ?_
          refine g_get C (T := TX6) hcl6 mO_0 rfl (j := 6) (by decide) wl_925 (v := .int (rI m 0 6)) rfl dX6_count_78 ?_
          refine g_goto (tgt := 88) C dX6_count_81 (by decide) ?_
          obtain rfl := so_inj h
          exact g_iret C hr hlk dX6_count_88 rfl
        · refine g_aload_n C dX6_count_84 rfl 0 rfl ?_
          refine g_get C (T := TX6) hcl6 mO_0 rfl (j := 4) (by decide) wl_923 (v := .int (rI m 0 4)) rfl dX6_count_85 ?_
          obtain rfl := so_inj h
          exact g_iret C hr hlk dX6_count_88 rfl
    · refine g_iload_n C dX6_count_20 rfl 1 rfl ?_
      refine g_if_ne (tgt := 31) C dX6_count_21 (by decide) h (fun h => ?_) (fun h => ?_)
      · refine g_aload_n C dX6_count_24 rfl 0 rfl ?_
        refine g_get C (T := TX6) hcl6 mO_0 rfl (j := 9) (by decide) wl_928 (v := .int (rI m 0 9)) rfl dX6_count_25 ?_
        refine g_goto (tgt := 59) C dX6_count_28 (by decide) ?_
        obtain rfl := so_inj h
        exact g_iret C hr hlk dX6_count_59 rfl
      · refine g_iload_n C dX6_count_31 rfl 1 rfl ?_
        refine g_iconst (v := (1 : Int32)) C dX6_count_32 (by decide) ?_
        refine g_icmp_ne (tgt := 43) C dX6_count_33 (by decide) h (fun h => ?_) (fun h => ?_)
        · refine g_aload_n C dX6_count_36 rfl 0 rfl ?_
          refine g_get C (T := TX6) hcl6 mO_0 rfl (j := 14) (by decide) wl_933 (v := .int (rI m 0 14)) rfl dX6_count_37 ?_
          refine g_goto (tgt := 59) C dX6_count_40 (by decide) ?_
          obtain rfl := so_inj h
          exact g_iret C hr hlk dX6_count_59 rfl
        · refine g_iload_n C dX6_count_43 rfl 1 rfl ?_
          refine g_iconst (v := (2 : Int32)) C dX6_count_44 (by decide) ?_
          refine g_icmp_ne (tgt := 55) C dX6_count_45 (by decide) h (fun h => ?_) (fun h => ?_)
          · refine g_aload_n C dX6_count_48 rfl 0 rfl ?_
            refine g_get C (T := TX6) hcl6 mO_0 rfl (j := 16) (by decide) wl_935 (v := .int (rI m 0 16)) rfl dX6_count_49 ?_
            refine g_goto (tgt := 59) C dX6_count_52 (by decide) ?_
            obtain rfl := so_inj h
            exact g_iret C hr hlk dX6_count_59 rfl
          · refine g_aload_n C dX6_count_55 rfl 0 rfl ?_
            refine g_get C (T := TX6) hcl6 mO_0 rfl (j := 15) (by decide) wl_934 (v := .int (rI m 0 15)) rfl dX6_count_56 ?_
            obtain rfl := so_inj h
            exact g_iret C hr hlk dX6_count_59 rfl

def rmX6_sheet : Room := { frames := 2, cells := 0, slots := 0, locals := 45 }
set_option maxRecDepth 100000 in
set_option maxHeartbeats 4000000 in
theorem c_X6_sheet (l : Launch) {F : Nat}  {a0 : Int32} {a1 : Int32} {a2 : Int32}  {m : MM} {m' : MM} {r : Int32} (h : f_X6_sheet F a0 a1 a2 m = some (r, m')) : CT l yX6_sheet cX6_sheet 5 (some .int) rmX6_sheet cfM 23 (fun ad tb => [.ref (ad 0), .int a0, .int a1, .int a2]) m (some (.int r)) m' := by
  refine CT.of (cc := cX6_sheet) (maxL := 5) (ret := (some .int)) (by decide) ⟨rfl, rfl⟩ (fun _ _ => Nat.le_of_ble_eq_true rfl) ?_
  intro p e s mt args below meth c D cA ad tb C hr hlk
  refine g_lv (lv' := [(0, .ref (ad 0)), (1, .int a0), (2, .int a1), (3, .int a2)]) rfl ?_
  have hcl6 : ∀ w ∈ wsX60, w.before args s = true := fun w hw => C.2.2.2.2.1 w (inlX6 w hw)
  unfold f_X6_sheet at h
  refine g_iload_n C dX6_sheet_0 rfl 1 rfl ?_
  obtain ⟨r1, hX2, h⟩ := bd1_inv h
  refine g_callS C (c_X6_isSheet l hX2) (cwSw 1 C.2.2.2.2.1 wl_1454 wl_1455 wl_121 wl_1456 rfl rfl (by decide +kernel) ⟨Nat.le_of_ble_eq_true rfl, Nat.le_of_ble_eq_true rfl⟩) rfl rfl rfl (Nat.le_of_ble_eq_true rfl) dX6_sheet_1 ?_
  refine g_if_eq (tgt := 31) C dX6_sheet_4 (by decide) h (fun h => ?_) (fun h => ?_)
  · refine g_bipush (v := (-2 : Int32)) C dX6_sheet_31 (by decide) ?_
    obtain ⟨rfl, rfl⟩ := sp_inj h
    exact g_iret C hr hlk dX6_sheet_33 rfl
  · refine g_iload_n C dX6_sheet_7 rfl 2 rfl ?_
    refine g_i2l C dX6_sheet_8 ?_
    refine g_ldc2 (v := (-1 : Int64)) C dX6_sheet_9 wl_1516 ?_
    refine g_ldc2 (v := (2 : Int64)) C dX6_sheet_12 wl_1359 ?_
    obtain ⟨r3, hX4, h⟩ := bd1_inv h
    refine g_callS C (c_X6_in l hX4) (cwSw 3 C.2.2.2.2.1 wl_1089 wl_1090 wl_121 wl_1091 rfl rfl (by decide +kernel) ⟨Nat.le_of_ble_eq_true rfl, Nat.le_of_ble_eq_true rfl⟩) rfl rfl rfl (Nat.le_of_ble_eq_true rfl) dX6_sheet_15 ?_
    refine g_if_eq (tgt := 31) C dX6_sheet_18 (by decide) h (fun h => ?_) (fun h => ?_)
    · refine g_bipush (v := (-2 : Int32)) C dX6_sheet_31 (by decide) ?_
      obtain ⟨rfl, rfl⟩ := sp_inj h
      exact g_iret C hr hlk dX6_sheet_33 rfl
    · refine g_iload_n C dX6_sheet_21 rfl 2 rfl ?_
      refine g_join_ h 34 ([(0, .ref (ad 0)), (1, .int a0), (2, .int a1), (3, .int a2)]) ([]) ?_ ?_
      · intro h
        refine g_iload_n C dX6_sheet_34 rfl 2 rfl ?_
        refine g_join_ h 45 ([(0, .ref (ad 0)), (1, .int a0), (2, .int a1), (3, .int a2)]) ([]) ?_ ?_
        · intro h
          refine g_aload_n C dX6_sheet_45 rfl 0 rfl ?_
          refine g_get C (T := TX6) hcl6 mO_0 rfl (j := 50) (by decide) wl_969 (v := .ref (ad 19)) rfl dX6_sheet_46 ?_
          refine g_iload_n C dX6_sheet_49 rfl 1 rfl ?_
          refine g_iload_n C dX6_sheet_50 rfl 2 rfl ?_
          refine g_join_I h 59 (fun s7 => [(0, .ref (ad 0)), (1, .int a0), (2, .int a1), (3, .int a2)]) (fun s7 => [.int s7, .int a0, .ref (ad 19)]) ?_ ?_
          · intro s7 h
            refine g_zast C mZ_19 dX6_sheet_59 h (fun m9 h => ?_)
            refine g_aload_n C dX6_sheet_60 rfl 0 rfl ?_
            refine g_get C (T := TX6) hcl6 mO_0 rfl (j := 51) (by decide) wl_970 (v := .ref (ad 20)) rfl dX6_sheet_61 ?_
            refine g_iload_n C dX6_sheet_64 rfl 1 rfl ?_
            refine g_iload_n C dX6_sheet_65 rfl 2 rfl ?_
            refine g_iast C mI_20 dX6_sheet_66 h (fun m10 h => ?_)
            refine g_aload_n C dX6_sheet_67 rfl 0 rfl ?_
            refine g_get C (T := TX6) hcl6 mO_0 rfl (j := 52) (by decide) wl_971 (v := .ref (ad 21)) rfl dX6_sheet_68 ?_
            refine g_iload_n C dX6_sheet_71 rfl 1 rfl ?_
            refine g_iload_n C dX6_sheet_72 rfl 3 rfl ?_
            refine g_iast C mI_21 dX6_sheet_73 h (fun m11 h => ?_)
            refine g_iconst (v := (0 : Int32)) C dX6_sheet_74 (by decide) ?_
            refine g_istore (lv' := [(4, .int (0 : Int32)), (0, .ref (ad 0)), (1, .int a0), (2, .int a1), (3, .int a2)]) C dX6_sheet_75 (by decide) rfl ?_
            refine g_sub [1, 2, 3, 4, 0] rfl ?_
            refine g_loop_IM (L := f_X6_sheet_L77 a0 a1 a2) h 77 106 (fun x4_12 m13 => [(0, .ref (ad 0)), (1, .int a0), (2, .int a1), (3, .int a2), (4, .int x4_12)]) (fun x4_12 m13 => []) (fun x4_12 m13 => []) (fun x4_12 m13 => []) ?_ ?_ (fun _ _ _ => rfl)
            · intro x4_12 m13 h
              refine g_iconst (v := (1 : Int32)) C dX6_sheet_106 (by decide) ?_
              obtain ⟨rfl, rfl⟩ := sp_inj h
              exact g_iret C hr hlk dX6_sheet_107 rfl
            · intro K14 hK14 n ih x4_12 m13 h
              rw [f_X6_sheet_L77] at h
              refine g_iload C dX6_sheet_77 4 rfl ?_
              refine g_iload_n C dX6_sheet_79 rfl 3 rfl ?_
              refine g_icmp_ge (tgt := 106) C dX6_sheet_80 (by decide) h (fun h => ?_) (fun h => ?_)
              · exact g_sub [] rfl (hK14 _ _ h)
              · refine g_iload_n C dX6_sheet_83 rfl 2 rfl ?_
                refine g_if_lt (tgt := 106) C dX6_sheet_84 (by decide) h (fun h => ?_) (fun h => ?_)
                · exact g_sub [] rfl (hK14 _ _ h)
                · refine g_aload_n C dX6_sheet_87 rfl 0 rfl ?_
                  refine g_get C (T := TX6) hcl6 mO_0 rfl (j := 53) (by decide) wl_972 (v := .ref (ad 22)) rfl dX6_sheet_88 ?_
                  refine g_bipush (v := (40 : Int32)) C dX6_sheet_91 (by decide) ?_
                  refine g_iload_n C dX6_sheet_93 rfl 1 rfl ?_
                  refine g_imul C dX6_sheet_94 ?_
                  refine g_iload C dX6_sheet_95 4 rfl ?_
                  refine g_iadd C dX6_sheet_97 ?_
                  refine g_iconst (v := (0 : Int32)) C dX6_sheet_98 (by decide) ?_
                  refine g_iast C mI_22 dX6_sheet_99 h (fun m15 h => ?_)
                  refine g_iinc (lv' := [(0, .ref (ad 0)), (1, .int a0), (2, .int a1), (3, .int a2)]) C dX6_sheet_100 (q := 4) rfl (by decide) h rfl (fun _ => rfl) (fun x4_16 h => ?_)
                  refine g_goto (tgt := 77) C dX6_sheet_103 (by decide) ?_
                  exact g_sub [1, 2, 3, 4, 0] rfl (ih _ _ h)
          intro J8 hJ8 h
          refine g_if_lt (tgt := 58) C dX6_sheet_51 (by decide) h (fun h => ?_) (fun h => ?_)
          · refine g_iconst (v := (0 : Int32)) C dX6_sheet_58 (by decide) ?_
            exact g_sub [0, 1, 2, 3] rfl (hJ8 _ h)
          · refine g_iconst (v := (1 : Int32)) C dX6_sheet_54 (by decide) ?_
            refine g_goto (tgt := 59) C dX6_sheet_55 (by decide) ?_
            exact g_sub [0, 1, 2, 3] rfl (hJ8 _ h)
        intro J6 hJ6 h
        refine g_if_lt (tgt := 45) C dX6_sheet_35 (by decide) h (fun h => ?_) (fun h => ?_)
        · exact g_sub [0, 1, 2, 3] rfl (hJ6  h)
        · refine g_iload_n C dX6_sheet_38 rfl 3 rfl ?_
          refine g_if_ge (tgt := 45) C dX6_sheet_39 (by decide) h (fun h => ?_) (fun h => ?_)
          · exact g_sub [0, 1, 2, 3] rfl (hJ6  h)
          · refine g_bipush (v := (-14 : Int32)) C dX6_sheet_42 (by decide) ?_
            obtain ⟨rfl, rfl⟩ := sp_inj h
            exact g_iret C hr hlk dX6_sheet_44 rfl
      intro J5 hJ5 h
      refine g_if_lt (tgt := 34) C dX6_sheet_22 (by decide) h (fun h => ?_) (fun h => ?_)
      · exact g_sub [0, 1, 2, 3] rfl (hJ5  h)
      · refine g_iload_n C dX6_sheet_25 rfl 3 rfl ?_
        refine g_bipush (v := (40 : Int32)) C dX6_sheet_26 (by decide) ?_
        refine g_icmp_le (tgt := 34) C dX6_sheet_28 (by decide) h (fun h => ?_) (fun h => ?_)
        · exact g_sub [0, 1, 2, 3] rfl (hJ5  h)
        · refine g_bipush (v := (-2 : Int32)) C dX6_sheet_31 (by decide) ?_
          obtain ⟨rfl, rfl⟩ := sp_inj h
          exact g_iret C hr hlk dX6_sheet_33 rfl

def rmX6_cell : Room := { frames := 2, cells := 0, slots := 0, locals := 45 }
set_option maxRecDepth 100000 in
set_option maxHeartbeats 4000000 in
theorem c_X6_cell (l : Launch)  {a0 : Int32} {a1 : Int32} {a2 : Int32}  {m : MM} {m' : MM} {r : Int32} (h : f_X6_cell a0 a1 a2 m = some (r, m')) : CT l yX6_cell cX6_cell 4 (some .int) rmX6_cell cfM 23 (fun ad tb => [.ref (ad 0), .int a0, .int a1, .int a2]) m (some (.int r)) m' := by
  refine CT.of (cc := cX6_cell) (maxL := 4) (ret := (some .int)) (by decide) ⟨rfl, rfl⟩ (fun _ _ => Nat.le_of_ble_eq_true rfl) ?_
  intro p e s mt args below meth c D cA ad tb C hr hlk
  refine g_lv (lv' := [(0, .ref (ad 0)), (1, .int a0), (2, .int a1), (3, .int a2)]) rfl ?_
  have hcl6 : ∀ w ∈ wsX60, w.before args s = true := fun w hw => C.2.2.2.2.1 w (inlX6 w hw)
  unfold f_X6_cell at h
  refine g_iload_n C dX6_cell_0 rfl 1 rfl ?_
  obtain ⟨r1, hX2, h⟩ := bd1_inv h
  refine g_callS C (c_X6_isSheet l hX2) (cwSw 1 C.2.2.2.2.1 wl_1454 wl_1455 wl_121 wl_1456 rfl rfl (by decide +kernel) ⟨Nat.le_of_ble_eq_true rfl, Nat.le_of_ble_eq_true rfl⟩) rfl rfl rfl (Nat.le_of_ble_eq_true rfl) dX6_cell_1 ?_
  refine g_if_ne (tgt := 10) C dX6_cell_4 (by decide) h (fun h => ?_) (fun h => ?_)
  · refine g_bipush (v := (-2 : Int32)) C dX6_cell_7 (by decide) ?_
    obtain ⟨rfl, rfl⟩ := sp_inj h
    exact g_iret C hr hlk dX6_cell_9 rfl
  · refine g_aload_n C dX6_cell_10 rfl 0 rfl ?_
    refine g_get C (T := TX6) hcl6 mO_0 rfl (j := 50) (by decide) wl_969 (v := .ref (ad 19)) rfl dX6_cell_11 ?_
    refine g_iload_n C dX6_cell_14 rfl 1 rfl ?_
    refine g_zald C mZ_19 dX6_cell_15 h (fun h => ?_)
    refine g_if_ne (tgt := 22) C dX6_cell_16 (by decide) h (fun h => ?_) (fun h => ?_)
    · refine g_bipush (v := (-11 : Int32)) C dX6_cell_19 (by decide) ?_
      obtain ⟨rfl, rfl⟩ := sp_inj h
      exact g_iret C hr hlk dX6_cell_21 rfl
    · refine g_iload_n C dX6_cell_22 rfl 2 rfl ?_
      refine g_i2l C dX6_cell_23 ?_
      refine g_lconst (v := (0 : Int64)) C dX6_cell_24 (by decide) ?_
      refine g_aload_n C dX6_cell_25 rfl 0 rfl ?_
      refine g_get C (T := TX6) hcl6 mO_0 rfl (j := 52) (by decide) wl_971 (v := .ref (ad 21)) rfl dX6_cell_26 ?_
      refine g_iload_n C dX6_cell_29 rfl 1 rfl ?_
      refine g_iald C mI_21 dX6_cell_30 h (fun h => ?_)
      refine g_iconst (v := (1 : Int32)) C dX6_cell_31 (by decide) ?_
      refine g_isub C dX6_cell_32 ?_
      refine g_i2l C dX6_cell_33 ?_
      obtain ⟨r3, hX4, h⟩ := bd1_inv h
      refine g_callS C (c_X6_in l hX4) (cwSw 3 C.2.2.2.2.1 wl_1089 wl_1090 wl_121 wl_1091 rfl rfl (by decide +kernel) ⟨Nat.le_of_ble_eq_true rfl, Nat.le_of_ble_eq_true rfl⟩) rfl rfl rfl (Nat.le_of_ble_eq_true rfl) dX6_cell_34 ?_
      refine g_if_ne (tgt := 43) C dX6_cell_37 (by decide) h (fun h => ?_) (fun h => ?_)
      · refine g_bipush (v := (-12 : Int32)) C dX6_cell_40 (by decide) ?_
        obtain ⟨rfl, rfl⟩ := sp_inj h
        exact g_iret C hr hlk dX6_cell_42 rfl
      · refine g_aload_n C dX6_cell_43 rfl 0 rfl ?_
        refine g_get C (T := TX6) hcl6 mO_0 rfl (j := 53) (by decide) wl_972 (v := .ref (ad 22)) rfl dX6_cell_44 ?_
        refine g_bipush (v := (40 : Int32)) C dX6_cell_47 (by decide) ?_
        refine g_iload_n C dX6_cell_49 rfl 1 rfl ?_
        refine g_imul C dX6_cell_50 ?_
        refine g_iload_n C dX6_cell_51 rfl 2 rfl ?_
        refine g_iadd C dX6_cell_52 ?_
        refine g_aload_n C dX6_cell_53 rfl 0 rfl ?_
        refine g_get C (T := TX6) hcl6 mO_0 rfl (j := 51) (by decide) wl_970 (v := .ref (ad 20)) rfl dX6_cell_54 ?_
        refine g_iload_n C dX6_cell_57 rfl 1 rfl ?_
        refine g_iald C mI_20 dX6_cell_58 h (fun h => ?_)
        refine g_join_I h 83 (fun s5 => []) (fun s5 => [.int s5, .int (((40 : Int32) * a0) + a1), .ref (ad 22)]) ?_ ?_
        · intro s5 h
          refine g_iast C mI_22 dX6_cell_83 h (fun m7 h => ?_)
          refine g_iconst (v := (1 : Int32)) C dX6_cell_84 (by decide) ?_
          obtain ⟨rfl, rfl⟩ := sp_inj h
          exact g_iret C hr hlk dX6_cell_85 rfl
        intro J6 hJ6 h
        refine g_if_ne (tgt := 67) C dX6_cell_59 (by decide) h (fun h => ?_) (fun h => ?_)
        · refine g_iload_n C dX6_cell_62 rfl 3 rfl ?_
          refine g_i2b C dX6_cell_63 ?_
          refine g_goto (tgt := 83) C dX6_cell_64 (by decide) ?_
          exact g_sub [] rfl (hJ6 _ h)
        · refine g_aload_n C dX6_cell_67 rfl 0 rfl ?_
          refine g_get C (T := TX6) hcl6 mO_0 rfl (j := 51) (by decide) wl_970 (v := .ref (ad 20)) rfl dX6_cell_68 ?_
          refine g_iload_n C dX6_cell_71 rfl 1 rfl ?_
          refine g_iald C mI_20 dX6_cell_72 h (fun h => ?_)
          refine g_iconst (v := (1 : Int32)) C dX6_cell_73 (by decide) ?_
          refine g_icmp_ne (tgt := 82) C dX6_cell_74 (by decide) h (fun h => ?_) (fun h => ?_)
          · refine g_iload_n C dX6_cell_77 rfl 3 rfl ?_
            refine g_i2s C dX6_cell_78 ?_
            refine g_goto (tgt := 83) C dX6_cell_79 (by decide) ?_
            exact g_sub [] rfl (hJ6 _ h)
          · refine g_iload_n C dX6_cell_82 rfl 3 rfl ?_
            exact g_sub [] rfl (hJ6 _ h)

def rmX6_copy : Room := { frames := 2, cells := 0, slots := 0, locals := 45 }
set_option maxRecDepth 100000 in
set_option maxHeartbeats 4000000 in
theorem c_X6_copy (l : Launch) {F : Nat}  {a0 : Int32} {a1 : Int32} {a2 : Int32} {a3 : Int32} {a4 : Int32}  {m : MM} {m' : MM} {r : Int32} (h : f_X6_copy F a0 a1 a2 a3 a4 m = some (r, m')) : CT l yX6_copy cX6_copy 9 (some .int) rmX6_copy cfM 23 (fun ad tb => [.ref (ad 0), .int a0, .int a1, .int a2, .int a3, .int a4]) m (some (.int r)) m' := by
  refine CT.of (cc := cX6_copy) (maxL := 9) (ret := (some .int)) (by decide) ⟨rfl, rfl⟩ (fun _ _ => Nat.le_of_ble_eq_true rfl) ?_
  intro p e s mt args below meth c D cA ad tb C hr hlk
  refine g_lv (lv' := [(0, .ref (ad 0)), (1, .int a0), (2, .int a1), (3, .int a2), (4, .int a3), (5, .int a4)]) rfl ?_
  have hcl6 : ∀ w ∈ wsX60, w.before args s = true := fun w hw => C.2.2.2.2.1 w (inlX6 w hw)
  unfold f_X6_copy at h
  refine g_iload_n C dX6_copy_0 rfl 1 rfl ?_
  obtain ⟨r1, hX2, h⟩ := bd1_inv h
  refine g_callS C (c_X6_isSheet l hX2) (cwSw 1 C.2.2.2.2.1 wl_1454 wl_1455 wl_121 wl_1456 rfl rfl (by decide +kernel) ⟨Nat.le_of_ble_eq_true rfl, Nat.le_of_ble_eq_true rfl⟩) rfl rfl rfl (Nat.le_of_ble_eq_true rfl) dX6_copy_1 ?_
  refine g_if_eq (tgt := 14) C dX6_copy_4 (by decide) h (fun h => ?_) (fun h => ?_)
  · refine g_bipush (v := (-2 : Int32)) C dX6_copy_14 (by decide) ?_
    obtain ⟨rfl, rfl⟩ := sp_inj h
    exact g_iret C hr hlk dX6_copy_16 rfl
  · refine g_iload_n C dX6_copy_7 rfl 3 rfl ?_
    obtain ⟨r3, hX4, h⟩ := bd1_inv h
    refine g_callS C (c_X6_isSheet l hX4) (cwSw 1 C.2.2.2.2.1 wl_1454 wl_1455 wl_121 wl_1456 rfl rfl (by decide +kernel) ⟨Nat.le_of_ble_eq_true rfl, Nat.le_of_ble_eq_true rfl⟩) rfl rfl rfl (Nat.le_of_ble_eq_true rfl) dX6_copy_8 ?_
    refine g_if_ne (tgt := 17) C dX6_copy_11 (by decide) h (fun h => ?_) (fun h => ?_)
    · refine g_bipush (v := (-2 : Int32)) C dX6_copy_14 (by decide) ?_
      obtain ⟨rfl, rfl⟩ := sp_inj h
      exact g_iret C hr hlk dX6_copy_16 rfl
    · refine g_aload_n C dX6_copy_17 rfl 0 rfl ?_
      refine g_get C (T := TX6) hcl6 mO_0 rfl (j := 50) (by decide) wl_969 (v := .ref (ad 19)) rfl dX6_copy_18 ?_
      refine g_iload_n C dX6_copy_21 rfl 1 rfl ?_
      refine g_zald C mZ_19 dX6_copy_22 h (fun h => ?_)
      refine g_if_eq (tgt := 35) C dX6_copy_23 (by decide) h (fun h => ?_) (fun h => ?_)
      · refine g_bipush (v := (-11 : Int32)) C dX6_copy_35 (by decide) ?_
        obtain ⟨rfl, rfl⟩ := sp_inj h
        exact g_iret C hr hlk dX6_copy_37 rfl
      · refine g_aload_n C dX6_copy_26 rfl 0 rfl ?_
        refine g_get C (T := TX6) hcl6 mO_0 rfl (j := 50) (by decide) wl_969 (v := .ref (ad 19)) rfl dX6_copy_27 ?_
        refine g_iload_n C dX6_copy_30 rfl 3 rfl ?_
        refine g_zald C mZ_19 dX6_copy_31 h (fun h => ?_)
        refine g_if_ne (tgt := 38) C dX6_copy_32 (by decide) h (fun h => ?_) (fun h => ?_)
        · refine g_bipush (v := (-11 : Int32)) C dX6_copy_35 (by decide) ?_
          obtain ⟨rfl, rfl⟩ := sp_inj h
          exact g_iret C hr hlk dX6_copy_37 rfl
        · refine g_aload_n C dX6_copy_38 rfl 0 rfl ?_
          refine g_get C (T := TX6) hcl6 mO_0 rfl (j := 51) (by decide) wl_970 (v := .ref (ad 20)) rfl dX6_copy_39 ?_
          refine g_iload_n C dX6_copy_42 rfl 1 rfl ?_
          refine g_iald C mI_20 dX6_copy_43 h (fun h => ?_)
          refine g_aload_n C dX6_copy_44 rfl 0 rfl ?_
          refine g_get C (T := TX6) hcl6 mO_0 rfl (j := 51) (by decide) wl_970 (v := .ref (ad 20)) rfl dX6_copy_45 ?_
          refine g_iload_n C dX6_copy_48 rfl 3 rfl ?_
          refine g_iald C mI_20 dX6_copy_49 h (fun h => ?_)
          refine g_icmp_eq (tgt := 56) C dX6_copy_50 (by decide) h (fun h => ?_) (fun h => ?_)
          · refine g_iload C dX6_copy_56 5 rfl ?_
            refine g_if_lt (tgt := 97) C dX6_copy_58 (by decide) h (fun h => ?_) (fun h => ?_)
            · refine g_bipush (v := (-12 : Int32)) C dX6_copy_97 (by decide) ?_
              obtain ⟨rfl, rfl⟩ := sp_inj h
              exact g_iret C hr hlk dX6_copy_99 rfl
            · refine g_iload_n C dX6_copy_61 rfl 2 rfl ?_
              refine g_if_lt (tgt := 97) C dX6_copy_62 (by decide) h (fun h => ?_) (fun h => ?_)
              · refine g_bipush (v := (-12 : Int32)) C dX6_copy_97 (by decide) ?_
                obtain ⟨rfl, rfl⟩ := sp_inj h
                exact g_iret C hr hlk dX6_copy_99 rfl
              · refine g_iload C dX6_copy_65 4 rfl ?_
                refine g_if_lt (tgt := 97) C dX6_copy_67 (by decide) h (fun h => ?_) (fun h => ?_)
                · refine g_bipush (v := (-12 : Int32)) C dX6_copy_97 (by decide) ?_
                  obtain ⟨rfl, rfl⟩ := sp_inj h
                  exact g_iret C hr hlk dX6_copy_99 rfl
                · refine g_iload_n C dX6_copy_70 rfl 2 rfl ?_
                  refine g_aload_n C dX6_copy_71 rfl 0 rfl ?_
                  refine g_get C (T := TX6) hcl6 mO_0 rfl (j := 52) (by decide) wl_971 (v := .ref (ad 21)) rfl dX6_copy_72 ?_
                  refine g_iload_n C dX6_copy_75 rfl 1 rfl ?_
                  refine g_iald C mI_21 dX6_copy_76 h (fun h => ?_)
                  refine g_iload C dX6_copy_77 5 rfl ?_
                  refine g_isub C dX6_copy_79 ?_
                  refine g_icmp_gt (tgt := 97) C dX6_copy_80 (by decide) h (fun h => ?_) (fun h => ?_)
                  · refine g_bipush (v := (-12 : Int32)) C dX6_copy_97 (by decide) ?_
                    obtain ⟨rfl, rfl⟩ := sp_inj h
                    exact g_iret C hr hlk dX6_copy_99 rfl
                  · refine g_iload C dX6_copy_83 4 rfl ?_
                    refine g_aload_n C dX6_copy_85 rfl 0 rfl ?_
                    refine g_get C (T := TX6) hcl6 mO_0 rfl (j := 52) (by decide) wl_971 (v := .ref (ad 21)) rfl dX6_copy_86 ?_
                    refine g_iload_n C dX6_copy_89 rfl 3 rfl ?_
                    refine g_iald C mI_21 dX6_copy_90 h (fun h => ?_)
                    refine g_iload C dX6_copy_91 5 rfl ?_
                    refine g_isub C dX6_copy_93 ?_
                    refine g_icmp_le (tgt := 100) C dX6_copy_94 (by decide) h (fun h => ?_) (fun h => ?_)
                    · refine g_iload_n C dX6_copy_100 rfl 1 rfl ?_
                      refine g_iload_n C dX6_copy_101 rfl 3 rfl ?_
                      refine g_join_I h 116 (fun s5 => [(0, .ref (ad 0)), (1, .int a0), (2, .int a1), (3, .int a2), (4, .int a3), (5, .int a4)]) (fun s5 => [.int s5]) ?_ ?_
                      · intro s5 h
                        refine g_istore (lv' := [(6, .int s5), (0, .ref (ad 0)), (1, .int a0), (2, .int a1), (3, .int a2), (4, .int a3), (5, .int a4)]) C dX6_copy_116 (by decide) rfl ?_
                        refine g_iconst (v := (0 : Int32)) C dX6_copy_118 (by decide) ?_
                        refine g_istore (lv' := [(7, .int (0 : Int32)), (6, .int s5), (0, .ref (ad 0)), (1, .int a0), (2, .int a1), (3, .int a2), (4, .int a3), (5, .int a4)]) C dX6_copy_119 (by decide) rfl ?_
                        refine g_sub [2, 3, 4, 5, 6, 7, 1, 0] rfl ?_
                        refine g_loop_IM (L := f_X6_copy_L121 a0 a1 a2 a3 a4 s5) h 121 182 (fun x7_7 m8 => [(0, .ref (ad 0)), (1, .int a0), (2, .int a1), (3, .int a2), (4, .int a3), (5, .int a4), (6, .int s5), (7, .int x7_7)]) (fun x7_7 m8 => [(5, .int a4)]) (fun x7_7 m8 => []) (fun x7_7 m8 => []) ?_ ?_ (fun _ _ _ => rfl)
                        · intro x7_7 m8 h
                          refine g_iload C dX6_copy_182 0 rfl ?_
                          obtain ⟨rfl, rfl⟩ := sp_inj h
                          exact g_iret C hr hlk dX6_copy_184 rfl
                        · intro K9 hK9 n ih x7_7 m8 h
                          rw [f_X6_copy_L121] at h
                          refine g_iload C dX6_copy_121 7 rfl ?_
                          refine g_iload C dX6_copy_123 5 rfl ?_
                          refine g_icmp_ge (tgt := 182) C dX6_copy_125 (by decide) h (fun h => ?_) (fun h => ?_)
                          · exact g_sub [5] rfl (hK9 _ _ h)
                          · refine g_iload C dX6_copy_128 6 rfl ?_
                            refine g_join_I h 145 (fun s10 => [(0, .ref (ad 0)), (1, .int a0), (2, .int a1), (3, .int a2), (4, .int a3), (5, .int a4), (6, .int s5), (7, .int x7_7)]) (fun s10 => [.int s10]) ?_ ?_
                            · intro s10 h
                              refine g_istore (lv' := [(8, .int s10), (0, .ref (ad 0)), (1, .int a0), (2, .int a1), (3, .int a2), (4, .int a3), (5, .int a4), (6, .int s5), (7, .int x7_7)]) C dX6_copy_145 (by decide) rfl ?_
                              refine g_aload_n C dX6_copy_147 rfl 1 rfl ?_
                              refine g_get C (T := TX6) hcl6 mO_0 rfl (j := 53) (by decide) wl_972 (v := .ref (ad 22)) rfl dX6_copy_148 ?_
                              refine g_bipush (v := (40 : Int32)) C dX6_copy_151 (by decide) ?_
                              refine g_iload_n C dX6_copy_153 rfl 4 rfl ?_
                              refine g_imul C dX6_copy_154 ?_
                              refine g_iload C dX6_copy_155 5 rfl ?_
                              refine g_iadd C dX6_copy_157 ?_
                              refine g_iload C dX6_copy_158 0 rfl ?_
                              refine g_iadd C dX6_copy_160 ?_
                              refine g_aload_n C dX6_copy_161 rfl 1 rfl ?_
                              refine g_get C (T := TX6) hcl6 mO_0 rfl (j := 53) (by decide) wl_972 (v := .ref (ad 22)) rfl dX6_copy_162 ?_
                              refine g_bipush (v := (40 : Int32)) C dX6_copy_165 (by decide) ?_
                              refine g_iload_n C dX6_copy_167 rfl 2 rfl ?_
                              refine g_imul C dX6_copy_168 ?_
                              refine g_iload_n C dX6_copy_169 rfl 3 rfl ?_
                              refine g_iadd C dX6_copy_170 ?_
                              refine g_iload C dX6_copy_171 0 rfl ?_
                              refine g_iadd C dX6_copy_173 ?_
                              refine g_iald C mI_22 dX6_copy_174 h (fun h => ?_)
                              refine g_iast C mI_22 dX6_copy_175 h (fun m12 h => ?_)
                              refine g_iinc (lv' := [(8, .int s10), (0, .ref (ad 0)), (1, .int a0), (2, .int a1), (3, .int a2), (4, .int a3), (5, .int a4), (6, .int s5)]) C dX6_copy_176 (q := 8) rfl (by decide) h rfl (fun _ => rfl) (fun x7_13 h => ?_)
                              refine g_goto (tgt := 121) C dX6_copy_179 (by decide) ?_
                              exact g_sub [2, 3, 4, 5, 6, 7, 8, 0] rfl (ih _ _ h)
                            intro J11 hJ11 h
                            refine g_if_eq (tgt := 143) C dX6_copy_130 (by decide) h (fun h => ?_) (fun h => ?_)
                            · refine g_iload C dX6_copy_143 7 rfl ?_
                              exact g_sub [0, 1, 2, 3, 4, 5, 6, 7] rfl (hJ11 _ h)
                            · refine g_iload C dX6_copy_133 5 rfl ?_
                              refine g_iconst (v := (1 : Int32)) C dX6_copy_135 (by decide) ?_
                              refine g_isub C dX6_copy_136 ?_
                              refine g_iload C dX6_copy_137 7 rfl ?_
                              refine g_isub C dX6_copy_139 ?_
                              refine g_goto (tgt := 145) C dX6_copy_140 (by decide) ?_
                              exact g_sub [0, 1, 2, 3, 4, 5, 6, 7] rfl (hJ11 _ h)
                      intro J6 hJ6 h
                      refine g_join_ h 115 ([(0, .ref (ad 0)), (1, .int a0), (2, .int a1), (3, .int a2), (4, .int a3), (5, .int a4)]) ([]) ?_ ?_
                      · intro h
                        refine g_iconst (v := (0 : Int32)) C dX6_copy_115 (by decide) ?_
                        exact g_sub [0, 1, 2, 3, 4, 5] rfl (hJ6 _ h)
                      intro J14 hJ14 h
                      refine g_icmp_ne (tgt := 115) C dX6_copy_102 (by decide) h (fun h => ?_) (fun h => ?_)
                      · refine g_iload_n C dX6_copy_105 rfl 2 rfl ?_
                        refine g_iload C dX6_copy_106 4 rfl ?_
                        refine g_icmp_ge (tgt := 115) C dX6_copy_108 (by decide) h (fun h => ?_) (fun h => ?_)
                        · exact g_sub [0, 1, 2, 3, 4, 5] rfl (hJ14  h)
                        · refine g_iconst (v := (1 : Int32)) C dX6_copy_111 (by decide) ?_
                          refine g_goto (tgt := 116) C dX6_copy_112 (by decide) ?_
                          exact g_sub [0, 1, 2, 3, 4, 5] rfl (hJ6 _ h)
                      · exact g_sub [0, 1, 2, 3, 4, 5] rfl (hJ14  h)
                    · refine g_bipush (v := (-12 : Int32)) C dX6_copy_97 (by decide) ?_
                      obtain ⟨rfl, rfl⟩ := sp_inj h
                      exact g_iret C hr hlk dX6_copy_99 rfl
          · refine g_bipush (v := (-13 : Int32)) C dX6_copy_53 (by decide) ?_
            obtain ⟨rfl, rfl⟩ := sp_inj h
            exact g_iret C hr hlk dX6_copy_55 rfl

def rmX6_things : Room := { frames := 3, cells := 0, slots := 0, locals := 72 }
set_option maxRecDepth 100000 in
set_option maxHeartbeats 4000000 in
theorem c_X6_things (l : Launch) {F : Nat}  {a0 : Int32} {a1 : Int32} {a2 : Int32} {a3 : Int32}  {m : MM} {m' : MM} {r : Int32} (h : f_X6_things F a0 a1 a2 a3 m = some (r, m')) : CT l yX6_things cX6_things 8 (some .int) rmX6_things cfM 23 (fun ad tb => [.ref (ad 0), .int a0, .int a1, .int a2, .int a3]) m (some (.int r)) m' := by
  refine CT.of (cc := cX6_things) (maxL := 8) (ret := (some .int)) (by decide) ⟨rfl, rfl⟩ (fun _ _ => Nat.le_of_ble_eq_true rfl) ?_
  intro p e s mt args below meth c D cA ad tb C hr hlk
  refine g_lv (lv' := [(0, .ref (ad 0)), (1, .int a0), (2, .int a1), (3, .int a2), (4, .int a3)]) rfl ?_
  have hcl6 : ∀ w ∈ wsX60, w.before args s = true := fun w hw => C.2.2.2.2.1 w (inlX6 w hw)
  unfold f_X6_things at h
  refine g_iload_n C dX6_things_0 rfl 1 rfl ?_
  obtain ⟨r1, hX2, h⟩ := bd1_inv h
  refine g_callS C (c_X6_isSheet l hX2) (cwSw 1 C.2.2.2.2.1 wl_1454 wl_1455 wl_121 wl_1456 rfl rfl (by decide +kernel) ⟨Nat.le_of_ble_eq_true rfl, Nat.le_of_ble_eq_true rfl⟩) rfl rfl rfl (Nat.le_of_ble_eq_true rfl) dX6_things_1 ?_
  refine g_if_eq (tgt := 32) C dX6_things_4 (by decide) h (fun h => ?_) (fun h => ?_)
  · refine g_bipush (v := (-2 : Int32)) C dX6_things_32 (by decide) ?_
    obtain ⟨rfl, rfl⟩ := sp_inj h
    exact g_iret C hr hlk dX6_things_34 rfl
  · refine g_iload_n C dX6_things_7 rfl 2 rfl ?_
    refine g_i2l C dX6_things_8 ?_
    refine g_lconst (v := (0 : Int64)) C dX6_things_9 (by decide) ?_
    refine g_ldc2 (v := (2 : Int64)) C dX6_things_10 wl_1359 ?_
    obtain ⟨r3, hX4, h⟩ := bd1_inv h
    refine g_callS C (c_X6_in l hX4) (cwSw 3 C.2.2.2.2.1 wl_1089 wl_1090 wl_121 wl_1091 rfl rfl (by decide +kernel) ⟨Nat.le_of_ble_eq_true rfl, Nat.le_of_ble_eq_true rfl⟩) rfl rfl rfl (Nat.le_of_ble_eq_true rfl) dX6_things_13 ?_
    refine g_if_eq (tgt := 32) C dX6_things_16 (by decide) h (fun h => ?_) (fun h => ?_)
    · refine g_bipush (v := (-2 : Int32)) C dX6_things_32 (by decide) ?_
      obtain ⟨rfl, rfl⟩ := sp_inj h
      exact g_iret C hr hlk dX6_things_34 rfl
    · refine g_iload C dX6_things_19 4 rfl ?_
      refine g_i2l C dX6_things_21 ?_
      refine g_lconst (v := (0 : Int64)) C dX6_things_22 (by decide) ?_
      refine g_ldc2 (v := (5 : Int64)) C dX6_things_23 wl_1088 ?_
      obtain ⟨r5, hX6, h⟩ := bd1_inv h
      refine g_callS C (c_X6_in l hX6) (cwSw 3 C.2.2.2.2.1 wl_1089 wl_1090 wl_121 wl_1091 rfl rfl (by decide +kernel) ⟨Nat.le_of_ble_eq_true rfl, Nat.le_of_ble_eq_true rfl⟩) rfl rfl rfl (Nat.le_of_ble_eq_true rfl) dX6_things_26 ?_
      refine g_if_ne (tgt := 35) C dX6_things_29 (by decide) h (fun h => ?_) (fun h => ?_)
      · refine g_bipush (v := (-2 : Int32)) C dX6_things_32 (by decide) ?_
        obtain ⟨rfl, rfl⟩ := sp_inj h
        exact g_iret C hr hlk dX6_things_34 rfl
      · refine g_aload_n C dX6_things_35 rfl 0 rfl ?_
        refine g_get C (T := TX6) hcl6 mO_0 rfl (j := 50) (by decide) wl_969 (v := .ref (ad 19)) rfl dX6_things_36 ?_
        refine g_iload_n C dX6_things_39 rfl 1 rfl ?_
        refine g_zald C mZ_19 dX6_things_40 h (fun h => ?_)
        refine g_join_ h 57 ([(0, .ref (ad 0)), (1, .int a0), (3, .int a2), (4, .int a3)]) ([]) ?_ ?_
        · intro h
          refine g_aload_n C dX6_things_57 rfl 0 rfl ?_
          refine g_get C (T := TX6) hcl6 mO_0 rfl (j := 50) (by decide) wl_969 (v := .ref (ad 19)) rfl dX6_things_58 ?_
          refine g_iload_n C dX6_things_61 rfl 1 rfl ?_
          refine g_zald C mZ_19 dX6_things_62 h (fun h => ?_)
          refine g_if_ne (tgt := 69) C dX6_things_63 (by decide) h (fun h => ?_) (fun h => ?_)
          · refine g_bipush (v := (-11 : Int32)) C dX6_things_66 (by decide) ?_
            obtain ⟨rfl, rfl⟩ := sp_inj h
            exact g_iret C hr hlk dX6_things_68 rfl
          · refine g_iconst (v := (0 : Int32)) C dX6_things_69 (by decide) ?_
            refine g_istore (lv' := [(5, .int (0 : Int32)), (0, .ref (ad 0)), (1, .int a0), (3, .int a2), (4, .int a3)]) C dX6_things_70 (by decide) rfl ?_
            refine g_iconst (v := (0 : Int32)) C dX6_things_72 (by decide) ?_
            refine g_istore (lv' := [(6, .int (0 : Int32)), (5, .int (0 : Int32)), (0, .ref (ad 0)), (1, .int a0), (3, .int a2), (4, .int a3)]) C dX6_things_73 (by decide) rfl ?_
            refine g_sub [2, 3, 4, 5, 1, 0] rfl ?_
            refine g_loop_IIM (L := f_X6_things_L75 F a0 a2 a3) h 75 158 (fun x5_8 x6_9 m10 => [(0, .ref (ad 0)), (1, .int a0), (3, .int a2), (4, .int a3), (5, .int x5_8), (6, .int x6_9)]) (fun x5_8 x6_9 m10 => [(5, .int x5_8)]) (fun x5_8 x6_9 m10 => []) (fun x5_8 x6_9 m10 => []) ?_ ?_ (fun _ _ _ _ => rfl)
            · intro x5_8 x6_9 m10 h
              refine g_iload C dX6_things_158 0 rfl ?_
              obtain ⟨rfl, rfl⟩ := sp_inj h
              exact g_iret C hr hlk dX6_things_160 rfl
            · intro K11 hK11 n ih x5_8 x6_9 m10 h
              rw [f_X6_things_L75] at h
              refine g_iload C dX6_things_75 5 rfl ?_
              refine g_iload C dX6_things_77 3 rfl ?_
              refine g_icmp_ge (tgt := 158) C dX6_things_79 (by decide) h (fun h => ?_) (fun h => ?_)
              · exact g_sub [4] rfl (hK11 _ _ _ h)
              · refine g_iload_n C dX6_things_82 rfl 2 rfl ?_
                refine g_if_lt (tgt := 103) C dX6_things_83 (by decide) h (fun h => ?_) (fun h => ?_)
                · refine g_bipush (v := (-12 : Int32)) C dX6_things_103 (by decide) ?_
                  obtain ⟨rfl, rfl⟩ := sp_inj h
                  exact g_iret C hr hlk dX6_things_105 rfl
                · refine g_iload_n C dX6_things_86 rfl 2 rfl ?_
                  refine g_aload_n C dX6_things_87 rfl 0 rfl ?_
                  refine g_get C (T := TX6) hcl6 mO_0 rfl (j := 52) (by decide) wl_971 (v := .ref (ad 21)) rfl dX6_things_88 ?_
                  refine g_iload_n C dX6_things_91 rfl 1 rfl ?_
                  refine g_iald C mI_21 dX6_things_92 h (fun h => ?_)
                  refine g_iconst (v := (2 : Int32)) C dX6_things_93 (by decide) ?_
                  refine g_iload C dX6_things_94 5 rfl ?_
                  refine g_imul C dX6_things_96 ?_
                  refine g_isub C dX6_things_97 ?_
                  refine g_iconst (v := (2 : Int32)) C dX6_things_98 (by decide) ?_
                  refine g_isub C dX6_things_99 ?_
                  refine g_icmp_le (tgt := 106) C dX6_things_100 (by decide) h (fun h => ?_) (fun h => ?_)
                  · refine g_bipush (v := (40 : Int32)) C dX6_things_106 (by decide) ?_
                    refine g_iload_n C dX6_things_108 rfl 1 rfl ?_
                    refine g_imul C dX6_things_109 ?_
                    refine g_iload_n C dX6_things_110 rfl 2 rfl ?_
                    refine g_iadd C dX6_things_111 ?_
                    refine g_iconst (v := (2 : Int32)) C dX6_things_112 (by decide) ?_
                    refine g_iload C dX6_things_113 5 rfl ?_
                    refine g_imul C dX6_things_115 ?_
                    refine g_iadd C dX6_things_116 ?_
                    refine nm_i h (fun x7_12 h => ?_)
                    refine g_istore (lv' := [(7, .int x7_12), (0, .ref (ad 0)), (1, .int a0), (3, .int a2), (4, .int a3), (5, .int x5_8), (6, .int x6_9)]) C dX6_things_117 (by decide) rfl ?_
                    refine g_iload C dX6_things_119 5 rfl ?_
                    refine g_aload_n C dX6_things_121 rfl 1 rfl ?_
                    refine g_aload_n C dX6_things_122 rfl 1 rfl ?_
                    refine g_get C (T := TX6) hcl6 mO_0 rfl (j := 53) (by decide) wl_972 (v := .ref (ad 22)) rfl dX6_things_123 ?_
                    refine g_iload C dX6_things_126 0 rfl ?_
                    refine g_iald C mI_22 dX6_things_128 h (fun h => ?_)
                    refine g_aload_n C dX6_things_129 rfl 1 rfl ?_
                    refine g_get C (T := TX6) hcl6 mO_0 rfl (j := 53) (by decide) wl_972 (v := .ref (ad 22)) rfl dX6_things_130 ?_
                    refine g_iload C dX6_things_133 0 rfl ?_
                    refine g_iconst (v := (1 : Int32)) C dX6_things_135 (by decide) ?_
                    refine g_iadd C dX6_things_136 ?_
                    refine g_iald C mI_22 dX6_things_137 h (fun h => ?_)
                    obtain ⟨r13, m15, hX14, h⟩ := bd2_inv h
                    refine g_callV C (c_X6_thing l hX14) (cwVw 2 C.2.2.2.2.1 wl_1529 wl_1094 wl_1095 wl_121 wl_1096 rfl rfl (by decide +kernel) ⟨Nat.le_of_ble_eq_true rfl, Nat.le_of_ble_eq_true rfl⟩) mO_0 rfl rfl rfl rfl (Nat.le_of_ble_eq_true rfl) dX6_things_138 ?_
                    refine g_join_I h 149 (fun s16 => [(0, .ref (ad 0)), (1, .int a0), (3, .int a2), (4, .int a3), (6, .int x6_9)]) (fun s16 => [.int s16, .int x5_8]) ?_ ?_
                    · intro s16 h
                      refine g_iadd C dX6_things_149 ?_
                      refine nm_i h (fun x5_18 h => ?_)
                      refine g_istore (lv' := [(5, .int x5_18), (0, .ref (ad 0)), (1, .int a0), (3, .int a2), (4, .int a3), (6, .int x6_9)]) C dX6_things_150 (by decide) rfl ?_
                      refine g_iinc (lv' := [(5, .int x5_18), (0, .ref (ad 0)), (1, .int a0), (3, .int a2), (4, .int a3)]) C dX6_things_152 (q := 5) rfl (by decide) h rfl (fun _ => rfl) (fun x6_19 h => ?_)
                      refine g_goto (tgt := 75) C dX6_things_155 (by decide) ?_
                      exact g_sub [2, 3, 4, 5, 1, 0] rfl (ih _ _ _ h)
                    intro J17 hJ17 h
                    refine g_if_lt (tgt := 148) C dX6_things_141 (by decide) h (fun h => ?_) (fun h => ?_)
                    · refine g_iconst (v := (0 : Int32)) C dX6_things_148 (by decide) ?_
                      exact g_sub [1, 2, 3, 4, 6] rfl (hJ17 _ h)
                    · refine g_iconst (v := (1 : Int32)) C dX6_things_144 (by decide) ?_
                      refine g_goto (tgt := 149) C dX6_things_145 (by decide) ?_
                      exact g_sub [1, 2, 3, 4, 6] rfl (hJ17 _ h)
                  · refine g_bipush (v := (-12 : Int32)) C dX6_things_103 (by decide) ?_
                    obtain ⟨rfl, rfl⟩ := sp_inj h
                    exact g_iret C hr hlk dX6_things_105 rfl
        intro J7 hJ7 h
        refine g_if_eq (tgt := 57) C dX6_things_41 (by decide) h (fun h => ?_) (fun h => ?_)
        · exact g_sub [0, 1, 3, 4] rfl (hJ7  h)
        · refine g_aload_n C dX6_things_44 rfl 0 rfl ?_
          refine g_get C (T := TX6) hcl6 mO_0 rfl (j := 51) (by decide) wl_970 (v := .ref (ad 20)) rfl dX6_things_45 ?_
          refine g_iload_n C dX6_things_48 rfl 1 rfl ?_
          refine g_iald C mI_20 dX6_things_49 h (fun h => ?_)
          refine g_iload_n C dX6_things_50 rfl 2 rfl ?_
          refine g_icmp_eq (tgt := 57) C dX6_things_51 (by decide) h (fun h => ?_) (fun h => ?_)
          · exact g_sub [0, 1, 3, 4] rfl (hJ7  h)
          · refine g_bipush (v := (-13 : Int32)) C dX6_things_54 (by decide) ?_
            obtain ⟨rfl, rfl⟩ := sp_inj h
            exact g_iret C hr hlk dX6_things_56 rfl

def rmX6_over : Room := { frames := 0, cells := 0, slots := 0, locals := 0 }
set_option maxRecDepth 100000 in
set_option maxHeartbeats 4000000 in
theorem c_X6_over (l : Launch)  {a0 : Int32}  {m : MM} {r : Int32} (h : f_X6_over a0 m = some r) : CT l yX6_over cX6_over 1 (some .int) rmX6_over cfM 23 (fun ad tb => [.int a0]) m (some (.int r)) m := by
  refine CT.of (cc := cX6_over) (maxL := 1) (ret := (some .int)) (by decide) ⟨rfl, rfl⟩ (fun _ _ => Nat.le_of_ble_eq_true rfl) ?_
  intro p e s mt args below meth c D cA ad tb C hr hlk
  refine g_lv (lv' := [(0, .int a0)]) rfl ?_
  unfold f_X6_over at h
  refine g_iload_n C dX6_over_0 rfl 0 rfl ?_
  refine g_if_ne (tgt := 8) C dX6_over_1 (by decide) h (fun h => ?_) (fun h => ?_)
  · refine g_iconst (v := (-1 : Int32)) C dX6_over_4 (by decide) ?_
    refine g_goto (tgt := 32) C dX6_over_5 (by decide) ?_
    obtain rfl := so_inj h
    exact g_iret C hr hlk dX6_over_32 rfl
  · refine g_iload_n C dX6_over_8 rfl 0 rfl ?_
    refine g_iconst (v := (3 : Int32)) C dX6_over_9 (by decide) ?_
    refine g_icmp_ne (tgt := 17) C dX6_over_10 (by decide) h (fun h => ?_) (fun h => ?_)
    · refine g_iconst (v := (1 : Int32)) C dX6_over_13 (by decide) ?_
      refine g_goto (tgt := 32) C dX6_over_14 (by decide) ?_
      obtain rfl := so_inj h
      exact g_iret C hr hlk dX6_over_32 rfl
    · refine g_iload_n C dX6_over_17 rfl 0 rfl ?_
      refine g_iconst (v := (4 : Int32)) C dX6_over_18 (by decide) ?_
      refine g_icmp_eq (tgt := 27) C dX6_over_19 (by decide) h (fun h => ?_) (fun h => ?_)
      · refine g_iconst (v := (2 : Int32)) C dX6_over_27 (by decide) ?_
        refine g_goto (tgt := 32) C dX6_over_28 (by decide) ?_
        obtain rfl := so_inj h
        exact g_iret C hr hlk dX6_over_32 rfl
      · refine g_iload_n C dX6_over_22 rfl 0 rfl ?_
        refine g_iconst (v := (5 : Int32)) C dX6_over_23 (by decide) ?_
        refine g_icmp_ne (tgt := 31) C dX6_over_24 (by decide) h (fun h => ?_) (fun h => ?_)
        · refine g_iconst (v := (2 : Int32)) C dX6_over_27 (by decide) ?_
          refine g_goto (tgt := 32) C dX6_over_28 (by decide) ?_
          obtain rfl := so_inj h
          exact g_iret C hr hlk dX6_over_32 rfl
        · refine g_iconst (v := (0 : Int32)) C dX6_over_31 (by decide) ?_
          obtain rfl := so_inj h
          exact g_iret C hr hlk dX6_over_32 rfl
