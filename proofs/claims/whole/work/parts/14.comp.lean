/-! contracts: X1_farthest X5_best X1_farWith X5_isLess X5_pack X5_ring X5_leave X5_roomy X2_isMissing X5_canBe X5_judge X1_stateOf X1_stepOnce X1_step X1_rowsTo X5_ways X1_spreadFrom -/
def rmX1_farthest : Room := { frames := 4, cells := 0, slots := 0, locals := 96 }
set_option maxRecDepth 100000 in
set_option maxHeartbeats 4000000 in
theorem c_X1_farthest (l : Launch) {F : Nat}    {m : MM} {m' : MM} {r : Int32} (h : f_X1_farthest F m = some (r, m')) : CT l yX1_farthest cX1_farthest 4 (some .int) rmX1_farthest cfC 73 (fun ad tb => [.ref (ad 25)]) m (some (.int r)) m' := by
  refine CT.of (cc := cX1_farthest) (maxL := 4) (ret := (some .int)) (by decide) ⟨rfl, rfl⟩ (fun _ _ => Nat.le_of_ble_eq_true rfl) ?_
  intro p e s mt args below meth c D cA ad tb C hr hlk
  refine g_lv (lv' := [(0, .ref (ad 25))]) rfl ?_
  have hcl1 : ∀ w ∈ wsX10, w.before args s = true := fun w hw => C.2.2.2.2.1 w (inlX1 w hw)
  unfold f_X1_farthest at h
  refine g_aload_n C dX1_farthest_0 rfl 0 rfl ?_
  obtain ⟨r1, m3, hX2, h⟩ := bd2_inv h
  refine g_callV C (c_X1_flood l hX2) (cwVw 0 C.2.2.2.2.1 wl_774 wl_763 wl_764 wl_111 wl_765 rfl rfl (by decide +kernel) ⟨Nat.le_of_ble_eq_true rfl, Nat.le_of_ble_eq_true rfl⟩) cO_25 rfl rfl rfl rfl (Nat.le_of_ble_eq_true rfl) dX1_farthest_1 ?_
  refine g_istore_n (lv' := [(1, .int r1), (0, .ref (ad 25))]) C dX1_farthest_4 rfl (by decide) rfl ?_
  refine g_iconst (v := (-1 : Int32)) C dX1_farthest_5 (by decide) ?_
  refine g_istore_n (lv' := [(2, .int (-1 : Int32)), (1, .int r1), (0, .ref (ad 25))]) C dX1_farthest_6 rfl (by decide) rfl ?_
  refine g_iconst (v := (0 : Int32)) C dX1_farthest_7 (by decide) ?_
  refine g_istore_n (lv' := [(3, .int (0 : Int32)), (2, .int (-1 : Int32)), (1, .int r1), (0, .ref (ad 25))]) C dX1_farthest_8 rfl (by decide) rfl ?_
  refine g_sub [3, 2, 1, 0] rfl ?_
  refine g_loop_II (L := f_X1_farthest_L9 r1 m3) h 9 36 (fun x2_4 x3_5 => [(0, .ref (ad 25)), (1, .int r1), (2, .int x2_4), (3, .int x3_5)]) (fun x2_4 x3_5 => [(2, .int x2_4)]) (fun x2_4 x3_5 => []) (fun x2_4 x3_5 => []) ?_ ?_ (fun _ _ _ => rfl)
  · intro x2_4 x3_5 h
    refine g_iload_n C dX1_farthest_36 rfl 0 rfl ?_
    obtain ⟨rfl, rfl⟩ := sp_inj h
    exact g_iret C hr hlk dX1_farthest_37 rfl
  · intro K6 hK6 n ih x2_4 x3_5 h
    rw [f_X1_farthest_L9] at h
    refine g_iload_n C dX1_farthest_9 rfl 3 rfl ?_
    refine g_iload_n C dX1_farthest_10 rfl 1 rfl ?_
    refine g_icmp_ge (tgt := 36) C dX1_farthest_11 (by decide) h (fun h => ?_) (fun h => ?_)
    · exact g_sub [2] rfl (hK6 _ _ h)
    · refine g_iload_n C dX1_farthest_14 rfl 2 rfl ?_
      refine g_aload_n C dX1_farthest_15 rfl 0 rfl ?_
      refine g_get C (T := TX1) hcl1 cO_25 rfl (j := 1) (by decide) wl_202 (v := .ref (ad 27)) rfl dX1_farthest_16 ?_
      refine g_aload_n C dX1_farthest_19 rfl 0 rfl ?_
      refine g_get C (T := TX1) hcl1 cO_25 rfl (j := 2) (by decide) wl_203 (v := .ref (ad 28)) rfl dX1_farthest_20 ?_
      refine g_iload_n C dX1_farthest_23 rfl 3 rfl ?_
      refine g_iald C cI_28 dX1_farthest_24 h (fun h => ?_)
      refine g_iald C cI_27 dX1_farthest_25 h (fun h => ?_)
      refine g_max C wl_775 wl_415 wl_119 wl_416 ⟨Nat.le_of_ble_eq_true rfl, Nat.le_of_ble_eq_true rfl⟩ (Nat.le_of_ble_eq_true rfl) dX1_farthest_26 ?_
      refine nm_i h (fun x2_7 h => ?_)
      refine g_istore_n (lv' := [(2, .int x2_7), (0, .ref (ad 25)), (1, .int r1), (3, .int x3_5)]) C dX1_farthest_29 rfl (by decide) rfl ?_
      refine g_iinc (lv' := [(2, .int x2_7), (0, .ref (ad 25)), (1, .int r1)]) C dX1_farthest_30 (q := 3) rfl (by decide) h rfl (fun _ => rfl) (fun x3_8 h => ?_)
      refine g_goto (tgt := 9) C dX1_farthest_33 (by decide) ?_
      exact g_sub [2, 3, 1, 0] rfl (ih _ _ h)

def rmX5_best : Room := { frames := 14, cells := 0, slots := 0, locals := 316 }
set_option maxRecDepth 100000 in
set_option maxHeartbeats 4000000 in
theorem c_X5_best (l : Launch) {F : Nat}  {a0 : Int32}  {m : MM} {m' : MM} {r : Int32} (h : f_X5_best F a0 m = some (r, m')) : CT l yX5_best cX5_best 2 (some .int) rmX5_best cfC 73 (fun ad tb => [.ref (ad 0), .int a0]) m (some (.int r)) m' := by
  refine CT.of (cc := cX5_best) (maxL := 2) (ret := (some .int)) (by decide) ⟨rfl, rfl⟩ (fun _ _ => Nat.le_of_ble_eq_true rfl) ?_
  intro p e s mt args below meth c D cA ad tb C hr hlk
  refine g_lv (lv' := [(0, .ref (ad 0)), (1, .int a0)]) rfl ?_
  have hcl5 : ∀ w ∈ wsX50, w.before args s = true := fun w hw => C.2.2.2.2.1 w (inlX5 w hw)
  unfold f_X5_best at h
  refine g_iload_n C dX5_best_0 rfl 1 rfl ?_
  by_cases q1 : a0 = (0 : Int32)
  · rw [if_pos q1] at h
    refine g_tbl (tgt := 40) C dX5_best_1 (0 : Int32) q1 (by decide) rfl (by decide) ?_
    refine g_aload_n C dX5_best_40 rfl 0 rfl ?_
    refine g_iconst (v := (0 : Int32)) C dX5_best_41 (by decide) ?_
    obtain ⟨r2, m4, hX3, h⟩ := bd2_inv h
    refine g_callV C (c_X5_fewest l hX3) (cwVw 1 C.2.2.2.2.1 wl_681 wl_683 wl_17 wl_109 wl_684 rfl rfl (by decide +kernel) ⟨Nat.le_of_ble_eq_true rfl, Nat.le_of_ble_eq_true rfl⟩) cO_0 rfl rfl rfl rfl (Nat.le_of_ble_eq_true rfl) dX5_best_42 ?_
    obtain ⟨rfl, rfl⟩ := sp_inj h
    exact g_iret C hr hlk dX5_best_45 rfl
  rw [if_neg q1] at h
  by_cases q5 : a0 = (1 : Int32)
  · rw [if_pos q5] at h
    refine g_tbl (tgt := 46) C dX5_best_1 (1 : Int32) q5 (by decide) rfl (by decide) ?_
    refine g_aload_n C dX5_best_46 rfl 0 rfl ?_
    refine g_iconst (v := (0 : Int32)) C dX5_best_47 (by decide) ?_
    obtain ⟨r6, m8, hX7, h⟩ := bd2_inv h
    refine g_callV C (c_X5_fewest l hX7) (cwVw 1 C.2.2.2.2.1 wl_681 wl_683 wl_17 wl_109 wl_684 rfl rfl (by decide +kernel) ⟨Nat.le_of_ble_eq_true rfl, Nat.le_of_ble_eq_true rfl⟩) cO_0 rfl rfl rfl rfl (Nat.le_of_ble_eq_true rfl) dX5_best_48 ?_
    refine g_pop C dX5_best_51 rfl ?_
    refine g_aload_n C dX5_best_52 rfl 0 rfl ?_
    refine g_get C (T := TX5) hcl5 cO_0 rfl (j := 3) (by decide) wl_485 (v := .ref (ad 25)) rfl dX5_best_53 ?_
    obtain ⟨r9, hX10, h⟩ := bd1_inv h
    refine g_callV C (c_X1_firstBest l hX10) (cwVw 0 C.2.2.2.2.1 wl_746 wl_747 wl_748 wl_111 wl_749 rfl rfl (by decide +kernel) ⟨Nat.le_of_ble_eq_true rfl, Nat.le_of_ble_eq_true rfl⟩) cO_25 rfl rfl rfl rfl (Nat.le_of_ble_eq_true rfl) dX5_best_56 ?_
    obtain ⟨rfl, rfl⟩ := sp_inj h
    exact g_iret C hr hlk dX5_best_59 rfl
  rw [if_neg q5] at h
  by_cases q11 : a0 = (2 : Int32)
  · rw [if_pos q11] at h
    refine g_tbl (tgt := 60) C dX5_best_1 (2 : Int32) q11 (by decide) rfl (by decide) ?_
    refine g_aload_n C dX5_best_60 rfl 0 rfl ?_
    obtain ⟨m13, hX12, h⟩ := bd1_inv h
    refine g_callV C (c_X5_countCosts l hX12) (cwVw 0 C.2.2.2.2.1 wl_750 wl_752 wl_27 wl_109 wl_753 rfl rfl (by decide +kernel) ⟨Nat.le_of_ble_eq_true rfl, Nat.le_of_ble_eq_true rfl⟩) cO_0 rfl rfl rfl rfl (Nat.le_of_ble_eq_true rfl) dX5_best_61 ?_
    refine g_aload_n C dX5_best_64 rfl 0 rfl ?_
    refine g_iconst (v := (-1 : Int32)) C dX5_best_65 (by decide) ?_
    refine g_iconst (v := (-1 : Int32)) C dX5_best_66 (by decide) ?_
    obtain ⟨r14, m16, hX15, h⟩ := bd2_inv h
    refine g_callV C (c_X5_leastIf l hX15) (cwVw 2 C.2.2.2.2.1 wl_758 wl_760 wl_28 wl_109 wl_761 rfl rfl (by decide +kernel) ⟨Nat.le_of_ble_eq_true rfl, Nat.le_of_ble_eq_true rfl⟩) cO_0 rfl rfl rfl rfl (Nat.le_of_ble_eq_true rfl) dX5_best_67 ?_
    obtain ⟨rfl, rfl⟩ := sp_inj h
    exact g_iret C hr hlk dX5_best_70 rfl
  rw [if_neg q11] at h
  by_cases q17 : a0 = (3 : Int32)
  · rw [if_pos q17] at h
    refine g_tbl (tgt := 71) C dX5_best_1 (3 : Int32) q17 (by decide) rfl (by decide) ?_
    refine g_aload_n C dX5_best_71 rfl 0 rfl ?_
    obtain ⟨m19, hX18, h⟩ := bd1_inv h
    refine g_callV C (c_X5_countCosts l hX18) (cwVw 0 C.2.2.2.2.1 wl_750 wl_752 wl_27 wl_109 wl_753 rfl rfl (by decide +kernel) ⟨Nat.le_of_ble_eq_true rfl, Nat.le_of_ble_eq_true rfl⟩) cO_0 rfl rfl rfl rfl (Nat.le_of_ble_eq_true rfl) dX5_best_72 ?_
    refine g_aload_n C dX5_best_75 rfl 0 rfl ?_
    refine g_iconst (v := (-1 : Int32)) C dX5_best_76 (by decide) ?_
    refine g_iconst (v := (-1 : Int32)) C dX5_best_77 (by decide) ?_
    obtain ⟨r20, m22, hX21, h⟩ := bd2_inv h
    refine g_callV C (c_X5_leastIf l hX21) (cwVw 2 C.2.2.2.2.1 wl_758 wl_760 wl_28 wl_109 wl_761 rfl rfl (by decide +kernel) ⟨Nat.le_of_ble_eq_true rfl, Nat.le_of_ble_eq_true rfl⟩) cO_0 rfl rfl rfl rfl (Nat.le_of_ble_eq_true rfl) dX5_best_78 ?_
    refine g_pop C dX5_best_81 rfl ?_
    refine g_aload_n C dX5_best_82 rfl 0 rfl ?_
    refine g_get C (T := TX5) hcl5 cO_0 rfl (j := 3) (by decide) wl_485 (v := .ref (ad 25)) rfl dX5_best_83 ?_
    obtain ⟨r23, hX24, h⟩ := bd1_inv h
    refine g_callV C (c_X1_firstBest l hX24) (cwVw 0 C.2.2.2.2.1 wl_746 wl_747 wl_748 wl_111 wl_749 rfl rfl (by decide +kernel) ⟨Nat.le_of_ble_eq_true rfl, Nat.le_of_ble_eq_true rfl⟩) cO_25 rfl rfl rfl rfl (Nat.le_of_ble_eq_true rfl) dX5_best_86 ?_
    obtain ⟨rfl, rfl⟩ := sp_inj h
    exact g_iret C hr hlk dX5_best_89 rfl
  rw [if_neg q17] at h
  by_cases q25 : a0 = (4 : Int32)
  · rw [if_pos q25] at h
    refine g_tbl (tgt := 90) C dX5_best_1 (4 : Int32) q25 (by decide) rfl (by decide) ?_
    refine g_aload_n C dX5_best_90 rfl 0 rfl ?_
    refine g_iconst (v := (-1 : Int32)) C dX5_best_91 (by decide) ?_
    refine g_iconst (v := (-1 : Int32)) C dX5_best_92 (by decide) ?_
    obtain ⟨m27, hX26, h⟩ := bd1_inv h
    refine g_callV C (c_X5_think l hX26) (cwVw 2 C.2.2.2.2.1 wl_685 wl_687 wl_18 wl_109 wl_688 rfl rfl (by decide +kernel) ⟨Nat.le_of_ble_eq_true rfl, Nat.le_of_ble_eq_true rfl⟩) cO_0 rfl rfl rfl rfl (Nat.le_of_ble_eq_true rfl) dX5_best_93 ?_
    refine g_aload_n C dX5_best_96 rfl 0 rfl ?_
    refine g_get C (T := TX5) hcl5 cO_0 rfl (j := 3) (by decide) wl_485 (v := .ref (ad 25)) rfl dX5_best_97 ?_
    obtain ⟨r28, m30, hX29, h⟩ := bd2_inv h
    refine g_callV C (c_X1_flood l hX29) (cwVw 0 C.2.2.2.2.1 wl_762 wl_763 wl_764 wl_111 wl_765 rfl rfl (by decide +kernel) ⟨Nat.le_of_ble_eq_true rfl, Nat.le_of_ble_eq_true rfl⟩) cO_25 rfl rfl rfl rfl (Nat.le_of_ble_eq_true rfl) dX5_best_100 ?_
    obtain ⟨rfl, rfl⟩ := sp_inj h
    exact g_iret C hr hlk dX5_best_103 rfl
  rw [if_neg q25] at h
  by_cases q31 : a0 = (5 : Int32)
  · rw [if_pos q31] at h
    refine g_tbl (tgt := 104) C dX5_best_1 (5 : Int32) q31 (by decide) rfl (by decide) ?_
    refine g_aload_n C dX5_best_104 rfl 0 rfl ?_
    refine g_iconst (v := (1 : Int32)) C dX5_best_105 (by decide) ?_
    obtain ⟨r32, m34, hX33, h⟩ := bd2_inv h
    refine g_callV C (c_X5_fewest l hX33) (cwVw 1 C.2.2.2.2.1 wl_681 wl_683 wl_17 wl_109 wl_684 rfl rfl (by decide +kernel) ⟨Nat.le_of_ble_eq_true rfl, Nat.le_of_ble_eq_true rfl⟩) cO_0 rfl rfl rfl rfl (Nat.le_of_ble_eq_true rfl) dX5_best_106 ?_
    refine g_pop C dX5_best_109 rfl ?_
    refine g_aload_n C dX5_best_110 rfl 0 rfl ?_
    refine g_get C (T := TX5) hcl5 cO_0 rfl (j := 3) (by decide) wl_485 (v := .ref (ad 25)) rfl dX5_best_111 ?_
    obtain ⟨r35, m37, hX36, h⟩ := bd2_inv h
    refine g_callV C (c_X1_farthest l hX36) (cwVw 0 C.2.2.2.2.1 wl_770 wl_771 wl_772 wl_111 wl_773 rfl rfl (by decide +kernel) ⟨Nat.le_of_ble_eq_true rfl, Nat.le_of_ble_eq_true rfl⟩) cO_25 rfl rfl rfl rfl (Nat.le_of_ble_eq_true rfl) dX5_best_114 ?_
    obtain ⟨rfl, rfl⟩ := sp_inj h
    exact g_iret C hr hlk dX5_best_117 rfl
  rw [if_neg q31] at h
  refine g_tblOut (tgt := 118) C dX5_best_1 (by have t0 := ti_ne q1 (z := 0) (by decide); have t1 := ti_ne q5 (z := 1) (by decide); have t2 := ti_ne q11 (z := 2) (by decide); have t3 := ti_ne q17 (z := 3) (by decide); have t4 := ti_ne q25 (z := 4) (by decide); have t5 := ti_ne q31 (z := 5) (by decide); omega) (by decide) ?_
  refine g_bipush (v := (-100 : Int32)) C dX5_best_118 (by decide) ?_
  obtain ⟨rfl, rfl⟩ := sp_inj h
  exact g_iret C hr hlk dX5_best_120 rfl

def rmX1_farWith : Room := { frames := 0, cells := 0, slots := 0, locals := 0 }
set_option maxRecDepth 100000 in
set_option maxHeartbeats 4000000 in
theorem c_X1_farWith (l : Launch)  {a0 : Int32} {a1 : Int32}  {m : MM} {r : Int32} (h : f_X1_farWith a0 a1 m = some r) : CT l yX1_farWith cX1_farWith 4 (some .int) rmX1_farWith cfC 73 (fun ad tb => [.ref (ad 25), .int a0, .int a1]) m (some (.int r)) m := by
  refine CT.of (cc := cX1_farWith) (maxL := 4) (ret := (some .int)) (by decide) ⟨rfl, rfl⟩ (fun _ _ => Nat.le_of_ble_eq_true rfl) ?_
  intro p e s mt args below meth c D cA ad tb C hr hlk
  refine g_lv (lv' := [(0, .ref (ad 25)), (1, .int a0), (2, .int a1)]) rfl ?_
  have hcl0 : ∀ w ∈ wsX00, w.before args s = true := fun w hw => C.2.2.2.2.1 w (inlX0 w hw)
  have hcl1 : ∀ w ∈ wsX10, w.before args s = true := fun w hw => C.2.2.2.2.1 w (inlX1 w hw)
  unfold f_X1_farWith at h
  refine g_aload_n C dX1_farWith_0 rfl 0 rfl ?_
  refine g_get C (T := TX1) hcl1 cO_25 rfl (j := 12) (by decide) wl_213 (v := .int (rI m 25 12)) rfl dX1_farWith_1 ?_
  refine g_iload_n C dX1_farWith_4 rfl 2 rfl ?_
  refine g_aload_n C dX1_farWith_5 rfl 0 rfl ?_
  refine g_getLot C hcl1 wl_211 dX1_farWith_6 h (fun h => ?_)
  refine g_get C (T := TX0) hcl0 cO_17 rfl (j := 6) (by decide) wl_150 (v := .ref (ad 24)) rfl dX1_farWith_9 ?_
  refine g_iload_n C dX1_farWith_12 rfl 1 rfl ?_
  refine g_iald C cI_24 dX1_farWith_13 h (fun h => ?_)
  refine g_isub C dX1_farWith_14 ?_
  refine g_aload_n C dX1_farWith_15 rfl 0 rfl ?_
  refine g_get C (T := TX1) hcl1 cO_25 rfl (j := 6) (by decide) wl_207 (v := .ref (ad 32)) rfl dX1_farWith_16 ?_
  refine g_iload_n C dX1_farWith_19 rfl 1 rfl ?_
  refine g_iald C cI_32 dX1_farWith_20 h (fun h => ?_)
  refine g_imul C dX1_farWith_21 ?_
  refine g_iadd C dX1_farWith_22 ?_
  refine nm_i h (fun x3_1 h => ?_)
  refine g_istore_n (lv' := [(3, .int x3_1), (0, .ref (ad 25)), (1, .int a0), (2, .int a1)]) C dX1_farWith_23 rfl (by decide) rfl ?_
  refine g_aload_n C dX1_farWith_24 rfl 1 rfl ?_
  refine g_get C (T := TX1) hcl1 cO_25 rfl (j := 0) (by decide) wl_201 (v := .ref (ad 26)) rfl dX1_farWith_25 ?_
  refine g_iload_n C dX1_farWith_28 rfl 0 rfl ?_
  refine g_iald C cI_26 dX1_farWith_29 h (fun h => ?_)
  refine g_if_ne (tgt := 37) C dX1_farWith_30 (by decide) h (fun h => ?_) (fun h => ?_)
  · refine g_iconst (v := (-1 : Int32)) C dX1_farWith_33 (by decide) ?_
    refine g_goto (tgt := 43) C dX1_farWith_34 (by decide) ?_
    obtain rfl := so_inj h
    exact g_iret C hr hlk dX1_farWith_43 rfl
  · refine g_aload_n C dX1_farWith_37 rfl 1 rfl ?_
    refine g_get C (T := TX1) hcl1 cO_25 rfl (j := 1) (by decide) wl_202 (v := .ref (ad 27)) rfl dX1_farWith_38 ?_
    refine g_iload_n C dX1_farWith_41 rfl 0 rfl ?_
    refine g_iald C cI_27 dX1_farWith_42 h (fun h => ?_)
    obtain rfl := so_inj h
    exact g_iret C hr hlk dX1_farWith_43 rfl

def rmX5_isLess : Room := { frames := 0, cells := 0, slots := 0, locals := 0 }
set_option maxRecDepth 100000 in
set_option maxHeartbeats 4000000 in
theorem c_X5_isLess (l : Launch)  {a0 : Int32} {a1 : Int32}  {m : MM} {r : Int32} (h : f_X5_isLess a0 a1 m = some r) : CT l yX5_isLess cX5_isLess 2 (some .boolean) rmX5_isLess cfC 73 (fun ad tb => [.int a0, .int a1]) m (some (.int r)) m := by
  refine CT.of (cc := cX5_isLess) (maxL := 2) (ret := (some .boolean)) (by decide) ⟨rfl, rfl⟩ (fun _ _ => Nat.le_of_ble_eq_true rfl) ?_
  intro p e s mt args below meth c D cA ad tb C hr hlk
  refine g_lv (lv' := [(0, .int a0), (1, .int a1)]) rfl ?_
  unfold f_X5_isLess at h
  refine g_iload_n C dX5_isLess_0 rfl 0 rfl ?_
  refine g_iconst (v := (-1 : Int32)) C dX5_isLess_1 (by decide) ?_
  refine g_icmp_eq (tgt := 19) C dX5_isLess_2 (by decide) h (fun h => ?_) (fun h => ?_)
  · refine g_iconst (v := (0 : Int32)) C dX5_isLess_19 (by decide) ?_
    obtain rfl := so_inj h
    exact g_zret C hr hlk dX5_isLess_20 rfl rfl
  · refine g_iload_n C dX5_isLess_5 rfl 1 rfl ?_
    refine g_iconst (v := (-1 : Int32)) C dX5_isLess_6 (by decide) ?_
    refine g_icmp_eq (tgt := 15) C dX5_isLess_7 (by decide) h (fun h => ?_) (fun h => ?_)
    · refine g_iconst (v := (1 : Int32)) C dX5_isLess_15 (by decide) ?_
      refine g_goto (tgt := 20) C dX5_isLess_16 (by decide) ?_
      obtain rfl := so_inj h
      exact g_zret C hr hlk dX5_isLess_20 rfl rfl
    · refine g_iload_n C dX5_isLess_10 rfl 0 rfl ?_
      refine g_iload_n C dX5_isLess_11 rfl 1 rfl ?_
      refine g_icmp_ge (tgt := 19) C dX5_isLess_12 (by decide) h (fun h => ?_) (fun h => ?_)
      · refine g_iconst (v := (0 : Int32)) C dX5_isLess_19 (by decide) ?_
        obtain rfl := so_inj h
        exact g_zret C hr hlk dX5_isLess_20 rfl rfl
      · refine g_iconst (v := (1 : Int32)) C dX5_isLess_15 (by decide) ?_
        refine g_goto (tgt := 20) C dX5_isLess_16 (by decide) ?_
        obtain rfl := so_inj h
        exact g_zret C hr hlk dX5_isLess_20 rfl rfl

def rmX5_pack : Room := { frames := 14, cells := 0, slots := 0, locals := 315 }
set_option maxRecDepth 100000 in
set_option maxHeartbeats 4000000 in
theorem c_X5_pack (l : Launch) {F : Nat}  {a0 : Int32} {a1 : Int32}  {m : MM} {m' : MM} {r : Int32} (h : f_X5_pack F a0 a1 m = some (r, m')) : CT l yX5_pack cX5_pack 7 (some .int) rmX5_pack cfC 73 (fun ad tb => [.ref (ad 0), .int a0, .int a1]) m (some (.int r)) m' := by
  refine CT.of (cc := cX5_pack) (maxL := 7) (ret := (some .int)) (by decide) ⟨rfl, rfl⟩ (fun _ _ => Nat.le_of_ble_eq_true rfl) ?_
  intro p e s mt args below meth c D cA ad tb C hr hlk
  refine g_lv (lv' := [(0, .ref (ad 0)), (1, .int a0), (2, .int a1)]) rfl ?_
  have hcl0 : ∀ w ∈ wsX00, w.before args s = true := fun w hw => C.2.2.2.2.1 w (inlX0 w hw)
  have hcl5 : ∀ w ∈ wsX50, w.before args s = true := fun w hw => C.2.2.2.2.1 w (inlX5 w hw)
  unfold f_X5_pack at h
  refine g_aload_n C dX5_pack_0 rfl 0 rfl ?_
  refine g_get C (T := TX5) hcl5 cO_0 rfl (j := 0) (by decide) wl_482 (v := .ref (ad 1)) rfl dX5_pack_1 ?_
  refine g_iload_n C dX5_pack_4 rfl 1 rfl ?_
  obtain ⟨r1, hX2, h⟩ := bd1_inv h
  refine g_callV C (c_X0_hasThing l lot_1 hX2) (cwVw 1 C.2.2.2.2.1 wl_557 wl_558 wl_559 wl_110 wl_560 rfl rfl (by decide +kernel) ⟨Nat.le_of_ble_eq_true rfl, Nat.le_of_ble_eq_true rfl⟩) cO_1 rfl rfl rfl rfl (Nat.le_of_ble_eq_true rfl) dX5_pack_5 ?_
  refine g_if_eq (tgt := 19) C dX5_pack_8 (by decide) h (fun h => ?_) (fun h => ?_)
  · refine g_bipush (v := (-2 : Int32)) C dX5_pack_19 (by decide) ?_
    obtain ⟨rfl, rfl⟩ := sp_inj h
    exact g_iret C hr hlk dX5_pack_21 rfl
  · refine g_iload_n C dX5_pack_11 rfl 2 rfl ?_
    refine g_iconst (v := (2 : Int32)) C dX5_pack_12 (by decide) ?_
    obtain ⟨r3, hX4, h⟩ := bd1_inv h
    refine g_callS C (c_X5_within l hX4) (cwSw 2 C.2.2.2.2.1 wl_518 wl_519 wl_109 wl_520 rfl rfl (by decide +kernel) ⟨Nat.le_of_ble_eq_true rfl, Nat.le_of_ble_eq_true rfl⟩) rfl rfl rfl (Nat.le_of_ble_eq_true rfl) dX5_pack_13 ?_
    refine g_if_ne (tgt := 22) C dX5_pack_16 (by decide) h (fun h => ?_) (fun h => ?_)
    · refine g_bipush (v := (-2 : Int32)) C dX5_pack_19 (by decide) ?_
      obtain ⟨rfl, rfl⟩ := sp_inj h
      exact g_iret C hr hlk dX5_pack_21 rfl
    · refine g_aload_n C dX5_pack_22 rfl 0 rfl ?_
      refine g_iconst (v := (1 : Int32)) C dX5_pack_23 (by decide) ?_
      obtain ⟨r5, m7, hX6, h⟩ := bd2_inv h
      refine g_callV C (c_X5_fewest l hX6) (cwVw 1 C.2.2.2.2.1 wl_681 wl_683 wl_17 wl_109 wl_684 rfl rfl (by decide +kernel) ⟨Nat.le_of_ble_eq_true rfl, Nat.le_of_ble_eq_true rfl⟩) cO_0 rfl rfl rfl rfl (Nat.le_of_ble_eq_true rfl) dX5_pack_24 ?_
      refine g_pop C dX5_pack_27 rfl ?_
      refine g_iconst (v := (-1 : Int32)) C dX5_pack_28 (by decide) ?_
      refine g_istore_n (lv' := [(3, .int (-1 : Int32)), (0, .ref (ad 0)), (1, .int a0), (2, .int a1)]) C dX5_pack_29 rfl (by decide) rfl ?_
      refine g_iconst (v := (-1 : Int32)) C dX5_pack_30 (by decide) ?_
      refine g_istore (lv' := [(4, .int (-1 : Int32)), (3, .int (-1 : Int32)), (0, .ref (ad 0)), (1, .int a0), (2, .int a1)]) C dX5_pack_31 (by decide) rfl ?_
      refine g_iconst (v := (0 : Int32)) C dX5_pack_33 (by decide) ?_
      refine g_istore (lv' := [(5, .int (0 : Int32)), (4, .int (-1 : Int32)), (3, .int (-1 : Int32)), (0, .ref (ad 0)), (1, .int a0), (2, .int a1)]) C dX5_pack_34 (by decide) rfl ?_
      refine g_sub [3, 4, 5, 2, 1, 0] rfl ?_
      refine g_loop_III (L := f_X5_pack_L36 a0 m7) h 36 83 (fun x3_8 x4_9 x5_10 => [(0, .ref (ad 0)), (1, .int a0), (2, .int a1), (3, .int x3_8), (4, .int x4_9), (5, .int x5_10)]) (fun x3_8 x4_9 x5_10 => [(2, .int a1), (3, .int x3_8), (4, .int x4_9)]) (fun x3_8 x4_9 x5_10 => []) (fun x3_8 x4_9 x5_10 => []) ?_ ?_ (fun _ _ _ _ => rfl)
      · intro x3_8 x4_9 x5_10 h
        refine g_iload_n C dX5_pack_83 rfl 0 rfl ?_
        refine g_if_ne (tgt := 91) C dX5_pack_84 (by decide) h (fun h => ?_) (fun h => ?_)
        · refine g_iload_n C dX5_pack_87 rfl 1 rfl ?_
          refine g_goto (tgt := 93) C dX5_pack_88 (by decide) ?_
          obtain ⟨rfl, rfl⟩ := sp_inj h
          exact g_iret C hr hlk dX5_pack_93 rfl
        · refine g_iload C dX5_pack_91 2 rfl ?_
          obtain ⟨rfl, rfl⟩ := sp_inj h
          exact g_iret C hr hlk dX5_pack_93 rfl
      · intro K11 hK11 n ih x3_8 x4_9 x5_10 h
        rw [f_X5_pack_L36] at h
        refine g_iload C dX5_pack_36 5 rfl ?_
        refine g_aload_n C dX5_pack_38 rfl 0 rfl ?_
        refine g_get C (T := TX5) hcl5 cO_0 rfl (j := 0) (by decide) wl_482 (v := .ref (ad 1)) rfl dX5_pack_39 ?_
        refine g_get C (T := TX0) hcl0 cO_1 rfl (j := 7) (by decide) wl_152 (v := .int (rI m7 1 7)) rfl dX5_pack_42 ?_
        refine g_icmp_ge (tgt := 83) C dX5_pack_45 (by decide) h (fun h => ?_) (fun h => ?_)
        · exact g_sub [2, 3, 4] rfl (hK11 _ _ _ h)
        · refine g_aload_n C dX5_pack_48 rfl 0 rfl ?_
          refine g_get C (T := TX5) hcl5 cO_0 rfl (j := 3) (by decide) wl_485 (v := .ref (ad 25)) rfl dX5_pack_49 ?_
          refine g_iload_n C dX5_pack_52 rfl 1 rfl ?_
          refine g_iload C dX5_pack_53 5 rfl ?_
          obtain ⟨r12, hX13, h⟩ := bd1_inv h
          refine g_callV C (c_X1_farWith l hX13) (cwVw 2 C.2.2.2.2.1 wl_780 wl_781 wl_782 wl_111 wl_783 rfl rfl (by decide +kernel) ⟨Nat.le_of_ble_eq_true rfl, Nat.le_of_ble_eq_true rfl⟩) cO_25 rfl rfl rfl rfl (Nat.le_of_ble_eq_true rfl) dX5_pack_55 ?_
          refine g_istore (lv' := [(6, .int r12), (0, .ref (ad 0)), (1, .int a0), (2, .int a1), (3, .int x3_8), (4, .int x4_9), (5, .int x5_10)]) C dX5_pack_58 (by decide) rfl ?_
          refine g_iload C dX5_pack_60 0 rfl ?_
          refine g_iload C dX5_pack_62 5 rfl ?_
          obtain ⟨r14, hX15, h⟩ := bd1_inv h
          refine g_callS C (c_X5_isLess l hX15) (cwSw 2 C.2.2.2.2.1 wl_784 wl_785 wl_109 wl_786 rfl rfl (by decide +kernel) ⟨Nat.le_of_ble_eq_true rfl, Nat.le_of_ble_eq_true rfl⟩) rfl rfl rfl (Nat.le_of_ble_eq_true rfl) dX5_pack_64 ?_
          refine g_if_eq (tgt := 77) C dX5_pack_67 (by decide) h (fun h => ?_) (fun h => ?_)
          · refine g_iinc (lv' := [(6, .int r12), (0, .ref (ad 0)), (1, .int a0), (2, .int a1), (3, .int x3_8), (4, .int x4_9)]) C dX5_pack_77 (q := 6) rfl (by decide) h rfl (fun _ => rfl) (fun x5_16 h => ?_)
            refine g_goto (tgt := 36) C dX5_pack_80 (by decide) ?_
            exact g_sub [2, 3, 4, 5, 6, 0] rfl (ih _ _ _ h)
          · refine g_iload C dX5_pack_70 6 rfl ?_
            refine g_istore_n (lv' := [(3, .int x5_10), (6, .int r12), (0, .ref (ad 0)), (1, .int a0), (2, .int a1), (4, .int x4_9), (5, .int x5_10)]) C dX5_pack_72 rfl (by decide) rfl ?_
            refine g_iload C dX5_pack_73 1 rfl ?_
            refine g_istore (lv' := [(4, .int r12), (3, .int x5_10), (6, .int r12), (0, .ref (ad 0)), (1, .int a0), (2, .int a1), (5, .int x5_10)]) C dX5_pack_75 (by decide) rfl ?_
            refine g_iinc (lv' := [(4, .int r12), (3, .int x5_10), (6, .int r12), (0, .ref (ad 0)), (1, .int a0), (2, .int a1)]) C dX5_pack_77 (q := 6) rfl (by decide) h rfl (fun _ => rfl) (fun x5_17 h => ?_)
            refine g_goto (tgt := 36) C dX5_pack_80 (by decide) ?_
            exact g_sub [4, 5, 6, 2, 1, 0] rfl (ih _ _ _ h)

def rmX5_ring : Room := { frames := 14, cells := 0, slots := 0, locals := 316 }
set_option maxRecDepth 100000 in
set_option maxHeartbeats 4000000 in
theorem c_X5_ring (l : Launch) {F : Nat}  {a0 : Int32}  {m : MM} {m' : MM} {r : Int32} (h : f_X5_ring F a0 m = some (r, m')) : CT l yX5_ring cX5_ring 5 (some .int) rmX5_ring cfC 73 (fun ad tb => [.ref (ad 0), .int a0]) m (some (.int r)) m' := by
  refine CT.of (cc := cX5_ring) (maxL := 5) (ret := (some .int)) (by decide) ⟨rfl, rfl⟩ (fun _ _ => Nat.le_of_ble_eq_true rfl) ?_
  intro p e s mt args below meth c D cA ad tb C hr hlk
  refine g_lv (lv' := [(0, .ref (ad 0)), (1, .int a0)]) rfl ?_
  unfold f_X5_ring at h
  refine g_iload_n C dX5_ring_0 rfl 1 rfl ?_
  refine g_iconst (v := (2 : Int32)) C dX5_ring_1 (by decide) ?_
  obtain ⟨r1, hX2, h⟩ := bd1_inv h
  refine g_callS C (c_X5_within l hX2) (cwSw 2 C.2.2.2.2.1 wl_518 wl_519 wl_109 wl_520 rfl rfl (by decide +kernel) ⟨Nat.le_of_ble_eq_true rfl, Nat.le_of_ble_eq_true rfl⟩) rfl rfl rfl (Nat.le_of_ble_eq_true rfl) dX5_ring_2 ?_
  refine g_if_ne (tgt := 11) C dX5_ring_5 (by decide) h (fun h => ?_) (fun h => ?_)
  · refine g_bipush (v := (-2 : Int32)) C dX5_ring_8 (by decide) ?_
    obtain ⟨rfl, rfl⟩ := sp_inj h
    exact g_iret C hr hlk dX5_ring_10 rfl
  · refine g_aload_n C dX5_ring_11 rfl 0 rfl ?_
    obtain ⟨m4, hX3, h⟩ := bd1_inv h
    refine g_callV C (c_X5_countCosts l hX3) (cwVw 0 C.2.2.2.2.1 wl_750 wl_752 wl_27 wl_109 wl_753 rfl rfl (by decide +kernel) ⟨Nat.le_of_ble_eq_true rfl, Nat.le_of_ble_eq_true rfl⟩) cO_0 rfl rfl rfl rfl (Nat.le_of_ble_eq_true rfl) dX5_ring_12 ?_
    refine g_aload_n C dX5_ring_15 rfl 0 rfl ?_
    refine g_iconst (v := (-1 : Int32)) C dX5_ring_16 (by decide) ?_
    refine g_iconst (v := (-1 : Int32)) C dX5_ring_17 (by decide) ?_
    obtain ⟨r5, m7, hX6, h⟩ := bd2_inv h
    refine g_callV C (c_X5_leastIf l hX6) (cwVw 2 C.2.2.2.2.1 wl_758 wl_760 wl_28 wl_109 wl_761 rfl rfl (by decide +kernel) ⟨Nat.le_of_ble_eq_true rfl, Nat.le_of_ble_eq_true rfl⟩) cO_0 rfl rfl rfl rfl (Nat.le_of_ble_eq_true rfl) dX5_ring_18 ?_
    refine g_istore_n (lv' := [(2, .int r5), (0, .ref (ad 0)), (1, .int a0)]) C dX5_ring_21 rfl (by decide) rfl ?_
    refine g_aload_n C dX5_ring_22 rfl 1 rfl ?_
    obtain ⟨r8, m10, hX9, h⟩ := bd2_inv h
    refine g_callV C (c_X5_bell l hX9) (cwVw 0 C.2.2.2.2.1 wl_669 wl_671 wl_15 wl_109 wl_672 rfl rfl (by decide +kernel) ⟨Nat.le_of_ble_eq_true rfl, Nat.le_of_ble_eq_true rfl⟩) cO_0 rfl rfl rfl rfl (Nat.le_of_ble_eq_true rfl) dX5_ring_23 ?_
    refine g_istore_n (lv' := [(3, .int r8), (2, .int r5), (0, .ref (ad 0)), (1, .int a0)]) C dX5_ring_26 rfl (by decide) rfl ?_
    refine g_iload_n C dX5_ring_27 rfl 0 rfl ?_
    refine g_iload_n C dX5_ring_28 rfl 1 rfl ?_
    obtain ⟨r11, hX12, h⟩ := bd1_inv h
    refine g_callS C (c_X5_isLess l hX12) (cwSw 2 C.2.2.2.2.1 wl_784 wl_785 wl_109 wl_786 rfl rfl (by decide +kernel) ⟨Nat.le_of_ble_eq_true rfl, Nat.le_of_ble_eq_true rfl⟩) rfl rfl rfl (Nat.le_of_ble_eq_true rfl) dX5_ring_29 ?_
    refine g_istore (lv' := [(4, .int r11), (3, .int r8), (2, .int r5), (0, .ref (ad 0)), (1, .int a0)]) C dX5_ring_32 (by decide) rfl ?_
    refine g_iload_n C dX5_ring_34 rfl 4 rfl ?_
    refine g_if_ne (tgt := 49) C dX5_ring_35 (by decide) h (fun h => ?_) (fun h => ?_)
    · refine g_iload C dX5_ring_38 0 rfl ?_
      refine g_if_eq (tgt := 47) C dX5_ring_40 (by decide) h (fun h => ?_) (fun h => ?_)
      · refine g_iconst (v := (0 : Int32)) C dX5_ring_47 (by decide) ?_
        obtain ⟨rfl, rfl⟩ := sp_inj h
        exact g_iret C hr hlk dX5_ring_48 rfl
      · refine g_iconst (v := (1 : Int32)) C dX5_ring_43 (by decide) ?_
        refine g_goto (tgt := 48) C dX5_ring_44 (by decide) ?_
        obtain ⟨rfl, rfl⟩ := sp_inj h
        exact g_iret C hr hlk dX5_ring_48 rfl
    · refine g_iload C dX5_ring_49 0 rfl ?_
      refine g_if_eq (tgt := 58) C dX5_ring_51 (by decide) h (fun h => ?_) (fun h => ?_)
      · refine g_iload_n C dX5_ring_58 rfl 2 rfl ?_
        obtain ⟨rfl, rfl⟩ := sp_inj h
        exact g_iret C hr hlk dX5_ring_59 rfl
      · refine g_iload_n C dX5_ring_54 rfl 1 rfl ?_
        refine g_goto (tgt := 59) C dX5_ring_55 (by decide) ?_
        obtain ⟨rfl, rfl⟩ := sp_inj h
        exact g_iret C hr hlk dX5_ring_59 rfl

def rmX5_leave : Room := { frames := 14, cells := 0, slots := 0, locals := 316 }
set_option maxRecDepth 100000 in
set_option maxHeartbeats 4000000 in
theorem c_X5_leave (l : Launch) {F : Nat}    {m : MM} {m' : MM} {r : Int32} (h : f_X5_leave F m = some (r, m')) : CT l yX5_leave cX5_leave 5 (some .int) rmX5_leave cfC 73 (fun ad tb => [.ref (ad 0)]) m (some (.int r)) m' := by
  refine CT.of (cc := cX5_leave) (maxL := 5) (ret := (some .int)) (by decide) ⟨rfl, rfl⟩ (fun _ _ => Nat.le_of_ble_eq_true rfl) ?_
  intro p e s mt args below meth c D cA ad tb C hr hlk
  refine g_lv (lv' := [(0, .ref (ad 0))]) rfl ?_
  have hcl0 : ∀ w ∈ wsX00, w.before args s = true := fun w hw => C.2.2.2.2.1 w (inlX0 w hw)
  have hcl5 : ∀ w ∈ wsX50, w.before args s = true := fun w hw => C.2.2.2.2.1 w (inlX5 w hw)
  unfold f_X5_leave at h
  refine g_aload_n C dX5_leave_0 rfl 0 rfl ?_
  obtain ⟨m2, hX1, h⟩ := bd1_inv h
  refine g_callV C (c_X5_countCosts l hX1) (cwVw 0 C.2.2.2.2.1 wl_750 wl_752 wl_27 wl_109 wl_753 rfl rfl (by decide +kernel) ⟨Nat.le_of_ble_eq_true rfl, Nat.le_of_ble_eq_true rfl⟩) cO_0 rfl rfl rfl rfl (Nat.le_of_ble_eq_true rfl) dX5_leave_1 ?_
  refine g_aload_n C dX5_leave_4 rfl 0 rfl ?_
  refine g_iconst (v := (-1 : Int32)) C dX5_leave_5 (by decide) ?_
  refine g_iconst (v := (-1 : Int32)) C dX5_leave_6 (by decide) ?_
  obtain ⟨r3, m5, hX4, h⟩ := bd2_inv h
  refine g_callV C (c_X5_leastIf l hX4) (cwVw 2 C.2.2.2.2.1 wl_758 wl_760 wl_28 wl_109 wl_761 rfl rfl (by decide +kernel) ⟨Nat.le_of_ble_eq_true rfl, Nat.le_of_ble_eq_true rfl⟩) cO_0 rfl rfl rfl rfl (Nat.le_of_ble_eq_true rfl) dX5_leave_7 ?_
  refine g_istore_n (lv' := [(1, .int r3), (0, .ref (ad 0))]) C dX5_leave_10 rfl (by decide) rfl ?_
  refine g_iconst (v := (-1 : Int32)) C dX5_leave_11 (by decide) ?_
  refine g_istore_n (lv' := [(2, .int (-1 : Int32)), (1, .int r3), (0, .ref (ad 0))]) C dX5_leave_12 rfl (by decide) rfl ?_
  refine g_iconst (v := (0 : Int32)) C dX5_leave_13 (by decide) ?_
  refine g_istore_n (lv' := [(3, .int (0 : Int32)), (2, .int (-1 : Int32)), (1, .int r3), (0, .ref (ad 0))]) C dX5_leave_14 rfl (by decide) rfl ?_
  refine g_sub [3, 2, 1, 0] rfl ?_
  refine g_loop_IIIM (L := f_X5_leave_L15 F) h 15 87 (fun x1_6 x2_7 x3_8 m9 => [(0, .ref (ad 0)), (1, .int x1_6), (2, .int x2_7), (3, .int x3_8)]) (fun x1_6 x2_7 x3_8 m9 => [(2, .int x2_7)]) (fun x1_6 x2_7 x3_8 m9 => []) (fun x1_6 x2_7 x3_8 m9 => []) ?_ ?_ (fun _ _ _ _ _ => rfl)
  · intro x1_6 x2_7 x3_8 m9 h
    refine g_iload_n C dX5_leave_87 rfl 0 rfl ?_
    obtain ⟨rfl, rfl⟩ := sp_inj h
    exact g_iret C hr hlk dX5_leave_88 rfl
  · intro K10 hK10 n ih x1_6 x2_7 x3_8 m9 h
    rw [f_X5_leave_L15] at h
    refine g_iload_n C dX5_leave_15 rfl 3 rfl ?_
    refine g_aload_n C dX5_leave_16 rfl 0 rfl ?_
    refine g_get C (T := TX5) hcl5 cO_0 rfl (j := 0) (by decide) wl_482 (v := .ref (ad 1)) rfl dX5_leave_17 ?_
    refine g_get C (T := TX0) hcl0 cO_1 rfl (j := 8) (by decide) wl_157 (v := .int (rI m9 1 8)) rfl dX5_leave_20 ?_
    refine g_icmp_ge (tgt := 87) C dX5_leave_23 (by decide) h (fun h => ?_) (fun h => ?_)
    · exact g_sub [2] rfl (hK10 _ _ _ _ h)
    · refine g_iload_n C dX5_leave_26 rfl 3 rfl ?_
      refine g_aload_n C dX5_leave_27 rfl 0 rfl ?_
      refine g_get C (T := TX5) hcl5 cO_0 rfl (j := 0) (by decide) wl_482 (v := .ref (ad 1)) rfl dX5_leave_28 ?_
      refine g_get C (T := TX0) hcl0 cO_1 rfl (j := 9) (by decide) wl_159 (v := .int (rI m9 1 9)) rfl dX5_leave_31 ?_
      refine g_join_IM h 47 (fun s11 m12 => [(0, .ref (ad 0)), (1, .int x1_6), (2, .int x2_7), (3, .int x3_8)]) (fun s11 m12 => [.int s11]) ?_ ?_
      · intro s11 m12 h
        refine g_istore (lv' := [(4, .int s11), (0, .ref (ad 0)), (1, .int x1_6), (2, .int x2_7), (3, .int x3_8)]) C dX5_leave_47 (by decide) rfl ?_
        refine g_iload C dX5_leave_49 0 rfl ?_
        refine g_iconst (v := (-1 : Int32)) C dX5_leave_51 (by decide) ?_
        refine g_icmp_eq (tgt := 81) C dX5_leave_52 (by decide) h (fun h => ?_) (fun h => ?_)
        · refine g_iinc (lv' := [(4, .int s11), (0, .ref (ad 0)), (1, .int x1_6), (2, .int x2_7)]) C dX5_leave_81 (q := 4) rfl (by decide) h rfl (fun _ => rfl) (fun x3_14 h => ?_)
          refine g_goto (tgt := 15) C dX5_leave_84 (by decide) ?_
          exact g_sub [2, 3, 4, 0] rfl (ih _ _ _ _ h)
        · refine g_iload C dX5_leave_55 0 rfl ?_
          refine g_aload_n C dX5_leave_57 rfl 1 rfl ?_
          refine g_iload_n C dX5_leave_58 rfl 4 rfl ?_
          obtain ⟨r15, m17, hX16, h⟩ := bd2_inv h
          refine g_callV C (c_X5_worth l hX16) (cwVw 1 C.2.2.2.2.1 wl_673 wl_675 wl_16 wl_109 wl_676 rfl rfl (by decide +kernel) ⟨Nat.le_of_ble_eq_true rfl, Nat.le_of_ble_eq_true rfl⟩) cO_0 rfl rfl rfl rfl (Nat.le_of_ble_eq_true rfl) dX5_leave_59 ?_
          refine g_iadd C dX5_leave_62 ?_
          refine g_iload_n C dX5_leave_63 rfl 2 rfl ?_
          obtain ⟨r18, hX19, h⟩ := bd1_inv h
          refine g_callS C (c_X5_isLess l hX19) (cwSw 2 C.2.2.2.2.1 wl_784 wl_785 wl_109 wl_786 rfl rfl (by decide +kernel) ⟨Nat.le_of_ble_eq_true rfl, Nat.le_of_ble_eq_true rfl⟩) rfl rfl rfl (Nat.le_of_ble_eq_true rfl) dX5_leave_64 ?_
          refine g_if_eq (tgt := 81) C dX5_leave_67 (by decide) h (fun h => ?_) (fun h => ?_)
          · refine g_iinc (lv' := [(4, .int s11), (0, .ref (ad 0)), (1, .int x1_6), (2, .int x2_7)]) C dX5_leave_81 (q := 4) rfl (by decide) h rfl (fun _ => rfl) (fun x3_20 h => ?_)
            refine g_goto (tgt := 15) C dX5_leave_84 (by decide) ?_
            exact g_sub [2, 3, 4, 0] rfl (ih _ _ _ _ h)
          · refine g_iload_n C dX5_leave_70 rfl 4 rfl ?_
            refine g_istore_n (lv' := [(2, .int x3_8), (4, .int s11), (0, .ref (ad 0)), (1, .int x1_6), (3, .int x3_8)]) C dX5_leave_71 rfl (by decide) rfl ?_
            refine g_iload C dX5_leave_72 1 rfl ?_
            refine g_aload_n C dX5_leave_74 rfl 2 rfl ?_
            refine g_iload_n C dX5_leave_75 rfl 4 rfl ?_
            obtain ⟨r21, m23, hX22, h⟩ := bd2_inv h
            refine g_callV C (c_X5_worth l hX22) (cwVw 1 C.2.2.2.2.1 wl_673 wl_675 wl_16 wl_109 wl_676 rfl rfl (by decide +kernel) ⟨Nat.le_of_ble_eq_true rfl, Nat.le_of_ble_eq_true rfl⟩) cO_0 rfl rfl rfl rfl (Nat.le_of_ble_eq_true rfl) dX5_leave_76 ?_
            refine g_iadd C dX5_leave_79 ?_
            refine nm_i h (fun x1_24 h => ?_)
            refine g_istore_n (lv' := [(1, .int x1_24), (2, .int x3_8), (4, .int s11), (0, .ref (ad 0)), (3, .int x3_8)]) C dX5_leave_80 rfl (by decide) rfl ?_
            refine g_iinc (lv' := [(1, .int x1_24), (2, .int x3_8), (4, .int s11), (0, .ref (ad 0))]) C dX5_leave_81 (q := 4) rfl (by decide) h rfl (fun _ => rfl) (fun x3_25 h => ?_)
            refine g_goto (tgt := 15) C dX5_leave_84 (by decide) ?_
            exact g_sub [4, 1, 2, 0] rfl (ih _ _ _ _ h)
      intro J13 hJ13 h
      refine g_icmp_ne (tgt := 41) C dX5_leave_34 (by decide) h (fun h => ?_) (fun h => ?_)
      · refine g_iconst (v := (-1 : Int32)) C dX5_leave_37 (by decide) ?_
        refine g_goto (tgt := 47) C dX5_leave_38 (by decide) ?_
        exact g_sub [0, 1, 2, 3] rfl (hJ13 _ _ h)
      · refine g_aload_n C dX5_leave_41 rfl 0 rfl ?_
        refine g_iload_n C dX5_leave_42 rfl 3 rfl ?_
        refine g_iconst (v := (-1 : Int32)) C dX5_leave_43 (by decide) ?_
        obtain ⟨r26, m28, hX27, h⟩ := bd2_inv h
        refine g_callV C (c_X5_leastIf l hX27) (cwVw 2 C.2.2.2.2.1 wl_758 wl_760 wl_28 wl_109 wl_761 rfl rfl (by decide +kernel) ⟨Nat.le_of_ble_eq_true rfl, Nat.le_of_ble_eq_true rfl⟩) cO_0 rfl rfl rfl rfl (Nat.le_of_ble_eq_true rfl) dX5_leave_44 ?_
        exact g_sub [0, 1, 2, 3] rfl (hJ13 _ _ h)

def rmX5_roomy : Room := { frames := 14, cells := 0, slots := 0, locals := 316 }
set_option maxRecDepth 100000 in
set_option maxHeartbeats 4000000 in
theorem c_X5_roomy (l : Launch) {F : Nat}  {a0 : Int32}  {m : MM} {m' : MM} {r : Int32} (h : f_X5_roomy F a0 m = some (r, m')) : CT l yX5_roomy cX5_roomy 6 (some .int) rmX5_roomy cfC 73 (fun ad tb => [.ref (ad 0), .int a0]) m (some (.int r)) m' := by
  refine CT.of (cc := cX5_roomy) (maxL := 6) (ret := (some .int)) (by decide) ⟨rfl, rfl⟩ (fun _ _ => Nat.le_of_ble_eq_true rfl) ?_
  intro p e s mt args below meth c D cA ad tb C hr hlk
  refine g_lv (lv' := [(0, .ref (ad 0)), (1, .int a0)]) rfl ?_
  have hcl0 : ∀ w ∈ wsX00, w.before args s = true := fun w hw => C.2.2.2.2.1 w (inlX0 w hw)
  have hcl5 : ∀ w ∈ wsX50, w.before args s = true := fun w hw => C.2.2.2.2.1 w (inlX5 w hw)
  unfold f_X5_roomy at h
  refine g_iload_n C dX5_roomy_0 rfl 1 rfl ?_
  refine g_iconst (v := (2 : Int32)) C dX5_roomy_1 (by decide) ?_
  obtain ⟨r1, hX2, h⟩ := bd1_inv h
  refine g_callS C (c_X5_within l hX2) (cwSw 2 C.2.2.2.2.1 wl_518 wl_519 wl_109 wl_520 rfl rfl (by decide +kernel) ⟨Nat.le_of_ble_eq_true rfl, Nat.le_of_ble_eq_true rfl⟩) rfl rfl rfl (Nat.le_of_ble_eq_true rfl) dX5_roomy_2 ?_
  refine g_if_ne (tgt := 11) C dX5_roomy_5 (by decide) h (fun h => ?_) (fun h => ?_)
  · refine g_bipush (v := (-2 : Int32)) C dX5_roomy_8 (by decide) ?_
    obtain ⟨rfl, rfl⟩ := sp_inj h
    exact g_iret C hr hlk dX5_roomy_10 rfl
  · refine g_aload_n C dX5_roomy_11 rfl 0 rfl ?_
    obtain ⟨m4, hX3, h⟩ := bd1_inv h
    refine g_callV C (c_X5_countCosts l hX3) (cwVw 0 C.2.2.2.2.1 wl_750 wl_752 wl_27 wl_109 wl_753 rfl rfl (by decide +kernel) ⟨Nat.le_of_ble_eq_true rfl, Nat.le_of_ble_eq_true rfl⟩) cO_0 rfl rfl rfl rfl (Nat.le_of_ble_eq_true rfl) dX5_roomy_12 ?_
    refine g_aload_n C dX5_roomy_15 rfl 0 rfl ?_
    refine g_iconst (v := (-1 : Int32)) C dX5_roomy_16 (by decide) ?_
    refine g_iconst (v := (-1 : Int32)) C dX5_roomy_17 (by decide) ?_
    obtain ⟨r5, m7, hX6, h⟩ := bd2_inv h
    refine g_callV C (c_X5_leastIf l hX6) (cwVw 2 C.2.2.2.2.1 wl_758 wl_760 wl_28 wl_109 wl_761 rfl rfl (by decide +kernel) ⟨Nat.le_of_ble_eq_true rfl, Nat.le_of_ble_eq_true rfl⟩) cO_0 rfl rfl rfl rfl (Nat.le_of_ble_eq_true rfl) dX5_roomy_18 ?_
    refine g_istore_n (lv' := [(2, .int r5), (0, .ref (ad 0)), (1, .int a0)]) C dX5_roomy_21 rfl (by decide) rfl ?_
    refine g_iconst (v := (-1 : Int32)) C dX5_roomy_22 (by decide) ?_
    refine g_istore_n (lv' := [(3, .int (-1 : Int32)), (2, .int r5), (0, .ref (ad 0)), (1, .int a0)]) C dX5_roomy_23 rfl (by decide) rfl ?_
    refine g_iconst (v := (0 : Int32)) C dX5_roomy_24 (by decide) ?_
    refine g_istore (lv' := [(4, .int (0 : Int32)), (3, .int (-1 : Int32)), (2, .int r5), (0, .ref (ad 0)), (1, .int a0)]) C dX5_roomy_25 (by decide) rfl ?_
    refine g_sub [3, 4, 2, 1, 0] rfl ?_
    refine g_loop_IIIM (L := f_X5_roomy_L27 F) h 27 69 (fun x2_8 x3_9 x4_10 m11 => [(0, .ref (ad 0)), (1, .int a0), (2, .int x2_8), (3, .int x3_9), (4, .int x4_10)]) (fun x2_8 x3_9 x4_10 m11 => [(1, .int a0), (2, .int x2_8), (3, .int x3_9)]) (fun x2_8 x3_9 x4_10 m11 => []) (fun x2_8 x3_9 x4_10 m11 => []) ?_ ?_ (fun _ _ _ _ _ => rfl)
    · intro x2_8 x3_9 x4_10 m11 h
      refine g_iload_n C dX5_roomy_69 rfl 2 rfl ?_
      refine g_iconst (v := (-1 : Int32)) C dX5_roomy_70 (by decide) ?_
      refine g_icmp_ne (tgt := 76) C dX5_roomy_71 (by decide) h (fun h => ?_) (fun h => ?_)
      · refine g_iconst (v := (-1 : Int32)) C dX5_roomy_74 (by decide) ?_
        obtain ⟨rfl, rfl⟩ := sp_inj h
        exact g_iret C hr hlk dX5_roomy_75 rfl
      · refine g_iload_n C dX5_roomy_76 rfl 0 rfl ?_
        refine g_if_ne (tgt := 84) C dX5_roomy_77 (by decide) h (fun h => ?_) (fun h => ?_)
        · refine g_iload_n C dX5_roomy_80 rfl 2 rfl ?_
          refine g_goto (tgt := 85) C dX5_roomy_81 (by decide) ?_
          obtain ⟨rfl, rfl⟩ := sp_inj h
          exact g_iret C hr hlk dX5_roomy_85 rfl
        · refine g_iload_n C dX5_roomy_84 rfl 1 rfl ?_
          obtain ⟨rfl, rfl⟩ := sp_inj h
          exact g_iret C hr hlk dX5_roomy_85 rfl
    · intro K12 hK12 n ih x2_8 x3_9 x4_10 m11 h
      rw [f_X5_roomy_L27] at h
      refine g_iload C dX5_roomy_27 4 rfl ?_
      refine g_aload_n C dX5_roomy_29 rfl 0 rfl ?_
      refine g_get C (T := TX5) hcl5 cO_0 rfl (j := 0) (by decide) wl_482 (v := .ref (ad 1)) rfl dX5_roomy_30 ?_
      refine g_get C (T := TX0) hcl0 cO_1 rfl (j := 7) (by decide) wl_152 (v := .int (rI m11 1 7)) rfl dX5_roomy_33 ?_
      refine g_icmp_ge (tgt := 69) C dX5_roomy_36 (by decide) h (fun h => ?_) (fun h => ?_)
      · exact g_sub [1, 2, 3] rfl (hK12 _ _ _ _ h)
      · refine g_aload_n C dX5_roomy_39 rfl 0 rfl ?_
        refine g_iconst (v := (-1 : Int32)) C dX5_roomy_40 (by decide) ?_
        refine g_iload C dX5_roomy_41 4 rfl ?_
        obtain ⟨r13, m15, hX14, h⟩ := bd2_inv h
        refine g_callV C (c_X5_leastIf l hX14) (cwVw 2 C.2.2.2.2.1 wl_758 wl_760 wl_28 wl_109 wl_761 rfl rfl (by decide +kernel) ⟨Nat.le_of_ble_eq_true rfl, Nat.le_of_ble_eq_true rfl⟩) cO_0 rfl rfl rfl rfl (Nat.le_of_ble_eq_true rfl) dX5_roomy_43 ?_
        refine g_istore (lv' := [(5, .int r13), (0, .ref (ad 0)), (1, .int a0), (2, .int x2_8), (3, .int x3_9), (4, .int x4_10)]) C dX5_roomy_46 (by decide) rfl ?_
        refine g_iload C dX5_roomy_48 0 rfl ?_
        refine g_iload_n C dX5_roomy_50 rfl 3 rfl ?_
        obtain ⟨r16, hX17, h⟩ := bd1_inv h
        refine g_callS C (c_X5_isLess l hX17) (cwSw 2 C.2.2.2.2.1 wl_784 wl_785 wl_109 wl_786 rfl rfl (by decide +kernel) ⟨Nat.le_of_ble_eq_true rfl, Nat.le_of_ble_eq_true rfl⟩) rfl rfl rfl (Nat.le_of_ble_eq_true rfl) dX5_roomy_51 ?_
        refine g_if_eq (tgt := 63) C dX5_roomy_54 (by decide) h (fun h => ?_) (fun h => ?_)
        · refine g_iinc (lv' := [(5, .int r13), (0, .ref (ad 0)), (1, .int a0), (2, .int x2_8), (3, .int x3_9)]) C dX5_roomy_63 (q := 5) rfl (by decide) h rfl (fun _ => rfl) (fun x4_18 h => ?_)
          refine g_goto (tgt := 27) C dX5_roomy_66 (by decide) ?_
          exact g_sub [2, 3, 4, 5, 0] rfl (ih _ _ _ _ h)
        · refine g_iload C dX5_roomy_57 5 rfl ?_
          refine g_istore_n (lv' := [(3, .int x4_10), (5, .int r13), (0, .ref (ad 0)), (1, .int a0), (2, .int x2_8), (4, .int x4_10)]) C dX5_roomy_59 rfl (by decide) rfl ?_
          refine g_iload C dX5_roomy_60 1 rfl ?_
          refine g_istore_n (lv' := [(2, .int r13), (3, .int x4_10), (5, .int r13), (0, .ref (ad 0)), (1, .int a0), (4, .int x4_10)]) C dX5_roomy_62 rfl (by decide) rfl ?_
          refine g_iinc (lv' := [(2, .int r13), (3, .int x4_10), (5, .int r13), (0, .ref (ad 0)), (1, .int a0)]) C dX5_roomy_63 (q := 5) rfl (by decide) h rfl (fun _ => rfl) (fun x4_19 h => ?_)
          refine g_goto (tgt := 27) C dX5_roomy_66 (by decide) ?_
          exact g_sub [4, 5, 1, 2, 0] rfl (ih _ _ _ _ h)

def rmX2_isMissing : Room := { frames := 0, cells := 0, slots := 0, locals := 0 }
set_option maxRecDepth 100000 in
set_option maxHeartbeats 4000000 in
theorem c_X2_isMissing (l : Launch)  {k : Nat} (hk : isSh k) {m : MM} {r : Int32} (h : f_X2_isMissing k m = some r) : CT l yX2_isMissing cX2_isMissing 1 (some .boolean) rmX2_isMissing cfC 73 (fun ad tb => [.ref (ad k)]) m (some (.int r)) m := by
  refine CT.of (cc := cX2_isMissing) (maxL := 1) (ret := (some .boolean)) (by decide) ⟨rfl, rfl⟩ (fun _ _ => Nat.le_of_ble_eq_true rfl) ?_
  intro p e s mt args below meth c D cA ad tb C hr hlk
  refine g_lv (lv' := [(0, .ref (ad k))]) rfl ?_
  have hcl2 : ∀ w ∈ wsX20, w.before args s = true := fun w hw => C.2.2.2.2.1 w (inlX2 w hw)
  unfold f_X2_isMissing at h
  refine g_aload_n C dX2_isMissing_0 rfl 0 rfl ?_
  refine g_get C (T := TX2) hcl2 (sh_O hk) rfl (j := 1) (by decide) wl_302 (v := .int (rI m k 1)) rfl dX2_isMissing_1 ?_
  refine g_iconst (v := (-1 : Int32)) C dX2_isMissing_4 (by decide) ?_
  refine g_icmp_ne (tgt := 12) C dX2_isMissing_5 (by decide) h (fun h => ?_) (fun h => ?_)
  · refine g_iconst (v := (1 : Int32)) C dX2_isMissing_8 (by decide) ?_
    refine g_goto (tgt := 13) C dX2_isMissing_9 (by decide) ?_
    obtain rfl := so_inj h
    exact g_zret C hr hlk dX2_isMissing_13 rfl rfl
  · refine g_iconst (v := (0 : Int32)) C dX2_isMissing_12 (by decide) ?_
    obtain rfl := so_inj h
    exact g_zret C hr hlk dX2_isMissing_13 rfl rfl

def rmX5_canBe : Room := { frames := 2, cells := 0, slots := 0, locals := 42 }
set_option maxRecDepth 100000 in
set_option maxHeartbeats 4000000 in
theorem c_X5_canBe (l : Launch) {F : Nat}  {a0 : Int32}  {m : MM} {r : Int32} (h : f_X5_canBe F a0 m = some r) : CT l yX5_canBe cX5_canBe 4 (some .boolean) rmX5_canBe cfC 73 (fun ad tb => [.ref (ad 0), .int a0]) m (some (.int r)) m := by
  refine CT.of (cc := cX5_canBe) (maxL := 4) (ret := (some .boolean)) (by decide) ⟨rfl, rfl⟩ (fun _ _ => Nat.le_of_ble_eq_true rfl) ?_
  intro p e s mt args below meth c D cA ad tb C hr hlk
  refine g_lv (lv' := [(0, .ref (ad 0)), (1, .int a0)]) rfl ?_
  have hcl5 : ∀ w ∈ wsX50, w.before args s = true := fun w hw => C.2.2.2.2.1 w (inlX5 w hw)
  unfold f_X5_canBe at h
  refine g_iload_n C dX5_canBe_0 rfl 1 rfl ?_
  refine g_bipush (v := (10 : Int32)) C dX5_canBe_1 (by decide) ?_
  refine g_idiv C dX5_canBe_3 h (fun h => ?_)
  refine nm_i h (fun x2_1 h => ?_)
  refine g_istore_n (lv' := [(2, .int x2_1), (0, .ref (ad 0)), (1, .int a0)]) C dX5_canBe_4 rfl (by decide) rfl ?_
  refine g_iload_n C dX5_canBe_5 rfl 2 rfl ?_
  refine g_bipush (v := (10 : Int32)) C dX5_canBe_6 (by decide) ?_
  refine g_irem C dX5_canBe_8 h (fun h => ?_)
  refine nm_i h (fun x3_2 h => ?_)
  refine g_istore_n (lv' := [(3, .int x3_2), (2, .int x2_1), (0, .ref (ad 0)), (1, .int a0)]) C dX5_canBe_9 rfl (by decide) rfl ?_
  refine g_iload_n C dX5_canBe_10 rfl 3 rfl ?_
  refine g_if_lt (tgt := 52) C dX5_canBe_11 (by decide) h (fun h => ?_) (fun h => ?_)
  · refine g_iconst (v := (0 : Int32)) C dX5_canBe_52 (by decide) ?_
    obtain rfl := so_inj h
    exact g_zret C hr hlk dX5_canBe_53 rfl rfl
  · refine g_aload_n C dX5_canBe_14 rfl 2 rfl ?_
    refine g_get C (T := TX5) hcl5 cO_0 rfl (j := 2) (by decide) wl_484 (v := .ref (ad 17)) rfl dX5_canBe_15 ?_
    refine g_iload_n C dX5_canBe_18 rfl 1 rfl ?_
    obtain ⟨r3, hX4, h⟩ := bd1_inv h
    refine g_callV C (c_X0_hasThing l lot_17 hX4) (cwVw 1 C.2.2.2.2.1 wl_557 wl_558 wl_559 wl_110 wl_560 rfl rfl (by decide +kernel) ⟨Nat.le_of_ble_eq_true rfl, Nat.le_of_ble_eq_true rfl⟩) cO_17 rfl rfl rfl rfl (Nat.le_of_ble_eq_true rfl) dX5_canBe_19 ?_
    refine g_if_eq (tgt := 52) C dX5_canBe_22 (by decide) h (fun h => ?_) (fun h => ?_)
    · refine g_iconst (v := (0 : Int32)) C dX5_canBe_52 (by decide) ?_
      obtain rfl := so_inj h
      exact g_zret C hr hlk dX5_canBe_53 rfl rfl
    · refine g_aload_n C dX5_canBe_25 rfl 2 rfl ?_
      refine g_get C (T := TX5) hcl5 cO_0 rfl (j := 2) (by decide) wl_484 (v := .ref (ad 17)) rfl dX5_canBe_26 ?_
      refine g_iload_n C dX5_canBe_29 rfl 0 rfl ?_
      obtain ⟨r5, hX6, h⟩ := bd1_inv h
      refine g_callV C (c_X0_hasHold l lot_17 hX6) (cwVw 1 C.2.2.2.2.1 wl_532 wl_533 wl_534 wl_110 wl_535 rfl rfl (by decide +kernel) ⟨Nat.le_of_ble_eq_true rfl, Nat.le_of_ble_eq_true rfl⟩) cO_17 rfl rfl rfl rfl (Nat.le_of_ble_eq_true rfl) dX5_canBe_30 ?_
      refine g_if_eq (tgt := 52) C dX5_canBe_33 (by decide) h (fun h => ?_) (fun h => ?_)
      · refine g_iconst (v := (0 : Int32)) C dX5_canBe_52 (by decide) ?_
        obtain rfl := so_inj h
        exact g_zret C hr hlk dX5_canBe_53 rfl rfl
      · refine g_aload_n C dX5_canBe_36 rfl 2 rfl ?_
        refine g_get C (T := TX5) hcl5 cO_0 rfl (j := 2) (by decide) wl_484 (v := .ref (ad 17)) rfl dX5_canBe_37 ?_
        refine g_iload_n C dX5_canBe_40 rfl 1 rfl ?_
        refine g_iload_n C dX5_canBe_41 rfl 0 rfl ?_
        obtain ⟨r7, hX8, h⟩ := bd1_inv h
        refine g_callV C (c_X0_refusal l lot_17 hX8) (cwVw 2 C.2.2.2.2.1 wl_537 wl_538 wl_539 wl_110 wl_540 rfl rfl (by decide +kernel) ⟨Nat.le_of_ble_eq_true rfl, Nat.le_of_ble_eq_true rfl⟩) cO_17 rfl rfl rfl rfl (Nat.le_of_ble_eq_true rfl) dX5_canBe_42 ?_
        refine g_if_ne (tgt := 52) C dX5_canBe_45 (by decide) h (fun h => ?_) (fun h => ?_)
        · refine g_iconst (v := (1 : Int32)) C dX5_canBe_48 (by decide) ?_
          refine g_goto (tgt := 53) C dX5_canBe_49 (by decide) ?_
          obtain rfl := so_inj h
          exact g_zret C hr hlk dX5_canBe_53 rfl rfl
        · refine g_iconst (v := (0 : Int32)) C dX5_canBe_52 (by decide) ?_
          obtain rfl := so_inj h
          exact g_zret C hr hlk dX5_canBe_53 rfl rfl

def rmX5_judge : Room := { frames := 3, cells := 0, slots := 0, locals := 81 }
set_option maxRecDepth 100000 in
set_option maxHeartbeats 4000000 in
theorem c_X5_judge (l : Launch) {F : Nat}  {a0 : Int32} {a1 : Int32}  {m : MM} {m' : MM} {r : Int32} (h : f_X5_judge F a0 a1 m = some (r, m')) : CT l yX5_judge cX5_judge 8 (some .int) rmX5_judge cfC 73 (fun ad tb => [.ref (ad 0), .int a0, .int a1]) m (some (.int r)) m' := by
  refine CT.of (cc := cX5_judge) (maxL := 8) (ret := (some .int)) (by decide) ⟨rfl, rfl⟩ (fun _ _ => Nat.le_of_ble_eq_true rfl) ?_
  intro p e s mt args below meth c D cA ad tb C hr hlk
  refine g_lv (lv' := [(0, .ref (ad 0)), (1, .int a0), (2, .int a1)]) rfl ?_
  have hcl0 : ∀ w ∈ wsX00, w.before args s = true := fun w hw => C.2.2.2.2.1 w (inlX0 w hw)
  have hcl2 : ∀ w ∈ wsX20, w.before args s = true := fun w hw => C.2.2.2.2.1 w (inlX2 w hw)
  have hcl5 : ∀ w ∈ wsX50, w.before args s = true := fun w hw => C.2.2.2.2.1 w (inlX5 w hw)
  unfold f_X5_judge at h
  refine g_iload_n C dX5_judge_0 rfl 1 rfl ?_
  refine g_iconst (v := (4 : Int32)) C dX5_judge_1 (by decide) ?_
  obtain ⟨r1, hX2, h⟩ := bd1_inv h
  refine g_callS C (c_X5_within l hX2) (cwSw 2 C.2.2.2.2.1 wl_518 wl_519 wl_109 wl_520 rfl rfl (by decide +kernel) ⟨Nat.le_of_ble_eq_true rfl, Nat.le_of_ble_eq_true rfl⟩) rfl rfl rfl (Nat.le_of_ble_eq_true rfl) dX5_judge_2 ?_
  refine g_if_eq (tgt := 16) C dX5_judge_5 (by decide) h (fun h => ?_) (fun h => ?_)
  · refine g_bipush (v := (-2 : Int32)) C dX5_judge_16 (by decide) ?_
    obtain ⟨rfl, rfl⟩ := sp_inj h
    exact g_iret C hr hlk dX5_judge_18 rfl
  · refine g_iload_n C dX5_judge_8 rfl 2 rfl ?_
    refine g_iconst (v := (3 : Int32)) C dX5_judge_9 (by decide) ?_
    obtain ⟨r3, hX4, h⟩ := bd1_inv h
    refine g_callS C (c_X5_within l hX4) (cwSw 2 C.2.2.2.2.1 wl_518 wl_519 wl_109 wl_520 rfl rfl (by decide +kernel) ⟨Nat.le_of_ble_eq_true rfl, Nat.le_of_ble_eq_true rfl⟩) rfl rfl rfl (Nat.le_of_ble_eq_true rfl) dX5_judge_10 ?_
    refine g_if_ne (tgt := 19) C dX5_judge_13 (by decide) h (fun h => ?_) (fun h => ?_)
    · refine g_bipush (v := (-2 : Int32)) C dX5_judge_16 (by decide) ?_
      obtain ⟨rfl, rfl⟩ := sp_inj h
      exact g_iret C hr hlk dX5_judge_18 rfl
    · refine g_aload_n C dX5_judge_19 rfl 0 rfl ?_
      refine g_get C (T := TX5) hcl5 cO_0 rfl (j := 6) (by decide) wl_488 (v := .ref (ad 63)) rfl dX5_judge_20 ?_
      refine g_iload_n C dX5_judge_23 rfl 1 rfl ?_
      refine g_aald C cQ_63 (fun _ => rfl) dX5_judge_24 h (fun hb5 h => ?_)
      refine g_astore_n (lv' := [(3, .ref (ad (64 + 2 * ix a0))), (0, .ref (ad 0)), (1, .int a0), (2, .int a1)]) C dX5_judge_25 rfl (by decide) rfl ?_
      refine g_aload_n C dX5_judge_26 rfl 0 rfl ?_
      obtain ⟨r6, hX7, h⟩ := bd1_inv h
      refine g_callV C (c_X2_isMissing l (sh_ix hb5) hX7) (cwVw 0 C.2.2.2.2.1 wl_803 wl_804 wl_805 wl_114 wl_806 rfl rfl (by decide +kernel) ⟨Nat.le_of_ble_eq_true rfl, Nat.le_of_ble_eq_true rfl⟩) (sh_O (sh_ix hb5)) rfl rfl rfl rfl (Nat.le_of_ble_eq_true rfl) dX5_judge_27 ?_
      refine g_if_eq (tgt := 36) C dX5_judge_30 (by decide) h (fun h => ?_) (fun h => ?_)
      · refine g_aload_n C dX5_judge_36 rfl 1 rfl ?_
        refine g_get C (T := TX5) hcl5 cO_0 rfl (j := 2) (by decide) wl_484 (v := .ref (ad 17)) rfl dX5_judge_37 ?_
        refine g_aload_n C dX5_judge_40 rfl 1 rfl ?_
        refine g_get C (T := TX5) hcl5 cO_0 rfl (j := 0) (by decide) wl_482 (v := .ref (ad 1)) rfl dX5_judge_41 ?_
        obtain ⟨m9, hX8, h⟩ := bd1_inv h
        refine g_callV C (c_X0_become l lot_17 lot_1 hX8) (cwVw 1 C.2.2.2.2.1 wl_689 wl_690 wl_691 wl_110 wl_692 rfl rfl (by decide +kernel) ⟨Nat.le_of_ble_eq_true rfl, Nat.le_of_ble_eq_true rfl⟩) cO_17 rfl rfl rfl rfl (Nat.le_of_ble_eq_true rfl) dX5_judge_44 ?_
        refine g_iconst (v := (0 : Int32)) C dX5_judge_47 (by decide) ?_
        refine g_istore (lv' := [(4, .int (0 : Int32)), (3, .ref (ad (64 + 2 * ix a0))), (0, .ref (ad 0)), (1, .int a0), (2, .int a1)]) C dX5_judge_48 (by decide) rfl ?_
        refine g_iconst (v := (0 : Int32)) C dX5_judge_50 (by decide) ?_
        refine g_istore (lv' := [(5, .int (0 : Int32)), (4, .int (0 : Int32)), (3, .ref (ad (64 + 2 * ix a0))), (0, .ref (ad 0)), (1, .int a0), (2, .int a1)]) C dX5_judge_51 (by decide) rfl ?_
        refine g_sub [3, 5, 2, 1, 0] rfl ?_
        refine g_loop_IIM (L := f_X5_judge_L53 F a0) h 53 141 (fun x4_10 x5_11 m12 => [(0, .ref (ad 0)), (2, .int a1), (3, .ref (ad (64 + 2 * ix a0))), (4, .int x4_10), (5, .int x5_11)]) (fun x4_10 x5_11 m12 => [(0, .ref (ad 0)), (2, .int a1), (3, .ref (ad (64 + 2 * ix a0))), (4, .int x4_10), (5, .int x5_11)]) (fun x4_10 x5_11 m12 => []) (fun x4_10 x5_11 m12 => []) ?_ ?_ (fun _ _ _ _ => rfl)
        · intro x4_10 x5_11 m12 h
          refine g_iload_n C dX5_judge_141 rfl 1 rfl ?_
          refine g_if_ne (tgt := 161) C dX5_judge_142 (by decide) h (fun h => ?_) (fun h => ?_)
          · refine g_iload C dX5_judge_145 4 rfl ?_
            refine g_aload_n C dX5_judge_147 rfl 2 rfl ?_
            refine g_get C (T := TX2) hcl2 (sh_O (sh_ix hb5)) rfl (j := 2) (by decide) wl_305 (v := .int (rI m12 (64 + 2 * ix a0) 2)) rfl dX5_judge_148 ?_
            refine g_icmp_ge (tgt := 159) C dX5_judge_151 (by decide) h (fun h => ?_) (fun h => ?_)
            · refine g_iconst (v := (-1 : Int32)) C dX5_judge_159 (by decide) ?_
              obtain ⟨rfl, rfl⟩ := sp_inj h
              exact g_iret C hr hlk dX5_judge_160 rfl
            · refine g_iload C dX5_judge_154 4 rfl ?_
              refine g_goto (tgt := 160) C dX5_judge_156 (by decide) ?_
              obtain ⟨rfl, rfl⟩ := sp_inj h
              exact g_iret C hr hlk dX5_judge_160 rfl
          · refine g_iload_n C dX5_judge_161 rfl 1 rfl ?_
            refine g_iconst (v := (1 : Int32)) C dX5_judge_162 (by decide) ?_
            refine g_icmp_ne (tgt := 169) C dX5_judge_163 (by decide) h (fun h => ?_) (fun h => ?_)
            · refine g_iload C dX5_judge_166 3 rfl ?_
              obtain ⟨rfl, rfl⟩ := sp_inj h
              exact g_iret C hr hlk dX5_judge_168 rfl
            · refine g_aload_n C dX5_judge_169 rfl 0 rfl ?_
              refine g_get C (T := TX5) hcl5 cO_0 rfl (j := 2) (by decide) wl_484 (v := .ref (ad 17)) rfl dX5_judge_170 ?_
              obtain ⟨r24, hX25, h⟩ := bd1_inv h
              refine g_callV C (c_X0_isOpen l lot_17 hX25) (cwVw 0 C.2.2.2.2.1 wl_650 wl_651 wl_652 wl_110 wl_653 rfl rfl (by decide +kernel) ⟨Nat.le_of_ble_eq_true rfl, Nat.le_of_ble_eq_true rfl⟩) cO_17 rfl rfl rfl rfl (Nat.le_of_ble_eq_true rfl) dX5_judge_173 ?_
              refine g_if_eq (tgt := 183) C dX5_judge_176 (by decide) h (fun h => ?_) (fun h => ?_)
              · refine g_iconst (v := (0 : Int32)) C dX5_judge_183 (by decide) ?_
                obtain ⟨rfl, rfl⟩ := sp_inj h
                exact g_iret C hr hlk dX5_judge_184 rfl
              · refine g_iconst (v := (1 : Int32)) C dX5_judge_179 (by decide) ?_
                refine g_goto (tgt := 184) C dX5_judge_180 (by decide) ?_
                obtain ⟨rfl, rfl⟩ := sp_inj h
                exact g_iret C hr hlk dX5_judge_184 rfl
        · intro K13 hK13 n ih x4_10 x5_11 m12 h
          rw [f_X5_judge_L53] at h
          refine g_iload C dX5_judge_53 4 rfl ?_
          refine g_aload_n C dX5_judge_55 rfl 2 rfl ?_
          refine g_get C (T := TX2) hcl2 (sh_O (sh_ix hb5)) rfl (j := 2) (by decide) wl_305 (v := .int (rI m12 (64 + 2 * ix a0) 2)) rfl dX5_judge_56 ?_
          refine g_icmp_ge (tgt := 141) C dX5_judge_59 (by decide) h (fun h => ?_) (fun h => ?_)
          · exact g_sub [0, 1, 2, 3, 4] rfl (hK13 _ _ _ h)
          · refine g_aload_n C dX5_judge_62 rfl 0 rfl ?_
            refine g_aload_n C dX5_judge_63 rfl 2 rfl ?_
            refine g_get C (T := TX2) hcl2 (sh_O (sh_ix hb5)) rfl (j := 0) (by decide) wl_301 (v := .ref (ad ((64 + 2 * ix a0) + 1))) rfl dX5_judge_64 ?_
            refine g_iload C dX5_judge_67 4 rfl ?_
            refine g_iald C (sh_I1 (sh_ix hb5)) dX5_judge_69 h (fun h => ?_)
            obtain ⟨r14, hX15, h⟩ := bd1_inv h
            refine g_callV C (c_X5_canBe l hX15) (cwVw 1 C.2.2.2.2.1 wl_807 wl_809 wl_30 wl_109 wl_810 rfl rfl (by decide +kernel) ⟨Nat.le_of_ble_eq_true rfl, Nat.le_of_ble_eq_true rfl⟩) cO_0 rfl rfl rfl rfl (Nat.le_of_ble_eq_true rfl) dX5_judge_70 ?_
            refine g_if_eq (tgt := 141) C dX5_judge_73 (by decide) h (fun h => ?_) (fun h => ?_)
            · exact g_sub [0, 1, 2, 3, 4] rfl (hK13 _ _ _ h)
            · refine g_aload_n C dX5_judge_76 rfl 2 rfl ?_
              refine g_get C (T := TX2) hcl2 (sh_O (sh_ix hb5)) rfl (j := 0) (by decide) wl_301 (v := .ref (ad ((64 + 2 * ix a0) + 1))) rfl dX5_judge_77 ?_
              refine g_iload C dX5_judge_80 4 rfl ?_
              refine g_iald C (sh_I1 (sh_ix hb5)) dX5_judge_82 h (fun h => ?_)
              refine g_bipush (v := (10 : Int32)) C dX5_judge_83 (by decide) ?_
              refine g_idiv C dX5_judge_85 h (fun h => ?_)
              refine nm_i h (fun x6_16 h => ?_)
              refine g_istore (lv' := [(6, .int x6_16), (0, .ref (ad 0)), (2, .int a1), (3, .ref (ad (64 + 2 * ix a0))), (4, .int x4_10), (5, .int x5_11)]) C dX5_judge_86 (by decide) rfl ?_
              refine g_aload_n C dX5_judge_88 rfl 3 rfl ?_
              refine g_get C (T := TX2) hcl2 (sh_O (sh_ix hb5)) rfl (j := 0) (by decide) wl_301 (v := .ref (ad ((64 + 2 * ix a0) + 1))) rfl dX5_judge_89 ?_
              refine g_iload C dX5_judge_92 5 rfl ?_
              refine g_iald C (sh_I1 (sh_ix hb5)) dX5_judge_94 h (fun h => ?_)
              refine g_bipush (v := (10 : Int32)) C dX5_judge_95 (by decide) ?_
              refine g_irem C dX5_judge_97 h (fun h => ?_)
              refine nm_i h (fun x7_17 h => ?_)
              refine g_istore (lv' := [(7, .int x7_17), (6, .int x6_16), (0, .ref (ad 0)), (2, .int a1), (3, .ref (ad (64 + 2 * ix a0))), (4, .int x4_10), (5, .int x5_11)]) C dX5_judge_98 (by decide) rfl ?_
              refine g_iload C dX5_judge_100 5 rfl ?_
              refine g_aload_n C dX5_judge_102 rfl 2 rfl ?_
              refine g_iload C dX5_judge_103 1 rfl ?_
              refine g_aload_n C dX5_judge_105 rfl 2 rfl ?_
              refine g_get C (T := TX5) hcl5 cO_0 rfl (j := 2) (by decide) wl_484 (v := .ref (ad 17)) rfl dX5_judge_106 ?_
              refine g_get C (T := TX0) hcl0 cO_17 rfl (j := 6) (by decide) wl_151 (v := .ref (ad 24)) rfl dX5_judge_109 ?_
              refine g_iload C dX5_judge_112 1 rfl ?_
              refine g_iald C cI_24 dX5_judge_114 h (fun h => ?_)
              refine g_iload C dX5_judge_115 0 rfl ?_
              obtain ⟨r18, m20, hX19, h⟩ := bd2_inv h
              refine g_callV C (c_X5_costs l hX19) (cwVw 3 C.2.2.2.2.1 wl_619 wl_621 wl_13 wl_109 wl_622 rfl rfl (by decide +kernel) ⟨Nat.le_of_ble_eq_true rfl, Nat.le_of_ble_eq_true rfl⟩) cO_0 rfl rfl rfl rfl (Nat.le_of_ble_eq_true rfl) dX5_judge_117 ?_
              refine g_iadd C dX5_judge_120 ?_
              refine nm_i h (fun x4_21 h => ?_)
              refine g_istore (lv' := [(4, .int x4_21), (7, .int x7_17), (6, .int x6_16), (0, .ref (ad 0)), (2, .int a1), (3, .ref (ad (64 + 2 * ix a0))), (5, .int x5_11)]) C dX5_judge_121 (by decide) rfl ?_
              refine g_aload_n C dX5_judge_123 rfl 3 rfl ?_
              refine g_get C (T := TX5) hcl5 cO_0 rfl (j := 2) (by decide) wl_484 (v := .ref (ad 17)) rfl dX5_judge_124 ?_
              refine g_get C (T := TX0) hcl0 cO_17 rfl (j := 6) (by decide) wl_151 (v := .ref (ad 24)) rfl dX5_judge_127 ?_
              refine g_iload C dX5_judge_130 2 rfl ?_
              refine g_iload C dX5_judge_132 1 rfl ?_
              refine g_iast C cI_24 dX5_judge_134 h (fun m22 h => ?_)
              refine g_iinc (lv' := [(4, .int x4_21), (7, .int x7_17), (6, .int x6_16), (0, .ref (ad 0)), (2, .int a1), (3, .ref (ad (64 + 2 * ix a0)))]) C dX5_judge_135 (q := 6) rfl (by decide) h rfl (fun _ => rfl) (fun x5_23 h => ?_)
              refine g_goto (tgt := 53) C dX5_judge_138 (by decide) ?_
              exact g_sub [4, 5, 6, 1, 0] rfl (ih _ _ _ h)
      · refine g_bipush (v := (-11 : Int32)) C dX5_judge_33 (by decide) ?_
        obtain ⟨rfl, rfl⟩ := sp_inj h
        exact g_iret C hr hlk dX5_judge_35 rfl

def rmX1_stateOf : Room := { frames := 2, cells := 0, slots := 0, locals := 42 }
set_option maxRecDepth 100000 in
set_option maxHeartbeats 4000000 in
theorem c_X1_stateOf (l : Launch) {F : Nat}  {q : Nat} (hq : FI cfC 73 q 40) {m : MM} {r : Int32} (h : f_X1_stateOf F q m = some r) : CT l yX1_stateOf cX1_stateOf 4 (some .int) rmX1_stateOf cfC 73 (fun ad tb => [.ref (ad 25), .ref (ad q)]) m (some (.int r)) m := by
  refine CT.of (cc := cX1_stateOf) (maxL := 4) (ret := (some .int)) (by decide) ⟨rfl, rfl⟩ (fun _ _ => Nat.le_of_ble_eq_true rfl) ?_
  intro p e s mt args below meth c D cA ad tb C hr hlk
  refine g_lv (lv' := [(0, .ref (ad 25)), (1, .ref (ad q))]) rfl ?_
  have hcl0 : ∀ w ∈ wsX00, w.before args s = true := fun w hw => C.2.2.2.2.1 w (inlX0 w hw)
  have hcl1 : ∀ w ∈ wsX10, w.before args s = true := fun w hw => C.2.2.2.2.1 w (inlX1 w hw)
  unfold f_X1_stateOf at h
  refine g_iconst (v := (0 : Int32)) C dX1_stateOf_0 (by decide) ?_
  refine g_istore_n (lv' := [(2, .int (0 : Int32)), (0, .ref (ad 25)), (1, .ref (ad q))]) C dX1_stateOf_1 rfl (by decide) rfl ?_
  refine g_iconst (v := (0 : Int32)) C dX1_stateOf_2 (by decide) ?_
  refine g_istore_n (lv' := [(3, .int (0 : Int32)), (2, .int (0 : Int32)), (0, .ref (ad 25)), (1, .ref (ad q))]) C dX1_stateOf_3 rfl (by decide) rfl ?_
  refine g_sub [2, 3, 1, 0] rfl ?_
  refine g_loop_II (L := f_X1_stateOf_L4 q m) h 4 49 (fun x2_1 x3_2 => [(0, .ref (ad 25)), (1, .ref (ad q)), (2, .int x2_1), (3, .int x3_2)]) (fun x2_1 x3_2 => [(0, .ref (ad 25)), (2, .int x2_1)]) (fun x2_1 x3_2 => []) (fun x2_1 x3_2 => []) ?_ ?_ (fun _ _ _ => rfl)
  · intro x2_1 x3_2 h
    refine g_aload_n C dX1_stateOf_49 rfl 0 rfl ?_
    refine g_get C (T := TX1) hcl1 cO_25 rfl (j := 0) (by decide) wl_201 (v := .ref (ad 26)) rfl dX1_stateOf_50 ?_
    refine g_iload_n C dX1_stateOf_53 rfl 1 rfl ?_
    refine g_iald C cI_26 dX1_stateOf_54 h (fun h => ?_)
    refine g_if_ne (tgt := 62) C dX1_stateOf_55 (by decide) h (fun h => ?_) (fun h => ?_)
    · refine g_iconst (v := (-1 : Int32)) C dX1_stateOf_58 (by decide) ?_
      refine g_goto (tgt := 63) C dX1_stateOf_59 (by decide) ?_
      obtain rfl := so_inj h
      exact g_iret C hr hlk dX1_stateOf_63 rfl
    · refine g_iload_n C dX1_stateOf_62 rfl 1 rfl ?_
      obtain rfl := so_inj h
      exact g_iret C hr hlk dX1_stateOf_63 rfl
  · intro K3 hK3 n ih x2_1 x3_2 h
    rw [f_X1_stateOf_L4] at h
    refine g_iload_n C dX1_stateOf_4 rfl 3 rfl ?_
    refine g_aload_n C dX1_stateOf_5 rfl 0 rfl ?_
    refine g_getLot C hcl1 wl_211 dX1_stateOf_6 h (fun h => ?_)
    refine g_get C (T := TX0) hcl0 cO_17 rfl (j := 8) (by decide) wl_155 (v := .int (rI m 17 8)) rfl dX1_stateOf_9 ?_
    refine g_icmp_ge (tgt := 49) C dX1_stateOf_12 (by decide) h (fun h => ?_) (fun h => ?_)
    · exact g_sub [0, 2] rfl (hK3 _ _ h)
    · refine g_aload_n C dX1_stateOf_15 rfl 0 rfl ?_
      refine g_getLot C hcl1 wl_211 dX1_stateOf_16 h (fun h => ?_)
      refine g_aload_n C dX1_stateOf_19 rfl 1 rfl ?_
      refine g_iload_n C dX1_stateOf_20 rfl 3 rfl ?_
      refine g_iald C hq dX1_stateOf_21 h (fun h => ?_)
      obtain ⟨r4, hX5, h⟩ := bd1_inv h
      refine g_callV C (c_X0_hasHold l lot_17 hX5) (cwVw 1 C.2.2.2.2.1 wl_820 wl_533 wl_534 wl_110 wl_535 rfl rfl (by decide +kernel) ⟨Nat.le_of_ble_eq_true rfl, Nat.le_of_ble_eq_true rfl⟩) cO_17 rfl rfl rfl rfl (Nat.le_of_ble_eq_true rfl) dX1_stateOf_22 ?_
      refine g_if_ne (tgt := 30) C dX1_stateOf_25 (by decide) h (fun h => ?_) (fun h => ?_)
      · refine g_iconst (v := (-1 : Int32)) C dX1_stateOf_28 (by decide) ?_
        obtain rfl := so_inj h
        exact g_iret C hr hlk dX1_stateOf_29 rfl
      · refine g_iload_n C dX1_stateOf_30 rfl 2 rfl ?_
        refine g_aload_n C dX1_stateOf_31 rfl 1 rfl ?_
        refine g_iload_n C dX1_stateOf_32 rfl 3 rfl ?_
        refine g_iald C hq dX1_stateOf_33 h (fun h => ?_)
        refine g_aload_n C dX1_stateOf_34 rfl 0 rfl ?_
        refine g_get C (T := TX1) hcl1 cO_25 rfl (j := 6) (by decide) wl_207 (v := .ref (ad 32)) rfl dX1_stateOf_35 ?_
        refine g_iload_n C dX1_stateOf_38 rfl 3 rfl ?_
        refine g_iald C cI_32 dX1_stateOf_39 h (fun h => ?_)
        refine g_imul C dX1_stateOf_40 ?_
        refine g_iadd C dX1_stateOf_41 ?_
        refine nm_i h (fun x2_6 h => ?_)
        refine g_istore_n (lv' := [(2, .int x2_6), (0, .ref (ad 25)), (1, .ref (ad q)), (3, .int x3_2)]) C dX1_stateOf_42 rfl (by decide) rfl ?_
        refine g_iinc (lv' := [(2, .int x2_6), (0, .ref (ad 25)), (1, .ref (ad q))]) C dX1_stateOf_43 (q := 3) rfl (by decide) h rfl (fun _ => rfl) (fun x3_7 h => ?_)
        refine g_goto (tgt := 4) C dX1_stateOf_46 (by decide) ?_
        exact g_sub [2, 3, 1, 0] rfl (ih _ _ h)

def rmX1_stepOnce : Room := { frames := 2, cells := 0, slots := 0, locals := 49 }
set_option maxRecDepth 100000 in
set_option maxHeartbeats 4000000 in
theorem c_X1_stepOnce (l : Launch) {F : Nat}  {a0 : Int32} {a1 : Int32}  {m : MM} {m' : MM} (h : f_X1_stepOnce F a0 a1 m = some m') : CT l yX1_stepOnce cX1_stepOnce 5 none rmX1_stepOnce cfC 73 (fun ad tb => [.ref (ad 25), .int a0, .int a1]) m none m' := by
  refine CT.of (cc := cX1_stepOnce) (maxL := 5) (ret := none) (by decide) ⟨rfl, rfl⟩ (fun _ _ => Nat.le_of_ble_eq_true rfl) ?_
  intro p e s mt args below meth c D cA ad tb C hr hlk
  refine g_lv (lv' := [(0, .ref (ad 25)), (1, .int a0), (2, .int a1)]) rfl ?_
  have hcl1 : ∀ w ∈ wsX10, w.before args s = true := fun w hw => C.2.2.2.2.1 w (inlX1 w hw)
  unfold f_X1_stepOnce at h
  refine g_aload_n C dX1_stepOnce_0 rfl 0 rfl ?_
  refine g_iload_n C dX1_stepOnce_1 rfl 1 rfl ?_
  obtain ⟨r1, m3, hX2, h⟩ := bd2_inv h
  refine g_callV C (c_X1_lookAround l hX2) (cwVw 1 C.2.2.2.2.1 wl_739 wl_741 wl_26 wl_111 wl_742 rfl rfl (by decide +kernel) ⟨Nat.le_of_ble_eq_true rfl, Nat.le_of_ble_eq_true rfl⟩) cO_25 rfl rfl rfl rfl (Nat.le_of_ble_eq_true rfl) dX1_stepOnce_2 ?_
  refine g_istore_n (lv' := [(3, .int r1), (0, .ref (ad 25)), (1, .int a0), (2, .int a1)]) C dX1_stepOnce_5 rfl (by decide) rfl ?_
  refine g_iconst (v := (0 : Int32)) C dX1_stepOnce_6 (by decide) ?_
  refine g_istore (lv' := [(4, .int (0 : Int32)), (3, .int r1), (0, .ref (ad 25)), (1, .int a0), (2, .int a1)]) C dX1_stepOnce_7 (by decide) rfl ?_
  refine g_sub [2, 4, 1, 0] rfl ?_
  refine g_loop_IM (L := f_X1_stepOnce_L9 a1 r1) h 9 37 (fun x4_4 m5 => [(0, .ref (ad 25)), (2, .int a1), (3, .int r1), (4, .int x4_4)]) (fun x4_4 m5 => []) (fun x4_4 m5 => []) (fun x4_4 m5 => []) ?_ ?_ (fun _ _ _ => rfl)
  · intro x4_4 m5 h
    obtain rfl := so_inj h
    exact g_vret C hr hlk dX1_stepOnce_37 rfl
  · intro K6 hK6 n ih x4_4 m5 h
    rw [f_X1_stepOnce_L9] at h
    refine g_iload C dX1_stepOnce_9 3 rfl ?_
    refine g_iload_n C dX1_stepOnce_11 rfl 2 rfl ?_
    refine g_icmp_ge (tgt := 37) C dX1_stepOnce_12 (by decide) h (fun h => ?_) (fun h => ?_)
    · exact g_sub [] rfl (hK6 _ _ h)
    · refine g_aload_n C dX1_stepOnce_15 rfl 0 rfl ?_
      refine g_get C (T := TX1) hcl1 cO_25 rfl (j := 2) (by decide) wl_203 (v := .ref (ad 28)) rfl dX1_stepOnce_16 ?_
      refine g_aload_n C dX1_stepOnce_19 rfl 0 rfl ?_
      refine g_get C (T := TX1) hcl1 cO_25 rfl (j := 8) (by decide) wl_209 (v := .ref (ad 34)) rfl dX1_stepOnce_20 ?_
      refine g_iload C dX1_stepOnce_23 3 rfl ?_
      refine g_iald C cI_34 dX1_stepOnce_25 h (fun h => ?_)
      refine g_dup2 C dX1_stepOnce_26 rfl rfl ?_
      refine g_iald C cI_28 dX1_stepOnce_27 h (fun h => ?_)
      refine g_iload_n C dX1_stepOnce_28 rfl 1 rfl ?_
      refine g_iadd C dX1_stepOnce_29 ?_
      refine g_iast C cI_28 dX1_stepOnce_30 h (fun m7 h => ?_)
      refine g_iinc (lv' := [(0, .ref (ad 25)), (2, .int a1), (3, .int r1)]) C dX1_stepOnce_31 (q := 3) rfl (by decide) h rfl (fun _ => rfl) (fun x4_8 h => ?_)
      refine g_goto (tgt := 9) C dX1_stepOnce_34 (by decide) ?_
      exact g_sub [1, 2, 3, 0] rfl (ih _ _ h)

def rmX1_step : Room := { frames := 3, cells := 0, slots := 0, locals := 73 }
set_option maxRecDepth 100000 in
set_option maxHeartbeats 4000000 in
theorem c_X1_step (l : Launch) {F : Nat}  {q : Nat} {a1 : Int32} {a2 : Int32} (hq : FI cfC 73 q 3125) {m : MM} {m' : MM} (h : f_X1_step F q a1 a2 m = some m') : CT l yX1_step cX1_step 6 none rmX1_step cfC 73 (fun ad tb => [.ref (ad 25), .ref (ad q), .int a1, .int a2]) m none m' := by
  refine CT.of (cc := cX1_step) (maxL := 6) (ret := none) (by decide) ⟨rfl, rfl⟩ (fun _ _ => Nat.le_of_ble_eq_true rfl) ?_
  intro p e s mt args below meth c D cA ad tb C hr hlk
  refine g_lv (lv' := [(0, .ref (ad 25)), (1, .ref (ad q)), (2, .int a1), (3, .int a2)]) rfl ?_
  have hcl1 : ∀ w ∈ wsX10, w.before args s = true := fun w hw => C.2.2.2.2.1 w (inlX1 w hw)
  unfold f_X1_step at h
  refine g_iconst (v := (0 : Int32)) C dX1_step_0 (by decide) ?_
  refine g_istore (lv' := [(4, .int (0 : Int32)), (0, .ref (ad 25)), (1, .ref (ad q)), (2, .int a1), (3, .int a2)]) C dX1_step_1 (by decide) rfl ?_
  refine g_sub [1, 2, 3, 4, 0] rfl ?_
  refine g_loop_IM (L := f_X1_step_L3 q) h 3 23 (fun x4_1 m2 => [(0, .ref (ad 25)), (1, .ref (ad q)), (2, .int a1), (3, .int a2), (4, .int x4_1)]) (fun x4_1 m2 => [(0, .ref (ad 25)), (1, .ref (ad q)), (2, .int a1), (3, .int a2)]) (fun x4_1 m2 => []) (fun x4_1 m2 => []) ?_ ?_ (fun _ _ _ => rfl)
  · intro x4_1 m2 h
    refine g_aload_n C dX1_step_23 rfl 1 rfl ?_
    refine g_iload_n C dX1_step_24 rfl 2 rfl ?_
    refine g_iconst (v := (1 : Int32)) C dX1_step_25 (by decide) ?_
    refine g_iast C hq dX1_step_26 h (fun m6 h => ?_)
    refine g_iconst (v := (0 : Int32)) C dX1_step_27 (by decide) ?_
    refine g_istore (lv' := [(4, .int (0 : Int32)), (0, .ref (ad 25)), (1, .ref (ad q)), (2, .int a1), (3, .int a2)]) C dX1_step_28 (by decide) rfl ?_
    refine g_sub [1, 2, 4, 0] rfl ?_
    refine g_loop_IM (L := f_X1_step_L30 F q a2) h 30 117 (fun x4_7 m8 => [(0, .ref (ad 25)), (1, .ref (ad q)), (3, .int a2), (4, .int x4_7)]) (fun x4_7 m8 => []) (fun x4_7 m8 => []) (fun x4_7 m8 => []) ?_ ?_ (fun _ _ _ => rfl)
    · intro x4_7 m8 h
      obtain rfl := so_inj h
      exact g_vret C hr hlk dX1_step_117 rfl
    · intro K9 hK9 n ih x4_7 m8 h
      rw [f_X1_step_L30] at h
      refine g_iload C dX1_step_30 3 rfl ?_
      refine g_iload_n C dX1_step_32 rfl 2 rfl ?_
      refine g_icmp_ge (tgt := 117) C dX1_step_33 (by decide) h (fun h => ?_) (fun h => ?_)
      · exact g_sub [] rfl (hK9 _ _ h)
      · refine g_iconst (v := (0 : Int32)) C dX1_step_36 (by decide) ?_
        refine g_istore (lv' := [(5, .int (0 : Int32)), (0, .ref (ad 25)), (1, .ref (ad q)), (3, .int a2), (4, .int x4_7)]) C dX1_step_37 (by decide) rfl ?_
        refine g_sub [1, 2, 3, 4, 0] rfl ?_
        refine g_loop_IM (L := f_X1_step_L39) h 39 62 (fun x5_10 m11 => [(0, .ref (ad 25)), (1, .ref (ad q)), (3, .int a2), (4, .int x4_7), (5, .int x5_10)]) (fun x5_10 m11 => [(0, .ref (ad 25)), (1, .ref (ad q)), (3, .int a2), (4, .int x4_7)]) (fun x5_10 m11 => []) (fun x5_10 m11 => []) ?_ ?_ (fun _ _ _ => rfl)
        · intro x5_10 m11 h
          refine g_iconst (v := (0 : Int32)) C dX1_step_62 (by decide) ?_
          refine g_istore (lv' := [(5, .int (0 : Int32)), (0, .ref (ad 25)), (1, .ref (ad q)), (3, .int a2), (4, .int x4_7)]) C dX1_step_63 (by decide) rfl ?_
          refine g_sub [1, 2, 3, 4, 0] rfl ?_
          refine g_loop_IM (L := f_X1_step_L65 F q) h 65 97 (fun x5_15 m16 => [(0, .ref (ad 25)), (1, .ref (ad q)), (3, .int a2), (4, .int x4_7), (5, .int x5_15)]) (fun x5_15 m16 => [(0, .ref (ad 25)), (1, .ref (ad q)), (3, .int a2), (4, .int x4_7)]) (fun x5_15 m16 => []) (fun x5_15 m16 => []) ?_ ?_ (fun _ _ _ => rfl)
          · intro x5_15 m16 h
            refine g_aload_n C dX1_step_97 rfl 0 rfl ?_
            refine g_get C (T := TX1) hcl1 cO_25 rfl (j := 2) (by decide) wl_203 (v := .ref (ad 28)) rfl dX1_step_98 ?_
            refine g_iconst (v := (0 : Int32)) C dX1_step_101 (by decide) ?_
            refine g_aload_n C dX1_step_102 rfl 1 rfl ?_
            refine g_iconst (v := (0 : Int32)) C dX1_step_103 (by decide) ?_
            refine g_aload_n C dX1_step_104 rfl 0 rfl ?_
            refine g_get C (T := TX1) hcl1 cO_25 rfl (j := 11) (by decide) wl_212 (v := .int (rI m16 25 11)) rfl dX1_step_105 ?_
            refine g_copy C cI_28 hq wl_833 wl_695 wl_694 wl_122 ⟨Nat.le_of_ble_eq_true rfl, Nat.le_of_ble_eq_true rfl⟩ (Nat.le_of_ble_eq_true rfl) dX1_step_108 h (fun m22 h => ?_)
            refine g_iinc (lv' := [(0, .ref (ad 25)), (1, .ref (ad q)), (3, .int a2)]) C dX1_step_111 (q := 3) rfl (by decide) h rfl (fun _ => rfl) (fun x4_23 h => ?_)
            refine g_goto (tgt := 30) C dX1_step_114 (by decide) ?_
            exact g_sub [1, 2, 3, 0] rfl (ih _ _ h)
          · intro K17 hK17 n ih x5_15 m16 h
            rw [f_X1_step_L65] at h
            refine g_iload C dX1_step_65 4 rfl ?_
            refine g_aload_n C dX1_step_67 rfl 0 rfl ?_
            refine g_get C (T := TX1) hcl1 cO_25 rfl (j := 11) (by decide) wl_212 (v := .int (rI m16 25 11)) rfl dX1_step_68 ?_
            refine g_icmp_ge (tgt := 97) C dX1_step_71 (by decide) h (fun h => ?_) (fun h => ?_)
            · exact g_sub [0, 1, 2, 3] rfl (hK17 _ _ h)
            · refine g_aload_n C dX1_step_74 rfl 1 rfl ?_
              refine g_iload C dX1_step_75 4 rfl ?_
              refine g_iald C hq dX1_step_77 h (fun h => ?_)
              refine g_if_eq (tgt := 91) C dX1_step_78 (by decide) h (fun h => ?_) (fun h => ?_)
              · refine g_iinc (lv' := [(0, .ref (ad 25)), (1, .ref (ad q)), (3, .int a2), (4, .int x4_7)]) C dX1_step_91 (q := 4) rfl (by decide) h rfl (fun _ => rfl) (fun x5_18 h => ?_)
                refine g_goto (tgt := 65) C dX1_step_94 (by decide) ?_
                exact g_sub [1, 2, 3, 4, 0] rfl (ih _ _ h)
              · refine g_aload_n C dX1_step_81 rfl 0 rfl ?_
                refine g_iload C dX1_step_82 4 rfl ?_
                refine g_aload_n C dX1_step_84 rfl 1 rfl ?_
                refine g_iload C dX1_step_85 4 rfl ?_
                refine g_iald C hq dX1_step_87 h (fun h => ?_)
                obtain ⟨m20, hX19, h⟩ := bd1_inv h
                refine g_callV C (c_X1_stepOnce l hX19) (cwVw 2 C.2.2.2.2.1 wl_829 wl_831 wl_32 wl_111 wl_832 rfl rfl (by decide +kernel) ⟨Nat.le_of_ble_eq_true rfl, Nat.le_of_ble_eq_true rfl⟩) cO_25 rfl rfl rfl rfl (Nat.le_of_ble_eq_true rfl) dX1_step_88 ?_
                refine g_iinc (lv' := [(0, .ref (ad 25)), (1, .ref (ad q)), (3, .int a2), (4, .int x4_7)]) C dX1_step_91 (q := 4) rfl (by decide) h rfl (fun _ => rfl) (fun x5_21 h => ?_)
                refine g_goto (tgt := 65) C dX1_step_94 (by decide) ?_
                exact g_sub [1, 2, 3, 4, 0] rfl (ih _ _ h)
        · intro K12 hK12 n ih x5_10 m11 h
          rw [f_X1_step_L39] at h
          refine g_iload C dX1_step_39 4 rfl ?_
          refine g_aload_n C dX1_step_41 rfl 0 rfl ?_
          refine g_get C (T := TX1) hcl1 cO_25 rfl (j := 11) (by decide) wl_212 (v := .int (rI m11 25 11)) rfl dX1_step_42 ?_
          refine g_icmp_ge (tgt := 62) C dX1_step_45 (by decide) h (fun h => ?_) (fun h => ?_)
          · exact g_sub [0, 1, 2, 3] rfl (hK12 _ _ h)
          · refine g_aload_n C dX1_step_48 rfl 0 rfl ?_
            refine g_get C (T := TX1) hcl1 cO_25 rfl (j := 2) (by decide) wl_203 (v := .ref (ad 28)) rfl dX1_step_49 ?_
            refine g_iload C dX1_step_52 4 rfl ?_
            refine g_iconst (v := (0 : Int32)) C dX1_step_54 (by decide) ?_
            refine g_iast C cI_28 dX1_step_55 h (fun m13 h => ?_)
            refine g_iinc (lv' := [(0, .ref (ad 25)), (1, .ref (ad q)), (3, .int a2), (4, .int x4_7)]) C dX1_step_56 (q := 4) rfl (by decide) h rfl (fun _ => rfl) (fun x5_14 h => ?_)
            refine g_goto (tgt := 39) C dX1_step_59 (by decide) ?_
            exact g_sub [1, 2, 3, 4, 0] rfl (ih _ _ h)
  · intro K3 hK3 n ih x4_1 m2 h
    rw [f_X1_step_L3] at h
    refine g_iload C dX1_step_3 4 rfl ?_
    refine g_aload_n C dX1_step_5 rfl 0 rfl ?_
    refine g_get C (T := TX1) hcl1 cO_25 rfl (j := 11) (by decide) wl_212 (v := .int (rI m2 25 11)) rfl dX1_step_6 ?_
    refine g_icmp_ge (tgt := 23) C dX1_step_9 (by decide) h (fun h => ?_) (fun h => ?_)
    · exact g_sub [0, 1, 2, 3] rfl (hK3 _ _ h)
    · refine g_aload_n C dX1_step_12 rfl 1 rfl ?_
      refine g_iload C dX1_step_13 4 rfl ?_
      refine g_iconst (v := (0 : Int32)) C dX1_step_15 (by decide) ?_
      refine g_iast C hq dX1_step_16 h (fun m4 h => ?_)
      refine g_iinc (lv' := [(0, .ref (ad 25)), (1, .ref (ad q)), (2, .int a1), (3, .int a2)]) C dX1_step_17 (q := 4) rfl (by decide) h rfl (fun _ => rfl) (fun x4_5 h => ?_)
      refine g_goto (tgt := 3) C dX1_step_20 (by decide) ?_
      exact g_sub [1, 2, 3, 4, 0] rfl (ih _ _ h)

def rmX1_rowsTo : Room := { frames := 4, cells := 0, slots := 0, locals := 98 }
set_option maxRecDepth 100000 in
set_option maxHeartbeats 4000000 in
theorem c_X1_rowsTo (l : Launch) {F : Nat}  {a0 : Int32} {a1 : Int32}  {m : MM} {m' : MM} {r : Int64} (h : f_X1_rowsTo F a0 a1 m = some (r, m')) : CT l yX1_rowsTo cX1_rowsTo 6 (some .long) rmX1_rowsTo cfC 73 (fun ad tb => [.ref (ad 25), .int a0, .int a1]) m (some (.long r)) m' := by
  refine CT.of (cc := cX1_rowsTo) (maxL := 6) (ret := (some .long)) (by decide) ⟨rfl, rfl⟩ (fun _ _ => Nat.le_of_ble_eq_true rfl) ?_
  intro p e s mt args below meth c D cA ad tb C hr hlk
  refine g_lv (lv' := [(0, .ref (ad 25)), (1, .int a0), (2, .int a1)]) rfl ?_
  have hcl1 : ∀ w ∈ wsX10, w.before args s = true := fun w hw => C.2.2.2.2.1 w (inlX1 w hw)
  unfold f_X1_rowsTo at h
  refine g_iload_n C dX1_rowsTo_0 rfl 1 rfl ?_
  refine g_iconst (v := (-1 : Int32)) C dX1_rowsTo_1 (by decide) ?_
  refine g_icmp_ne (tgt := 7) C dX1_rowsTo_2 (by decide) h (fun h => ?_) (fun h => ?_)
  · refine g_lconst (v := (0 : Int64)) C dX1_rowsTo_5 (by decide) ?_
    obtain ⟨rfl, rfl⟩ := sp_inj h
    exact g_lret C hr hlk dX1_rowsTo_6 rfl
  · refine g_aload_n C dX1_rowsTo_7 rfl 0 rfl ?_
    refine g_aload_n C dX1_rowsTo_8 rfl 0 rfl ?_
    refine g_get C (T := TX1) hcl1 cO_25 rfl (j := 1) (by decide) wl_202 (v := .ref (ad 27)) rfl dX1_rowsTo_9 ?_
    refine g_aload_n C dX1_rowsTo_12 rfl 0 rfl ?_
    refine g_get C (T := TX1) hcl1 cO_25 rfl (j := 12) (by decide) wl_213 (v := .int (rI m 25 12)) rfl dX1_rowsTo_13 ?_
    refine g_iload_n C dX1_rowsTo_16 rfl 2 rfl ?_
    refine g_iconst (v := (2 : Int32)) C dX1_rowsTo_17 (by decide) ?_
    refine g_idiv C dX1_rowsTo_18 h (fun h => ?_)
    obtain ⟨m2, hX1, h⟩ := bd1_inv h
    refine g_callV C (c_X1_step l cI_27 hX1) (cwVw 3 C.2.2.2.2.1 wl_825 wl_827 wl_31 wl_111 wl_828 rfl rfl (by decide +kernel) ⟨Nat.le_of_ble_eq_true rfl, Nat.le_of_ble_eq_true rfl⟩) cO_25 rfl rfl rfl rfl (Nat.le_of_ble_eq_true rfl) dX1_rowsTo_19 ?_
    refine g_aload_n C dX1_rowsTo_22 rfl 0 rfl ?_
    refine g_aload_n C dX1_rowsTo_23 rfl 0 rfl ?_
    refine g_get C (T := TX1) hcl1 cO_25 rfl (j := 3) (by decide) wl_204 (v := .ref (ad 29)) rfl dX1_rowsTo_24 ?_
    refine g_iload_n C dX1_rowsTo_27 rfl 1 rfl ?_
    refine g_iload_n C dX1_rowsTo_28 rfl 2 rfl ?_
    refine g_iload_n C dX1_rowsTo_29 rfl 2 rfl ?_
    refine g_iconst (v := (2 : Int32)) C dX1_rowsTo_30 (by decide) ?_
    refine g_idiv C dX1_rowsTo_31 h (fun h => ?_)
    refine g_isub C dX1_rowsTo_32 ?_
    obtain ⟨m4, hX3, h⟩ := bd1_inv h
    refine g_callV C (c_X1_step l cI_29 hX3) (cwVw 3 C.2.2.2.2.1 wl_825 wl_827 wl_31 wl_111 wl_828 rfl rfl (by decide +kernel) ⟨Nat.le_of_ble_eq_true rfl, Nat.le_of_ble_eq_true rfl⟩) cO_25 rfl rfl rfl rfl (Nat.le_of_ble_eq_true rfl) dX1_rowsTo_33 ?_
    refine g_lconst (v := (0 : Int64)) C dX1_rowsTo_36 (by decide) ?_
    refine g_lstore_n (lv' := [(3, .long (0 : Int64)), (0, .ref (ad 25)), (1, .int a0), (2, .int a1)]) C dX1_rowsTo_37 rfl (by decide) rfl ?_
    refine g_iconst (v := (0 : Int32)) C dX1_rowsTo_38 (by decide) ?_
    refine g_istore (lv' := [(5, .int (0 : Int32)), (3, .long (0 : Int64)), (0, .ref (ad 25)), (1, .int a0), (2, .int a1)]) C dX1_rowsTo_39 (by decide) rfl ?_
    refine g_sub [2, 1, 0] rfl ?_
    refine g_loop_LI (L := f_X1_rowsTo_L41 m4) h 41 76 (fun x3_5 x5_6 => [(0, .ref (ad 25)), (3, .long x3_5), (5, .int x5_6)]) (fun x3_5 x5_6 => [(3, .long x3_5)]) (fun x3_5 x5_6 => []) (fun x3_5 x5_6 => []) ?_ ?_ (fun _ _ _ => rfl)
    · intro x3_5 x5_6 h
      refine g_lload_n C dX1_rowsTo_76 rfl 0 rfl ?_
      obtain ⟨rfl, rfl⟩ := sp_inj h
      exact g_lret C hr hlk dX1_rowsTo_77 rfl
    · intro K7 hK7 n ih x3_5 x5_6 h
      rw [f_X1_rowsTo_L41] at h
      refine g_iload C dX1_rowsTo_41 2 rfl ?_
      refine g_aload_n C dX1_rowsTo_43 rfl 0 rfl ?_
      refine g_get C (T := TX1) hcl1 cO_25 rfl (j := 11) (by decide) wl_212 (v := .int (rI m4 25 11)) rfl dX1_rowsTo_44 ?_
      refine g_icmp_ge (tgt := 76) C dX1_rowsTo_47 (by decide) h (fun h => ?_) (fun h => ?_)
      · exact g_sub [1] rfl (hK7 _ _ h)
      · refine g_lload_n C dX1_rowsTo_50 rfl 1 rfl ?_
        refine g_aload_n C dX1_rowsTo_51 rfl 0 rfl ?_
        refine g_get C (T := TX1) hcl1 cO_25 rfl (j := 1) (by decide) wl_202 (v := .ref (ad 27)) rfl dX1_rowsTo_52 ?_
        refine g_iload C dX1_rowsTo_55 2 rfl ?_
        refine g_iald C cI_27 dX1_rowsTo_57 h (fun h => ?_)
        refine g_i2l C dX1_rowsTo_58 ?_
        refine g_aload_n C dX1_rowsTo_59 rfl 0 rfl ?_
        refine g_get C (T := TX1) hcl1 cO_25 rfl (j := 3) (by decide) wl_204 (v := .ref (ad 29)) rfl dX1_rowsTo_60 ?_
        refine g_iload C dX1_rowsTo_63 2 rfl ?_
        refine g_iald C cI_29 dX1_rowsTo_65 h (fun h => ?_)
        refine g_i2l C dX1_rowsTo_66 ?_
        refine g_lmul C dX1_rowsTo_67 ?_
        refine g_ladd C dX1_rowsTo_68 ?_
        refine nm_l h (fun x3_8 h => ?_)
        refine g_lstore_n (lv' := [(3, .long x3_8), (0, .ref (ad 25)), (5, .int x5_6)]) C dX1_rowsTo_69 rfl (by decide) rfl ?_
        refine g_iinc (lv' := [(3, .long x3_8), (0, .ref (ad 25))]) C dX1_rowsTo_70 (q := 2) rfl (by decide) h rfl (fun _ => rfl) (fun x5_9 h => ?_)
        refine g_goto (tgt := 41) C dX1_rowsTo_73 (by decide) ?_
        exact g_sub [2, 1, 0] rfl (ih _ _ h)

def rmX5_ways : Room := { frames := 13, cells := 0, slots := 0, locals := 294 }
set_option maxRecDepth 100000 in
set_option maxHeartbeats 4000000 in
theorem c_X5_ways (l : Launch) {F : Nat}  {a0 : Int32} {a1 : Int32}  {m : MM} {m' : MM} {r : Int64} (h : f_X5_ways F a0 a1 m = some (r, m')) : CT l yX5_ways cX5_ways 4 (some .long) rmX5_ways cfC 73 (fun ad tb => [.ref (ad 0), .int a0, .int a1]) m (some (.long r)) m' := by
  refine CT.of (cc := cX5_ways) (maxL := 4) (ret := (some .long)) (by decide) ⟨rfl, rfl⟩ (fun _ _ => Nat.le_of_ble_eq_true rfl) ?_
  intro p e s mt args below meth c D cA ad tb C hr hlk
  refine g_lv (lv' := [(0, .ref (ad 0)), (1, .int a0), (2, .int a1)]) rfl ?_
  have hcl0 : ∀ w ∈ wsX00, w.before args s = true := fun w hw => C.2.2.2.2.1 w (inlX0 w hw)
  have hcl2 : ∀ w ∈ wsX20, w.before args s = true := fun w hw => C.2.2.2.2.1 w (inlX2 w hw)
  have hcl5 : ∀ w ∈ wsX50, w.before args s = true := fun w hw => C.2.2.2.2.1 w (inlX5 w hw)
  unfold f_X5_ways at h
  refine g_iload_n C dX5_ways_0 rfl 1 rfl ?_
  refine g_iconst (v := (4 : Int32)) C dX5_ways_1 (by decide) ?_
  obtain ⟨r1, hX2, h⟩ := bd1_inv h
  refine g_callS C (c_X5_within l hX2) (cwSw 2 C.2.2.2.2.1 wl_518 wl_519 wl_109 wl_520 rfl rfl (by decide +kernel) ⟨Nat.le_of_ble_eq_true rfl, Nat.le_of_ble_eq_true rfl⟩) rfl rfl rfl (Nat.le_of_ble_eq_true rfl) dX5_ways_2 ?_
  refine g_if_eq (tgt := 17) C dX5_ways_5 (by decide) h (fun h => ?_) (fun h => ?_)
  · refine g_ldc2 (v := (-4611686018427387904 : Int64)) C dX5_ways_17 wl_815 ?_
    obtain ⟨rfl, rfl⟩ := sp_inj h
    exact g_lret C hr hlk dX5_ways_20 rfl
  · refine g_iload_n C dX5_ways_8 rfl 2 rfl ?_
    refine g_bipush (v := (9 : Int32)) C dX5_ways_9 (by decide) ?_
    obtain ⟨r3, hX4, h⟩ := bd1_inv h
    refine g_callS C (c_X5_within l hX4) (cwSw 2 C.2.2.2.2.1 wl_518 wl_519 wl_109 wl_520 rfl rfl (by decide +kernel) ⟨Nat.le_of_ble_eq_true rfl, Nat.le_of_ble_eq_true rfl⟩) rfl rfl rfl (Nat.le_of_ble_eq_true rfl) dX5_ways_11 ?_
    refine g_if_ne (tgt := 21) C dX5_ways_14 (by decide) h (fun h => ?_) (fun h => ?_)
    · refine g_ldc2 (v := (-4611686018427387904 : Int64)) C dX5_ways_17 wl_815 ?_
      obtain ⟨rfl, rfl⟩ := sp_inj h
      exact g_lret C hr hlk dX5_ways_20 rfl
    · refine g_aload_n C dX5_ways_21 rfl 0 rfl ?_
      refine g_get C (T := TX5) hcl5 cO_0 rfl (j := 6) (by decide) wl_488 (v := .ref (ad 63)) rfl dX5_ways_22 ?_
      refine g_iload_n C dX5_ways_25 rfl 1 rfl ?_
      refine g_aald C cQ_63 (fun _ => rfl) dX5_ways_26 h (fun hb5 h => ?_)
      refine g_astore_n (lv' := [(3, .ref (ad (64 + 2 * ix a0))), (0, .ref (ad 0)), (1, .int a0), (2, .int a1)]) C dX5_ways_27 rfl (by decide) rfl ?_
      refine g_aload_n C dX5_ways_28 rfl 0 rfl ?_
      obtain ⟨r6, hX7, h⟩ := bd1_inv h
      refine g_callV C (c_X2_isMissing l (sh_ix hb5) hX7) (cwVw 0 C.2.2.2.2.1 wl_803 wl_804 wl_805 wl_114 wl_806 rfl rfl (by decide +kernel) ⟨Nat.le_of_ble_eq_true rfl, Nat.le_of_ble_eq_true rfl⟩) (sh_O (sh_ix hb5)) rfl rfl rfl rfl (Nat.le_of_ble_eq_true rfl) dX5_ways_29 ?_
      refine g_if_ne (tgt := 49) C dX5_ways_32 (by decide) h (fun h => ?_) (fun h => ?_)
      · refine g_aload_n C dX5_ways_35 rfl 0 rfl ?_
        refine g_get C (T := TX2) hcl2 (sh_O (sh_ix hb5)) rfl (j := 2) (by decide) wl_305 (v := .int (rI m (64 + 2 * ix a0) 2)) rfl dX5_ways_36 ?_
        refine g_aload_n C dX5_ways_39 rfl 1 rfl ?_
        refine g_get C (T := TX5) hcl5 cO_0 rfl (j := 0) (by decide) wl_482 (v := .ref (ad 1)) rfl dX5_ways_40 ?_
        refine g_get C (T := TX0) hcl0 cO_1 rfl (j := 8) (by decide) wl_157 (v := .int (rI m 1 8)) rfl dX5_ways_43 ?_
        refine g_icmp_eq (tgt := 53) C dX5_ways_46 (by decide) h (fun h => ?_) (fun h => ?_)
        · refine g_aload_n C dX5_ways_53 rfl 1 rfl ?_
          refine g_iconst (v := (-1 : Int32)) C dX5_ways_54 (by decide) ?_
          refine g_iconst (v := (-1 : Int32)) C dX5_ways_55 (by decide) ?_
          obtain ⟨m9, hX8, h⟩ := bd1_inv h
          refine g_callV C (c_X5_think l hX8) (cwVw 2 C.2.2.2.2.1 wl_685 wl_687 wl_18 wl_109 wl_688 rfl rfl (by decide +kernel) ⟨Nat.le_of_ble_eq_true rfl, Nat.le_of_ble_eq_true rfl⟩) cO_0 rfl rfl rfl rfl (Nat.le_of_ble_eq_true rfl) dX5_ways_56 ?_
          refine g_aload_n C dX5_ways_59 rfl 1 rfl ?_
          refine g_get C (T := TX5) hcl5 cO_0 rfl (j := 3) (by decide) wl_485 (v := .ref (ad 25)) rfl dX5_ways_60 ?_
          refine g_aload_n C dX5_ways_63 rfl 1 rfl ?_
          refine g_get C (T := TX5) hcl5 cO_0 rfl (j := 3) (by decide) wl_485 (v := .ref (ad 25)) rfl dX5_ways_64 ?_
          refine g_aload_n C dX5_ways_67 rfl 0 rfl ?_
          refine g_get C (T := TX2) hcl2 (sh_O (sh_ix hb5)) rfl (j := 0) (by decide) wl_301 (v := .ref (ad ((64 + 2 * ix a0) + 1))) rfl dX5_ways_68 ?_
          obtain ⟨r10, hX11, h⟩ := bd1_inv h
          refine g_callV C (c_X1_stateOf l (sh_I1 (sh_ix hb5)) hX11) (cwVw 1 C.2.2.2.2.1 wl_816 wl_817 wl_818 wl_111 wl_819 rfl rfl (by decide +kernel) ⟨Nat.le_of_ble_eq_true rfl, Nat.le_of_ble_eq_true rfl⟩) cO_25 rfl rfl rfl rfl (Nat.le_of_ble_eq_true rfl) dX5_ways_71 ?_
          refine g_iload_n C dX5_ways_74 rfl 3 rfl ?_
          obtain ⟨r12, m14, hX13, h⟩ := bd2_inv h
          refine g_callV C (c_X1_rowsTo l hX13) (cwVw 2 C.2.2.2.2.1 wl_821 wl_822 wl_823 wl_111 wl_824 rfl rfl (by decide +kernel) ⟨Nat.le_of_ble_eq_true rfl, Nat.le_of_ble_eq_true rfl⟩) cO_25 rfl rfl rfl rfl (Nat.le_of_ble_eq_true rfl) dX5_ways_75 ?_
          obtain ⟨rfl, rfl⟩ := sp_inj h
          exact g_lret C hr hlk dX5_ways_78 rfl
        · refine g_ldc2 (v := (-4611686018427387904 : Int64)) C dX5_ways_49 wl_815 ?_
          obtain ⟨rfl, rfl⟩ := sp_inj h
          exact g_lret C hr hlk dX5_ways_52 rfl
      · refine g_ldc2 (v := (-4611686018427387904 : Int64)) C dX5_ways_49 wl_815 ?_
        obtain ⟨rfl, rfl⟩ := sp_inj h
        exact g_lret C hr hlk dX5_ways_52 rfl

def rmX1_spreadFrom : Room := { frames := 4, cells := 0, slots := 0, locals := 99 }
set_option maxRecDepth 100000 in
set_option maxHeartbeats 4000000 in
theorem c_X1_spreadFrom (l : Launch) {F : Nat}  {a0 : Int32}  {m : MM} {m' : MM} {r : Int32} (h : f_X1_spreadFrom F a0 m = some (r, m')) : CT l yX1_spreadFrom cX1_spreadFrom 2 (some .int) rmX1_spreadFrom cfC 73 (fun ad tb => [.ref (ad 25), .int a0]) m (some (.int r)) m' := by
  refine CT.of (cc := cX1_spreadFrom) (maxL := 2) (ret := (some .int)) (by decide) ⟨rfl, rfl⟩ (fun _ _ => Nat.le_of_ble_eq_true rfl) ?_
  intro p e s mt args below meth c D cA ad tb C hr hlk
  refine g_lv (lv' := [(0, .ref (ad 25)), (1, .int a0)]) rfl ?_
  unfold f_X1_spreadFrom at h
  refine g_aload_n C dX1_spreadFrom_0 rfl 0 rfl ?_
  obtain ⟨m2, hX1, h⟩ := bd1_inv h
  refine g_callV C (c_X1_clearTurns l hX1) (cwVw 0 C.2.2.2.2.1 wl_718 wl_720 wl_21 wl_111 wl_721 rfl rfl (by decide +kernel) ⟨Nat.le_of_ble_eq_true rfl, Nat.le_of_ble_eq_true rfl⟩) cO_25 rfl rfl rfl rfl (Nat.le_of_ble_eq_true rfl) dX1_spreadFrom_1 ?_
  refine g_iload_n C dX1_spreadFrom_4 rfl 1 rfl ?_
  refine g_iconst (v := (-1 : Int32)) C dX1_spreadFrom_5 (by decide) ?_
  refine g_join_M h 15 (fun m3 => [(0, .ref (ad 25))]) (fun m3 => []) ?_ ?_
  · intro m3 h
    refine g_aload_n C dX1_spreadFrom_15 rfl 0 rfl ?_
    refine g_iconst (v := (0 : Int32)) C dX1_spreadFrom_16 (by decide) ?_
    obtain ⟨r5, m7, hX6, h⟩ := bd2_inv h
    refine g_callV C (c_X1_spread l hX6) (cwVw 1 C.2.2.2.2.1 wl_726 wl_728 wl_23 wl_111 wl_729 rfl rfl (by decide +kernel) ⟨Nat.le_of_ble_eq_true rfl, Nat.le_of_ble_eq_true rfl⟩) cO_25 rfl rfl rfl rfl (Nat.le_of_ble_eq_true rfl) dX1_spreadFrom_17 ?_
    obtain ⟨rfl, rfl⟩ := sp_inj h
    exact g_iret C hr hlk dX1_spreadFrom_20 rfl
  intro J4 hJ4 h
  refine g_icmp_eq (tgt := 15) C dX1_spreadFrom_6 (by decide) h (fun h => ?_) (fun h => ?_)
  · exact g_sub [0] rfl (hJ4 _ h)
  · refine g_aload_n C dX1_spreadFrom_9 rfl 0 rfl ?_
    refine g_iload_n C dX1_spreadFrom_10 rfl 1 rfl ?_
    refine g_iconst (v := (0 : Int32)) C dX1_spreadFrom_11 (by decide) ?_
    obtain ⟨m9, hX8, h⟩ := bd1_inv h
    refine g_callV C (c_X1_enterTurn l hX8) (cwVw 2 C.2.2.2.2.1 wl_722 wl_724 wl_22 wl_111 wl_725 rfl rfl (by decide +kernel) ⟨Nat.le_of_ble_eq_true rfl, Nat.le_of_ble_eq_true rfl⟩) cO_25 rfl rfl rfl rfl (Nat.le_of_ble_eq_true rfl) dX1_spreadFrom_12 ?_
    exact g_sub [0] rfl (hJ4 _ h)
