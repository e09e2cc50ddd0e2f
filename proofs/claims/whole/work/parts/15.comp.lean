/-! contracts: X5_soonest X5_drawOnce X5_openBehind X5_drawn X5_commonPart X5_chance X5_image X5_back X5_count X2_become X5_sheet X2_put X5_cell X2_hasPart X5_copy X5_things X5_taken -/
def rmX5_soonest : Room := { frames := 13, cells := 0, slots := 0, locals := 294 }
set_option maxRecDepth 100000 in
set_option maxHeartbeats 4000000 in
theorem c_X5_soonest (l : Launch) {F : Nat}  {a0 : Int32}  {m : MM} {m' : MM} {r : Int32} (h : f_X5_soonest F a0 m = some (r, m')) : CT l yX5_soonest cX5_soonest 4 (some .int) rmX5_soonest cfC 73 (fun ad tb => [.ref (ad 0), .int a0]) m (some (.int r)) m' := by
  refine CT.of (cc := cX5_soonest) (maxL := 4) (ret := (some .int)) (by decide) ⟨rfl, rfl⟩ (fun _ _ => Nat.le_of_ble_eq_true rfl) ?_
  intro p e s mt args below meth c D cA ad tb C hr hlk
  refine g_lv (lv' := [(0, .ref (ad 0)), (1, .int a0)]) rfl ?_
  have hcl0 : ∀ w ∈ wsX00, w.before args s = true := fun w hw => C.2.2.2.2.1 w (inlX0 w hw)
  have hcl2 : ∀ w ∈ wsX20, w.before args s = true := fun w hw => C.2.2.2.2.1 w (inlX2 w hw)
  have hcl5 : ∀ w ∈ wsX50, w.before args s = true := fun w hw => C.2.2.2.2.1 w (inlX5 w hw)
  unfold f_X5_soonest at h
  refine g_iload_n C dX5_soonest_0 rfl 1 rfl ?_
  refine g_iconst (v := (4 : Int32)) C dX5_soonest_1 (by decide) ?_
  obtain ⟨r1, hX2, h⟩ := bd1_inv h
  refine g_callS C (c_X5_within l hX2) (cwSw 2 C.2.2.2.2.1 wl_518 wl_519 wl_109 wl_520 rfl rfl (by decide +kernel) ⟨Nat.le_of_ble_eq_true rfl, Nat.le_of_ble_eq_true rfl⟩) rfl rfl rfl (Nat.le_of_ble_eq_true rfl) dX5_soonest_2 ?_
  refine g_if_ne (tgt := 11) C dX5_soonest_5 (by decide) h (fun h => ?_) (fun h => ?_)
  · refine g_bipush (v := (-2 : Int32)) C dX5_soonest_8 (by decide) ?_
    obtain ⟨rfl, rfl⟩ := sp_inj h
    exact g_iret C hr hlk dX5_soonest_10 rfl
  · refine g_aload_n C dX5_soonest_11 rfl 0 rfl ?_
    refine g_get C (T := TX5) hcl5 cO_0 rfl (j := 6) (by decide) wl_488 (v := .ref (ad 63)) rfl dX5_soonest_12 ?_
    refine g_iload_n C dX5_soonest_15 rfl 1 rfl ?_
    refine g_aald C cQ_63 (fun _ => rfl) dX5_soonest_16 h (fun hb3 h => ?_)
    refine g_astore_n (lv' := [(2, .ref (ad (64 + 2 * ix a0))), (0, .ref (ad 0)), (1, .int a0)]) C dX5_soonest_17 rfl (by decide) rfl ?_
    refine g_aload_n C dX5_soonest_18 rfl 0 rfl ?_
    obtain ⟨r4, hX5, h⟩ := bd1_inv h
    refine g_callV C (c_X2_isMissing l (sh_ix hb3) hX5) (cwVw 0 C.2.2.2.2.1 wl_803 wl_804 wl_805 wl_114 wl_806 rfl rfl (by decide +kernel) ⟨Nat.le_of_ble_eq_true rfl, Nat.le_of_ble_eq_true rfl⟩) (sh_O (sh_ix hb3)) rfl rfl rfl rfl (Nat.le_of_ble_eq_true rfl) dX5_soonest_19 ?_
    refine g_if_eq (tgt := 28) C dX5_soonest_22 (by decide) h (fun h => ?_) (fun h => ?_)
    · refine g_aload_n C dX5_soonest_28 rfl 0 rfl ?_
      refine g_get C (T := TX2) hcl2 (sh_O (sh_ix hb3)) rfl (j := 2) (by decide) wl_305 (v := .int (rI m (64 + 2 * ix a0) 2)) rfl dX5_soonest_29 ?_
      refine g_aload_n C dX5_soonest_32 rfl 1 rfl ?_
      refine g_get C (T := TX5) hcl5 cO_0 rfl (j := 0) (by decide) wl_482 (v := .ref (ad 1)) rfl dX5_soonest_33 ?_
      refine g_get C (T := TX0) hcl0 cO_1 rfl (j := 8) (by decide) wl_157 (v := .int (rI m 1 8)) rfl dX5_soonest_36 ?_
      refine g_icmp_eq (tgt := 45) C dX5_soonest_39 (by decide) h (fun h => ?_) (fun h => ?_)
      · refine g_aload_n C dX5_soonest_45 rfl 1 rfl ?_
        refine g_iconst (v := (-1 : Int32)) C dX5_soonest_46 (by decide) ?_
        refine g_iconst (v := (-1 : Int32)) C dX5_soonest_47 (by decide) ?_
        obtain ⟨m7, hX6, h⟩ := bd1_inv h
        refine g_callV C (c_X5_think l hX6) (cwVw 2 C.2.2.2.2.1 wl_685 wl_687 wl_18 wl_109 wl_688 rfl rfl (by decide +kernel) ⟨Nat.le_of_ble_eq_true rfl, Nat.le_of_ble_eq_true rfl⟩) cO_0 rfl rfl rfl rfl (Nat.le_of_ble_eq_true rfl) dX5_soonest_48 ?_
        refine g_aload_n C dX5_soonest_51 rfl 1 rfl ?_
        refine g_get C (T := TX5) hcl5 cO_0 rfl (j := 3) (by decide) wl_485 (v := .ref (ad 25)) rfl dX5_soonest_52 ?_
        obtain ⟨m9, hX8, h⟩ := bd1_inv h
        refine g_callV C (c_X1_countMoves l hX8) (cwVw 0 C.2.2.2.2.1 wl_710 wl_711 wl_712 wl_111 wl_713 rfl rfl (by decide +kernel) ⟨Nat.le_of_ble_eq_true rfl, Nat.le_of_ble_eq_true rfl⟩) cO_25 rfl rfl rfl rfl (Nat.le_of_ble_eq_true rfl) dX5_soonest_55 ?_
        refine g_aload_n C dX5_soonest_58 rfl 1 rfl ?_
        refine g_get C (T := TX5) hcl5 cO_0 rfl (j := 3) (by decide) wl_485 (v := .ref (ad 25)) rfl dX5_soonest_59 ?_
        refine g_aload_n C dX5_soonest_62 rfl 1 rfl ?_
        refine g_get C (T := TX5) hcl5 cO_0 rfl (j := 3) (by decide) wl_485 (v := .ref (ad 25)) rfl dX5_soonest_63 ?_
        refine g_aload_n C dX5_soonest_66 rfl 0 rfl ?_
        refine g_get C (T := TX2) hcl2 (sh_O (sh_ix hb3)) rfl (j := 0) (by decide) wl_301 (v := .ref (ad ((64 + 2 * ix a0) + 1))) rfl dX5_soonest_67 ?_
        obtain ⟨r10, hX11, h⟩ := bd1_inv h
        refine g_callV C (c_X1_stateOf l (sh_I1 (sh_ix hb3)) hX11) (cwVw 1 C.2.2.2.2.1 wl_816 wl_817 wl_818 wl_111 wl_819 rfl rfl (by decide +kernel) ⟨Nat.le_of_ble_eq_true rfl, Nat.le_of_ble_eq_true rfl⟩) cO_25 rfl rfl rfl rfl (Nat.le_of_ble_eq_true rfl) dX5_soonest_70 ?_
        obtain ⟨r12, m14, hX13, h⟩ := bd2_inv h
        refine g_callV C (c_X1_spreadFrom l hX13) (cwVw 1 C.2.2.2.2.1 wl_838 wl_839 wl_840 wl_111 wl_841 rfl rfl (by decide +kernel) ⟨Nat.le_of_ble_eq_true rfl, Nat.le_of_ble_eq_true rfl⟩) cO_25 rfl rfl rfl rfl (Nat.le_of_ble_eq_true rfl) dX5_soonest_73 ?_
        refine g_istore_n (lv' := [(3, .int r12), (2, .ref (ad (64 + 2 * ix a0))), (0, .ref (ad 0)), (1, .int a0)]) C dX5_soonest_76 rfl (by decide) rfl ?_
        refine g_iload_n C dX5_soonest_77 rfl 0 rfl ?_
        refine g_bipush (v := (8 : Int32)) C dX5_soonest_78 (by decide) ?_
        refine g_icmp_gt (tgt := 87) C dX5_soonest_80 (by decide) h (fun h => ?_) (fun h => ?_)
        · refine g_iconst (v := (-1 : Int32)) C dX5_soonest_87 (by decide) ?_
          obtain ⟨rfl, rfl⟩ := sp_inj h
          exact g_iret C hr hlk dX5_soonest_88 rfl
        · refine g_iload_n C dX5_soonest_83 rfl 0 rfl ?_
          refine g_goto (tgt := 88) C dX5_soonest_84 (by decide) ?_
          obtain ⟨rfl, rfl⟩ := sp_inj h
          exact g_iret C hr hlk dX5_soonest_88 rfl
      · refine g_bipush (v := (-2 : Int32)) C dX5_soonest_42 (by decide) ?_
        obtain ⟨rfl, rfl⟩ := sp_inj h
        exact g_iret C hr hlk dX5_soonest_44 rfl
    · refine g_bipush (v := (-11 : Int32)) C dX5_soonest_25 (by decide) ?_
      obtain ⟨rfl, rfl⟩ := sp_inj h
      exact g_iret C hr hlk dX5_soonest_27 rfl

def rmX5_drawOnce : Room := { frames := 1, cells := 0, slots := 0, locals := 26 }
set_option maxRecDepth 100000 in
set_option maxHeartbeats 4000000 in
theorem c_X5_drawOnce (l : Launch) {F : Nat}  {a0 : Int32}  {m : MM} {m' : MM} (h : f_X5_drawOnce F a0 m = some m') : CT l yX5_drawOnce cX5_drawOnce 4 none rmX5_drawOnce cfC 73 (fun ad tb => [.ref (ad 0), .int a0]) m none m' := by
  refine CT.of (cc := cX5_drawOnce) (maxL := 4) (ret := none) (by decide) ⟨rfl, rfl⟩ (fun _ _ => Nat.le_of_ble_eq_true rfl) ?_
  intro p e s mt args below meth c D cA ad tb C hr hlk
  refine g_lv (lv' := [(0, .ref (ad 0)), (1, .int a0)]) rfl ?_
  have hcl0 : ∀ w ∈ wsX00, w.before args s = true := fun w hw => C.2.2.2.2.1 w (inlX0 w hw)
  have hcl5 : ∀ w ∈ wsX50, w.before args s = true := fun w hw => C.2.2.2.2.1 w (inlX5 w hw)
  unfold f_X5_drawOnce at h
  refine g_aload_n C dX5_drawOnce_0 rfl 0 rfl ?_
  refine g_get C (T := TX5) hcl5 cO_0 rfl (j := 2) (by decide) wl_484 (v := .ref (ad 17)) rfl dX5_drawOnce_1 ?_
  refine g_get C (T := TX0) hcl0 cO_17 rfl (j := 8) (by decide) wl_157 (v := .int (rI m 17 8)) rfl dX5_drawOnce_4 ?_
  refine g_iconst (v := (1 : Int32)) C dX5_drawOnce_7 (by decide) ?_
  refine g_icmp_lt (tgt := 22) C dX5_drawOnce_8 (by decide) h (fun h => ?_) (fun h => ?_)
  · obtain rfl := so_inj h
    exact g_vret C hr hlk dX5_drawOnce_22 rfl
  · refine g_aload_n C dX5_drawOnce_11 rfl 0 rfl ?_
    refine g_get C (T := TX5) hcl5 cO_0 rfl (j := 2) (by decide) wl_484 (v := .ref (ad 17)) rfl dX5_drawOnce_12 ?_
    refine g_get C (T := TX0) hcl0 cO_17 rfl (j := 7) (by decide) wl_152 (v := .int (rI m 17 7)) rfl dX5_drawOnce_15 ?_
    refine g_iconst (v := (1 : Int32)) C dX5_drawOnce_18 (by decide) ?_
    refine g_icmp_ge (tgt := 23) C dX5_drawOnce_19 (by decide) h (fun h => ?_) (fun h => ?_)
    · refine g_iload_n C dX5_drawOnce_23 rfl 1 rfl ?_
      refine g_bipush (v := (9 : Int32)) C dX5_drawOnce_24 (by decide) ?_
      refine g_iushr C dX5_drawOnce_26 ?_
      refine g_aload_n C dX5_drawOnce_27 rfl 0 rfl ?_
      refine g_get C (T := TX5) hcl5 cO_0 rfl (j := 2) (by decide) wl_484 (v := .ref (ad 17)) rfl dX5_drawOnce_28 ?_
      refine g_get C (T := TX0) hcl0 cO_17 rfl (j := 8) (by decide) wl_157 (v := .int (rI m 17 8)) rfl dX5_drawOnce_31 ?_
      refine g_irem C dX5_drawOnce_34 h (fun h => ?_)
      refine nm_i h (fun x2_1 h => ?_)
      refine g_istore_n (lv' := [(2, .int x2_1), (0, .ref (ad 0)), (1, .int a0)]) C dX5_drawOnce_35 rfl (by decide) rfl ?_
      refine g_iload_n C dX5_drawOnce_36 rfl 2 rfl ?_
      refine g_bipush (v := (17 : Int32)) C dX5_drawOnce_37 (by decide) ?_
      refine g_iushr C dX5_drawOnce_39 ?_
      refine g_aload_n C dX5_drawOnce_40 rfl 1 rfl ?_
      refine g_get C (T := TX5) hcl5 cO_0 rfl (j := 2) (by decide) wl_484 (v := .ref (ad 17)) rfl dX5_drawOnce_41 ?_
      refine g_get C (T := TX0) hcl0 cO_17 rfl (j := 7) (by decide) wl_152 (v := .int (rI m 17 7)) rfl dX5_drawOnce_44 ?_
      refine g_irem C dX5_drawOnce_47 h (fun h => ?_)
      refine nm_i h (fun x3_2 h => ?_)
      refine g_istore_n (lv' := [(3, .int x3_2), (2, .int x2_1), (0, .ref (ad 0)), (1, .int a0)]) C dX5_drawOnce_48 rfl (by decide) rfl ?_
      refine g_aload_n C dX5_drawOnce_49 rfl 2 rfl ?_
      refine g_get C (T := TX5) hcl5 cO_0 rfl (j := 2) (by decide) wl_484 (v := .ref (ad 17)) rfl dX5_drawOnce_50 ?_
      refine g_iload_n C dX5_drawOnce_53 rfl 1 rfl ?_
      refine g_iload_n C dX5_drawOnce_54 rfl 0 rfl ?_
      obtain ⟨r3, hX4, h⟩ := bd1_inv h
      refine g_callV C (c_X0_refusal l lot_17 hX4) (cwVw 2 C.2.2.2.2.1 wl_537 wl_538 wl_539 wl_110 wl_540 rfl rfl (by decide +kernel) ⟨Nat.le_of_ble_eq_true rfl, Nat.le_of_ble_eq_true rfl⟩) cO_17 rfl rfl rfl rfl (Nat.le_of_ble_eq_true rfl) dX5_drawOnce_55 ?_
      refine g_if_ne (tgt := 71) C dX5_drawOnce_58 (by decide) h (fun h => ?_) (fun h => ?_)
      · refine g_aload_n C dX5_drawOnce_61 rfl 2 rfl ?_
        refine g_get C (T := TX5) hcl5 cO_0 rfl (j := 2) (by decide) wl_484 (v := .ref (ad 17)) rfl dX5_drawOnce_62 ?_
        refine g_get C (T := TX0) hcl0 cO_17 rfl (j := 6) (by decide) wl_151 (v := .ref (ad 24)) rfl dX5_drawOnce_65 ?_
        refine g_iload_n C dX5_drawOnce_68 rfl 1 rfl ?_
        refine g_iload_n C dX5_drawOnce_69 rfl 0 rfl ?_
        refine g_iast C cI_24 dX5_drawOnce_70 h (fun m5 h => ?_)
        obtain rfl := so_inj h
        exact g_vret C hr hlk dX5_drawOnce_71 rfl
      · obtain rfl := so_inj h
        exact g_vret C hr hlk dX5_drawOnce_71 rfl
    · obtain rfl := so_inj h
      exact g_vret C hr hlk dX5_drawOnce_22 rfl

def rmX5_openBehind : Room := { frames := 2, cells := 0, slots := 0, locals := 81 }
set_option maxRecDepth 100000 in
set_option maxHeartbeats 4000000 in
theorem c_X5_openBehind (l : Launch) {F : Nat}  {a0 : Int32} {a1 : Int32}  {m : MM} {m' : MM} {r : Int32} (h : f_X5_openBehind F a0 a1 m = some (r, m')) : CT l yX5_openBehind cX5_openBehind 5 (some .int) rmX5_openBehind cfC 73 (fun ad tb => [.ref (ad 0), .int a0, .int a1]) m (some (.int r)) m' := by
  refine CT.of (cc := cX5_openBehind) (maxL := 5) (ret := (some .int)) (by decide) ⟨rfl, rfl⟩ (fun _ _ => Nat.le_of_ble_eq_true rfl) ?_
  intro p e s mt args below meth c D cA ad tb C hr hlk
  refine g_lv (lv' := [(0, .ref (ad 0)), (1, .int a0), (2, .int a1)]) rfl ?_
  have hcl5 : ∀ w ∈ wsX50, w.before args s = true := fun w hw => C.2.2.2.2.1 w (inlX5 w hw)
  unfold f_X5_openBehind at h
  refine g_aload_n C dX5_openBehind_0 rfl 0 rfl ?_
  refine g_get C (T := TX5) hcl5 cO_0 rfl (j := 2) (by decide) wl_484 (v := .ref (ad 17)) rfl dX5_openBehind_1 ?_
  refine g_aload_n C dX5_openBehind_4 rfl 0 rfl ?_
  refine g_get C (T := TX5) hcl5 cO_0 rfl (j := 0) (by decide) wl_482 (v := .ref (ad 1)) rfl dX5_openBehind_5 ?_
  obtain ⟨m2, hX1, h⟩ := bd1_inv h
  refine g_callV C (c_X0_become l lot_17 lot_1 hX1) (cwVw 1 C.2.2.2.2.1 wl_689 wl_690 wl_691 wl_110 wl_692 rfl rfl (by decide +kernel) ⟨Nat.le_of_ble_eq_true rfl, Nat.le_of_ble_eq_true rfl⟩) cO_17 rfl rfl rfl rfl (Nat.le_of_ble_eq_true rfl) dX5_openBehind_8 ?_
  refine g_iload_n C dX5_openBehind_11 rfl 1 rfl ?_
  refine g_istore_n (lv' := [(3, .int a0), (0, .ref (ad 0)), (1, .int a0), (2, .int a1)]) C dX5_openBehind_12 rfl (by decide) rfl ?_
  refine g_iconst (v := (0 : Int32)) C dX5_openBehind_13 (by decide) ?_
  refine g_istore (lv' := [(4, .int (0 : Int32)), (3, .int a0), (0, .ref (ad 0)), (1, .int a0), (2, .int a1)]) C dX5_openBehind_14 (by decide) rfl ?_
  refine g_sub [2, 4, 1, 0] rfl ?_
  refine g_loop_IIM (L := f_X5_openBehind_L16 F a1) h 16 56 (fun x3_3 x4_4 m5 => [(0, .ref (ad 0)), (2, .int a1), (3, .int x3_3), (4, .int x4_4)]) (fun x3_3 x4_4 m5 => []) (fun x3_3 x4_4 m5 => []) (fun x3_3 x4_4 m5 => []) ?_ ?_ (fun _ _ _ _ => rfl)
  · intro x3_3 x4_4 m5 h
    refine g_iconst (v := (-1 : Int32)) C dX5_openBehind_56 (by decide) ?_
    obtain ⟨rfl, rfl⟩ := sp_inj h
    exact g_iret C hr hlk dX5_openBehind_57 rfl
  · intro K6 hK6 n ih x3_3 x4_4 m5 h
    rw [f_X5_openBehind_L16] at h
    refine g_iload C dX5_openBehind_16 3 rfl ?_
    refine g_iload_n C dX5_openBehind_18 rfl 1 rfl ?_
    refine g_icmp_gt (tgt := 56) C dX5_openBehind_19 (by decide) h (fun h => ?_) (fun h => ?_)
    · exact g_sub [] rfl (hK6 _ _ _ h)
    · refine g_aload_n C dX5_openBehind_22 rfl 0 rfl ?_
      refine g_get C (T := TX5) hcl5 cO_0 rfl (j := 2) (by decide) wl_484 (v := .ref (ad 17)) rfl dX5_openBehind_23 ?_
      obtain ⟨r7, hX8, h⟩ := bd1_inv h
      refine g_callV C (c_X0_isOpen l lot_17 hX8) (cwVw 0 C.2.2.2.2.1 wl_650 wl_651 wl_652 wl_110 wl_653 rfl rfl (by decide +kernel) ⟨Nat.le_of_ble_eq_true rfl, Nat.le_of_ble_eq_true rfl⟩) cO_17 rfl rfl rfl rfl (Nat.le_of_ble_eq_true rfl) dX5_openBehind_26 ?_
      refine g_if_eq (tgt := 35) C dX5_openBehind_29 (by decide) h (fun h => ?_) (fun h => ?_)
      · refine g_iload_n C dX5_openBehind_35 rfl 2 rfl ?_
        refine g_ldcw (v := (1103515245 : Int32)) C dX5_openBehind_36 wl_850 ?_
        refine g_imul C dX5_openBehind_39 ?_
        refine g_sipush (v := (12345 : Int32)) C dX5_openBehind_40 (by decide) ?_
        refine g_iadd C dX5_openBehind_43 ?_
        refine nm_i h (fun x3_9 h => ?_)
        refine g_istore_n (lv' := [(3, .int x3_9), (0, .ref (ad 0)), (2, .int a1), (4, .int x4_4)]) C dX5_openBehind_44 rfl (by decide) rfl ?_
        refine g_aload_n C dX5_openBehind_45 rfl 1 rfl ?_
        refine g_iload_n C dX5_openBehind_46 rfl 0 rfl ?_
        obtain ⟨m11, hX10, h⟩ := bd1_inv h
        refine g_callV C (c_X5_drawOnce l hX10) (cwVw 1 C.2.2.2.2.1 wl_851 wl_853 wl_34 wl_109 wl_854 rfl rfl (by decide +kernel) ⟨Nat.le_of_ble_eq_true rfl, Nat.le_of_ble_eq_true rfl⟩) cO_0 rfl rfl rfl rfl (Nat.le_of_ble_eq_true rfl) dX5_openBehind_47 ?_
        refine g_iinc (lv' := [(3, .int x3_9), (0, .ref (ad 0)), (2, .int a1)]) C dX5_openBehind_50 (q := 3) rfl (by decide) h rfl (fun _ => rfl) (fun x4_12 h => ?_)
        refine g_goto (tgt := 16) C dX5_openBehind_53 (by decide) ?_
        exact g_sub [2, 3, 1, 0] rfl (ih _ _ _ h)
      · refine g_iload C dX5_openBehind_32 3 rfl ?_
        obtain ⟨rfl, rfl⟩ := sp_inj h
        exact g_iret C hr hlk dX5_openBehind_34 rfl

def rmX5_drawn : Room := { frames := 3, cells := 0, slots := 0, locals := 105 }
set_option maxRecDepth 100000 in
set_option maxHeartbeats 4000000 in
theorem c_X5_drawn (l : Launch) {F : Nat}  {a0 : Int32} {a1 : Int32}  {m : MM} {m' : MM} {r : Int32} (h : f_X5_drawn F a0 a1 m = some (r, m')) : CT l yX5_drawn cX5_drawn 3 (some .int) rmX5_drawn cfC 73 (fun ad tb => [.ref (ad 0), .int a0, .int a1]) m (some (.int r)) m' := by
  refine CT.of (cc := cX5_drawn) (maxL := 3) (ret := (some .int)) (by decide) ⟨rfl, rfl⟩ (fun _ _ => Nat.le_of_ble_eq_true rfl) ?_
  intro p e s mt args below meth c D cA ad tb C hr hlk
  refine g_lv (lv' := [(0, .ref (ad 0)), (1, .int a0), (2, .int a1)]) rfl ?_
  unfold f_X5_drawn at h
  refine g_iload_n C dX5_drawn_0 rfl 2 rfl ?_
  refine g_iconst (v := (1 : Int32)) C dX5_drawn_1 (by decide) ?_
  refine g_icmp_lt (tgt := 11) C dX5_drawn_2 (by decide) h (fun h => ?_) (fun h => ?_)
  · refine g_bipush (v := (-2 : Int32)) C dX5_drawn_11 (by decide) ?_
    obtain ⟨rfl, rfl⟩ := sp_inj h
    exact g_iret C hr hlk dX5_drawn_13 rfl
  · refine g_iload_n C dX5_drawn_5 rfl 2 rfl ?_
    refine g_bipush (v := (40 : Int32)) C dX5_drawn_6 (by decide) ?_
    refine g_icmp_le (tgt := 14) C dX5_drawn_8 (by decide) h (fun h => ?_) (fun h => ?_)
    · refine g_aload_n C dX5_drawn_14 rfl 0 rfl ?_
      refine g_iload_n C dX5_drawn_15 rfl 1 rfl ?_
      refine g_iload_n C dX5_drawn_16 rfl 2 rfl ?_
      obtain ⟨r1, m3, hX2, h⟩ := bd2_inv h
      refine g_callV C (c_X5_openBehind l hX2) (cwVw 2 C.2.2.2.2.1 wl_846 wl_848 wl_33 wl_109 wl_849 rfl rfl (by decide +kernel) ⟨Nat.le_of_ble_eq_true rfl, Nat.le_of_ble_eq_true rfl⟩) cO_0 rfl rfl rfl rfl (Nat.le_of_ble_eq_true rfl) dX5_drawn_17 ?_
      obtain ⟨rfl, rfl⟩ := sp_inj h
      exact g_iret C hr hlk dX5_drawn_20 rfl
    · refine g_bipush (v := (-2 : Int32)) C dX5_drawn_11 (by decide) ?_
      obtain ⟨rfl, rfl⟩ := sp_inj h
      exact g_iret C hr hlk dX5_drawn_13 rfl

def rmX5_commonPart : Room := { frames := 0, cells := 0, slots := 0, locals := 0 }
set_option maxRecDepth 100000 in
set_option maxHeartbeats 4000000 in
theorem c_X5_commonPart (l : Launch) {F : Nat}  {a0 : Int32} {a1 : Int32}  {m : MM} {r : Int32} (h : f_X5_commonPart F a0 a1 m = some r) : CT l yX5_commonPart cX5_commonPart 3 (some .int) rmX5_commonPart cfC 73 (fun ad tb => [.int a0, .int a1]) m (some (.int r)) m := by
  refine CT.of (cc := cX5_commonPart) (maxL := 3) (ret := (some .int)) (by decide) ⟨rfl, rfl⟩ (fun _ _ => Nat.le_of_ble_eq_true rfl) ?_
  intro p e s mt args below meth c D cA ad tb C hr hlk
  refine g_lv (lv' := [(0, .int a0), (1, .int a1)]) rfl ?_
  unfold f_X5_commonPart at h
  refine g_iload_n C dX5_commonPart_0 rfl 1 rfl ?_
  refine g_istore_n (lv' := [(2, .int a1), (0, .int a0), (1, .int a1)]) C dX5_commonPart_1 rfl (by decide) rfl ?_
  refine g_sub [1, 2, 0] rfl ?_
  refine g_loop_I (L := f_X5_commonPart_L2 a0 a1) h 2 27 (fun x2_1 => [(0, .int a0), (1, .int a1), (2, .int x2_1)]) (fun x2_1 => []) (fun x2_1 => []) (fun x2_1 => []) ?_ ?_ (fun _ _ => rfl)
  · intro x2_1 h
    refine g_iconst (v := (1 : Int32)) C dX5_commonPart_27 (by decide) ?_
    obtain rfl := so_inj h
    exact g_iret C hr hlk dX5_commonPart_28 rfl
  · intro K2 hK2 n ih x2_1 h
    rw [f_X5_commonPart_L2] at h
    refine g_iload_n C dX5_commonPart_2 rfl 2 rfl ?_
    refine g_iconst (v := (1 : Int32)) C dX5_commonPart_3 (by decide) ?_
    refine g_icmp_le (tgt := 27) C dX5_commonPart_4 (by decide) h (fun h => ?_) (fun h => ?_)
    · exact g_sub [] rfl (hK2 _ h)
    · refine g_iload_n C dX5_commonPart_7 rfl 0 rfl ?_
      refine g_iload_n C dX5_commonPart_8 rfl 2 rfl ?_
      refine g_irem C dX5_commonPart_9 h (fun h => ?_)
      refine g_if_ne (tgt := 21) C dX5_commonPart_10 (by decide) h (fun h => ?_) (fun h => ?_)
      · refine g_iload_n C dX5_commonPart_13 rfl 1 rfl ?_
        refine g_iload_n C dX5_commonPart_14 rfl 2 rfl ?_
        refine g_irem C dX5_commonPart_15 h (fun h => ?_)
        refine g_if_ne (tgt := 21) C dX5_commonPart_16 (by decide) h (fun h => ?_) (fun h => ?_)
        · refine g_iload_n C dX5_commonPart_19 rfl 2 rfl ?_
          obtain rfl := so_inj h
          exact g_iret C hr hlk dX5_commonPart_20 rfl
        · refine g_iinc (lv' := [(0, .int a0), (1, .int a1)]) C dX5_commonPart_21 (q := 2) rfl (by decide) h rfl (fun _ => rfl) (fun x2_3 h => ?_)
          refine g_goto (tgt := 2) C dX5_commonPart_24 (by decide) ?_
          exact g_sub [1, 2, 0] rfl (ih _ h)
      · refine g_iinc (lv' := [(0, .int a0), (1, .int a1)]) C dX5_commonPart_21 (q := 2) rfl (by decide) h rfl (fun _ => rfl) (fun x2_4 h => ?_)
        refine g_goto (tgt := 2) C dX5_commonPart_24 (by decide) ?_
        exact g_sub [1, 2, 0] rfl (ih _ h)

def rmX5_chance : Room := { frames := 3, cells := 0, slots := 0, locals := 105 }
set_option maxRecDepth 100000 in
set_option maxHeartbeats 4000000 in
theorem c_X5_chance (l : Launch) {F : Nat}  {a0 : Int32} {a1 : Int32} {a2 : Int32}  {m : MM} {m' : MM} {r : Int64} (h : f_X5_chance F a0 a1 a2 m = some (r, m')) : CT l yX5_chance cX5_chance 6 (some .long) rmX5_chance cfC 73 (fun ad tb => [.ref (ad 0), .int a0, .int a1, .int a2]) m (some (.long r)) m' := by
  refine CT.of (cc := cX5_chance) (maxL := 6) (ret := (some .long)) (by decide) ⟨rfl, rfl⟩ (fun _ _ => Nat.le_of_ble_eq_true rfl) ?_
  intro p e s mt args below meth c D cA ad tb C hr hlk
  refine g_lv (lv' := [(0, .ref (ad 0)), (1, .int a0), (2, .int a1), (3, .int a2)]) rfl ?_
  unfold f_X5_chance at h
  refine g_iload_n C dX5_chance_0 rfl 2 rfl ?_
  refine g_iconst (v := (1 : Int32)) C dX5_chance_1 (by decide) ?_
  refine g_icmp_lt (tgt := 19) C dX5_chance_2 (by decide) h (fun h => ?_) (fun h => ?_)
  · refine g_ldc2 (v := (-4611686018427387904 : Int64)) C dX5_chance_19 wl_815 ?_
    obtain ⟨rfl, rfl⟩ := sp_inj h
    exact g_lret C hr hlk dX5_chance_22 rfl
  · refine g_iload_n C dX5_chance_5 rfl 2 rfl ?_
    refine g_bipush (v := (20 : Int32)) C dX5_chance_6 (by decide) ?_
    refine g_icmp_gt (tgt := 19) C dX5_chance_8 (by decide) h (fun h => ?_) (fun h => ?_)
    · refine g_ldc2 (v := (-4611686018427387904 : Int64)) C dX5_chance_19 wl_815 ?_
      obtain ⟨rfl, rfl⟩ := sp_inj h
      exact g_lret C hr hlk dX5_chance_22 rfl
    · refine g_iload_n C dX5_chance_11 rfl 3 rfl ?_
      refine g_iconst (v := (2 : Int32)) C dX5_chance_12 (by decide) ?_
      obtain ⟨r1, hX2, h⟩ := bd1_inv h
      refine g_callS C (c_X5_within l hX2) (cwSw 2 C.2.2.2.2.1 wl_518 wl_519 wl_109 wl_520 rfl rfl (by decide +kernel) ⟨Nat.le_of_ble_eq_true rfl, Nat.le_of_ble_eq_true rfl⟩) rfl rfl rfl (Nat.le_of_ble_eq_true rfl) dX5_chance_13 ?_
      refine g_if_ne (tgt := 23) C dX5_chance_16 (by decide) h (fun h => ?_) (fun h => ?_)
      · refine g_ldc2 (v := (-4611686018427387904 : Int64)) C dX5_chance_19 wl_815 ?_
        obtain ⟨rfl, rfl⟩ := sp_inj h
        exact g_lret C hr hlk dX5_chance_22 rfl
      · refine g_iconst (v := (0 : Int32)) C dX5_chance_23 (by decide) ?_
        refine g_istore (lv' := [(4, .int (0 : Int32)), (0, .ref (ad 0)), (1, .int a0), (2, .int a1), (3, .int a2)]) C dX5_chance_24 (by decide) rfl ?_
        refine g_iconst (v := (0 : Int32)) C dX5_chance_26 (by decide) ?_
        refine g_istore (lv' := [(5, .int (0 : Int32)), (4, .int (0 : Int32)), (0, .ref (ad 0)), (1, .int a0), (2, .int a1), (3, .int a2)]) C dX5_chance_27 (by decide) rfl ?_
        refine g_sub [2, 3, 4, 5, 1, 0] rfl ?_
        refine g_loop_IIM (L := f_X5_chance_L29 F a0 a1) h 29 58 (fun x4_3 x5_4 m5 => [(0, .ref (ad 0)), (1, .int a0), (2, .int a1), (3, .int a2), (4, .int x4_3), (5, .int x5_4)]) (fun x4_3 x5_4 m5 => [(2, .int a1), (3, .int a2), (4, .int x4_3)]) (fun x4_3 x5_4 m5 => []) (fun x4_3 x5_4 m5 => []) ?_ ?_ (fun _ _ _ _ => rfl)
        · intro x4_3 x5_4 m5 h
          refine g_iload C dX5_chance_58 2 rfl ?_
          refine g_iload_n C dX5_chance_60 rfl 0 rfl ?_
          obtain ⟨r13, hX14, h⟩ := bd1_inv h
          refine g_callS C (c_X5_commonPart l hX14) (cwSw 2 C.2.2.2.2.1 wl_859 wl_860 wl_109 wl_861 rfl rfl (by decide +kernel) ⟨Nat.le_of_ble_eq_true rfl, Nat.le_of_ble_eq_true rfl⟩) rfl rfl rfl (Nat.le_of_ble_eq_true rfl) dX5_chance_61 ?_
          refine g_istore (lv' := [(5, .int r13), (2, .int a1), (3, .int a2), (4, .int x4_3)]) C dX5_chance_64 (by decide) rfl ?_
          refine g_iload_n C dX5_chance_66 rfl 2 rfl ?_
          refine g_join_I h 76 (fun s15 => [(5, .int r13)]) (fun s15 => [.int s15]) ?_ ?_
          · intro s15 h
            refine g_iload C dX5_chance_76 0 rfl ?_
            refine g_idiv C dX5_chance_78 h (fun h => ?_)
            refine g_i2l C dX5_chance_79 ?_
            obtain ⟨rfl, rfl⟩ := sp_inj h
            exact g_lret C hr hlk dX5_chance_80 rfl
          intro J16 hJ16 h
          refine g_if_ne (tgt := 75) C dX5_chance_67 (by decide) h (fun h => ?_) (fun h => ?_)
          · refine g_iload C dX5_chance_70 3 rfl ?_
            refine g_goto (tgt := 76) C dX5_chance_72 (by decide) ?_
            exact g_sub [0] rfl (hJ16 _ h)
          · refine g_iload_n C dX5_chance_75 rfl 1 rfl ?_
            exact g_sub [0] rfl (hJ16 _ h)
        · intro K6 hK6 n ih x4_3 x5_4 m5 h
          rw [f_X5_chance_L29] at h
          refine g_iload C dX5_chance_29 5 rfl ?_
          refine g_iload_n C dX5_chance_31 rfl 2 rfl ?_
          refine g_icmp_ge (tgt := 58) C dX5_chance_32 (by decide) h (fun h => ?_) (fun h => ?_)
          · exact g_sub [2, 3, 4] rfl (hK6 _ _ _ h)
          · refine g_aload_n C dX5_chance_35 rfl 0 rfl ?_
            refine g_iload_n C dX5_chance_36 rfl 1 rfl ?_
            refine g_iload C dX5_chance_37 5 rfl ?_
            refine g_iadd C dX5_chance_39 ?_
            refine g_bipush (v := (40 : Int32)) C dX5_chance_40 (by decide) ?_
            obtain ⟨r7, m9, hX8, h⟩ := bd2_inv h
            refine g_callV C (c_X5_openBehind l hX8) (cwVw 2 C.2.2.2.2.1 wl_846 wl_848 wl_33 wl_109 wl_849 rfl rfl (by decide +kernel) ⟨Nat.le_of_ble_eq_true rfl, Nat.le_of_ble_eq_true rfl⟩) cO_0 rfl rfl rfl rfl (Nat.le_of_ble_eq_true rfl) dX5_chance_42 ?_
            refine g_iconst (v := (-1 : Int32)) C dX5_chance_45 (by decide) ?_
            refine g_icmp_eq (tgt := 52) C dX5_chance_46 (by decide) h (fun h => ?_) (fun h => ?_)
            · refine g_iinc (lv' := [(0, .ref (ad 0)), (1, .int a0), (2, .int a1), (3, .int a2), (4, .int x4_3)]) C dX5_chance_52 (q := 5) rfl (by decide) h rfl (fun _ => rfl) (fun x5_10 h => ?_)
              refine g_goto (tgt := 29) C dX5_chance_55 (by decide) ?_
              exact g_sub [1, 2, 3, 4, 5, 0] rfl (ih _ _ _ h)
            · refine g_iinc (lv' := [(0, .ref (ad 0)), (1, .int a0), (2, .int a1), (3, .int a2), (5, .int x5_4)]) C dX5_chance_49 (q := 4) rfl (by decide) h rfl (fun _ => rfl) (fun x4_11 h => ?_)
              refine g_iinc (lv' := [(4, .int x4_11), (0, .ref (ad 0)), (1, .int a0), (2, .int a1), (3, .int a2)]) C dX5_chance_52 (q := 5) rfl (by decide) h rfl (fun _ => rfl) (fun x5_12 h => ?_)
              refine g_goto (tgt := 29) C dX5_chance_55 (by decide) ?_
              exact g_sub [2, 3, 4, 5, 1, 0] rfl (ih _ _ _ h)

def rmX5_image : Room := { frames := 2, cells := 0, slots := 0, locals := 81 }
set_option maxRecDepth 100000 in
set_option maxHeartbeats 4000000 in
theorem c_X5_image (l : Launch)    {m : MM} {m' : MM} {r : Int32} (h : f_X5_image m = some (r, m')) : CT l yX5_image cX5_image 1 (some .int) rmX5_image cfC 73 (fun ad tb => [.ref (ad 0)]) m (some (.int r)) m' := by
  refine CT.of (cc := cX5_image) (maxL := 1) (ret := (some .int)) (by decide) ⟨rfl, rfl⟩ (fun _ _ => Nat.le_of_ble_eq_true rfl) ?_
  intro p e s mt args below meth c D cA ad tb C hr hlk
  refine g_lv (lv' := [(0, .ref (ad 0))]) rfl ?_
  have hcl0 : ∀ w ∈ wsX00, w.before args s = true := fun w hw => C.2.2.2.2.1 w (inlX0 w hw)
  have hcl5 : ∀ w ∈ wsX50, w.before args s = true := fun w hw => C.2.2.2.2.1 w (inlX5 w hw)
  unfold f_X5_image at h
  refine g_aload_n C dX5_image_0 rfl 0 rfl ?_
  refine g_get C (T := TX5) hcl5 cO_0 rfl (j := 1) (by decide) wl_483 (v := .ref (ad 9)) rfl dX5_image_1 ?_
  refine g_aload_n C dX5_image_4 rfl 0 rfl ?_
  refine g_get C (T := TX5) hcl5 cO_0 rfl (j := 0) (by decide) wl_482 (v := .ref (ad 1)) rfl dX5_image_5 ?_
  obtain ⟨m2, hX1, h⟩ := bd1_inv h
  refine g_callV C (c_X0_become l lot_9 lot_1 hX1) (cwVw 1 C.2.2.2.2.1 wl_689 wl_690 wl_691 wl_110 wl_692 rfl rfl (by decide +kernel) ⟨Nat.le_of_ble_eq_true rfl, Nat.le_of_ble_eq_true rfl⟩) cO_9 rfl rfl rfl rfl (Nat.le_of_ble_eq_true rfl) dX5_image_8 ?_
  refine g_aload_n C dX5_image_11 rfl 0 rfl ?_
  refine g_iconst (v := (1 : Int32)) C dX5_image_12 (by decide) ?_
  refine g_putZ C (T := TX5) hcl5 cO_0 rfl (j := 9) (by decide) wl_491 tyX5 tyX5_ok nmX5 rfl rfl pfX5_9 (plX5 9 (by decide)) dX5_image_13 h (fun m3 h => ?_)
  refine g_aload_n C dX5_image_16 rfl 0 rfl ?_
  refine g_get C (T := TX5) hcl5 cO_0 rfl (j := 1) (by decide) wl_483 (v := .ref (ad 9)) rfl dX5_image_17 ?_
  refine g_get C (T := TX0) hcl0 cO_9 rfl (j := 8) (by decide) wl_157 (v := .int (rI m3 9 8)) rfl dX5_image_20 ?_
  obtain ⟨rfl, rfl⟩ := sp_inj h
  exact g_iret C hr hlk dX5_image_23 rfl

def rmX5_back : Room := { frames := 2, cells := 0, slots := 0, locals := 81 }
set_option maxRecDepth 100000 in
set_option maxHeartbeats 4000000 in
theorem c_X5_back (l : Launch)    {m : MM} {m' : MM} {r : Int32} (h : f_X5_back m = some (r, m')) : CT l yX5_back cX5_back 1 (some .int) rmX5_back cfC 73 (fun ad tb => [.ref (ad 0)]) m (some (.int r)) m' := by
  refine CT.of (cc := cX5_back) (maxL := 1) (ret := (some .int)) (by decide) ⟨rfl, rfl⟩ (fun _ _ => Nat.le_of_ble_eq_true rfl) ?_
  intro p e s mt args below meth c D cA ad tb C hr hlk
  refine g_lv (lv' := [(0, .ref (ad 0))]) rfl ?_
  have hcl0 : ∀ w ∈ wsX00, w.before args s = true := fun w hw => C.2.2.2.2.1 w (inlX0 w hw)
  have hcl5 : ∀ w ∈ wsX50, w.before args s = true := fun w hw => C.2.2.2.2.1 w (inlX5 w hw)
  unfold f_X5_back at h
  refine g_aload_n C dX5_back_0 rfl 0 rfl ?_
  refine g_get C (T := TX5) hcl5 cO_0 rfl (j := 9) (by decide) wl_491 (v := .int (rI m 0 9)) rfl dX5_back_1 ?_
  refine g_if_ne (tgt := 10) C dX5_back_4 (by decide) h (fun h => ?_) (fun h => ?_)
  · refine g_bipush (v := (-3 : Int32)) C dX5_back_7 (by decide) ?_
    obtain ⟨rfl, rfl⟩ := sp_inj h
    exact g_iret C hr hlk dX5_back_9 rfl
  · refine g_aload_n C dX5_back_10 rfl 0 rfl ?_
    refine g_get C (T := TX5) hcl5 cO_0 rfl (j := 0) (by decide) wl_482 (v := .ref (ad 1)) rfl dX5_back_11 ?_
    refine g_aload_n C dX5_back_14 rfl 0 rfl ?_
    refine g_get C (T := TX5) hcl5 cO_0 rfl (j := 1) (by decide) wl_483 (v := .ref (ad 9)) rfl dX5_back_15 ?_
    obtain ⟨m2, hX1, h⟩ := bd1_inv h
    refine g_callV C (c_X0_become l lot_1 lot_9 hX1) (cwVw 1 C.2.2.2.2.1 wl_689 wl_690 wl_691 wl_110 wl_692 rfl rfl (by decide +kernel) ⟨Nat.le_of_ble_eq_true rfl, Nat.le_of_ble_eq_true rfl⟩) cO_1 rfl rfl rfl rfl (Nat.le_of_ble_eq_true rfl) dX5_back_18 ?_
    refine g_aload_n C dX5_back_21 rfl 0 rfl ?_
    refine g_get C (T := TX5) hcl5 cO_0 rfl (j := 0) (by decide) wl_482 (v := .ref (ad 1)) rfl dX5_back_22 ?_
    refine g_get C (T := TX0) hcl0 cO_1 rfl (j := 8) (by decide) wl_157 (v := .int (rI m2 1 8)) rfl dX5_back_25 ?_
    obtain ⟨rfl, rfl⟩ := sp_inj h
    exact g_iret C hr hlk dX5_back_28 rfl

def rmX5_count : Room := { frames := 0, cells := 0, slots := 0, locals := 0 }
set_option maxRecDepth 100000 in
set_option maxHeartbeats 4000000 in
theorem c_X5_count (l : Launch)  {a0 : Int32}  {m : MM} {r : Int32} (h : f_X5_count a0 m = some r) : CT l yX5_count cX5_count 2 (some .int) rmX5_count cfC 73 (fun ad tb => [.ref (ad 0), .int a0]) m (some (.int r)) m := by
  refine CT.of (cc := cX5_count) (maxL := 2) (ret := (some .int)) (by decide) ⟨rfl, rfl⟩ (fun _ _ => Nat.le_of_ble_eq_true rfl) ?_
  intro p e s mt args below meth c D cA ad tb C hr hlk
  refine g_lv (lv' := [(0, .ref (ad 0)), (1, .int a0)]) rfl ?_
  have hcl0 : ∀ w ∈ wsX00, w.before args s = true := fun w hw => C.2.2.2.2.1 w (inlX0 w hw)
  have hcl3 : ∀ w ∈ wsX30, w.before args s = true := fun w hw => C.2.2.2.2.1 w (inlX3 w hw)
  have hcl5 : ∀ w ∈ wsX50, w.before args s = true := fun w hw => C.2.2.2.2.1 w (inlX5 w hw)
  unfold f_X5_count at h
  refine g_iload_n C dX5_count_0 rfl 1 rfl ?_
  by_cases q1 : a0 = (0 : Int32)
  · rw [if_pos q1] at h
    refine g_tbl (tgt := 44) C dX5_count_1 (0 : Int32) q1 (by decide) rfl (by decide) ?_
    refine g_aload_n C dX5_count_44 rfl 0 rfl ?_
    refine g_get C (T := TX5) hcl5 cO_0 rfl (j := 0) (by decide) wl_482 (v := .ref (ad 1)) rfl dX5_count_45 ?_
    refine g_get C (T := TX0) hcl0 cO_1 rfl (j := 7) (by decide) wl_152 (v := .int (rI m 1 7)) rfl dX5_count_48 ?_
    obtain rfl := so_inj h
    exact g_iret C hr hlk dX5_count_51 rfl
  rw [if_neg q1] at h
  by_cases q2 : a0 = (1 : Int32)
  · rw [if_pos q2] at h
    refine g_tbl (tgt := 52) C dX5_count_1 (1 : Int32) q2 (by decide) rfl (by decide) ?_
    refine g_aload_n C dX5_count_52 rfl 0 rfl ?_
    refine g_get C (T := TX5) hcl5 cO_0 rfl (j := 0) (by decide) wl_482 (v := .ref (ad 1)) rfl dX5_count_53 ?_
    refine g_get C (T := TX0) hcl0 cO_1 rfl (j := 8) (by decide) wl_157 (v := .int (rI m 1 8)) rfl dX5_count_56 ?_
    obtain rfl := so_inj h
    exact g_iret C hr hlk dX5_count_59 rfl
  rw [if_neg q2] at h
  by_cases q3 : a0 = (2 : Int32)
  · rw [if_pos q3] at h
    refine g_tbl (tgt := 60) C dX5_count_1 (2 : Int32) q3 (by decide) rfl (by decide) ?_
    refine g_aload_n C dX5_count_60 rfl 0 rfl ?_
    refine g_get C (T := TX5) hcl5 cO_0 rfl (j := 0) (by decide) wl_482 (v := .ref (ad 1)) rfl dX5_count_61 ?_
    refine g_get C (T := TX0) hcl0 cO_1 rfl (j := 10) (by decide) wl_161 (v := .int (rI m 1 10)) rfl dX5_count_64 ?_
    obtain rfl := so_inj h
    exact g_iret C hr hlk dX5_count_67 rfl
  rw [if_neg q3] at h
  by_cases q4 : a0 = (3 : Int32)
  · rw [if_pos q4] at h
    refine g_tbl (tgt := 68) C dX5_count_1 (3 : Int32) q4 (by decide) rfl (by decide) ?_
    refine g_aload_n C dX5_count_68 rfl 0 rfl ?_
    refine g_get C (T := TX5) hcl5 cO_0 rfl (j := 0) (by decide) wl_482 (v := .ref (ad 1)) rfl dX5_count_69 ?_
    refine g_get C (T := TX0) hcl0 cO_1 rfl (j := 9) (by decide) wl_159 (v := .int (rI m 1 9)) rfl dX5_count_72 ?_
    obtain rfl := so_inj h
    exact g_iret C hr hlk dX5_count_75 rfl
  rw [if_neg q4] at h
  by_cases q5 : a0 = (4 : Int32)
  · rw [if_pos q5] at h
    refine g_tbl (tgt := 76) C dX5_count_1 (4 : Int32) q5 (by decide) rfl (by decide) ?_
    refine g_aload_n C dX5_count_76 rfl 0 rfl ?_
    refine g_get C (T := TX5) hcl5 cO_0 rfl (j := 8) (by decide) wl_490 (v := .int (rI m 0 8)) rfl dX5_count_77 ?_
    obtain rfl := so_inj h
    exact g_iret C hr hlk dX5_count_80 rfl
  rw [if_neg q5] at h
  by_cases q6 : a0 = (5 : Int32)
  · rw [if_pos q6] at h
    refine g_tbl (tgt := 81) C dX5_count_1 (5 : Int32) q6 (by decide) rfl (by decide) ?_
    refine g_aload_n C dX5_count_81 rfl 0 rfl ?_
    refine g_get C (T := TX5) hcl5 cO_0 rfl (j := 4) (by decide) wl_486 (v := .ref (ad 36)) rfl dX5_count_82 ?_
    refine g_get C (T := TX3) hcl3 cO_36 rfl (j := 1) (by decide) wl_252 (v := .int (rI m 36 1)) rfl dX5_count_85 ?_
    obtain rfl := so_inj h
    exact g_iret C hr hlk dX5_count_88 rfl
  rw [if_neg q6] at h
  by_cases q7 : a0 = (6 : Int32)
  · rw [if_pos q7] at h
    refine g_tbl (tgt := 89) C dX5_count_1 (6 : Int32) q7 (by decide) rfl (by decide) ?_
    refine g_aload_n C dX5_count_89 rfl 0 rfl ?_
    refine g_get C (T := TX5) hcl5 cO_0 rfl (j := 0) (by decide) wl_482 (v := .ref (ad 1)) rfl dX5_count_90 ?_
    refine g_get C (T := TX0) hcl0 cO_1 rfl (j := 11) (by decide) wl_163 (v := .int (rI m 1 11)) rfl dX5_count_93 ?_
    obtain rfl := so_inj h
    exact g_iret C hr hlk dX5_count_96 rfl
  rw [if_neg q7] at h
  refine g_tblOut (tgt := 97) C dX5_count_1 (by have t0 := ti_ne q1 (z := 0) (by decide); have t1 := ti_ne q2 (z := 1) (by decide); have t2 := ti_ne q3 (z := 2) (by decide); have t3 := ti_ne q4 (z := 3) (by decide); have t4 := ti_ne q5 (z := 4) (by decide); have t5 := ti_ne q6 (z := 5) (by decide); have t6 := ti_ne q7 (z := 6) (by decide); omega) (by decide) ?_
  refine g_bipush (v := (-2 : Int32)) C dX5_count_97 (by decide) ?_
  obtain rfl := so_inj h
  exact g_iret C hr hlk dX5_count_99 rfl

def rmX2_become : Room := { frames := 0, cells := 0, slots := 0, locals := 0 }
set_option maxRecDepth 100000 in
set_option maxHeartbeats 4000000 in
theorem c_X2_become (l : Launch) {F : Nat}  {k : Nat} {a0 : Int32} {a1 : Int32} (hk : isSh k) {m : MM} {m' : MM} (h : f_X2_become F k a0 a1 m = some m') : CT l yX2_become cX2_become 4 none rmX2_become cfC 73 (fun ad tb => [.ref (ad k), .int a0, .int a1]) m none m' := by
  refine CT.of (cc := cX2_become) (maxL := 4) (ret := none) (by decide) ⟨rfl, rfl⟩ (fun _ _ => Nat.le_of_ble_eq_true rfl) ?_
  intro p e s mt args below meth c D cA ad tb C hr hlk
  refine g_lv (lv' := [(0, .ref (ad k)), (1, .int a0), (2, .int a1)]) rfl ?_
  have hcl2 : ∀ w ∈ wsX20, w.before args s = true := fun w hw => C.2.2.2.2.1 w (inlX2 w hw)
  unfold f_X2_become at h
  refine g_aload_n C dX2_become_0 rfl 0 rfl ?_
  refine g_iload_n C dX2_become_1 rfl 1 rfl ?_
  refine g_putI C (T := TX2) hcl2 (sh_O hk) rfl (j := 1) (by decide) wl_302 tyX2 tyX2_ok nmX2 rfl rfl pfX2_1 (plX2 1 (by decide)) dX2_become_2 h (fun m1 h => ?_)
  refine g_aload_n C dX2_become_5 rfl 0 rfl ?_
  refine g_iload_n C dX2_become_6 rfl 2 rfl ?_
  refine g_putI C (T := TX2) hcl2 (sh_O hk) rfl (j := 2) (by decide) wl_304 tyX2 tyX2_ok nmX2 rfl rfl pfX2_2 (plX2 2 (by decide)) dX2_become_7 h (fun m2 h => ?_)
  refine g_iconst (v := (0 : Int32)) C dX2_become_10 (by decide) ?_
  refine g_istore_n (lv' := [(3, .int (0 : Int32)), (0, .ref (ad k)), (1, .int a0), (2, .int a1)]) C dX2_become_11 rfl (by decide) rfl ?_
  refine g_sub [1, 0] rfl ?_
  refine g_loop_IM (L := f_X2_become_L12 k) h 12 31 (fun x3_3 m4 => [(0, .ref (ad k)), (3, .int x3_3)]) (fun x3_3 m4 => []) (fun x3_3 m4 => []) (fun x3_3 m4 => []) ?_ ?_ (fun _ _ _ => rfl)
  · intro x3_3 m4 h
    obtain rfl := so_inj h
    exact g_vret C hr hlk dX2_become_31 rfl
  · intro K5 hK5 n ih x3_3 m4 h
    rw [f_X2_become_L12] at h
    refine g_iload_n C dX2_become_12 rfl 1 rfl ?_
    refine g_bipush (v := (40 : Int32)) C dX2_become_13 (by decide) ?_
    refine g_icmp_ge (tgt := 31) C dX2_become_15 (by decide) h (fun h => ?_) (fun h => ?_)
    · exact g_sub [] rfl (hK5 _ _ h)
    · refine g_aload_n C dX2_become_18 rfl 0 rfl ?_
      refine g_get C (T := TX2) hcl2 (sh_O hk) rfl (j := 0) (by decide) wl_300 (v := .ref (ad (k + 1))) rfl dX2_become_19 ?_
      refine g_iload_n C dX2_become_22 rfl 1 rfl ?_
      refine g_iconst (v := (0 : Int32)) C dX2_become_23 (by decide) ?_
      refine g_iast C (sh_I1 hk) dX2_become_24 h (fun m6 h => ?_)
      refine g_iinc (lv' := [(0, .ref (ad k))]) C dX2_become_25 (q := 1) rfl (by decide) h rfl (fun _ => rfl) (fun x3_7 h => ?_)
      refine g_goto (tgt := 12) C dX2_become_28 (by decide) ?_
      exact g_sub [1, 0] rfl (ih _ _ h)

def rmX5_sheet : Room := { frames := 1, cells := 0, slots := 0, locals := 23 }
set_option maxRecDepth 100000 in
set_option maxHeartbeats 4000000 in
theorem c_X5_sheet (l : Launch) {F : Nat}  {a0 : Int32} {a1 : Int32} {a2 : Int32}  {m : MM} {m' : MM} {r : Int32} (h : f_X5_sheet F a0 a1 a2 m = some (r, m')) : CT l yX5_sheet cX5_sheet 4 (some .int) rmX5_sheet cfC 73 (fun ad tb => [.ref (ad 0), .int a0, .int a1, .int a2]) m (some (.int r)) m' := by
  refine CT.of (cc := cX5_sheet) (maxL := 4) (ret := (some .int)) (by decide) ⟨rfl, rfl⟩ (fun _ _ => Nat.le_of_ble_eq_true rfl) ?_
  intro p e s mt args below meth c D cA ad tb C hr hlk
  refine g_lv (lv' := [(0, .ref (ad 0)), (1, .int a0), (2, .int a1), (3, .int a2)]) rfl ?_
  have hcl5 : ∀ w ∈ wsX50, w.before args s = true := fun w hw => C.2.2.2.2.1 w (inlX5 w hw)
  unfold f_X5_sheet at h
  refine g_iload_n C dX5_sheet_0 rfl 1 rfl ?_
  refine g_iconst (v := (4 : Int32)) C dX5_sheet_1 (by decide) ?_
  obtain ⟨r1, hX2, h⟩ := bd1_inv h
  refine g_callS C (c_X5_within l hX2) (cwSw 2 C.2.2.2.2.1 wl_518 wl_519 wl_109 wl_520 rfl rfl (by decide +kernel) ⟨Nat.le_of_ble_eq_true rfl, Nat.le_of_ble_eq_true rfl⟩) rfl rfl rfl (Nat.le_of_ble_eq_true rfl) dX5_sheet_2 ?_
  refine g_if_eq (tgt := 18) C dX5_sheet_5 (by decide) h (fun h => ?_) (fun h => ?_)
  · refine g_bipush (v := (-2 : Int32)) C dX5_sheet_18 (by decide) ?_
    obtain ⟨rfl, rfl⟩ := sp_inj h
    exact g_iret C hr hlk dX5_sheet_20 rfl
  · refine g_iload_n C dX5_sheet_8 rfl 2 rfl ?_
    refine g_iconst (v := (-1 : Int32)) C dX5_sheet_9 (by decide) ?_
    refine g_icmp_lt (tgt := 18) C dX5_sheet_10 (by decide) h (fun h => ?_) (fun h => ?_)
    · refine g_bipush (v := (-2 : Int32)) C dX5_sheet_18 (by decide) ?_
      obtain ⟨rfl, rfl⟩ := sp_inj h
      exact g_iret C hr hlk dX5_sheet_20 rfl
    · refine g_iload_n C dX5_sheet_13 rfl 2 rfl ?_
      refine g_iconst (v := (3 : Int32)) C dX5_sheet_14 (by decide) ?_
      refine g_icmp_lt (tgt := 21) C dX5_sheet_15 (by decide) h (fun h => ?_) (fun h => ?_)
      · refine g_iload_n C dX5_sheet_21 rfl 2 rfl ?_
        refine g_iconst (v := (-1 : Int32)) C dX5_sheet_22 (by decide) ?_
        refine g_icmp_ne (tgt := 39) C dX5_sheet_23 (by decide) h (fun h => ?_) (fun h => ?_)
        · refine g_aload_n C dX5_sheet_26 rfl 0 rfl ?_
          refine g_get C (T := TX5) hcl5 cO_0 rfl (j := 6) (by decide) wl_488 (v := .ref (ad 63)) rfl dX5_sheet_27 ?_
          refine g_iload_n C dX5_sheet_30 rfl 1 rfl ?_
          refine g_aald C cQ_63 (fun _ => rfl) dX5_sheet_31 h (fun hb3 h => ?_)
          refine g_iconst (v := (-1 : Int32)) C dX5_sheet_32 (by decide) ?_
          refine g_iconst (v := (0 : Int32)) C dX5_sheet_33 (by decide) ?_
          obtain ⟨m5, hX4, h⟩ := bd1_inv h
          refine g_callV C (c_X2_become l (sh_ix hb3) hX4) (cwVw 2 C.2.2.2.2.1 wl_878 wl_879 wl_880 wl_114 wl_881 rfl rfl (by decide +kernel) ⟨Nat.le_of_ble_eq_true rfl, Nat.le_of_ble_eq_true rfl⟩) (sh_O (sh_ix hb3)) rfl rfl rfl rfl (Nat.le_of_ble_eq_true rfl) dX5_sheet_34 ?_
          refine g_iconst (v := (1 : Int32)) C dX5_sheet_37 (by decide) ?_
          obtain ⟨rfl, rfl⟩ := sp_inj h
          exact g_iret C hr hlk dX5_sheet_38 rfl
        · refine g_iload_n C dX5_sheet_39 rfl 3 rfl ?_
          refine g_bipush (v := (40 : Int32)) C dX5_sheet_40 (by decide) ?_
          refine g_icmp_le (tgt := 48) C dX5_sheet_42 (by decide) h (fun h => ?_) (fun h => ?_)
          · refine g_iload_n C dX5_sheet_48 rfl 3 rfl ?_
            refine g_if_ge (tgt := 55) C dX5_sheet_49 (by decide) h (fun h => ?_) (fun h => ?_)
            · refine g_aload_n C dX5_sheet_55 rfl 0 rfl ?_
              refine g_get C (T := TX5) hcl5 cO_0 rfl (j := 6) (by decide) wl_488 (v := .ref (ad 63)) rfl dX5_sheet_56 ?_
              refine g_iload_n C dX5_sheet_59 rfl 1 rfl ?_
              refine g_aald C cQ_63 (fun _ => rfl) dX5_sheet_60 h (fun hb6 h => ?_)
              refine g_iload_n C dX5_sheet_61 rfl 2 rfl ?_
              refine g_iload_n C dX5_sheet_62 rfl 3 rfl ?_
              obtain ⟨m8, hX7, h⟩ := bd1_inv h
              refine g_callV C (c_X2_become l (sh_ix hb6) hX7) (cwVw 2 C.2.2.2.2.1 wl_878 wl_879 wl_880 wl_114 wl_881 rfl rfl (by decide +kernel) ⟨Nat.le_of_ble_eq_true rfl, Nat.le_of_ble_eq_true rfl⟩) (sh_O (sh_ix hb6)) rfl rfl rfl rfl (Nat.le_of_ble_eq_true rfl) dX5_sheet_63 ?_
              refine g_iconst (v := (1 : Int32)) C dX5_sheet_66 (by decide) ?_
              obtain ⟨rfl, rfl⟩ := sp_inj h
              exact g_iret C hr hlk dX5_sheet_67 rfl
            · refine g_bipush (v := (-14 : Int32)) C dX5_sheet_52 (by decide) ?_
              obtain ⟨rfl, rfl⟩ := sp_inj h
              exact g_iret C hr hlk dX5_sheet_54 rfl
          · refine g_bipush (v := (-2 : Int32)) C dX5_sheet_45 (by decide) ?_
            obtain ⟨rfl, rfl⟩ := sp_inj h
            exact g_iret C hr hlk dX5_sheet_47 rfl
      · refine g_bipush (v := (-2 : Int32)) C dX5_sheet_18 (by decide) ?_
        obtain ⟨rfl, rfl⟩ := sp_inj h
        exact g_iret C hr hlk dX5_sheet_20 rfl

def rmX2_put : Room := { frames := 0, cells := 0, slots := 0, locals := 0 }
set_option maxRecDepth 100000 in
set_option maxHeartbeats 4000000 in
theorem c_X2_put (l : Launch)  {k : Nat} {a0 : Int32} {a1 : Int32} (hk : isSh k) {m : MM} {m' : MM} (h : f_X2_put k a0 a1 m = some m') : CT l yX2_put cX2_put 3 none rmX2_put cfC 73 (fun ad tb => [.ref (ad k), .int a0, .int a1]) m none m' := by
  refine CT.of (cc := cX2_put) (maxL := 3) (ret := none) (by decide) ⟨rfl, rfl⟩ (fun _ _ => Nat.le_of_ble_eq_true rfl) ?_
  intro p e s mt args below meth c D cA ad tb C hr hlk
  refine g_lv (lv' := [(0, .ref (ad k)), (1, .int a0), (2, .int a1)]) rfl ?_
  have hcl2 : ∀ w ∈ wsX20, w.before args s = true := fun w hw => C.2.2.2.2.1 w (inlX2 w hw)
  unfold f_X2_put at h
  refine g_aload_n C dX2_put_0 rfl 0 rfl ?_
  refine g_get C (T := TX2) hcl2 (sh_O hk) rfl (j := 1) (by decide) wl_302 (v := .int (rI m k 1)) rfl dX2_put_1 ?_
  refine g_if_ne (tgt := 18) C dX2_put_4 (by decide) h (fun h => ?_) (fun h => ?_)
  · refine g_aload_n C dX2_put_7 rfl 0 rfl ?_
    refine g_get C (T := TX2) hcl2 (sh_O hk) rfl (j := 0) (by decide) wl_300 (v := .ref (ad (k + 1))) rfl dX2_put_8 ?_
    refine g_iload_n C dX2_put_11 rfl 1 rfl ?_
    refine g_iload_n C dX2_put_12 rfl 2 rfl ?_
    refine g_i2b C dX2_put_13 ?_
    refine g_iast C (sh_I1 hk) dX2_put_14 h (fun m1 h => ?_)
    refine g_goto (tgt := 44) C dX2_put_15 (by decide) ?_
    obtain rfl := so_inj h
    exact g_vret C hr hlk dX2_put_44 rfl
  · refine g_aload_n C dX2_put_18 rfl 0 rfl ?_
    refine g_get C (T := TX2) hcl2 (sh_O hk) rfl (j := 1) (by decide) wl_302 (v := .int (rI m k 1)) rfl dX2_put_19 ?_
    refine g_iconst (v := (1 : Int32)) C dX2_put_22 (by decide) ?_
    refine g_icmp_ne (tgt := 37) C dX2_put_23 (by decide) h (fun h => ?_) (fun h => ?_)
    · refine g_aload_n C dX2_put_26 rfl 0 rfl ?_
      refine g_get C (T := TX2) hcl2 (sh_O hk) rfl (j := 0) (by decide) wl_300 (v := .ref (ad (k + 1))) rfl dX2_put_27 ?_
      refine g_iload_n C dX2_put_30 rfl 1 rfl ?_
      refine g_iload_n C dX2_put_31 rfl 2 rfl ?_
      refine g_i2s C dX2_put_32 ?_
      refine g_iast C (sh_I1 hk) dX2_put_33 h (fun m2 h => ?_)
      refine g_goto (tgt := 44) C dX2_put_34 (by decide) ?_
      obtain rfl := so_inj h
      exact g_vret C hr hlk dX2_put_44 rfl
    · refine g_aload_n C dX2_put_37 rfl 0 rfl ?_
      refine g_get C (T := TX2) hcl2 (sh_O hk) rfl (j := 0) (by decide) wl_300 (v := .ref (ad (k + 1))) rfl dX2_put_38 ?_
      refine g_iload_n C dX2_put_41 rfl 1 rfl ?_
      refine g_iload_n C dX2_put_42 rfl 2 rfl ?_
      refine g_iast C (sh_I1 hk) dX2_put_43 h (fun m3 h => ?_)
      obtain rfl := so_inj h
      exact g_vret C hr hlk dX2_put_44 rfl

def rmX5_cell : Room := { frames := 1, cells := 0, slots := 0, locals := 22 }
set_option maxRecDepth 100000 in
set_option maxHeartbeats 4000000 in
theorem c_X5_cell (l : Launch)  {a0 : Int32} {a1 : Int32} {a2 : Int32}  {m : MM} {m' : MM} {r : Int32} (h : f_X5_cell a0 a1 a2 m = some (r, m')) : CT l yX5_cell cX5_cell 5 (some .int) rmX5_cell cfC 73 (fun ad tb => [.ref (ad 0), .int a0, .int a1, .int a2]) m (some (.int r)) m' := by
  refine CT.of (cc := cX5_cell) (maxL := 5) (ret := (some .int)) (by decide) ⟨rfl, rfl⟩ (fun _ _ => Nat.le_of_ble_eq_true rfl) ?_
  intro p e s mt args below meth c D cA ad tb C hr hlk
  refine g_lv (lv' := [(0, .ref (ad 0)), (1, .int a0), (2, .int a1), (3, .int a2)]) rfl ?_
  have hcl2 : ∀ w ∈ wsX20, w.before args s = true := fun w hw => C.2.2.2.2.1 w (inlX2 w hw)
  have hcl5 : ∀ w ∈ wsX50, w.before args s = true := fun w hw => C.2.2.2.2.1 w (inlX5 w hw)
  unfold f_X5_cell at h
  refine g_iload_n C dX5_cell_0 rfl 1 rfl ?_
  refine g_iconst (v := (4 : Int32)) C dX5_cell_1 (by decide) ?_
  obtain ⟨r1, hX2, h⟩ := bd1_inv h
  refine g_callS C (c_X5_within l hX2) (cwSw 2 C.2.2.2.2.1 wl_518 wl_519 wl_109 wl_520 rfl rfl (by decide +kernel) ⟨Nat.le_of_ble_eq_true rfl, Nat.le_of_ble_eq_true rfl⟩) rfl rfl rfl (Nat.le_of_ble_eq_true rfl) dX5_cell_2 ?_
  refine g_if_ne (tgt := 11) C dX5_cell_5 (by decide) h (fun h => ?_) (fun h => ?_)
  · refine g_bipush (v := (-2 : Int32)) C dX5_cell_8 (by decide) ?_
    obtain ⟨rfl, rfl⟩ := sp_inj h
    exact g_iret C hr hlk dX5_cell_10 rfl
  · refine g_aload_n C dX5_cell_11 rfl 0 rfl ?_
    refine g_get C (T := TX5) hcl5 cO_0 rfl (j := 6) (by decide) wl_488 (v := .ref (ad 63)) rfl dX5_cell_12 ?_
    refine g_iload_n C dX5_cell_15 rfl 1 rfl ?_
    refine g_aald C cQ_63 (fun _ => rfl) dX5_cell_16 h (fun hb3 h => ?_)
    refine g_astore (lv' := [(4, .ref (ad (64 + 2 * ix a0))), (0, .ref (ad 0)), (1, .int a0), (2, .int a1), (3, .int a2)]) C dX5_cell_17 (by decide) rfl ?_
    refine g_aload C dX5_cell_19 0 rfl ?_
    obtain ⟨r4, hX5, h⟩ := bd1_inv h
    refine g_callV C (c_X2_isMissing l (sh_ix hb3) hX5) (cwVw 0 C.2.2.2.2.1 wl_803 wl_804 wl_805 wl_114 wl_806 rfl rfl (by decide +kernel) ⟨Nat.le_of_ble_eq_true rfl, Nat.le_of_ble_eq_true rfl⟩) (sh_O (sh_ix hb3)) rfl rfl rfl rfl (Nat.le_of_ble_eq_true rfl) dX5_cell_21 ?_
    refine g_if_eq (tgt := 30) C dX5_cell_24 (by decide) h (fun h => ?_) (fun h => ?_)
    · refine g_iload_n C dX5_cell_30 rfl 3 rfl ?_
      refine g_aload C dX5_cell_31 0 rfl ?_
      refine g_get C (T := TX2) hcl2 (sh_O (sh_ix hb3)) rfl (j := 2) (by decide) wl_305 (v := .int (rI m (64 + 2 * ix a0) 2)) rfl dX5_cell_33 ?_
      obtain ⟨r6, hX7, h⟩ := bd1_inv h
      refine g_callS C (c_X5_within l hX7) (cwSw 2 C.2.2.2.2.1 wl_518 wl_519 wl_109 wl_520 rfl rfl (by decide +kernel) ⟨Nat.le_of_ble_eq_true rfl, Nat.le_of_ble_eq_true rfl⟩) rfl rfl rfl (Nat.le_of_ble_eq_true rfl) dX5_cell_36 ?_
      refine g_if_ne (tgt := 45) C dX5_cell_39 (by decide) h (fun h => ?_) (fun h => ?_)
      · refine g_bipush (v := (-12 : Int32)) C dX5_cell_42 (by decide) ?_
        obtain ⟨rfl, rfl⟩ := sp_inj h
        exact g_iret C hr hlk dX5_cell_44 rfl
      · refine g_aload C dX5_cell_45 0 rfl ?_
        refine g_iload_n C dX5_cell_47 rfl 3 rfl ?_
        refine g_iload_n C dX5_cell_48 rfl 4 rfl ?_
        obtain ⟨m9, hX8, h⟩ := bd1_inv h
        refine g_callV C (c_X2_put l (sh_ix hb3) hX8) (cwVw 2 C.2.2.2.2.1 wl_886 wl_887 wl_888 wl_114 wl_889 rfl rfl (by decide +kernel) ⟨Nat.le_of_ble_eq_true rfl, Nat.le_of_ble_eq_true rfl⟩) (sh_O (sh_ix hb3)) rfl rfl rfl rfl (Nat.le_of_ble_eq_true rfl) dX5_cell_49 ?_
        refine g_iconst (v := (1 : Int32)) C dX5_cell_52 (by decide) ?_
        obtain ⟨rfl, rfl⟩ := sp_inj h
        exact g_iret C hr hlk dX5_cell_53 rfl
    · refine g_bipush (v := (-11 : Int32)) C dX5_cell_27 (by decide) ?_
      obtain ⟨rfl, rfl⟩ := sp_inj h
      exact g_iret C hr hlk dX5_cell_29 rfl

def rmX2_hasPart : Room := { frames := 0, cells := 0, slots := 0, locals := 0 }
set_option maxRecDepth 100000 in
set_option maxHeartbeats 4000000 in
theorem c_X2_hasPart (l : Launch)  {k : Nat} {a0 : Int32} {a1 : Int32} (hk : isSh k) {m : MM} {r : Int32} (h : f_X2_hasPart k a0 a1 m = some r) : CT l yX2_hasPart cX2_hasPart 3 (some .boolean) rmX2_hasPart cfC 73 (fun ad tb => [.ref (ad k), .int a0, .int a1]) m (some (.int r)) m := by
  refine CT.of (cc := cX2_hasPart) (maxL := 3) (ret := (some .boolean)) (by decide) ⟨rfl, rfl⟩ (fun _ _ => Nat.le_of_ble_eq_true rfl) ?_
  intro p e s mt args below meth c D cA ad tb C hr hlk
  refine g_lv (lv' := [(0, .ref (ad k)), (1, .int a0), (2, .int a1)]) rfl ?_
  have hcl2 : ∀ w ∈ wsX20, w.before args s = true := fun w hw => C.2.2.2.2.1 w (inlX2 w hw)
  unfold f_X2_hasPart at h
  refine g_iload_n C dX2_hasPart_0 rfl 1 rfl ?_
  refine g_if_lt (tgt := 30) C dX2_hasPart_1 (by decide) h (fun h => ?_) (fun h => ?_)
  · refine g_iconst (v := (0 : Int32)) C dX2_hasPart_30 (by decide) ?_
    obtain rfl := so_inj h
    exact g_zret C hr hlk dX2_hasPart_31 rfl rfl
  · refine g_iload_n C dX2_hasPart_4 rfl 2 rfl ?_
    refine g_if_lt (tgt := 30) C dX2_hasPart_5 (by decide) h (fun h => ?_) (fun h => ?_)
    · refine g_iconst (v := (0 : Int32)) C dX2_hasPart_30 (by decide) ?_
      obtain rfl := so_inj h
      exact g_zret C hr hlk dX2_hasPart_31 rfl rfl
    · refine g_iload_n C dX2_hasPart_8 rfl 2 rfl ?_
      refine g_aload_n C dX2_hasPart_9 rfl 0 rfl ?_
      refine g_get C (T := TX2) hcl2 (sh_O hk) rfl (j := 2) (by decide) wl_304 (v := .int (rI m k 2)) rfl dX2_hasPart_10 ?_
      refine g_icmp_gt (tgt := 30) C dX2_hasPart_13 (by decide) h (fun h => ?_) (fun h => ?_)
      · refine g_iconst (v := (0 : Int32)) C dX2_hasPart_30 (by decide) ?_
        obtain rfl := so_inj h
        exact g_zret C hr hlk dX2_hasPart_31 rfl rfl
      · refine g_iload_n C dX2_hasPart_16 rfl 1 rfl ?_
        refine g_aload_n C dX2_hasPart_17 rfl 0 rfl ?_
        refine g_get C (T := TX2) hcl2 (sh_O hk) rfl (j := 2) (by decide) wl_304 (v := .int (rI m k 2)) rfl dX2_hasPart_18 ?_
        refine g_iload_n C dX2_hasPart_21 rfl 2 rfl ?_
        refine g_isub C dX2_hasPart_22 ?_
        refine g_icmp_gt (tgt := 30) C dX2_hasPart_23 (by decide) h (fun h => ?_) (fun h => ?_)
        · refine g_iconst (v := (0 : Int32)) C dX2_hasPart_30 (by decide) ?_
          obtain rfl := so_inj h
          exact g_zret C hr hlk dX2_hasPart_31 rfl rfl
        · refine g_iconst (v := (1 : Int32)) C dX2_hasPart_26 (by decide) ?_
          refine g_goto (tgt := 31) C dX2_hasPart_27 (by decide) ?_
          obtain rfl := so_inj h
          exact g_zret C hr hlk dX2_hasPart_31 rfl rfl

def rmX5_copy : Room := { frames := 1, cells := 0, slots := 0, locals := 60 }
set_option maxRecDepth 100000 in
set_option maxHeartbeats 4000000 in
theorem c_X5_copy (l : Launch)  {a0 : Int32} {a1 : Int32} {a2 : Int32} {a3 : Int32} {a4 : Int32}  {m : MM} {m' : MM} {r : Int32} (h : f_X5_copy a0 a1 a2 a3 a4 m = some (r, m')) : CT l yX5_copy cX5_copy 8 (some .int) rmX5_copy cfC 73 (fun ad tb => [.ref (ad 0), .int a0, .int a1, .int a2, .int a3, .int a4]) m (some (.int r)) m' := by
  refine CT.of (cc := cX5_copy) (maxL := 8) (ret := (some .int)) (by decide) ⟨rfl, rfl⟩ (fun _ _ => Nat.le_of_ble_eq_true rfl) ?_
  intro p e s mt args below meth c D cA ad tb C hr hlk
  refine g_lv (lv' := [(0, .ref (ad 0)), (1, .int a0), (2, .int a1), (3, .int a2), (4, .int a3), (5, .int a4)]) rfl ?_
  have hcl2 : ∀ w ∈ wsX20, w.before args s = true := fun w hw => C.2.2.2.2.1 w (inlX2 w hw)
  have hcl5 : ∀ w ∈ wsX50, w.before args s = true := fun w hw => C.2.2.2.2.1 w (inlX5 w hw)
  unfold f_X5_copy at h
  refine g_iload_n C dX5_copy_0 rfl 1 rfl ?_
  refine g_iconst (v := (4 : Int32)) C dX5_copy_1 (by decide) ?_
  obtain ⟨r1, hX2, h⟩ := bd1_inv h
  refine g_callS C (c_X5_within l hX2) (cwSw 2 C.2.2.2.2.1 wl_518 wl_519 wl_109 wl_520 rfl rfl (by decide +kernel) ⟨Nat.le_of_ble_eq_true rfl, Nat.le_of_ble_eq_true rfl⟩) rfl rfl rfl (Nat.le_of_ble_eq_true rfl) dX5_copy_2 ?_
  refine g_if_eq (tgt := 16) C dX5_copy_5 (by decide) h (fun h => ?_) (fun h => ?_)
  · refine g_bipush (v := (-2 : Int32)) C dX5_copy_16 (by decide) ?_
    obtain ⟨rfl, rfl⟩ := sp_inj h
    exact g_iret C hr hlk dX5_copy_18 rfl
  · refine g_iload_n C dX5_copy_8 rfl 3 rfl ?_
    refine g_iconst (v := (4 : Int32)) C dX5_copy_9 (by decide) ?_
    obtain ⟨r3, hX4, h⟩ := bd1_inv h
    refine g_callS C (c_X5_within l hX4) (cwSw 2 C.2.2.2.2.1 wl_518 wl_519 wl_109 wl_520 rfl rfl (by decide +kernel) ⟨Nat.le_of_ble_eq_true rfl, Nat.le_of_ble_eq_true rfl⟩) rfl rfl rfl (Nat.le_of_ble_eq_true rfl) dX5_copy_10 ?_
    refine g_if_ne (tgt := 19) C dX5_copy_13 (by decide) h (fun h => ?_) (fun h => ?_)
    · refine g_bipush (v := (-2 : Int32)) C dX5_copy_16 (by decide) ?_
      obtain ⟨rfl, rfl⟩ := sp_inj h
      exact g_iret C hr hlk dX5_copy_18 rfl
    · refine g_aload_n C dX5_copy_19 rfl 0 rfl ?_
      refine g_get C (T := TX5) hcl5 cO_0 rfl (j := 6) (by decide) wl_488 (v := .ref (ad 63)) rfl dX5_copy_20 ?_
      refine g_iload_n C dX5_copy_23 rfl 1 rfl ?_
      refine g_aald C cQ_63 (fun _ => rfl) dX5_copy_24 h (fun hb5 h => ?_)
      refine g_astore (lv' := [(6, .ref (ad (64 + 2 * ix a0))), (0, .ref (ad 0)), (1, .int a0), (2, .int a1), (3, .int a2), (4, .int a3), (5, .int a4)]) C dX5_copy_25 (by decide) rfl ?_
      refine g_aload_n C dX5_copy_27 rfl 1 rfl ?_
      refine g_get C (T := TX5) hcl5 cO_0 rfl (j := 6) (by decide) wl_488 (v := .ref (ad 63)) rfl dX5_copy_28 ?_
      refine g_iload_n C dX5_copy_31 rfl 4 rfl ?_
      refine g_aald C cQ_63 (fun _ => rfl) dX5_copy_32 h (fun hb6 h => ?_)
      refine g_astore (lv' := [(7, .ref (ad (64 + 2 * ix a2))), (6, .ref (ad (64 + 2 * ix a0))), (0, .ref (ad 0)), (1, .int a0), (2, .int a1), (3, .int a2), (4, .int a3), (5, .int a4)]) C dX5_copy_33 (by decide) rfl ?_
      refine g_aload C dX5_copy_35 1 rfl ?_
      obtain ⟨r7, hX8, h⟩ := bd1_inv h
      refine g_callV C (c_X2_isMissing l (sh_ix hb5) hX8) (cwVw 0 C.2.2.2.2.1 wl_803 wl_804 wl_805 wl_114 wl_806 rfl rfl (by decide +kernel) ⟨Nat.le_of_ble_eq_true rfl, Nat.le_of_ble_eq_true rfl⟩) (sh_O (sh_ix hb5)) rfl rfl rfl rfl (Nat.le_of_ble_eq_true rfl) dX5_copy_37 ?_
      refine g_if_ne (tgt := 51) C dX5_copy_40 (by decide) h (fun h => ?_) (fun h => ?_)
      · refine g_aload C dX5_copy_43 0 rfl ?_
        obtain ⟨r9, hX10, h⟩ := bd1_inv h
        refine g_callV C (c_X2_isMissing l (sh_ix hb6) hX10) (cwVw 0 C.2.2.2.2.1 wl_803 wl_804 wl_805 wl_114 wl_806 rfl rfl (by decide +kernel) ⟨Nat.le_of_ble_eq_true rfl, Nat.le_of_ble_eq_true rfl⟩) (sh_O (sh_ix hb6)) rfl rfl rfl rfl (Nat.le_of_ble_eq_true rfl) dX5_copy_45 ?_
        refine g_if_eq (tgt := 54) C dX5_copy_48 (by decide) h (fun h => ?_) (fun h => ?_)
        · refine g_aload C dX5_copy_54 1 rfl ?_
          refine g_get C (T := TX2) hcl2 (sh_O (sh_ix hb5)) rfl (j := 1) (by decide) wl_303 (v := .int (rI m (64 + 2 * ix a0) 1)) rfl dX5_copy_56 ?_
          refine g_aload C dX5_copy_59 0 rfl ?_
          refine g_get C (T := TX2) hcl2 (sh_O (sh_ix hb6)) rfl (j := 1) (by decide) wl_303 (v := .int (rI m (64 + 2 * ix a2) 1)) rfl dX5_copy_61 ?_
          refine g_icmp_eq (tgt := 70) C dX5_copy_64 (by decide) h (fun h => ?_) (fun h => ?_)
          · refine g_aload C dX5_copy_70 1 rfl ?_
            refine g_iload_n C dX5_copy_72 rfl 4 rfl ?_
            refine g_iload C dX5_copy_73 7 rfl ?_
            obtain ⟨r11, hX12, h⟩ := bd1_inv h
            refine g_callV C (c_X2_hasPart l (sh_ix hb5) hX12) (cwVw 2 C.2.2.2.2.1 wl_894 wl_895 wl_896 wl_114 wl_897 rfl rfl (by decide +kernel) ⟨Nat.le_of_ble_eq_true rfl, Nat.le_of_ble_eq_true rfl⟩) (sh_O (sh_ix hb5)) rfl rfl rfl rfl (Nat.le_of_ble_eq_true rfl) dX5_copy_75 ?_
            refine g_if_eq (tgt := 93) C dX5_copy_78 (by decide) h (fun h => ?_) (fun h => ?_)
            · refine g_bipush (v := (-12 : Int32)) C dX5_copy_93 (by decide) ?_
              obtain ⟨rfl, rfl⟩ := sp_inj h
              exact g_iret C hr hlk dX5_copy_95 rfl
            · refine g_aload C dX5_copy_81 0 rfl ?_
              refine g_iload C dX5_copy_83 6 rfl ?_
              refine g_iload C dX5_copy_85 7 rfl ?_
              obtain ⟨r13, hX14, h⟩ := bd1_inv h
              refine g_callV C (c_X2_hasPart l (sh_ix hb6) hX14) (cwVw 2 C.2.2.2.2.1 wl_894 wl_895 wl_896 wl_114 wl_897 rfl rfl (by decide +kernel) ⟨Nat.le_of_ble_eq_true rfl, Nat.le_of_ble_eq_true rfl⟩) (sh_O (sh_ix hb6)) rfl rfl rfl rfl (Nat.le_of_ble_eq_true rfl) dX5_copy_87 ?_
              refine g_if_ne (tgt := 96) C dX5_copy_90 (by decide) h (fun h => ?_) (fun h => ?_)
              · refine g_bipush (v := (-12 : Int32)) C dX5_copy_93 (by decide) ?_
                obtain ⟨rfl, rfl⟩ := sp_inj h
                exact g_iret C hr hlk dX5_copy_95 rfl
              · refine g_aload C dX5_copy_96 1 rfl ?_
                refine g_get C (T := TX2) hcl2 (sh_O (sh_ix hb5)) rfl (j := 0) (by decide) wl_301 (v := .ref (ad ((64 + 2 * ix a0) + 1))) rfl dX5_copy_98 ?_
                refine g_iload_n C dX5_copy_101 rfl 4 rfl ?_
                refine g_aload C dX5_copy_102 0 rfl ?_
                refine g_get C (T := TX2) hcl2 (sh_O (sh_ix hb6)) rfl (j := 0) (by decide) wl_301 (v := .ref (ad ((64 + 2 * ix a2) + 1))) rfl dX5_copy_104 ?_
                refine g_iload C dX5_copy_107 6 rfl ?_
                refine g_iload C dX5_copy_109 7 rfl ?_
                refine g_copy C (sh_I1 (sh_ix hb5)) (sh_I1 (sh_ix hb6)) wl_898 wl_695 wl_694 wl_122 ⟨Nat.le_of_ble_eq_true rfl, Nat.le_of_ble_eq_true rfl⟩ (Nat.le_of_ble_eq_true rfl) dX5_copy_111 h (fun m15 h => ?_)
                refine g_iload C dX5_copy_114 7 rfl ?_
                obtain ⟨rfl, rfl⟩ := sp_inj h
                exact g_iret C hr hlk dX5_copy_116 rfl
          · refine g_bipush (v := (-13 : Int32)) C dX5_copy_67 (by decide) ?_
            obtain ⟨rfl, rfl⟩ := sp_inj h
            exact g_iret C hr hlk dX5_copy_69 rfl
        · refine g_bipush (v := (-11 : Int32)) C dX5_copy_51 (by decide) ?_
          obtain ⟨rfl, rfl⟩ := sp_inj h
          exact g_iret C hr hlk dX5_copy_53 rfl
      · refine g_bipush (v := (-11 : Int32)) C dX5_copy_51 (by decide) ?_
        obtain ⟨rfl, rfl⟩ := sp_inj h
        exact g_iret C hr hlk dX5_copy_53 rfl

def rmX5_things : Room := { frames := 3, cells := 0, slots := 0, locals := 67 }
set_option maxRecDepth 100000 in
set_option maxHeartbeats 4000000 in
theorem c_X5_things (l : Launch) {F : Nat}  {a0 : Int32} {a1 : Int32} {a2 : Int32} {a3 : Int32}  {m : MM} {m' : MM} {r : Int32} (h : f_X5_things F a0 a1 a2 a3 m = some (r, m')) : CT l yX5_things cX5_things 8 (some .int) rmX5_things cfC 73 (fun ad tb => [.ref (ad 0), .int a0, .int a1, .int a2, .int a3]) m (some (.int r)) m' := by
  refine CT.of (cc := cX5_things) (maxL := 8) (ret := (some .int)) (by decide) ⟨rfl, rfl⟩ (fun _ _ => Nat.le_of_ble_eq_true rfl) ?_
  intro p e s mt args below meth c D cA ad tb C hr hlk
  refine g_lv (lv' := [(0, .ref (ad 0)), (1, .int a0), (2, .int a1), (3, .int a2), (4, .int a3)]) rfl ?_
  have hcl2 : ∀ w ∈ wsX20, w.before args s = true := fun w hw => C.2.2.2.2.1 w (inlX2 w hw)
  have hcl5 : ∀ w ∈ wsX50, w.before args s = true := fun w hw => C.2.2.2.2.1 w (inlX5 w hw)
  unfold f_X5_things at h
  refine g_iload_n C dX5_things_0 rfl 1 rfl ?_
  refine g_iconst (v := (4 : Int32)) C dX5_things_1 (by decide) ?_
  obtain ⟨r1, hX2, h⟩ := bd1_inv h
  refine g_callS C (c_X5_within l hX2) (cwSw 2 C.2.2.2.2.1 wl_518 wl_519 wl_109 wl_520 rfl rfl (by decide +kernel) ⟨Nat.le_of_ble_eq_true rfl, Nat.le_of_ble_eq_true rfl⟩) rfl rfl rfl (Nat.le_of_ble_eq_true rfl) dX5_things_2 ?_
  refine g_if_eq (tgt := 27) C dX5_things_5 (by decide) h (fun h => ?_) (fun h => ?_)
  · refine g_bipush (v := (-2 : Int32)) C dX5_things_27 (by decide) ?_
    obtain ⟨rfl, rfl⟩ := sp_inj h
    exact g_iret C hr hlk dX5_things_29 rfl
  · refine g_iload_n C dX5_things_8 rfl 2 rfl ?_
    refine g_iconst (v := (3 : Int32)) C dX5_things_9 (by decide) ?_
    obtain ⟨r3, hX4, h⟩ := bd1_inv h
    refine g_callS C (c_X5_within l hX4) (cwSw 2 C.2.2.2.2.1 wl_518 wl_519 wl_109 wl_520 rfl rfl (by decide +kernel) ⟨Nat.le_of_ble_eq_true rfl, Nat.le_of_ble_eq_true rfl⟩) rfl rfl rfl (Nat.le_of_ble_eq_true rfl) dX5_things_10 ?_
    refine g_if_eq (tgt := 27) C dX5_things_13 (by decide) h (fun h => ?_) (fun h => ?_)
    · refine g_bipush (v := (-2 : Int32)) C dX5_things_27 (by decide) ?_
      obtain ⟨rfl, rfl⟩ := sp_inj h
      exact g_iret C hr hlk dX5_things_29 rfl
    · refine g_iload C dX5_things_16 4 rfl ?_
      refine g_if_lt (tgt := 27) C dX5_things_18 (by decide) h (fun h => ?_) (fun h => ?_)
      · refine g_bipush (v := (-2 : Int32)) C dX5_things_27 (by decide) ?_
        obtain ⟨rfl, rfl⟩ := sp_inj h
        exact g_iret C hr hlk dX5_things_29 rfl
      · refine g_iload C dX5_things_21 4 rfl ?_
        refine g_iconst (v := (5 : Int32)) C dX5_things_23 (by decide) ?_
        refine g_icmp_le (tgt := 30) C dX5_things_24 (by decide) h (fun h => ?_) (fun h => ?_)
        · refine g_aload_n C dX5_things_30 rfl 0 rfl ?_
          refine g_get C (T := TX5) hcl5 cO_0 rfl (j := 6) (by decide) wl_488 (v := .ref (ad 63)) rfl dX5_things_31 ?_
          refine g_iload_n C dX5_things_34 rfl 1 rfl ?_
          refine g_aald C cQ_63 (fun _ => rfl) dX5_things_35 h (fun hb5 h => ?_)
          refine g_astore (lv' := [(5, .ref (ad (64 + 2 * ix a0))), (0, .ref (ad 0)), (1, .int a0), (2, .int a1), (3, .int a2), (4, .int a3)]) C dX5_things_36 (by decide) rfl ?_
          refine g_aload C dX5_things_38 0 rfl ?_
          obtain ⟨r6, hX7, h⟩ := bd1_inv h
          refine g_callV C (c_X2_isMissing l (sh_ix hb5) hX7) (cwVw 0 C.2.2.2.2.1 wl_803 wl_804 wl_805 wl_114 wl_806 rfl rfl (by decide +kernel) ⟨Nat.le_of_ble_eq_true rfl, Nat.le_of_ble_eq_true rfl⟩) (sh_O (sh_ix hb5)) rfl rfl rfl rfl (Nat.le_of_ble_eq_true rfl) dX5_things_40 ?_
          refine g_if_eq (tgt := 49) C dX5_things_43 (by decide) h (fun h => ?_) (fun h => ?_)
          · refine g_aload C dX5_things_49 0 rfl ?_
            refine g_get C (T := TX2) hcl2 (sh_O (sh_ix hb5)) rfl (j := 1) (by decide) wl_303 (v := .int (rI m (64 + 2 * ix a0) 1)) rfl dX5_things_51 ?_
            refine g_iload_n C dX5_things_54 rfl 3 rfl ?_
            refine g_icmp_eq (tgt := 61) C dX5_things_55 (by decide) h (fun h => ?_) (fun h => ?_)
            · refine g_iconst (v := (0 : Int32)) C dX5_things_61 (by decide) ?_
              refine g_istore (lv' := [(6, .int (0 : Int32)), (5, .ref (ad (64 + 2 * ix a0))), (0, .ref (ad 0)), (1, .int a0), (2, .int a1), (3, .int a2), (4, .int a3)]) C dX5_things_62 (by decide) rfl ?_
              refine g_iconst (v := (0 : Int32)) C dX5_things_64 (by decide) ?_
              refine g_istore (lv' := [(7, .int (0 : Int32)), (6, .int (0 : Int32)), (5, .ref (ad (64 + 2 * ix a0))), (0, .ref (ad 0)), (1, .int a0), (2, .int a1), (3, .int a2), (4, .int a3)]) C dX5_things_65 (by decide) rfl ?_
              refine g_sub [3, 6, 7, 2, 1, 0] rfl ?_
              refine g_loop_IIM (L := f_X5_things_L67 F a0 a2 a3) h 67 134 (fun x6_8 x7_9 m10 => [(0, .ref (ad 0)), (3, .int a2), (4, .int a3), (5, .ref (ad (64 + 2 * ix a0))), (6, .int x6_8), (7, .int x7_9)]) (fun x6_8 x7_9 m10 => [(6, .int x6_8)]) (fun x6_8 x7_9 m10 => []) (fun x6_8 x7_9 m10 => []) ?_ ?_ (fun _ _ _ _ => rfl)
              · intro x6_8 x7_9 m10 h
                refine g_iload C dX5_things_134 0 rfl ?_
                obtain ⟨rfl, rfl⟩ := sp_inj h
                exact g_iret C hr hlk dX5_things_136 rfl
              · intro K11 hK11 n ih x6_8 x7_9 m10 h
                rw [f_X5_things_L67] at h
                refine g_iload C dX5_things_67 5 rfl ?_
                refine g_iload C dX5_things_69 2 rfl ?_
                refine g_icmp_ge (tgt := 134) C dX5_things_71 (by decide) h (fun h => ?_) (fun h => ?_)
                · exact g_sub [4] rfl (hK11 _ _ _ h)
                · refine g_aload C dX5_things_74 3 rfl ?_
                  refine g_iload_n C dX5_things_76 rfl 1 rfl ?_
                  refine g_iconst (v := (2 : Int32)) C dX5_things_77 (by decide) ?_
                  refine g_iload C dX5_things_78 5 rfl ?_
                  refine g_imul C dX5_things_80 ?_
                  refine g_iconst (v := (2 : Int32)) C dX5_things_81 (by decide) ?_
                  refine g_iadd C dX5_things_82 ?_
                  obtain ⟨r12, hX13, h⟩ := bd1_inv h
                  refine g_callV C (c_X2_hasPart l (sh_ix hb5) hX13) (cwVw 2 C.2.2.2.2.1 wl_894 wl_895 wl_896 wl_114 wl_897 rfl rfl (by decide +kernel) ⟨Nat.le_of_ble_eq_true rfl, Nat.le_of_ble_eq_true rfl⟩) (sh_O (sh_ix hb5)) rfl rfl rfl rfl (Nat.le_of_ble_eq_true rfl) dX5_things_83 ?_
                  refine g_if_ne (tgt := 92) C dX5_things_86 (by decide) h (fun h => ?_) (fun h => ?_)
                  · refine g_bipush (v := (-12 : Int32)) C dX5_things_89 (by decide) ?_
                    obtain ⟨rfl, rfl⟩ := sp_inj h
                    exact g_iret C hr hlk dX5_things_91 rfl
                  · refine g_aload_n C dX5_things_92 rfl 0 rfl ?_
                    refine g_aload C dX5_things_93 3 rfl ?_
                    refine g_get C (T := TX2) hcl2 (sh_O (sh_ix hb5)) rfl (j := 0) (by decide) wl_301 (v := .ref (ad ((64 + 2 * ix a0) + 1))) rfl dX5_things_95 ?_
                    refine g_iload_n C dX5_things_98 rfl 1 rfl ?_
                    refine g_iconst (v := (2 : Int32)) C dX5_things_99 (by decide) ?_
                    refine g_iload C dX5_things_100 5 rfl ?_
                    refine g_imul C dX5_things_102 ?_
                    refine g_iadd C dX5_things_103 ?_
                    refine g_iald C (sh_I1 (sh_ix hb5)) dX5_things_104 h (fun h => ?_)
                    refine g_aload C dX5_things_105 3 rfl ?_
                    refine g_get C (T := TX2) hcl2 (sh_O (sh_ix hb5)) rfl (j := 0) (by decide) wl_301 (v := .ref (ad ((64 + 2 * ix a0) + 1))) rfl dX5_things_107 ?_
                    refine g_iload_n C dX5_things_110 rfl 1 rfl ?_
                    refine g_iconst (v := (2 : Int32)) C dX5_things_111 (by decide) ?_
                    refine g_iload C dX5_things_112 5 rfl ?_
                    refine g_imul C dX5_things_114 ?_
                    refine g_iadd C dX5_things_115 ?_
                    refine g_iconst (v := (1 : Int32)) C dX5_things_116 (by decide) ?_
                    refine g_iadd C dX5_things_117 ?_
                    refine g_iald C (sh_I1 (sh_ix hb5)) dX5_things_118 h (fun h => ?_)
                    obtain ⟨r14, m16, hX15, h⟩ := bd2_inv h
                    refine g_callV C (c_X5_thing l hX15) (cwVw 2 C.2.2.2.2.1 wl_903 wl_529 wl_530 wl_109 wl_531 rfl rfl (by decide +kernel) ⟨Nat.le_of_ble_eq_true rfl, Nat.le_of_ble_eq_true rfl⟩) cO_0 rfl rfl rfl rfl (Nat.le_of_ble_eq_true rfl) dX5_things_119 ?_
                    refine g_if_lt (tgt := 128) C dX5_things_122 (by decide) h (fun h => ?_) (fun h => ?_)
                    · refine g_iinc (lv' := [(0, .ref (ad 0)), (3, .int a2), (4, .int a3), (5, .ref (ad (64 + 2 * ix a0))), (6, .int x6_8)]) C dX5_things_128 (q := 5) rfl (by decide) h rfl (fun _ => rfl) (fun x7_17 h => ?_)
                      refine g_goto (tgt := 67) C dX5_things_131 (by decide) ?_
                      exact g_sub [1, 2, 3, 4, 5, 0] rfl (ih _ _ _ h)
                    · refine g_iinc (lv' := [(0, .ref (ad 0)), (3, .int a2), (4, .int a3), (5, .ref (ad (64 + 2 * ix a0))), (7, .int x7_9)]) C dX5_things_125 (q := 4) rfl (by decide) h rfl (fun _ => rfl) (fun x6_18 h => ?_)
                      refine g_iinc (lv' := [(6, .int x6_18), (0, .ref (ad 0)), (3, .int a2), (4, .int a3), (5, .ref (ad (64 + 2 * ix a0)))]) C dX5_things_128 (q := 5) rfl (by decide) h rfl (fun _ => rfl) (fun x7_19 h => ?_)
                      refine g_goto (tgt := 67) C dX5_things_131 (by decide) ?_
                      exact g_sub [2, 3, 4, 5, 1, 0] rfl (ih _ _ _ h)
            · refine g_bipush (v := (-13 : Int32)) C dX5_things_58 (by decide) ?_
              obtain ⟨rfl, rfl⟩ := sp_inj h
              exact g_iret C hr hlk dX5_things_60 rfl
          · refine g_bipush (v := (-11 : Int32)) C dX5_things_46 (by decide) ?_
            obtain ⟨rfl, rfl⟩ := sp_inj h
            exact g_iret C hr hlk dX5_things_48 rfl
        · refine g_bipush (v := (-2 : Int32)) C dX5_things_27 (by decide) ?_
          obtain ⟨rfl, rfl⟩ := sp_inj h
          exact g_iret C hr hlk dX5_things_29 rfl

def rmX5_taken : Room := { frames := 2, cells := 0, slots := 0, locals := 42 }
set_option maxRecDepth 100000 in
set_option maxHeartbeats 4000000 in
theorem c_X5_taken (l : Launch) {F : Nat}  {a0 : Int32} {a1 : Int32}  {m : MM} {r : Int32} (h : f_X5_taken F a0 a1 m = some r) : CT l yX5_taken cX5_taken 5 (some .int) rmX5_taken cfC 73 (fun ad tb => [.ref (ad 0), .int a0, .int a1]) m (some (.int r)) m := by
  refine CT.of (cc := cX5_taken) (maxL := 5) (ret := (some .int)) (by decide) ⟨rfl, rfl⟩ (fun _ _ => Nat.le_of_ble_eq_true rfl) ?_
  intro p e s mt args below meth c D cA ad tb C hr hlk
  refine g_lv (lv' := [(0, .ref (ad 0)), (1, .int a0), (2, .int a1)]) rfl ?_
  have hcl0 : ∀ w ∈ wsX00, w.before args s = true := fun w hw => C.2.2.2.2.1 w (inlX0 w hw)
  have hcl5 : ∀ w ∈ wsX50, w.before args s = true := fun w hw => C.2.2.2.2.1 w (inlX5 w hw)
  unfold f_X5_taken at h
  refine g_iload_n C dX5_taken_0 rfl 2 rfl ?_
  refine g_bipush (v := (6 : Int32)) C dX5_taken_1 (by decide) ?_
  obtain ⟨r1, hX2, h⟩ := bd1_inv h
  refine g_callS C (c_X5_within l hX2) (cwSw 2 C.2.2.2.2.1 wl_518 wl_519 wl_109 wl_520 rfl rfl (by decide +kernel) ⟨Nat.le_of_ble_eq_true rfl, Nat.le_of_ble_eq_true rfl⟩) rfl rfl rfl (Nat.le_of_ble_eq_true rfl) dX5_taken_3 ?_
  refine g_if_ne (tgt := 12) C dX5_taken_6 (by decide) h (fun h => ?_) (fun h => ?_)
  · refine g_bipush (v := (-2 : Int32)) C dX5_taken_9 (by decide) ?_
    obtain rfl := so_inj h
    exact g_iret C hr hlk dX5_taken_11 rfl
  · refine g_aload_n C dX5_taken_12 rfl 0 rfl ?_
    refine g_get C (T := TX5) hcl5 cO_0 rfl (j := 0) (by decide) wl_482 (v := .ref (ad 1)) rfl dX5_taken_13 ?_
    refine g_iload_n C dX5_taken_16 rfl 1 rfl ?_
    obtain ⟨r3, hX4, h⟩ := bd1_inv h
    refine g_callV C (c_X0_hasHold l lot_1 hX4) (cwVw 1 C.2.2.2.2.1 wl_532 wl_533 wl_534 wl_110 wl_535 rfl rfl (by decide +kernel) ⟨Nat.le_of_ble_eq_true rfl, Nat.le_of_ble_eq_true rfl⟩) cO_1 rfl rfl rfl rfl (Nat.le_of_ble_eq_true rfl) dX5_taken_17 ?_
    refine g_if_ne (tgt := 26) C dX5_taken_20 (by decide) h (fun h => ?_) (fun h => ?_)
    · refine g_bipush (v := (-11 : Int32)) C dX5_taken_23 (by decide) ?_
      obtain rfl := so_inj h
      exact g_iret C hr hlk dX5_taken_25 rfl
    · refine g_aload_n C dX5_taken_26 rfl 0 rfl ?_
      refine g_get C (T := TX5) hcl5 cO_0 rfl (j := 0) (by decide) wl_482 (v := .ref (ad 1)) rfl dX5_taken_27 ?_
      refine g_get C (T := TX0) hcl0 cO_1 rfl (j := 0) (by decide) wl_138 (v := .ref (ad 2)) rfl dX5_taken_30 ?_
      refine g_iload_n C dX5_taken_33 rfl 1 rfl ?_
      refine g_iald C cI_2 dX5_taken_34 h (fun h => ?_)
      refine nm_i h (fun x3_5 h => ?_)
      refine g_istore_n (lv' := [(3, .int x3_5), (0, .ref (ad 0)), (1, .int a0), (2, .int a1)]) C dX5_taken_35 rfl (by decide) rfl ?_
      refine g_iconst (v := (0 : Int32)) C dX5_taken_36 (by decide) ?_
      refine g_istore (lv' := [(4, .int (0 : Int32)), (3, .int x3_5), (0, .ref (ad 0)), (1, .int a0), (2, .int a1)]) C dX5_taken_37 (by decide) rfl ?_
      refine g_sub [2, 3, 4, 1, 0] rfl ?_
      refine g_loop_II (L := f_X5_taken_L39 a0 a1 m) h 39 78 (fun x3_6 x4_7 => [(0, .ref (ad 0)), (1, .int a0), (2, .int a1), (3, .int x3_6), (4, .int x4_7)]) (fun x3_6 x4_7 => []) (fun x3_6 x4_7 => []) (fun x3_6 x4_7 => []) ?_ ?_ (fun _ _ _ => rfl)
      · intro x3_6 x4_7 h
        refine g_bipush (v := (-13 : Int32)) C dX5_taken_78 (by decide) ?_
        obtain rfl := so_inj h
        exact g_iret C hr hlk dX5_taken_80 rfl
      · intro K8 hK8 n ih x3_6 x4_7 h
        rw [f_X5_taken_L39] at h
        refine g_iload C dX5_taken_39 4 rfl ?_
        refine g_bipush (v := (6 : Int32)) C dX5_taken_41 (by decide) ?_
        refine g_icmp_ge (tgt := 78) C dX5_taken_43 (by decide) h (fun h => ?_) (fun h => ?_)
        · exact g_sub [] rfl (hK8 _ _ h)
        · refine g_iload_n C dX5_taken_46 rfl 3 rfl ?_
          refine g_iconst (v := (-1 : Int32)) C dX5_taken_47 (by decide) ?_
          refine g_icmp_eq (tgt := 78) C dX5_taken_48 (by decide) h (fun h => ?_) (fun h => ?_)
          · exact g_sub [] rfl (hK8 _ _ h)
          · refine g_iload_n C dX5_taken_51 rfl 3 rfl ?_
            refine g_iload_n C dX5_taken_52 rfl 2 rfl ?_
            refine g_icmp_ne (tgt := 66) C dX5_taken_53 (by decide) h (fun h => ?_) (fun h => ?_)
            · refine g_aload_n C dX5_taken_56 rfl 0 rfl ?_
              refine g_get C (T := TX5) hcl5 cO_0 rfl (j := 0) (by decide) wl_482 (v := .ref (ad 1)) rfl dX5_taken_57 ?_
              refine g_get C (T := TX0) hcl0 cO_1 rfl (j := 1) (by decide) wl_140 (v := .ref (ad 3)) rfl dX5_taken_60 ?_
              refine g_iload_n C dX5_taken_63 rfl 1 rfl ?_
              refine g_iald C cI_3 dX5_taken_64 h (fun h => ?_)
              obtain rfl := so_inj h
              exact g_iret C hr hlk dX5_taken_65 rfl
            · refine g_gets C 0 (by decide) wl_908 dX5_taken_66 ?_
              refine g_iload_n C dX5_taken_69 rfl 3 rfl ?_
              refine g_sald C (q := 0) (by decide) dX5_taken_70 h (fun h => ?_)
              refine nm_i h (fun x3_9 h => ?_)
              refine g_istore_n (lv' := [(3, .int x3_9), (0, .ref (ad 0)), (1, .int a0), (2, .int a1), (4, .int x4_7)]) C dX5_taken_71 rfl (by decide) rfl ?_
              refine g_iinc (lv' := [(3, .int x3_9), (0, .ref (ad 0)), (1, .int a0), (2, .int a1)]) C dX5_taken_72 (q := 4) rfl (by decide) h rfl (fun _ => rfl) (fun x4_10 h => ?_)
              refine g_goto (tgt := 39) C dX5_taken_75 (by decide) ?_
              exact g_sub [2, 3, 4, 1, 0] rfl (ih _ _ h)
