/-! contracts: X6_canGo X6_within X6_says X6_move X6_why X6_isOpen X6_open X6_asks X6_place X6_codeNow X6_lays X6_areWell X6_after X6_eases X6_gathers X6_told1 X6_moveBy -/
def rmX6_canGo : Room := { frames := 3, cells := 0, slots := 0, locals := 71 }
set_option maxRecDepth 100000 in
set_option maxHeartbeats 4000000 in
theorem c_X6_canGo (l : Launch) {F : Nat}  {a0 : Int32} {a1 : Int32}  {m : MM} {r : Int32} (h : f_X6_canGo F a0 a1 m = some r) : CT l yX6_canGo cX6_canGo 3 (some .boolean) rmX6_canGo cfM 23 (fun ad tb => [.ref (ad 0), .int a0, .int a1]) m (some (.int r)) m := by
  refine CT.of (cc := cX6_canGo) (maxL := 3) (ret := (some .boolean)) (by decide) ⟨rfl, rfl⟩ (fun _ _ => Nat.le_of_ble_eq_true rfl) ?_
  intro p e s mt args below meth c D cA ad tb C hr hlk
  refine g_lv (lv' := [(0, .ref (ad 0)), (1, .int a0), (2, .int a1)]) rfl ?_
  have hcl6 : ∀ w ∈ wsX60, w.before args s = true := fun w hw => C.2.2.2.2.1 w (inlX6 w hw)
  unfold f_X6_canGo at h
  refine g_iload_n C dX6_canGo_0 rfl 1 rfl ?_
  refine g_aload_n C dX6_canGo_1 rfl 0 rfl ?_
  refine g_get C (T := TX6) hcl6 mO_0 rfl (j := 18) (by decide) wl_937 (v := .int (rI m 0 18)) rfl dX6_canGo_2 ?_
  refine g_icmp_eq (tgt := 31) C dX6_canGo_5 (by decide) h (fun h => ?_) (fun h => ?_)
  · refine g_iconst (v := (0 : Int32)) C dX6_canGo_31 (by decide) ?_
    obtain rfl := so_inj h
    exact g_zret C hr hlk dX6_canGo_32 rfl rfl
  · refine g_aload_n C dX6_canGo_8 rfl 0 rfl ?_
    refine g_get C (T := TX6) hcl6 mO_0 rfl (j := 12) (by decide) wl_931 (v := .ref (ad 8)) rfl dX6_canGo_9 ?_
    refine g_iload_n C dX6_canGo_12 rfl 1 rfl ?_
    refine g_iald C mI_8 dX6_canGo_13 h (fun h => ?_)
    refine g_iload_n C dX6_canGo_14 rfl 2 rfl ?_
    refine g_icmp_eq (tgt := 31) C dX6_canGo_15 (by decide) h (fun h => ?_) (fun h => ?_)
    · refine g_iconst (v := (0 : Int32)) C dX6_canGo_31 (by decide) ?_
      obtain rfl := so_inj h
      exact g_zret C hr hlk dX6_canGo_32 rfl rfl
    · refine g_aload_n C dX6_canGo_18 rfl 0 rfl ?_
      refine g_iload_n C dX6_canGo_19 rfl 1 rfl ?_
      refine g_iload_n C dX6_canGo_20 rfl 2 rfl ?_
      obtain ⟨r1, hX2, h⟩ := bd1_inv h
      refine g_callV C (c_X6_barsThing l hX2) (cwVw 2 C.2.2.2.2.1 wl_1375 wl_1377 wl_93 wl_121 wl_1378 rfl rfl (by decide +kernel) ⟨Nat.le_of_ble_eq_true rfl, Nat.le_of_ble_eq_true rfl⟩) mO_0 rfl rfl rfl rfl (Nat.le_of_ble_eq_true rfl) dX6_canGo_21 ?_
      refine g_if_ne (tgt := 31) C dX6_canGo_24 (by decide) h (fun h => ?_) (fun h => ?_)
      · refine g_iconst (v := (1 : Int32)) C dX6_canGo_27 (by decide) ?_
        refine g_goto (tgt := 32) C dX6_canGo_28 (by decide) ?_
        obtain rfl := so_inj h
        exact g_zret C hr hlk dX6_canGo_32 rfl rfl
      · refine g_iconst (v := (0 : Int32)) C dX6_canGo_31 (by decide) ?_
        obtain rfl := so_inj h
        exact g_zret C hr hlk dX6_canGo_32 rfl rfl

def rmX6_within : Room := { frames := 0, cells := 0, slots := 0, locals := 0 }
set_option maxRecDepth 100000 in
set_option maxHeartbeats 4000000 in
theorem c_X6_within (l : Launch)  {a0 : Int32} {a1 : Int32} {a2 : Int32}  {m : MM} {r : Int32} (h : f_X6_within a0 a1 a2 m = some r) : CT l yX6_within cX6_within 3 (some .int) rmX6_within cfM 23 (fun ad tb => [.int a0, .int a1, .int a2]) m (some (.int r)) m := by
  refine CT.of (cc := cX6_within) (maxL := 3) (ret := (some .int)) (by decide) ⟨rfl, rfl⟩ (fun _ _ => Nat.le_of_ble_eq_true rfl) ?_
  intro p e s mt args below meth c D cA ad tb C hr hlk
  refine g_lv (lv' := [(0, .int a0), (1, .int a1), (2, .int a2)]) rfl ?_
  unfold f_X6_within at h
  refine g_iload_n C dX6_within_0 rfl 0 rfl ?_
  refine g_iload_n C dX6_within_1 rfl 1 rfl ?_
  refine g_icmp_ge (tgt := 9) C dX6_within_2 (by decide) h (fun h => ?_) (fun h => ?_)
  · refine g_iload_n C dX6_within_9 rfl 0 rfl ?_
    refine g_iload_n C dX6_within_10 rfl 2 rfl ?_
    refine g_icmp_le (tgt := 18) C dX6_within_11 (by decide) h (fun h => ?_) (fun h => ?_)
    · refine g_iload_n C dX6_within_18 rfl 0 rfl ?_
      obtain rfl := so_inj h
      exact g_iret C hr hlk dX6_within_19 rfl
    · refine g_iload_n C dX6_within_14 rfl 2 rfl ?_
      refine g_goto (tgt := 19) C dX6_within_15 (by decide) ?_
      obtain rfl := so_inj h
      exact g_iret C hr hlk dX6_within_19 rfl
  · refine g_iload_n C dX6_within_5 rfl 1 rfl ?_
    refine g_goto (tgt := 19) C dX6_within_6 (by decide) ?_
    obtain rfl := so_inj h
    exact g_iret C hr hlk dX6_within_19 rfl

def rmX6_says : Room := { frames := 42, cells := 0, slots := 0, locals := 930 }
set_option maxRecDepth 100000 in
set_option maxHeartbeats 4000000 in
theorem c_X6_says (l : Launch) {F : Nat}  {a0 : Int32} {a1 : Int32} {a2 : Int32} {a3 : Int32}  {m : MM} {m' : MM} {r : Int32} (h : f_X6_says F a0 a1 a2 a3 m = some (r, m')) : CT l yX6_says cX6_says 5 (some .int) rmX6_says cfM 23 (fun ad tb => [.ref (ad 0), .int a0, .int a1, .int a2, .int a3]) m (some (.int r)) m' := by
  refine CT.of (cc := cX6_says) (maxL := 5) (ret := (some .int)) (by decide) ⟨rfl, rfl⟩ (fun _ _ => Nat.le_of_ble_eq_true rfl) ?_
  intro p e s mt args below meth c D cA ad tb C hr hlk
  refine g_lv (lv' := [(0, .ref (ad 0)), (1, .int a0), (2, .int a1), (3, .int a2), (4, .int a3)]) rfl ?_
  have hcl6 : ∀ w ∈ wsX60, w.before args s = true := fun w hw => C.2.2.2.2.1 w (inlX6 w hw)
  unfold f_X6_says at h
  refine g_aload_n C dX6_says_0 rfl 0 rfl ?_
  refine g_iload_n C dX6_says_1 rfl 1 rfl ?_
  refine g_iconst (v := (1 : Int32)) C dX6_says_2 (by decide) ?_
  refine g_join_I h 16 (fun s1 => [(0, .ref (ad 0)), (1, .int a0), (2, .int a1), (3, .int a2), (4, .int a3)]) (fun s1 => [.int s1, .ref (ad 0)]) ?_ ?_
  · intro s1 h
    refine g_putI C (T := TX6) hcl6 mO_0 rfl (j := 19) (by decide) wl_938 tyX6 tyX6_ok nmX6 rfl rfl pfX6_19 (plX6 19 (by decide)) dX6_says_16 h (fun m3 h => ?_)
    refine g_aload_n C dX6_says_19 rfl 0 rfl ?_
    refine g_iload_n C dX6_says_20 rfl 3 rfl ?_
    refine g_putI C (T := TX6) hcl6 mO_0 rfl (j := 20) (by decide) wl_939 tyX6 tyX6_ok nmX6 rfl rfl pfX6_20 (plX6 20 (by decide)) dX6_says_21 h (fun m4 h => ?_)
    refine g_aload_n C dX6_says_24 rfl 0 rfl ?_
    refine g_iload C dX6_says_25 4 rfl ?_
    refine g_putI C (T := TX6) hcl6 mO_0 rfl (j := 21) (by decide) wl_940 tyX6 tyX6_ok nmX6 rfl rfl pfX6_21 (plX6 21 (by decide)) dX6_says_27 h (fun m5 h => ?_)
    refine g_aload_n C dX6_says_30 rfl 0 rfl ?_
    refine g_iload_n C dX6_says_31 rfl 1 rfl ?_
    refine g_iconst (v := (1 : Int32)) C dX6_says_32 (by decide) ?_
    refine g_join_I h 41 (fun s6 => [(0, .ref (ad 0)), (1, .int a0), (4, .int a3)]) (fun s6 => [.int s6, .ref (ad 0)]) ?_ ?_
    · intro s6 h
      refine g_putI C (T := TX6) hcl6 mO_0 rfl (j := 22) (by decide) wl_941 tyX6 tyX6_ok nmX6 rfl rfl pfX6_22 (plX6 22 (by decide)) dX6_says_41 h (fun m8 h => ?_)
      refine g_aload_n C dX6_says_44 rfl 0 rfl ?_
      refine g_aload_n C dX6_says_45 rfl 0 rfl ?_
      refine g_get C (T := TX6) hcl6 mO_0 rfl (j := 14) (by decide) wl_933 (v := .int (rI m8 0 14)) rfl dX6_says_46 ?_
      refine g_putI C (T := TX6) hcl6 mO_0 rfl (j := 23) (by decide) wl_942 tyX6 tyX6_ok nmX6 rfl rfl pfX6_23 (plX6 23 (by decide)) dX6_says_49 h (fun m9 h => ?_)
      refine g_aload_n C dX6_says_52 rfl 0 rfl ?_
      refine g_iload_n C dX6_says_53 rfl 1 rfl ?_
      refine g_join_I h 67 (fun s10 => [(0, .ref (ad 0)), (1, .int a0)]) (fun s10 => [.int s10, .ref (ad 0)]) ?_ ?_
      · intro s10 h
        refine g_putI C (T := TX6) hcl6 mO_0 rfl (j := 24) (by decide) wl_943 tyX6 tyX6_ok nmX6 rfl rfl pfX6_24 (plX6 24 (by decide)) dX6_says_67 h (fun m12 h => ?_)
        refine g_aload_n C dX6_says_70 rfl 0 rfl ?_
        refine g_aload_n C dX6_says_71 rfl 0 rfl ?_
        refine g_get C (T := TX6) hcl6 mO_0 rfl (j := 4) (by decide) wl_923 (v := .int (rI m12 0 4)) rfl dX6_says_72 ?_
        refine g_iload_n C dX6_says_75 rfl 1 rfl ?_
        obtain ⟨r13, m15, hX14, h⟩ := bd2_inv h
        refine g_callV C (c_X6_read l hX14) (cwVw 2 C.2.2.2.2.1 wl_1161 wl_1163 wl_45 wl_121 wl_1164 rfl rfl (by decide +kernel) ⟨Nat.le_of_ble_eq_true rfl, Nat.le_of_ble_eq_true rfl⟩) mO_0 rfl rfl rfl rfl (Nat.le_of_ble_eq_true rfl) dX6_says_76 ?_
        refine g_iconst (v := (0 : Int32)) C dX6_says_79 (by decide) ?_
        refine g_iload_n C dX6_says_80 rfl 1 rfl ?_
        refine g_join_I h 103 (fun s16 => []) (fun s16 => [.int s16, .int (0 : Int32), .int r13]) ?_ ?_
        · intro s16 h
          obtain ⟨r18, hX19, h⟩ := bd1_inv h
          refine g_callS C (c_X6_within l hX19) (cwSw 3 C.2.2.2.2.1 wl_1364 wl_1365 wl_121 wl_1366 rfl rfl (by decide +kernel) ⟨Nat.le_of_ble_eq_true rfl, Nat.le_of_ble_eq_true rfl⟩) rfl rfl rfl (Nat.le_of_ble_eq_true rfl) dX6_says_103 ?_
          obtain ⟨rfl, rfl⟩ := sp_inj h
          exact g_iret C hr hlk dX6_says_106 rfl
        intro J17 hJ17 h
        refine g_if_ne (tgt := 89) C dX6_says_81 (by decide) h (fun h => ?_) (fun h => ?_)
        · refine g_bipush (v := (99 : Int32)) C dX6_says_84 (by decide) ?_
          refine g_goto (tgt := 103) C dX6_says_86 (by decide) ?_
          exact g_sub [] rfl (hJ17 _ h)
        · refine g_iload_n C dX6_says_89 rfl 1 rfl ?_
          refine g_iconst (v := (1 : Int32)) C dX6_says_90 (by decide) ?_
          refine g_icmp_ne (tgt := 100) C dX6_says_91 (by decide) h (fun h => ?_) (fun h => ?_)
          · refine g_sipush (v := (9999 : Int32)) C dX6_says_94 (by decide) ?_
            refine g_goto (tgt := 103) C dX6_says_97 (by decide) ?_
            exact g_sub [] rfl (hJ17 _ h)
          · refine g_sipush (v := (999 : Int32)) C dX6_says_100 (by decide) ?_
            exact g_sub [] rfl (hJ17 _ h)
      intro J11 hJ11 h
      refine g_if_ne (tgt := 66) C dX6_says_54 (by decide) h (fun h => ?_) (fun h => ?_)
      · refine g_aload_n C dX6_says_57 rfl 0 rfl ?_
        refine g_iload C dX6_says_58 2 rfl ?_
        obtain ⟨r20, hX21, h⟩ := bd1_inv h
        refine g_callV C (c_X6_wetOf l hX21) (cwVw 1 C.2.2.2.2.1 wl_1126 wl_1128 wl_42 wl_121 wl_1129 rfl rfl (by decide +kernel) ⟨Nat.le_of_ble_eq_true rfl, Nat.le_of_ble_eq_true rfl⟩) mO_0 rfl rfl rfl rfl (Nat.le_of_ble_eq_true rfl) dX6_says_60 ?_
        refine g_goto (tgt := 67) C dX6_says_63 (by decide) ?_
        exact g_sub [0, 1] rfl (hJ11 _ h)
      · refine g_iconst (v := (0 : Int32)) C dX6_says_66 (by decide) ?_
        exact g_sub [0, 1] rfl (hJ11 _ h)
    intro J7 hJ7 h
    refine g_icmp_ne (tgt := 40) C dX6_says_33 (by decide) h (fun h => ?_) (fun h => ?_)
    · refine g_iconst (v := (0 : Int32)) C dX6_says_36 (by decide) ?_
      refine g_goto (tgt := 41) C dX6_says_37 (by decide) ?_
      exact g_sub [0, 1, 4] rfl (hJ7 _ h)
    · refine g_iload_n C dX6_says_40 rfl 2 rfl ?_
      exact g_sub [0, 1, 4] rfl (hJ7 _ h)
  intro J2 hJ2 h
  refine g_icmp_ne (tgt := 10) C dX6_says_3 (by decide) h (fun h => ?_) (fun h => ?_)
  · refine g_iconst (v := (0 : Int32)) C dX6_says_6 (by decide) ?_
    refine g_goto (tgt := 16) C dX6_says_7 (by decide) ?_
    exact g_sub [0, 1, 2, 3, 4] rfl (hJ2 _ h)
  · refine g_aload_n C dX6_says_10 rfl 0 rfl ?_
    refine g_get C (T := TX6) hcl6 mO_0 rfl (j := 10) (by decide) wl_929 (v := .ref (ad 6)) rfl dX6_says_11 ?_
    refine g_iload_n C dX6_says_14 rfl 2 rfl ?_
    refine g_iald C mI_6 dX6_says_15 h (fun h => ?_)
    exact g_sub [0, 1, 2, 3, 4] rfl (hJ2 _ h)

def rmX6_move : Room := { frames := 43, cells := 0, slots := 0, locals := 954 }
set_option maxRecDepth 100000 in
set_option maxHeartbeats 4000000 in
theorem c_X6_move (l : Launch) {F : Nat}  {a0 : Int32} {a1 : Int32}  {m : MM} {m' : MM} {r : Int32} (h : f_X6_move F a0 a1 m = some (r, m')) : CT l yX6_move cX6_move 4 (some .int) rmX6_move cfM 23 (fun ad tb => [.ref (ad 0), .int a0, .int a1]) m (some (.int r)) m' := by
  refine CT.of (cc := cX6_move) (maxL := 4) (ret := (some .int)) (by decide) ⟨rfl, rfl⟩ (fun _ _ => Nat.le_of_ble_eq_true rfl) ?_
  intro p e s mt args below meth c D cA ad tb C hr hlk
  refine g_lv (lv' := [(0, .ref (ad 0)), (1, .int a0), (2, .int a1)]) rfl ?_
  have hcl6 : ∀ w ∈ wsX60, w.before args s = true := fun w hw => C.2.2.2.2.1 w (inlX6 w hw)
  unfold f_X6_move at h
  refine g_aload_n C dX6_move_0 rfl 0 rfl ?_
  refine g_iload_n C dX6_move_1 rfl 1 rfl ?_
  obtain ⟨r1, hX2, h⟩ := bd1_inv h
  refine g_callV C (c_X6_isThing l hX2) (cwVw 1 C.2.2.2.2.1 wl_1135 wl_1137 wl_43 wl_121 wl_1138 rfl rfl (by decide +kernel) ⟨Nat.le_of_ble_eq_true rfl, Nat.le_of_ble_eq_true rfl⟩) mO_0 rfl rfl rfl rfl (Nat.le_of_ble_eq_true rfl) dX6_move_2 ?_
  refine g_if_eq (tgt := 16) C dX6_move_5 (by decide) h (fun h => ?_) (fun h => ?_)
  · refine g_bipush (v := (-2 : Int32)) C dX6_move_16 (by decide) ?_
    obtain ⟨rfl, rfl⟩ := sp_inj h
    exact g_iret C hr hlk dX6_move_18 rfl
  · refine g_aload_n C dX6_move_8 rfl 0 rfl ?_
    refine g_iload_n C dX6_move_9 rfl 2 rfl ?_
    obtain ⟨r3, hX4, h⟩ := bd1_inv h
    refine g_callV C (c_X6_isHold l hX4) (cwVw 1 C.2.2.2.2.1 wl_1099 wl_1101 wl_36 wl_121 wl_1102 rfl rfl (by decide +kernel) ⟨Nat.le_of_ble_eq_true rfl, Nat.le_of_ble_eq_true rfl⟩) mO_0 rfl rfl rfl rfl (Nat.le_of_ble_eq_true rfl) dX6_move_10 ?_
    refine g_if_ne (tgt := 19) C dX6_move_13 (by decide) h (fun h => ?_) (fun h => ?_)
    · refine g_bipush (v := (-2 : Int32)) C dX6_move_16 (by decide) ?_
      obtain ⟨rfl, rfl⟩ := sp_inj h
      exact g_iret C hr hlk dX6_move_18 rfl
    · refine g_aload_n C dX6_move_19 rfl 0 rfl ?_
      refine g_iload_n C dX6_move_20 rfl 1 rfl ?_
      refine g_iload_n C dX6_move_21 rfl 2 rfl ?_
      obtain ⟨r5, hX6, h⟩ := bd1_inv h
      refine g_callV C (c_X6_canGo l hX6) (cwVw 2 C.2.2.2.2.1 wl_1371 wl_1373 wl_92 wl_121 wl_1374 rfl rfl (by decide +kernel) ⟨Nat.le_of_ble_eq_true rfl, Nat.le_of_ble_eq_true rfl⟩) mO_0 rfl rfl rfl rfl (Nat.le_of_ble_eq_true rfl) dX6_move_22 ?_
      refine g_if_ne (tgt := 31) C dX6_move_25 (by decide) h (fun h => ?_) (fun h => ?_)
      · refine g_bipush (v := (-3 : Int32)) C dX6_move_28 (by decide) ?_
        obtain ⟨rfl, rfl⟩ := sp_inj h
        exact g_iret C hr hlk dX6_move_30 rfl
      · refine g_aload_n C dX6_move_31 rfl 0 rfl ?_
        refine g_iconst (v := (0 : Int32)) C dX6_move_32 (by decide) ?_
        refine g_iload_n C dX6_move_33 rfl 1 rfl ?_
        refine g_aload_n C dX6_move_34 rfl 0 rfl ?_
        refine g_get C (T := TX6) hcl6 mO_0 rfl (j := 12) (by decide) wl_931 (v := .ref (ad 8)) rfl dX6_move_35 ?_
        refine g_iload_n C dX6_move_38 rfl 1 rfl ?_
        refine g_iald C mI_8 dX6_move_39 h (fun h => ?_)
        refine g_iload_n C dX6_move_40 rfl 2 rfl ?_
        obtain ⟨r7, m9, hX8, h⟩ := bd2_inv h
        refine g_callV C (c_X6_says l hX8) (cwVw 4 C.2.2.2.2.1 wl_1360 wl_1362 wl_91 wl_121 wl_1363 rfl rfl (by decide +kernel) ⟨Nat.le_of_ble_eq_true rfl, Nat.le_of_ble_eq_true rfl⟩) mO_0 rfl rfl rfl rfl (Nat.le_of_ble_eq_true rfl) dX6_move_41 ?_
        refine g_istore_n (lv' := [(3, .int r7), (0, .ref (ad 0)), (1, .int a0), (2, .int a1)]) C dX6_move_44 rfl (by decide) rfl ?_
        refine g_aload_n C dX6_move_45 rfl 1 rfl ?_
        refine g_get C (T := TX6) hcl6 mO_0 rfl (j := 12) (by decide) wl_931 (v := .ref (ad 8)) rfl dX6_move_46 ?_
        refine g_iload_n C dX6_move_49 rfl 2 rfl ?_
        refine g_iload_n C dX6_move_50 rfl 3 rfl ?_
        refine g_iast C mI_8 dX6_move_51 h (fun m10 h => ?_)
        refine g_iload_n C dX6_move_52 rfl 0 rfl ?_
        obtain ⟨rfl, rfl⟩ := sp_inj h
        exact g_iret C hr hlk dX6_move_53 rfl

def rmX6_why : Room := { frames := 3, cells := 0, slots := 0, locals := 71 }
set_option maxRecDepth 100000 in
set_option maxHeartbeats 4000000 in
theorem c_X6_why (l : Launch) {F : Nat}  {a0 : Int32} {a1 : Int32}  {m : MM} {r : Int32} (h : f_X6_why F a0 a1 m = some r) : CT l yX6_why cX6_why 3 (some .int) rmX6_why cfM 23 (fun ad tb => [.ref (ad 0), .int a0, .int a1]) m (some (.int r)) m := by
  refine CT.of (cc := cX6_why) (maxL := 3) (ret := (some .int)) (by decide) ⟨rfl, rfl⟩ (fun _ _ => Nat.le_of_ble_eq_true rfl) ?_
  intro p e s mt args below meth c D cA ad tb C hr hlk
  refine g_lv (lv' := [(0, .ref (ad 0)), (1, .int a0), (2, .int a1)]) rfl ?_
  have hcl6 : ∀ w ∈ wsX60, w.before args s = true := fun w hw => C.2.2.2.2.1 w (inlX6 w hw)
  unfold f_X6_why at h
  refine g_aload_n C dX6_why_0 rfl 0 rfl ?_
  refine g_iload_n C dX6_why_1 rfl 1 rfl ?_
  obtain ⟨r1, hX2, h⟩ := bd1_inv h
  refine g_callV C (c_X6_isThing l hX2) (cwVw 1 C.2.2.2.2.1 wl_1135 wl_1137 wl_43 wl_121 wl_1138 rfl rfl (by decide +kernel) ⟨Nat.le_of_ble_eq_true rfl, Nat.le_of_ble_eq_true rfl⟩) mO_0 rfl rfl rfl rfl (Nat.le_of_ble_eq_true rfl) dX6_why_2 ?_
  refine g_if_eq (tgt := 16) C dX6_why_5 (by decide) h (fun h => ?_) (fun h => ?_)
  · refine g_bipush (v := (-2 : Int32)) C dX6_why_16 (by decide) ?_
    obtain rfl := so_inj h
    exact g_iret C hr hlk dX6_why_18 rfl
  · refine g_aload_n C dX6_why_8 rfl 0 rfl ?_
    refine g_iload_n C dX6_why_9 rfl 2 rfl ?_
    obtain ⟨r3, hX4, h⟩ := bd1_inv h
    refine g_callV C (c_X6_isHold l hX4) (cwVw 1 C.2.2.2.2.1 wl_1099 wl_1101 wl_36 wl_121 wl_1102 rfl rfl (by decide +kernel) ⟨Nat.le_of_ble_eq_true rfl, Nat.le_of_ble_eq_true rfl⟩) mO_0 rfl rfl rfl rfl (Nat.le_of_ble_eq_true rfl) dX6_why_10 ?_
    refine g_if_ne (tgt := 19) C dX6_why_13 (by decide) h (fun h => ?_) (fun h => ?_)
    · refine g_bipush (v := (-2 : Int32)) C dX6_why_16 (by decide) ?_
      obtain rfl := so_inj h
      exact g_iret C hr hlk dX6_why_18 rfl
    · refine g_aload_n C dX6_why_19 rfl 0 rfl ?_
      refine g_get C (T := TX6) hcl6 mO_0 rfl (j := 12) (by decide) wl_931 (v := .ref (ad 8)) rfl dX6_why_20 ?_
      refine g_iload_n C dX6_why_23 rfl 1 rfl ?_
      refine g_iald C mI_8 dX6_why_24 h (fun h => ?_)
      refine g_iload_n C dX6_why_25 rfl 2 rfl ?_
      refine g_icmp_ne (tgt := 33) C dX6_why_26 (by decide) h (fun h => ?_) (fun h => ?_)
      · refine g_iconst (v := (1 : Int32)) C dX6_why_29 (by decide) ?_
        refine g_goto (tgt := 39) C dX6_why_30 (by decide) ?_
        obtain rfl := so_inj h
        exact g_iret C hr hlk dX6_why_39 rfl
      · refine g_aload_n C dX6_why_33 rfl 0 rfl ?_
        refine g_iload_n C dX6_why_34 rfl 1 rfl ?_
        refine g_iload_n C dX6_why_35 rfl 2 rfl ?_
        obtain ⟨r5, hX6, h⟩ := bd1_inv h
        refine g_callV C (c_X6_barsThing l hX6) (cwVw 2 C.2.2.2.2.1 wl_1375 wl_1377 wl_93 wl_121 wl_1378 rfl rfl (by decide +kernel) ⟨Nat.le_of_ble_eq_true rfl, Nat.le_of_ble_eq_true rfl⟩) mO_0 rfl rfl rfl rfl (Nat.le_of_ble_eq_true rfl) dX6_why_36 ?_
        obtain rfl := so_inj h
        exact g_iret C hr hlk dX6_why_39 rfl

def rmX6_isOpen : Room := { frames := 1, cells := 0, slots := 0, locals := 23 }
set_option maxRecDepth 100000 in
set_option maxHeartbeats 4000000 in
theorem c_X6_isOpen (l : Launch) {F : Nat}    {m : MM} {r : Int32} (h : f_X6_isOpen F m = some r) : CT l yX6_isOpen cX6_isOpen 3 (some .boolean) rmX6_isOpen cfM 23 (fun ad tb => [.ref (ad 0)]) m (some (.int r)) m := by
  refine CT.of (cc := cX6_isOpen) (maxL := 3) (ret := (some .boolean)) (by decide) ⟨rfl, rfl⟩ (fun _ _ => Nat.le_of_ble_eq_true rfl) ?_
  intro p e s mt args below meth c D cA ad tb C hr hlk
  refine g_lv (lv' := [(0, .ref (ad 0))]) rfl ?_
  have hcl6 : ∀ w ∈ wsX60, w.before args s = true := fun w hw => C.2.2.2.2.1 w (inlX6 w hw)
  unfold f_X6_isOpen at h
  refine g_aload_n C dX6_isOpen_0 rfl 0 rfl ?_
  refine g_get C (T := TX6) hcl6 mO_0 rfl (j := 15) (by decide) wl_934 (v := .int (rI m 0 15)) rfl dX6_isOpen_1 ?_
  refine g_iconst (v := (-1 : Int32)) C dX6_isOpen_4 (by decide) ?_
  refine g_icmp_eq (tgt := 24) C dX6_isOpen_5 (by decide) h (fun h => ?_) (fun h => ?_)
  · refine g_iconst (v := (0 : Int32)) C dX6_isOpen_24 (by decide) ?_
    obtain rfl := so_inj h
    exact g_zret C hr hlk dX6_isOpen_25 rfl rfl
  · refine g_aload_n C dX6_isOpen_8 rfl 0 rfl ?_
    refine g_aload_n C dX6_isOpen_9 rfl 0 rfl ?_
    refine g_get C (T := TX6) hcl6 mO_0 rfl (j := 12) (by decide) wl_931 (v := .ref (ad 8)) rfl dX6_isOpen_10 ?_
    refine g_aload_n C dX6_isOpen_13 rfl 0 rfl ?_
    refine g_get C (T := TX6) hcl6 mO_0 rfl (j := 15) (by decide) wl_934 (v := .int (rI m 0 15)) rfl dX6_isOpen_14 ?_
    refine g_iald C mI_8 dX6_isOpen_17 h (fun h => ?_)
    obtain ⟨r1, hX2, h⟩ := bd1_inv h
    refine g_callV C (c_X6_opensOf l hX2) (cwVw 1 C.2.2.2.2.1 wl_1148 wl_1150 wl_44 wl_121 wl_1151 rfl rfl (by decide +kernel) ⟨Nat.le_of_ble_eq_true rfl, Nat.le_of_ble_eq_true rfl⟩) mO_0 rfl rfl rfl rfl (Nat.le_of_ble_eq_true rfl) dX6_isOpen_18 ?_
    refine g_if_ne (tgt := 26) C dX6_isOpen_21 (by decide) h (fun h => ?_) (fun h => ?_)
    · refine g_iconst (v := (0 : Int32)) C dX6_isOpen_24 (by decide) ?_
      obtain rfl := so_inj h
      exact g_zret C hr hlk dX6_isOpen_25 rfl rfl
    · refine g_iconst (v := (0 : Int32)) C dX6_isOpen_26 (by decide) ?_
      refine g_istore_n (lv' := [(1, .int (0 : Int32)), (0, .ref (ad 0))]) C dX6_isOpen_27 rfl (by decide) rfl ?_
      refine g_iconst (v := (0 : Int32)) C dX6_isOpen_28 (by decide) ?_
      refine g_istore_n (lv' := [(2, .int (0 : Int32)), (1, .int (0 : Int32)), (0, .ref (ad 0))]) C dX6_isOpen_29 rfl (by decide) rfl ?_
      refine g_sub [2, 1, 0] rfl ?_
      refine g_loop_II (L := f_X6_isOpen_L30 F m) h 30 82 (fun x1_3 x2_4 => [(0, .ref (ad 0)), (1, .int x1_3), (2, .int x2_4)]) (fun x1_3 x2_4 => [(0, .ref (ad 0)), (1, .int x1_3)]) (fun x1_3 x2_4 => []) (fun x1_3 x2_4 => []) ?_ ?_ (fun _ _ _ => rfl)
      · intro x1_3 x2_4 h
        refine g_iload_n C dX6_isOpen_82 rfl 1 rfl ?_
        refine g_aload_n C dX6_isOpen_83 rfl 0 rfl ?_
        refine g_get C (T := TX6) hcl6 mO_0 rfl (j := 16) (by decide) wl_935 (v := .int (rI m 0 16)) rfl dX6_isOpen_84 ?_
        refine g_icmp_lt (tgt := 94) C dX6_isOpen_87 (by decide) h (fun h => ?_) (fun h => ?_)
        · refine g_iconst (v := (0 : Int32)) C dX6_isOpen_94 (by decide) ?_
          obtain rfl := so_inj h
          exact g_zret C hr hlk dX6_isOpen_95 rfl rfl
        · refine g_iconst (v := (1 : Int32)) C dX6_isOpen_90 (by decide) ?_
          refine g_goto (tgt := 95) C dX6_isOpen_91 (by decide) ?_
          obtain rfl := so_inj h
          exact g_zret C hr hlk dX6_isOpen_95 rfl rfl
      · intro K5 hK5 n ih x1_3 x2_4 h
        rw [f_X6_isOpen_L30] at h
        refine g_iload_n C dX6_isOpen_30 rfl 2 rfl ?_
        refine g_aload_n C dX6_isOpen_31 rfl 0 rfl ?_
        refine g_get C (T := TX6) hcl6 mO_0 rfl (j := 9) (by decide) wl_928 (v := .int (rI m 0 9)) rfl dX6_isOpen_32 ?_
        refine g_icmp_ge (tgt := 82) C dX6_isOpen_35 (by decide) h (fun h => ?_) (fun h => ?_)
        · exact g_sub [0, 1] rfl (hK5 _ _ h)
        · refine g_iload_n C dX6_isOpen_38 rfl 1 rfl ?_
          refine g_iload_n C dX6_isOpen_39 rfl 2 rfl ?_
          refine g_aload_n C dX6_isOpen_40 rfl 0 rfl ?_
          refine g_get C (T := TX6) hcl6 mO_0 rfl (j := 12) (by decide) wl_931 (v := .ref (ad 8)) rfl dX6_isOpen_41 ?_
          refine g_aload_n C dX6_isOpen_44 rfl 0 rfl ?_
          refine g_get C (T := TX6) hcl6 mO_0 rfl (j := 15) (by decide) wl_934 (v := .int (rI m 0 15)) rfl dX6_isOpen_45 ?_
          refine g_iald C mI_8 dX6_isOpen_48 h (fun h => ?_)
          refine g_join_I h 74 (fun s6 => [(0, .ref (ad 0)), (2, .int x2_4)]) (fun s6 => [.int s6, .int x1_3]) ?_ ?_
          · intro s6 h
            refine g_iadd C dX6_isOpen_74 ?_
            refine nm_i h (fun x1_8 h => ?_)
            refine g_istore_n (lv' := [(1, .int x1_8), (0, .ref (ad 0)), (2, .int x2_4)]) C dX6_isOpen_75 rfl (by decide) rfl ?_
            refine g_iinc (lv' := [(1, .int x1_8), (0, .ref (ad 0))]) C dX6_isOpen_76 (q := 2) rfl (by decide) h rfl (fun _ => rfl) (fun x2_9 h => ?_)
            refine g_goto (tgt := 30) C dX6_isOpen_79 (by decide) ?_
            exact g_sub [2, 1, 0] rfl (ih _ _ h)
          intro J7 hJ7 h
          refine g_join_ h 73 ([(0, .ref (ad 0)), (2, .int x2_4)]) ([.int x1_3]) ?_ ?_
          · intro h
            refine g_iconst (v := (0 : Int32)) C dX6_isOpen_73 (by decide) ?_
            exact g_sub [0, 1] rfl (hJ7 _ h)
          intro J10 hJ10 h
          refine g_icmp_eq (tgt := 73) C dX6_isOpen_49 (by decide) h (fun h => ?_) (fun h => ?_)
          · exact g_sub [0, 2] rfl (hJ10  h)
          · refine g_aload_n C dX6_isOpen_52 rfl 0 rfl ?_
            refine g_iload_n C dX6_isOpen_53 rfl 2 rfl ?_
            obtain ⟨r11, hX12, h⟩ := bd1_inv h
            refine g_callV C (c_X6_opensOf l hX12) (cwVw 1 C.2.2.2.2.1 wl_1148 wl_1150 wl_44 wl_121 wl_1151 rfl rfl (by decide +kernel) ⟨Nat.le_of_ble_eq_true rfl, Nat.le_of_ble_eq_true rfl⟩) mO_0 rfl rfl rfl rfl (Nat.le_of_ble_eq_true rfl) dX6_isOpen_54 ?_
            refine g_iconst (v := (1 : Int32)) C dX6_isOpen_57 (by decide) ?_
            refine g_icmp_ne (tgt := 73) C dX6_isOpen_58 (by decide) h (fun h => ?_) (fun h => ?_)
            · refine g_aload_n C dX6_isOpen_61 rfl 0 rfl ?_
              refine g_iload_n C dX6_isOpen_62 rfl 2 rfl ?_
              obtain ⟨r13, hX14, h⟩ := bd1_inv h
              refine g_callV C (c_X6_inside l hX14) (cwVw 1 C.2.2.2.2.1 wl_1103 wl_1105 wl_37 wl_121 wl_1106 rfl rfl (by decide +kernel) ⟨Nat.le_of_ble_eq_true rfl, Nat.le_of_ble_eq_true rfl⟩) mO_0 rfl rfl rfl rfl (Nat.le_of_ble_eq_true rfl) dX6_isOpen_63 ?_
              refine g_if_ne (tgt := 73) C dX6_isOpen_66 (by decide) h (fun h => ?_) (fun h => ?_)
              · refine g_iconst (v := (1 : Int32)) C dX6_isOpen_69 (by decide) ?_
                refine g_goto (tgt := 74) C dX6_isOpen_70 (by decide) ?_
                exact g_sub [0, 2] rfl (hJ7 _ h)
              · exact g_sub [0, 2] rfl (hJ10  h)
            · exact g_sub [0, 2] rfl (hJ10  h)

def rmX6_open : Room := { frames := 4, cells := 0, slots := 0, locals := 93 }
set_option maxRecDepth 100000 in
set_option maxHeartbeats 4000000 in
theorem c_X6_open (l : Launch) {F : Nat}  {a0 : Int32}  {m : MM} {r : Int32} (h : f_X6_open F a0 m = some r) : CT l yX6_open cX6_open 5 (some .int) rmX6_open cfM 23 (fun ad tb => [.ref (ad 0), .int a0]) m (some (.int r)) m := by
  refine CT.of (cc := cX6_open) (maxL := 5) (ret := (some .int)) (by decide) ⟨rfl, rfl⟩ (fun _ _ => Nat.le_of_ble_eq_true rfl) ?_
  intro p e s mt args below meth c D cA ad tb C hr hlk
  refine g_lv (lv' := [(0, .ref (ad 0)), (1, .int a0)]) rfl ?_
  have hcl6 : ∀ w ∈ wsX60, w.before args s = true := fun w hw => C.2.2.2.2.1 w (inlX6 w hw)
  unfold f_X6_open at h
  refine g_iload_n C dX6_open_0 rfl 1 rfl ?_
  refine g_i2l C dX6_open_1 ?_
  refine g_lconst (v := (0 : Int64)) C dX6_open_2 (by decide) ?_
  refine g_ldc2 (v := (2 : Int64)) C dX6_open_3 wl_1359 ?_
  obtain ⟨r1, hX2, h⟩ := bd1_inv h
  refine g_callS C (c_X6_in l hX2) (cwSw 3 C.2.2.2.2.1 wl_1089 wl_1090 wl_121 wl_1091 rfl rfl (by decide +kernel) ⟨Nat.le_of_ble_eq_true rfl, Nat.le_of_ble_eq_true rfl⟩) rfl rfl rfl (Nat.le_of_ble_eq_true rfl) dX6_open_6 ?_
  refine g_if_ne (tgt := 15) C dX6_open_9 (by decide) h (fun h => ?_) (fun h => ?_)
  · refine g_bipush (v := (-2 : Int32)) C dX6_open_12 (by decide) ?_
    obtain rfl := so_inj h
    exact g_iret C hr hlk dX6_open_14 rfl
  · refine g_iload_n C dX6_open_15 rfl 1 rfl ?_
    refine g_if_ne (tgt := 32) C dX6_open_16 (by decide) h (fun h => ?_) (fun h => ?_)
    · refine g_aload_n C dX6_open_19 rfl 0 rfl ?_
      obtain ⟨r3, hX4, h⟩ := bd1_inv h
      refine g_callV C (c_X6_isOpen l hX4) (cwVw 0 C.2.2.2.2.1 wl_1387 wl_1389 wl_94 wl_121 wl_1390 rfl rfl (by decide +kernel) ⟨Nat.le_of_ble_eq_true rfl, Nat.le_of_ble_eq_true rfl⟩) mO_0 rfl rfl rfl rfl (Nat.le_of_ble_eq_true rfl) dX6_open_20 ?_
      refine g_if_eq (tgt := 30) C dX6_open_23 (by decide) h (fun h => ?_) (fun h => ?_)
      · refine g_iconst (v := (0 : Int32)) C dX6_open_30 (by decide) ?_
        obtain rfl := so_inj h
        exact g_iret C hr hlk dX6_open_31 rfl
      · refine g_iconst (v := (1 : Int32)) C dX6_open_26 (by decide) ?_
        refine g_goto (tgt := 31) C dX6_open_27 (by decide) ?_
        obtain rfl := so_inj h
        exact g_iret C hr hlk dX6_open_31 rfl
    · refine g_iconst (v := (0 : Int32)) C dX6_open_32 (by decide) ?_
      refine g_istore_n (lv' := [(2, .int (0 : Int32)), (0, .ref (ad 0)), (1, .int a0)]) C dX6_open_33 rfl (by decide) rfl ?_
      refine g_iload_n C dX6_open_34 rfl 2 rfl ?_
      refine g_iconst (v := (1 : Int32)) C dX6_open_35 (by decide) ?_
      refine g_icmp_ne (tgt := 82) C dX6_open_36 (by decide) h (fun h => ?_) (fun h => ?_)
      · refine g_iconst (v := (0 : Int32)) C dX6_open_39 (by decide) ?_
        refine g_istore_n (lv' := [(3, .int (0 : Int32)), (2, .int (0 : Int32)), (0, .ref (ad 0)), (1, .int a0)]) C dX6_open_40 rfl (by decide) rfl ?_
        refine g_sub [2, 1, 0] rfl ?_
        refine g_loop_II (L := f_X6_open_L41 F m) h 41 80 (fun x2_5 x3_6 => [(0, .ref (ad 0)), (2, .int x2_5), (3, .int x3_6)]) (fun x2_5 x3_6 => [(2, .int x2_5)]) (fun x2_5 x3_6 => []) (fun x2_5 x3_6 => []) ?_ ?_ (fun _ _ _ => rfl)
        · intro x2_5 x3_6 h
          refine g_iload_n C dX6_open_80 rfl 0 rfl ?_
          obtain rfl := so_inj h
          exact g_iret C hr hlk dX6_open_81 rfl
        · intro K7 hK7 n ih x2_5 x3_6 h
          rw [f_X6_open_L41] at h
          refine g_iload_n C dX6_open_41 rfl 2 rfl ?_
          refine g_aload_n C dX6_open_42 rfl 0 rfl ?_
          refine g_get C (T := TX6) hcl6 mO_0 rfl (j := 9) (by decide) wl_928 (v := .int (rI m 0 9)) rfl dX6_open_43 ?_
          refine g_icmp_ge (tgt := 80) C dX6_open_46 (by decide) h (fun h => ?_) (fun h => ?_)
          · exact g_sub [1] rfl (hK7 _ _ h)
          · refine g_iload_n C dX6_open_49 rfl 1 rfl ?_
            refine g_aload_n C dX6_open_50 rfl 0 rfl ?_
            refine g_iload_n C dX6_open_51 rfl 2 rfl ?_
            obtain ⟨r8, hX9, h⟩ := bd1_inv h
            refine g_callV C (c_X6_opensOf l hX9) (cwVw 1 C.2.2.2.2.1 wl_1148 wl_1150 wl_44 wl_121 wl_1151 rfl rfl (by decide +kernel) ⟨Nat.le_of_ble_eq_true rfl, Nat.le_of_ble_eq_true rfl⟩) mO_0 rfl rfl rfl rfl (Nat.le_of_ble_eq_true rfl) dX6_open_52 ?_
            refine g_iconst (v := (1 : Int32)) C dX6_open_55 (by decide) ?_
            refine g_join_I h 72 (fun s10 => [(0, .ref (ad 0)), (3, .int x3_6)]) (fun s10 => [.int s10, .int x2_5]) ?_ ?_
            · intro s10 h
              refine g_iadd C dX6_open_72 ?_
              refine nm_i h (fun x2_12 h => ?_)
              refine g_istore_n (lv' := [(2, .int x2_12), (0, .ref (ad 0)), (3, .int x3_6)]) C dX6_open_73 rfl (by decide) rfl ?_
              refine g_iinc (lv' := [(2, .int x2_12), (0, .ref (ad 0))]) C dX6_open_74 (q := 2) rfl (by decide) h rfl (fun _ => rfl) (fun x3_13 h => ?_)
              refine g_goto (tgt := 41) C dX6_open_77 (by decide) ?_
              exact g_sub [2, 1, 0] rfl (ih _ _ h)
            intro J11 hJ11 h
            refine g_join_ h 71 ([(0, .ref (ad 0)), (3, .int x3_6)]) ([.int x2_5]) ?_ ?_
            · intro h
              refine g_iconst (v := (0 : Int32)) C dX6_open_71 (by decide) ?_
              exact g_sub [0, 1] rfl (hJ11 _ h)
            intro J14 hJ14 h
            refine g_icmp_ne (tgt := 71) C dX6_open_56 (by decide) h (fun h => ?_) (fun h => ?_)
            · refine g_aload_n C dX6_open_59 rfl 0 rfl ?_
              refine g_iload_n C dX6_open_60 rfl 2 rfl ?_
              obtain ⟨r15, hX16, h⟩ := bd1_inv h
              refine g_callV C (c_X6_inside l hX16) (cwVw 1 C.2.2.2.2.1 wl_1103 wl_1105 wl_37 wl_121 wl_1106 rfl rfl (by decide +kernel) ⟨Nat.le_of_ble_eq_true rfl, Nat.le_of_ble_eq_true rfl⟩) mO_0 rfl rfl rfl rfl (Nat.le_of_ble_eq_true rfl) dX6_open_61 ?_
              refine g_if_ne (tgt := 71) C dX6_open_64 (by decide) h (fun h => ?_) (fun h => ?_)
              · refine g_iconst (v := (1 : Int32)) C dX6_open_67 (by decide) ?_
                refine g_goto (tgt := 72) C dX6_open_68 (by decide) ?_
                exact g_sub [0, 2] rfl (hJ11 _ h)
              · exact g_sub [0, 2] rfl (hJ14  h)
            · exact g_sub [0, 2] rfl (hJ14  h)
      · refine g_iconst (v := (0 : Int32)) C dX6_open_82 (by decide) ?_
        refine g_istore_n (lv' := [(3, .int (0 : Int32)), (2, .int (0 : Int32)), (0, .ref (ad 0)), (1, .int a0)]) C dX6_open_83 rfl (by decide) rfl ?_
        refine g_sub [2, 1, 0] rfl ?_
        refine g_loop_II (L := f_X6_open_L84 F m) h 84 134 (fun x2_17 x3_18 => [(0, .ref (ad 0)), (2, .int x2_17), (3, .int x3_18)]) (fun x2_17 x3_18 => [(2, .int x2_17)]) (fun x2_17 x3_18 => []) (fun x2_17 x3_18 => []) ?_ ?_ (fun _ _ _ => rfl)
        · intro x2_17 x3_18 h
          refine g_iload_n C dX6_open_134 rfl 0 rfl ?_
          obtain rfl := so_inj h
          exact g_iret C hr hlk dX6_open_135 rfl
        · intro K19 hK19 n ih x2_17 x3_18 h
          rw [f_X6_open_L84] at h
          refine g_iload_n C dX6_open_84 rfl 2 rfl ?_
          refine g_aload_n C dX6_open_85 rfl 0 rfl ?_
          refine g_get C (T := TX6) hcl6 mO_0 rfl (j := 14) (by decide) wl_933 (v := .int (rI m 0 14)) rfl dX6_open_86 ?_
          refine g_icmp_ge (tgt := 134) C dX6_open_89 (by decide) h (fun h => ?_) (fun h => ?_)
          · exact g_sub [1] rfl (hK19 _ _ h)
          · refine g_iconst (v := (0 : Int32)) C dX6_open_92 (by decide) ?_
            refine g_istore (lv' := [(4, .int (0 : Int32)), (0, .ref (ad 0)), (2, .int x2_17), (3, .int x3_18)]) C dX6_open_93 (by decide) rfl ?_
            refine g_sub [1, 2, 3, 0] rfl ?_
            refine g_loop_II (L := f_X6_open_L95 F m x3_18) h 95 128 (fun x2_20 x4_21 => [(0, .ref (ad 0)), (2, .int x2_20), (3, .int x3_18), (4, .int x4_21)]) (fun x2_20 x4_21 => [(0, .ref (ad 0)), (2, .int x2_20), (3, .int x3_18)]) (fun x2_20 x4_21 => []) (fun x2_20 x4_21 => []) ?_ ?_ (fun _ _ _ => rfl)
            · intro x2_20 x4_21 h
              refine g_iinc (lv' := [(0, .ref (ad 0)), (2, .int x2_20)]) C dX6_open_128 (q := 2) rfl (by decide) h rfl (fun _ => rfl) (fun x3_29 h => ?_)
              refine g_goto (tgt := 84) C dX6_open_131 (by decide) ?_
              exact g_sub [1, 2, 0] rfl (ih _ _ h)
            · intro K22 hK22 n ih x2_20 x4_21 h
              rw [f_X6_open_L95] at h
              refine g_iload C dX6_open_95 3 rfl ?_
              refine g_aload_n C dX6_open_97 rfl 0 rfl ?_
              refine g_get C (T := TX6) hcl6 mO_0 rfl (j := 9) (by decide) wl_928 (v := .int (rI m 0 9)) rfl dX6_open_98 ?_
              refine g_icmp_ge (tgt := 128) C dX6_open_101 (by decide) h (fun h => ?_) (fun h => ?_)
              · exact g_sub [0, 1, 2] rfl (hK22 _ _ h)
              · refine g_iload_n C dX6_open_104 rfl 1 rfl ?_
                refine g_aload_n C dX6_open_105 rfl 0 rfl ?_
                refine g_iload_n C dX6_open_106 rfl 2 rfl ?_
                refine g_iload C dX6_open_107 3 rfl ?_
                obtain ⟨r23, hX24, h⟩ := bd1_inv h
                refine g_callV C (c_X6_canGo l hX24) (cwVw 2 C.2.2.2.2.1 wl_1371 wl_1373 wl_92 wl_121 wl_1374 rfl rfl (by decide +kernel) ⟨Nat.le_of_ble_eq_true rfl, Nat.le_of_ble_eq_true rfl⟩) mO_0 rfl rfl rfl rfl (Nat.le_of_ble_eq_true rfl) dX6_open_109 ?_
                refine g_join_I h 120 (fun s25 => [(0, .ref (ad 0)), (3, .int x3_18), (4, .int x4_21)]) (fun s25 => [.int s25, .int x2_20]) ?_ ?_
                · intro s25 h
                  refine g_iadd C dX6_open_120 ?_
                  refine nm_i h (fun x2_27 h => ?_)
                  refine g_istore_n (lv' := [(2, .int x2_27), (0, .ref (ad 0)), (3, .int x3_18), (4, .int x4_21)]) C dX6_open_121 rfl (by decide) rfl ?_
                  refine g_iinc (lv' := [(2, .int x2_27), (0, .ref (ad 0)), (3, .int x3_18)]) C dX6_open_122 (q := 3) rfl (by decide) h rfl (fun _ => rfl) (fun x4_28 h => ?_)
                  refine g_goto (tgt := 95) C dX6_open_125 (by decide) ?_
                  exact g_sub [2, 1, 3, 0] rfl (ih _ _ h)
                intro J26 hJ26 h
                refine g_if_eq (tgt := 119) C dX6_open_112 (by decide) h (fun h => ?_) (fun h => ?_)
                · refine g_iconst (v := (0 : Int32)) C dX6_open_119 (by decide) ?_
                  exact g_sub [0, 2, 3] rfl (hJ26 _ h)
                · refine g_iconst (v := (1 : Int32)) C dX6_open_115 (by decide) ?_
                  refine g_goto (tgt := 120) C dX6_open_116 (by decide) ?_
                  exact g_sub [0, 2, 3] rfl (hJ26 _ h)

def rmX6_asks : Room := { frames := 43, cells := 0, slots := 0, locals := 954 }
set_option maxRecDepth 100000 in
set_option maxHeartbeats 4000000 in
theorem c_X6_asks (l : Launch) {F : Nat}  {a0 : Int32} {a1 : Int32} {a2 : Int32}  {m : MM} {m' : MM} {r : Int32} (h : f_X6_asks F a0 a1 a2 m = some (r, m')) : CT l yX6_asks cX6_asks 4 (some .int) rmX6_asks cfM 23 (fun ad tb => [.ref (ad 0), .int a0, .int a1, .int a2]) m (some (.int r)) m' := by
  refine CT.of (cc := cX6_asks) (maxL := 4) (ret := (some .int)) (by decide) ⟨rfl, rfl⟩ (fun _ _ => Nat.le_of_ble_eq_true rfl) ?_
  intro p e s mt args below meth c D cA ad tb C hr hlk
  refine g_lv (lv' := [(0, .ref (ad 0)), (1, .int a0), (2, .int a1), (3, .int a2)]) rfl ?_
  have hcl6 : ∀ w ∈ wsX60, w.before args s = true := fun w hw => C.2.2.2.2.1 w (inlX6 w hw)
  unfold f_X6_asks at h
  refine g_iload_n C dX6_asks_0 rfl 1 rfl ?_
  refine g_i2l C dX6_asks_1 ?_
  refine g_lconst (v := (0 : Int64)) C dX6_asks_2 (by decide) ?_
  refine g_ldc2 (v := (2 : Int64)) C dX6_asks_3 wl_1359 ?_
  obtain ⟨r1, hX2, h⟩ := bd1_inv h
  refine g_callS C (c_X6_in l hX2) (cwSw 3 C.2.2.2.2.1 wl_1089 wl_1090 wl_121 wl_1091 rfl rfl (by decide +kernel) ⟨Nat.le_of_ble_eq_true rfl, Nat.le_of_ble_eq_true rfl⟩) rfl rfl rfl (Nat.le_of_ble_eq_true rfl) dX6_asks_6 ?_
  refine g_if_eq (tgt := 37) C dX6_asks_9 (by decide) h (fun h => ?_) (fun h => ?_)
  · refine g_iconst (v := (-1 : Int32)) C dX6_asks_37 (by decide) ?_
    obtain ⟨rfl, rfl⟩ := sp_inj h
    exact g_iret C hr hlk dX6_asks_38 rfl
  · refine g_iload_n C dX6_asks_12 rfl 1 rfl ?_
    refine g_iconst (v := (1 : Int32)) C dX6_asks_13 (by decide) ?_
    refine g_join_ h 25 ([(0, .ref (ad 0)), (1, .int a0), (2, .int a1), (3, .int a2)]) ([]) ?_ ?_
    · intro h
      refine g_iload_n C dX6_asks_25 rfl 1 rfl ?_
      refine g_join_ h 39 ([(0, .ref (ad 0)), (1, .int a0), (2, .int a1), (3, .int a2)]) ([]) ?_ ?_
      · intro h
        refine g_iload_n C dX6_asks_39 rfl 1 rfl ?_
        refine g_if_ne (tgt := 59) C dX6_asks_40 (by decide) h (fun h => ?_) (fun h => ?_)
        · refine g_aload_n C dX6_asks_43 rfl 0 rfl ?_
          refine g_iconst (v := (0 : Int32)) C dX6_asks_44 (by decide) ?_
          refine g_iload_n C dX6_asks_45 rfl 2 rfl ?_
          refine g_aload_n C dX6_asks_46 rfl 0 rfl ?_
          refine g_get C (T := TX6) hcl6 mO_0 rfl (j := 12) (by decide) wl_931 (v := .ref (ad 8)) rfl dX6_asks_47 ?_
          refine g_iload_n C dX6_asks_50 rfl 2 rfl ?_
          refine g_iald C mI_8 dX6_asks_51 h (fun h => ?_)
          refine g_iload_n C dX6_asks_52 rfl 3 rfl ?_
          obtain ⟨r5, m7, hX6, h⟩ := bd2_inv h
          refine g_callV C (c_X6_says l hX6) (cwVw 4 C.2.2.2.2.1 wl_1360 wl_1362 wl_91 wl_121 wl_1363 rfl rfl (by decide +kernel) ⟨Nat.le_of_ble_eq_true rfl, Nat.le_of_ble_eq_true rfl⟩) mO_0 rfl rfl rfl rfl (Nat.le_of_ble_eq_true rfl) dX6_asks_53 ?_
          refine g_goto (tgt := 88) C dX6_asks_56 (by decide) ?_
          obtain ⟨rfl, rfl⟩ := sp_inj h
          exact g_iret C hr hlk dX6_asks_88 rfl
        · refine g_iload_n C dX6_asks_59 rfl 1 rfl ?_
          refine g_iconst (v := (1 : Int32)) C dX6_asks_60 (by decide) ?_
          refine g_icmp_ne (tgt := 75) C dX6_asks_61 (by decide) h (fun h => ?_) (fun h => ?_)
          · refine g_aload_n C dX6_asks_64 rfl 0 rfl ?_
            refine g_iconst (v := (1 : Int32)) C dX6_asks_65 (by decide) ?_
            refine g_iconst (v := (0 : Int32)) C dX6_asks_66 (by decide) ?_
            refine g_iconst (v := (0 : Int32)) C dX6_asks_67 (by decide) ?_
            refine g_iconst (v := (0 : Int32)) C dX6_asks_68 (by decide) ?_
            obtain ⟨r8, m10, hX9, h⟩ := bd2_inv h
            refine g_callV C (c_X6_says l hX9) (cwVw 4 C.2.2.2.2.1 wl_1360 wl_1362 wl_91 wl_121 wl_1363 rfl rfl (by decide +kernel) ⟨Nat.le_of_ble_eq_true rfl, Nat.le_of_ble_eq_true rfl⟩) mO_0 rfl rfl rfl rfl (Nat.le_of_ble_eq_true rfl) dX6_asks_69 ?_
            refine g_goto (tgt := 88) C dX6_asks_72 (by decide) ?_
            obtain ⟨rfl, rfl⟩ := sp_inj h
            exact g_iret C hr hlk dX6_asks_88 rfl
          · refine g_aload_n C dX6_asks_75 rfl 0 rfl ?_
            refine g_iconst (v := (2 : Int32)) C dX6_asks_76 (by decide) ?_
            refine g_iload_n C dX6_asks_77 rfl 2 rfl ?_
            refine g_aload_n C dX6_asks_78 rfl 0 rfl ?_
            refine g_get C (T := TX6) hcl6 mO_0 rfl (j := 12) (by decide) wl_931 (v := .ref (ad 8)) rfl dX6_asks_79 ?_
            refine g_iload_n C dX6_asks_82 rfl 2 rfl ?_
            refine g_iald C mI_8 dX6_asks_83 h (fun h => ?_)
            refine g_iconst (v := (0 : Int32)) C dX6_asks_84 (by decide) ?_
            obtain ⟨r11, m13, hX12, h⟩ := bd2_inv h
            refine g_callV C (c_X6_says l hX12) (cwVw 4 C.2.2.2.2.1 wl_1360 wl_1362 wl_91 wl_121 wl_1363 rfl rfl (by decide +kernel) ⟨Nat.le_of_ble_eq_true rfl, Nat.le_of_ble_eq_true rfl⟩) mO_0 rfl rfl rfl rfl (Nat.le_of_ble_eq_true rfl) dX6_asks_85 ?_
            obtain ⟨rfl, rfl⟩ := sp_inj h
            exact g_iret C hr hlk dX6_asks_88 rfl
      intro J4 hJ4 h
      refine g_if_ne (tgt := 39) C dX6_asks_26 (by decide) h (fun h => ?_) (fun h => ?_)
      · refine g_aload_n C dX6_asks_29 rfl 0 rfl ?_
        refine g_iload_n C dX6_asks_30 rfl 3 rfl ?_
        obtain ⟨r14, hX15, h⟩ := bd1_inv h
        refine g_callV C (c_X6_isHold l hX15) (cwVw 1 C.2.2.2.2.1 wl_1099 wl_1101 wl_36 wl_121 wl_1102 rfl rfl (by decide +kernel) ⟨Nat.le_of_ble_eq_true rfl, Nat.le_of_ble_eq_true rfl⟩) mO_0 rfl rfl rfl rfl (Nat.le_of_ble_eq_true rfl) dX6_asks_31 ?_
        refine g_if_ne (tgt := 39) C dX6_asks_34 (by decide) h (fun h => ?_) (fun h => ?_)
        · refine g_iconst (v := (-1 : Int32)) C dX6_asks_37 (by decide) ?_
          obtain ⟨rfl, rfl⟩ := sp_inj h
          exact g_iret C hr hlk dX6_asks_38 rfl
        · exact g_sub [0, 1, 2, 3] rfl (hJ4  h)
      · exact g_sub [0, 1, 2, 3] rfl (hJ4  h)
    intro J3 hJ3 h
    refine g_icmp_eq (tgt := 25) C dX6_asks_14 (by decide) h (fun h => ?_) (fun h => ?_)
    · exact g_sub [0, 1, 2, 3] rfl (hJ3  h)
    · refine g_aload_n C dX6_asks_17 rfl 0 rfl ?_
      refine g_iload_n C dX6_asks_18 rfl 2 rfl ?_
      obtain ⟨r16, hX17, h⟩ := bd1_inv h
      refine g_callV C (c_X6_isThing l hX17) (cwVw 1 C.2.2.2.2.1 wl_1135 wl_1137 wl_43 wl_121 wl_1138 rfl rfl (by decide +kernel) ⟨Nat.le_of_ble_eq_true rfl, Nat.le_of_ble_eq_true rfl⟩) mO_0 rfl rfl rfl rfl (Nat.le_of_ble_eq_true rfl) dX6_asks_19 ?_
      refine g_if_eq (tgt := 37) C dX6_asks_22 (by decide) h (fun h => ?_) (fun h => ?_)
      · refine g_iconst (v := (-1 : Int32)) C dX6_asks_37 (by decide) ?_
        obtain ⟨rfl, rfl⟩ := sp_inj h
        exact g_iret C hr hlk dX6_asks_38 rfl
      · exact g_sub [0, 1, 2, 3] rfl (hJ3  h)

def rmX6_place : Room := { frames := 0, cells := 0, slots := 0, locals := 0 }
set_option maxRecDepth 100000 in
set_option maxHeartbeats 4000000 in
theorem c_X6_place (l : Launch)  {a0 : Int32}  {m : MM} {r : Int32} (h : f_X6_place a0 m = some r) : CT l yX6_place cX6_place 1 (some .int) rmX6_place cfM 23 (fun ad tb => [.int a0]) m (some (.int r)) m := by
  refine CT.of (cc := cX6_place) (maxL := 1) (ret := (some .int)) (by decide) ⟨rfl, rfl⟩ (fun _ _ => Nat.le_of_ble_eq_true rfl) ?_
  intro p e s mt args below meth c D cA ad tb C hr hlk
  refine g_lv (lv' := [(0, .int a0)]) rfl ?_
  unfold f_X6_place at h
  refine g_iload_n C dX6_place_0 rfl 0 rfl ?_
  refine g_if_ne (tgt := 8) C dX6_place_1 (by decide) h (fun h => ?_) (fun h => ?_)
  · refine g_iconst (v := (1 : Int32)) C dX6_place_4 (by decide) ?_
    refine g_goto (tgt := 40) C dX6_place_5 (by decide) ?_
    obtain rfl := so_inj h
    exact g_iret C hr hlk dX6_place_40 rfl
  · refine g_iload_n C dX6_place_8 rfl 0 rfl ?_
    refine g_iconst (v := (1 : Int32)) C dX6_place_9 (by decide) ?_
    refine g_icmp_ne (tgt := 17) C dX6_place_10 (by decide) h (fun h => ?_) (fun h => ?_)
    · refine g_iconst (v := (5 : Int32)) C dX6_place_13 (by decide) ?_
      refine g_goto (tgt := 40) C dX6_place_14 (by decide) ?_
      obtain rfl := so_inj h
      exact g_iret C hr hlk dX6_place_40 rfl
    · refine g_iload_n C dX6_place_17 rfl 0 rfl ?_
      refine g_iconst (v := (2 : Int32)) C dX6_place_18 (by decide) ?_
      refine g_icmp_ne (tgt := 27) C dX6_place_19 (by decide) h (fun h => ?_) (fun h => ?_)
      · refine g_bipush (v := (25 : Int32)) C dX6_place_22 (by decide) ?_
        refine g_goto (tgt := 40) C dX6_place_24 (by decide) ?_
        obtain rfl := so_inj h
        exact g_iret C hr hlk dX6_place_40 rfl
      · refine g_iload_n C dX6_place_27 rfl 0 rfl ?_
        refine g_iconst (v := (3 : Int32)) C dX6_place_28 (by decide) ?_
        refine g_icmp_ne (tgt := 37) C dX6_place_29 (by decide) h (fun h => ?_) (fun h => ?_)
        · refine g_bipush (v := (125 : Int32)) C dX6_place_32 (by decide) ?_
          refine g_goto (tgt := 40) C dX6_place_34 (by decide) ?_
          obtain rfl := so_inj h
          exact g_iret C hr hlk dX6_place_40 rfl
        · refine g_sipush (v := (625 : Int32)) C dX6_place_37 (by decide) ?_
          obtain rfl := so_inj h
          exact g_iret C hr hlk dX6_place_40 rfl

def rmX6_codeNow : Room := { frames := 1, cells := 0, slots := 0, locals := 20 }
set_option maxRecDepth 100000 in
set_option maxHeartbeats 4000000 in
theorem c_X6_codeNow (l : Launch) {F : Nat}    {m : MM} {r : Int32} (h : f_X6_codeNow F m = some r) : CT l yX6_codeNow cX6_codeNow 3 (some .int) rmX6_codeNow cfM 23 (fun ad tb => [.ref (ad 0)]) m (some (.int r)) m := by
  refine CT.of (cc := cX6_codeNow) (maxL := 3) (ret := (some .int)) (by decide) ⟨rfl, rfl⟩ (fun _ _ => Nat.le_of_ble_eq_true rfl) ?_
  intro p e s mt args below meth c D cA ad tb C hr hlk
  refine g_lv (lv' := [(0, .ref (ad 0))]) rfl ?_
  have hcl6 : ∀ w ∈ wsX60, w.before args s = true := fun w hw => C.2.2.2.2.1 w (inlX6 w hw)
  unfold f_X6_codeNow at h
  refine g_iconst (v := (0 : Int32)) C dX6_codeNow_0 (by decide) ?_
  refine g_istore_n (lv' := [(1, .int (0 : Int32)), (0, .ref (ad 0))]) C dX6_codeNow_1 rfl (by decide) rfl ?_
  refine g_iconst (v := (0 : Int32)) C dX6_codeNow_2 (by decide) ?_
  refine g_istore_n (lv' := [(2, .int (0 : Int32)), (1, .int (0 : Int32)), (0, .ref (ad 0))]) C dX6_codeNow_3 rfl (by decide) rfl ?_
  refine g_sub [2, 1, 0] rfl ?_
  refine g_loop_II (L := f_X6_codeNow_L4 m) h 4 32 (fun x1_1 x2_2 => [(0, .ref (ad 0)), (1, .int x1_1), (2, .int x2_2)]) (fun x1_1 x2_2 => [(1, .int x1_1)]) (fun x1_1 x2_2 => []) (fun x1_1 x2_2 => []) ?_ ?_ (fun _ _ _ => rfl)
  · intro x1_1 x2_2 h
    refine g_iload_n C dX6_codeNow_32 rfl 0 rfl ?_
    obtain rfl := so_inj h
    exact g_iret C hr hlk dX6_codeNow_33 rfl
  · intro K3 hK3 n ih x1_1 x2_2 h
    rw [f_X6_codeNow_L4] at h
    refine g_iload_n C dX6_codeNow_4 rfl 2 rfl ?_
    refine g_aload_n C dX6_codeNow_5 rfl 0 rfl ?_
    refine g_get C (T := TX6) hcl6 mO_0 rfl (j := 14) (by decide) wl_933 (v := .int (rI m 0 14)) rfl dX6_codeNow_6 ?_
    refine g_icmp_ge (tgt := 32) C dX6_codeNow_9 (by decide) h (fun h => ?_) (fun h => ?_)
    · exact g_sub [1] rfl (hK3 _ _ h)
    · refine g_iload_n C dX6_codeNow_12 rfl 1 rfl ?_
      refine g_iload_n C dX6_codeNow_13 rfl 2 rfl ?_
      obtain ⟨r4, hX5, h⟩ := bd1_inv h
      refine g_callS C (c_X6_place l hX5) (cwSw 1 C.2.2.2.2.1 wl_1403 wl_1404 wl_121 wl_1405 rfl rfl (by decide +kernel) ⟨Nat.le_of_ble_eq_true rfl, Nat.le_of_ble_eq_true rfl⟩) rfl rfl rfl (Nat.le_of_ble_eq_true rfl) dX6_codeNow_14 ?_
      refine g_aload_n C dX6_codeNow_17 rfl 0 rfl ?_
      refine g_get C (T := TX6) hcl6 mO_0 rfl (j := 12) (by decide) wl_931 (v := .ref (ad 8)) rfl dX6_codeNow_18 ?_
      refine g_iload_n C dX6_codeNow_21 rfl 2 rfl ?_
      refine g_iald C mI_8 dX6_codeNow_22 h (fun h => ?_)
      refine g_imul C dX6_codeNow_23 ?_
      refine g_iadd C dX6_codeNow_24 ?_
      refine nm_i h (fun x1_6 h => ?_)
      refine g_istore_n (lv' := [(1, .int x1_6), (0, .ref (ad 0)), (2, .int x2_2)]) C dX6_codeNow_25 rfl (by decide) rfl ?_
      refine g_iinc (lv' := [(1, .int x1_6), (0, .ref (ad 0))]) C dX6_codeNow_26 (q := 2) rfl (by decide) h rfl (fun _ => rfl) (fun x2_7 h => ?_)
      refine g_goto (tgt := 4) C dX6_codeNow_29 (by decide) ?_
      exact g_sub [2, 1, 0] rfl (ih _ _ h)

def rmX6_lays : Room := { frames := 1, cells := 0, slots := 0, locals := 20 }
set_option maxRecDepth 100000 in
set_option maxHeartbeats 4000000 in
theorem c_X6_lays (l : Launch) {F : Nat}  {a0 : Int32}  {m : MM} {m' : MM} (h : f_X6_lays F a0 m = some m') : CT l yX6_lays cX6_lays 3 none rmX6_lays cfM 23 (fun ad tb => [.ref (ad 0), .int a0]) m none m' := by
  refine CT.of (cc := cX6_lays) (maxL := 3) (ret := none) (by decide) ⟨rfl, rfl⟩ (fun _ _ => Nat.le_of_ble_eq_true rfl) ?_
  intro p e s mt args below meth c D cA ad tb C hr hlk
  refine g_lv (lv' := [(0, .ref (ad 0)), (1, .int a0)]) rfl ?_
  have hcl6 : ∀ w ∈ wsX60, w.before args s = true := fun w hw => C.2.2.2.2.1 w (inlX6 w hw)
  unfold f_X6_lays at h
  refine g_iconst (v := (0 : Int32)) C dX6_lays_0 (by decide) ?_
  refine g_istore_n (lv' := [(2, .int (0 : Int32)), (0, .ref (ad 0)), (1, .int a0)]) C dX6_lays_1 rfl (by decide) rfl ?_
  refine g_sub [1, 2, 0] rfl ?_
  refine g_loop_IM (L := f_X6_lays_L2 a0) h 2 30 (fun x2_1 m2 => [(0, .ref (ad 0)), (1, .int a0), (2, .int x2_1)]) (fun x2_1 m2 => []) (fun x2_1 m2 => []) (fun x2_1 m2 => []) ?_ ?_ (fun _ _ _ => rfl)
  · intro x2_1 m2 h
    obtain rfl := so_inj h
    exact g_vret C hr hlk dX6_lays_30 rfl
  · intro K3 hK3 n ih x2_1 m2 h
    rw [f_X6_lays_L2] at h
    refine g_iload_n C dX6_lays_2 rfl 2 rfl ?_
    refine g_aload_n C dX6_lays_3 rfl 0 rfl ?_
    refine g_get C (T := TX6) hcl6 mO_0 rfl (j := 14) (by decide) wl_933 (v := .int (rI m2 0 14)) rfl dX6_lays_4 ?_
    refine g_icmp_ge (tgt := 30) C dX6_lays_7 (by decide) h (fun h => ?_) (fun h => ?_)
    · exact g_sub [] rfl (hK3 _ _ h)
    · refine g_aload_n C dX6_lays_10 rfl 0 rfl ?_
      refine g_get C (T := TX6) hcl6 mO_0 rfl (j := 12) (by decide) wl_931 (v := .ref (ad 8)) rfl dX6_lays_11 ?_
      refine g_iload_n C dX6_lays_14 rfl 2 rfl ?_
      refine g_iload_n C dX6_lays_15 rfl 1 rfl ?_
      refine g_iload_n C dX6_lays_16 rfl 2 rfl ?_
      obtain ⟨r4, hX5, h⟩ := bd1_inv h
      refine g_callS C (c_X6_place l hX5) (cwSw 1 C.2.2.2.2.1 wl_1403 wl_1404 wl_121 wl_1405 rfl rfl (by decide +kernel) ⟨Nat.le_of_ble_eq_true rfl, Nat.le_of_ble_eq_true rfl⟩) rfl rfl rfl (Nat.le_of_ble_eq_true rfl) dX6_lays_17 ?_
      refine g_idiv C dX6_lays_20 h (fun h => ?_)
      refine g_iconst (v := (5 : Int32)) C dX6_lays_21 (by decide) ?_
      refine g_irem C dX6_lays_22 h (fun h => ?_)
      refine g_iast C mI_8 dX6_lays_23 h (fun m6 h => ?_)
      refine g_iinc (lv' := [(0, .ref (ad 0)), (1, .int a0)]) C dX6_lays_24 (q := 2) rfl (by decide) h rfl (fun _ => rfl) (fun x2_7 h => ?_)
      refine g_goto (tgt := 2) C dX6_lays_27 (by decide) ?_
      exact g_sub [1, 2, 0] rfl (ih _ _ h)

def rmX6_areWell : Room := { frames := 3, cells := 0, slots := 0, locals := 71 }
set_option maxRecDepth 100000 in
set_option maxHeartbeats 4000000 in
theorem c_X6_areWell (l : Launch) {F : Nat}    {m : MM} {r : Int32} (h : f_X6_areWell F m = some r) : CT l yX6_areWell cX6_areWell 2 (some .boolean) rmX6_areWell cfM 23 (fun ad tb => [.ref (ad 0)]) m (some (.int r)) m := by
  refine CT.of (cc := cX6_areWell) (maxL := 2) (ret := (some .boolean)) (by decide) ⟨rfl, rfl⟩ (fun _ _ => Nat.le_of_ble_eq_true rfl) ?_
  intro p e s mt args below meth c D cA ad tb C hr hlk
  refine g_lv (lv' := [(0, .ref (ad 0))]) rfl ?_
  have hcl6 : ∀ w ∈ wsX60, w.before args s = true := fun w hw => C.2.2.2.2.1 w (inlX6 w hw)
  unfold f_X6_areWell at h
  refine g_iconst (v := (0 : Int32)) C dX6_areWell_0 (by decide) ?_
  refine g_istore_n (lv' := [(1, .int (0 : Int32)), (0, .ref (ad 0))]) C dX6_areWell_1 rfl (by decide) rfl ?_
  refine g_sub [1, 0] rfl ?_
  refine g_loop_I (L := f_X6_areWell_L2 F m) h 2 53 (fun x1_1 => [(0, .ref (ad 0)), (1, .int x1_1)]) (fun x1_1 => []) (fun x1_1 => []) (fun x1_1 => []) ?_ ?_ (fun _ _ => rfl)
  · intro x1_1 h
    refine g_iconst (v := (1 : Int32)) C dX6_areWell_53 (by decide) ?_
    obtain rfl := so_inj h
    exact g_zret C hr hlk dX6_areWell_54 rfl rfl
  · intro K2 hK2 n ih x1_1 h
    rw [f_X6_areWell_L2] at h
    refine g_iload_n C dX6_areWell_2 rfl 1 rfl ?_
    refine g_aload_n C dX6_areWell_3 rfl 0 rfl ?_
    refine g_get C (T := TX6) hcl6 mO_0 rfl (j := 14) (by decide) wl_933 (v := .int (rI m 0 14)) rfl dX6_areWell_4 ?_
    refine g_icmp_ge (tgt := 53) C dX6_areWell_7 (by decide) h (fun h => ?_) (fun h => ?_)
    · exact g_sub [] rfl (hK2 _ h)
    · refine g_aload_n C dX6_areWell_10 rfl 0 rfl ?_
      refine g_aload_n C dX6_areWell_11 rfl 0 rfl ?_
      refine g_get C (T := TX6) hcl6 mO_0 rfl (j := 12) (by decide) wl_931 (v := .ref (ad 8)) rfl dX6_areWell_12 ?_
      refine g_iload_n C dX6_areWell_15 rfl 1 rfl ?_
      refine g_iald C mI_8 dX6_areWell_16 h (fun h => ?_)
      obtain ⟨r3, hX4, h⟩ := bd1_inv h
      refine g_callV C (c_X6_isHold l hX4) (cwVw 1 C.2.2.2.2.1 wl_1099 wl_1101 wl_36 wl_121 wl_1102 rfl rfl (by decide +kernel) ⟨Nat.le_of_ble_eq_true rfl, Nat.le_of_ble_eq_true rfl⟩) mO_0 rfl rfl rfl rfl (Nat.le_of_ble_eq_true rfl) dX6_areWell_17 ?_
      refine g_if_eq (tgt := 45) C dX6_areWell_20 (by decide) h (fun h => ?_) (fun h => ?_)
      · refine g_iconst (v := (0 : Int32)) C dX6_areWell_45 (by decide) ?_
        obtain rfl := so_inj h
        exact g_zret C hr hlk dX6_areWell_46 rfl rfl
      · refine g_iload_n C dX6_areWell_23 rfl 1 rfl ?_
        refine g_aload_n C dX6_areWell_24 rfl 0 rfl ?_
        refine g_get C (T := TX6) hcl6 mO_0 rfl (j := 18) (by decide) wl_937 (v := .int (rI m 0 18)) rfl dX6_areWell_25 ?_
        refine g_icmp_eq (tgt := 47) C dX6_areWell_28 (by decide) h (fun h => ?_) (fun h => ?_)
        · refine g_iinc (lv' := [(0, .ref (ad 0))]) C dX6_areWell_47 (q := 1) rfl (by decide) h rfl (fun _ => rfl) (fun x1_5 h => ?_)
          refine g_goto (tgt := 2) C dX6_areWell_50 (by decide) ?_
          exact g_sub [1, 0] rfl (ih _ h)
        · refine g_aload_n C dX6_areWell_31 rfl 0 rfl ?_
          refine g_iload_n C dX6_areWell_32 rfl 1 rfl ?_
          refine g_aload_n C dX6_areWell_33 rfl 0 rfl ?_
          refine g_get C (T := TX6) hcl6 mO_0 rfl (j := 12) (by decide) wl_931 (v := .ref (ad 8)) rfl dX6_areWell_34 ?_
          refine g_iload_n C dX6_areWell_37 rfl 1 rfl ?_
          refine g_iald C mI_8 dX6_areWell_38 h (fun h => ?_)
          obtain ⟨r6, hX7, h⟩ := bd1_inv h
          refine g_callV C (c_X6_barsThing l hX7) (cwVw 2 C.2.2.2.2.1 wl_1375 wl_1377 wl_93 wl_121 wl_1378 rfl rfl (by decide +kernel) ⟨Nat.le_of_ble_eq_true rfl, Nat.le_of_ble_eq_true rfl⟩) mO_0 rfl rfl rfl rfl (Nat.le_of_ble_eq_true rfl) dX6_areWell_39 ?_
          refine g_if_eq (tgt := 47) C dX6_areWell_42 (by decide) h (fun h => ?_) (fun h => ?_)
          · refine g_iinc (lv' := [(0, .ref (ad 0))]) C dX6_areWell_47 (q := 1) rfl (by decide) h rfl (fun _ => rfl) (fun x1_8 h => ?_)
            refine g_goto (tgt := 2) C dX6_areWell_50 (by decide) ?_
            exact g_sub [1, 0] rfl (ih _ h)
          · refine g_iconst (v := (0 : Int32)) C dX6_areWell_45 (by decide) ?_
            obtain rfl := so_inj h
            exact g_zret C hr hlk dX6_areWell_46 rfl rfl

def rmX6_after : Room := { frames := 1, cells := 0, slots := 0, locals := 20 }
set_option maxRecDepth 100000 in
set_option maxHeartbeats 4000000 in
theorem c_X6_after (l : Launch)  {a0 : Int32} {a1 : Int32} {a2 : Int32}  {m : MM} {r : Int32} (h : f_X6_after a0 a1 a2 m = some r) : CT l yX6_after cX6_after 4 (some .int) rmX6_after cfM 23 (fun ad tb => [.ref (ad 0), .int a0, .int a1, .int a2]) m (some (.int r)) m := by
  refine CT.of (cc := cX6_after) (maxL := 4) (ret := (some .int)) (by decide) ⟨rfl, rfl⟩ (fun _ _ => Nat.le_of_ble_eq_true rfl) ?_
  intro p e s mt args below meth c D cA ad tb C hr hlk
  refine g_lv (lv' := [(0, .ref (ad 0)), (1, .int a0), (2, .int a1), (3, .int a2)]) rfl ?_
  unfold f_X6_after at h
  refine g_iload_n C dX6_after_0 rfl 1 rfl ?_
  refine g_iload_n C dX6_after_1 rfl 2 rfl ?_
  obtain ⟨r1, hX2, h⟩ := bd1_inv h
  refine g_callS C (c_X6_place l hX2) (cwSw 1 C.2.2.2.2.1 wl_1403 wl_1404 wl_121 wl_1405 rfl rfl (by decide +kernel) ⟨Nat.le_of_ble_eq_true rfl, Nat.le_of_ble_eq_true rfl⟩) rfl rfl rfl (Nat.le_of_ble_eq_true rfl) dX6_after_2 ?_
  refine g_iload_n C dX6_after_5 rfl 3 rfl ?_
  refine g_iload_n C dX6_after_6 rfl 1 rfl ?_
  refine g_iload_n C dX6_after_7 rfl 2 rfl ?_
  obtain ⟨r3, hX4, h⟩ := bd1_inv h
  refine g_callS C (c_X6_place l hX4) (cwSw 1 C.2.2.2.2.1 wl_1403 wl_1404 wl_121 wl_1405 rfl rfl (by decide +kernel) ⟨Nat.le_of_ble_eq_true rfl, Nat.le_of_ble_eq_true rfl⟩) rfl rfl rfl (Nat.le_of_ble_eq_true rfl) dX6_after_8 ?_
  refine g_idiv C dX6_after_11 h (fun h => ?_)
  refine g_iconst (v := (5 : Int32)) C dX6_after_12 (by decide) ?_
  refine g_irem C dX6_after_13 h (fun h => ?_)
  refine g_isub C dX6_after_14 ?_
  refine g_imul C dX6_after_15 ?_
  refine g_iadd C dX6_after_16 ?_
  obtain rfl := so_inj h
  exact g_iret C hr hlk dX6_after_17 rfl

def rmX6_eases : Room := { frames := 2, cells := 0, slots := 0, locals := 43 }
set_option maxRecDepth 100000 in
set_option maxHeartbeats 4000000 in
theorem c_X6_eases (l : Launch) {F : Nat}  {a0 : Int32}  {m : MM} {m' : MM} {r : Int32} (h : f_X6_eases F a0 m = some (r, m')) : CT l yX6_eases cX6_eases 7 (some .boolean) rmX6_eases cfM 23 (fun ad tb => [.ref (ad 0), .int a0]) m (some (.int r)) m' := by
  refine CT.of (cc := cX6_eases) (maxL := 7) (ret := (some .boolean)) (by decide) ⟨rfl, rfl⟩ (fun _ _ => Nat.le_of_ble_eq_true rfl) ?_
  intro p e s mt args below meth c D cA ad tb C hr hlk
  refine g_lv (lv' := [(0, .ref (ad 0)), (1, .int a0)]) rfl ?_
  have hcl6 : ∀ w ∈ wsX60, w.before args s = true := fun w hw => C.2.2.2.2.1 w (inlX6 w hw)
  unfold f_X6_eases at h
  refine g_iconst (v := (0 : Int32)) C dX6_eases_0 (by decide) ?_
  refine g_istore_n (lv' := [(2, .int (0 : Int32)), (0, .ref (ad 0)), (1, .int a0)]) C dX6_eases_1 rfl (by decide) rfl ?_
  refine g_iconst (v := (0 : Int32)) C dX6_eases_2 (by decide) ?_
  refine g_istore_n (lv' := [(3, .int (0 : Int32)), (2, .int (0 : Int32)), (0, .ref (ad 0)), (1, .int a0)]) C dX6_eases_3 rfl (by decide) rfl ?_
  refine g_sub [2, 3, 1, 0] rfl ?_
  refine g_loop_IIM (L := f_X6_eases_L4 F a0) h 4 184 (fun x2_1 x3_2 m3 => [(0, .ref (ad 0)), (1, .int a0), (2, .int x2_1), (3, .int x3_2)]) (fun x2_1 x3_2 m3 => [(2, .int x2_1)]) (fun x2_1 x3_2 m3 => []) (fun x2_1 x3_2 m3 => []) ?_ ?_ (fun _ _ _ _ => rfl)
  · intro x2_1 x3_2 m3 h
    refine g_iload_n C dX6_eases_184 rfl 0 rfl ?_
    obtain ⟨hz, h⟩ := Gu_inv h
    obtain ⟨rfl, rfl⟩ := sp_inj h
    exact g_zret C hr hlk dX6_eases_185 hz rfl
  · intro K4 hK4 n ih x2_1 x3_2 m3 h
    rw [f_X6_eases_L4] at h
    refine g_iload_n C dX6_eases_4 rfl 3 rfl ?_
    refine g_aload_n C dX6_eases_5 rfl 0 rfl ?_
    refine g_get C (T := TX6) hcl6 mO_0 rfl (j := 14) (by decide) wl_933 (v := .int (rI m3 0 14)) rfl dX6_eases_6 ?_
    refine g_icmp_ge (tgt := 184) C dX6_eases_9 (by decide) h (fun h => ?_) (fun h => ?_)
    · exact g_sub [2] rfl (hK4 _ _ _ h)
    · refine g_iload_n C dX6_eases_12 rfl 1 rfl ?_
      refine g_iload_n C dX6_eases_13 rfl 3 rfl ?_
      obtain ⟨r5, hX6, h⟩ := bd1_inv h
      refine g_callS C (c_X6_place l hX6) (cwSw 1 C.2.2.2.2.1 wl_1403 wl_1404 wl_121 wl_1405 rfl rfl (by decide +kernel) ⟨Nat.le_of_ble_eq_true rfl, Nat.le_of_ble_eq_true rfl⟩) rfl rfl rfl (Nat.le_of_ble_eq_true rfl) dX6_eases_14 ?_
      refine g_idiv C dX6_eases_17 h (fun h => ?_)
      refine g_iconst (v := (5 : Int32)) C dX6_eases_18 (by decide) ?_
      refine g_irem C dX6_eases_19 h (fun h => ?_)
      refine nm_i h (fun x4_7 h => ?_)
      refine g_istore (lv' := [(4, .int x4_7), (0, .ref (ad 0)), (1, .int a0), (2, .int x2_1), (3, .int x3_2)]) C dX6_eases_20 (by decide) rfl ?_
      refine g_iconst (v := (0 : Int32)) C dX6_eases_22 (by decide) ?_
      refine g_istore (lv' := [(5, .int (0 : Int32)), (4, .int x4_7), (0, .ref (ad 0)), (1, .int a0), (2, .int x2_1), (3, .int x3_2)]) C dX6_eases_23 (by decide) rfl ?_
      refine g_sub [2, 3, 4, 5, 1, 0] rfl ?_
      refine g_loop_IIM (L := f_X6_eases_L25 a0 x3_2 x4_7) h 25 178 (fun x2_8 x5_9 m10 => [(0, .ref (ad 0)), (1, .int a0), (2, .int x2_8), (3, .int x3_2), (4, .int x4_7), (5, .int x5_9)]) (fun x2_8 x5_9 m10 => [(0, .ref (ad 0)), (1, .int a0), (2, .int x2_8), (3, .int x3_2)]) (fun x2_8 x5_9 m10 => []) (fun x2_8 x5_9 m10 => []) ?_ ?_ (fun _ _ _ _ => rfl)
      · intro x2_8 x5_9 m10 h
        refine g_iinc (lv' := [(0, .ref (ad 0)), (1, .int a0), (2, .int x2_8)]) C dX6_eases_178 (q := 3) rfl (by decide) h rfl (fun _ => rfl) (fun x3_23 h => ?_)
        refine g_goto (tgt := 4) C dX6_eases_181 (by decide) ?_
        exact g_sub [1, 2, 3, 0] rfl (ih _ _ _ h)
      · intro K11 hK11 n ih x2_8 x5_9 m10 h
        rw [f_X6_eases_L25] at h
        refine g_iload C dX6_eases_25 5 rfl ?_
        refine g_aload_n C dX6_eases_27 rfl 0 rfl ?_
        refine g_get C (T := TX6) hcl6 mO_0 rfl (j := 9) (by decide) wl_928 (v := .int (rI m10 0 9)) rfl dX6_eases_28 ?_
        refine g_icmp_ge (tgt := 178) C dX6_eases_31 (by decide) h (fun h => ?_) (fun h => ?_)
        · exact g_sub [0, 1, 2, 3] rfl (hK11 _ _ _ h)
        · refine g_iload_n C dX6_eases_34 rfl 3 rfl ?_
          refine g_aload_n C dX6_eases_35 rfl 0 rfl ?_
          refine g_get C (T := TX6) hcl6 mO_0 rfl (j := 18) (by decide) wl_937 (v := .int (rI m10 0 18)) rfl dX6_eases_36 ?_
          refine g_icmp_eq (tgt := 178) C dX6_eases_39 (by decide) h (fun h => ?_) (fun h => ?_)
          · exact g_sub [0, 1, 2, 3] rfl (hK11 _ _ _ h)
          · refine g_aload_n C dX6_eases_42 rfl 0 rfl ?_
            refine g_iload_n C dX6_eases_43 rfl 1 rfl ?_
            refine g_iload_n C dX6_eases_44 rfl 3 rfl ?_
            refine g_iload C dX6_eases_45 5 rfl ?_
            obtain ⟨r12, hX13, h⟩ := bd1_inv h
            refine g_callV C (c_X6_after l hX13) (cwVw 3 C.2.2.2.2.1 wl_1419 wl_1421 wl_100 wl_121 wl_1422 rfl rfl (by decide +kernel) ⟨Nat.le_of_ble_eq_true rfl, Nat.le_of_ble_eq_true rfl⟩) mO_0 rfl rfl rfl rfl (Nat.le_of_ble_eq_true rfl) dX6_eases_47 ?_
            refine g_istore (lv' := [(6, .int r12), (0, .ref (ad 0)), (1, .int a0), (2, .int x2_8), (3, .int x3_2), (4, .int x4_7), (5, .int x5_9)]) C dX6_eases_50 (by decide) rfl ?_
            refine g_iload C dX6_eases_52 6 rfl ?_
            refine g_iload C dX6_eases_54 5 rfl ?_
            refine g_icmp_eq (tgt := 172) C dX6_eases_56 (by decide) h (fun h => ?_) (fun h => ?_)
            · refine g_iinc (lv' := [(6, .int r12), (0, .ref (ad 0)), (1, .int a0), (2, .int x2_8), (3, .int x3_2), (4, .int x4_7)]) C dX6_eases_172 (q := 6) rfl (by decide) h rfl (fun _ => rfl) (fun x5_14 h => ?_)
              refine g_goto (tgt := 25) C dX6_eases_175 (by decide) ?_
              exact g_sub [2, 3, 4, 5, 6, 0] rfl (ih _ _ _ h)
            · refine g_aload_n C dX6_eases_59 rfl 1 rfl ?_
              refine g_get C (T := TX6) hcl6 mO_0 rfl (j := 35) (by decide) wl_954 (v := .ref (ad 11)) rfl dX6_eases_60 ?_
              refine g_iload C dX6_eases_63 0 rfl ?_
              refine g_iald C mI_11 dX6_eases_65 h (fun h => ?_)
              refine g_iconst (v := (1 : Int32)) C dX6_eases_66 (by decide) ?_
              refine g_icmp_ne (tgt := 172) C dX6_eases_67 (by decide) h (fun h => ?_) (fun h => ?_)
              · refine g_aload_n C dX6_eases_70 rfl 1 rfl ?_
                refine g_get C (T := TX6) hcl6 mO_0 rfl (j := 36) (by decide) wl_955 (v := .ref (ad 12)) rfl dX6_eases_71 ?_
                refine g_iload C dX6_eases_74 0 rfl ?_
                refine g_iald C mI_12 dX6_eases_76 h (fun h => ?_)
                refine g_iconst (v := (1 : Int32)) C dX6_eases_77 (by decide) ?_
                refine g_iadd C dX6_eases_78 ?_
                refine g_aload_n C dX6_eases_79 rfl 1 rfl ?_
                refine g_get C (T := TX6) hcl6 mO_0 rfl (j := 36) (by decide) wl_955 (v := .ref (ad 12)) rfl dX6_eases_80 ?_
                refine g_iload_n C dX6_eases_83 rfl 2 rfl ?_
                refine g_iald C mI_12 dX6_eases_84 h (fun h => ?_)
                refine g_join_IM h 105 (fun x2_15 m16 => [(0, .ref (ad 0)), (1, .int a0), (2, .int x2_15), (3, .int x3_2), (4, .int x4_7), (5, .int x5_9), (6, .int r12)]) (fun x2_15 m16 => []) ?_ ?_
                · intro x2_15 m16 h
                  refine g_aload_n C dX6_eases_105 rfl 0 rfl ?_
                  refine g_get C (T := TX6) hcl6 mO_0 rfl (j := 37) (by decide) wl_956 (v := .ref (ad 13)) rfl dX6_eases_106 ?_
                  refine g_iload C dX6_eases_109 6 rfl ?_
                  refine g_iald C mI_13 dX6_eases_111 h (fun h => ?_)
                  refine g_aload_n C dX6_eases_112 rfl 0 rfl ?_
                  refine g_get C (T := TX6) hcl6 mO_0 rfl (j := 38) (by decide) wl_957 (v := .ref (ad 14)) rfl dX6_eases_113 ?_
                  refine g_bipush (v := (25 : Int32)) C dX6_eases_116 (by decide) ?_
                  refine g_iload_n C dX6_eases_118 rfl 3 rfl ?_
                  refine g_imul C dX6_eases_119 ?_
                  refine g_iconst (v := (5 : Int32)) C dX6_eases_120 (by decide) ?_
                  refine g_iload C dX6_eases_121 4 rfl ?_
                  refine g_imul C dX6_eases_123 ?_
                  refine g_iadd C dX6_eases_124 ?_
                  refine g_iload C dX6_eases_125 5 rfl ?_
                  refine g_iadd C dX6_eases_127 ?_
                  refine g_iald C mI_14 dX6_eases_128 h (fun h => ?_)
                  refine g_iadd C dX6_eases_129 ?_
                  refine g_aload_n C dX6_eases_130 rfl 0 rfl ?_
                  refine g_get C (T := TX6) hcl6 mO_0 rfl (j := 37) (by decide) wl_956 (v := .ref (ad 13)) rfl dX6_eases_131 ?_
                  refine g_iload_n C dX6_eases_134 rfl 1 rfl ?_
                  refine g_iald C mI_13 dX6_eases_135 h (fun h => ?_)
                  refine g_icmp_ge (tgt := 172) C dX6_eases_136 (by decide) h (fun h => ?_) (fun h => ?_)
                  · refine g_iinc (lv' := [(0, .ref (ad 0)), (1, .int a0), (2, .int x2_15), (3, .int x3_2), (4, .int x4_7), (6, .int r12)]) C dX6_eases_172 (q := 5) rfl (by decide) h rfl (fun _ => rfl) (fun x5_18 h => ?_)
                    refine g_goto (tgt := 25) C dX6_eases_175 (by decide) ?_
                    exact g_sub [1, 2, 3, 4, 5, 0] rfl (ih _ _ _ h)
                  · refine g_aload_n C dX6_eases_139 rfl 0 rfl ?_
                    refine g_get C (T := TX6) hcl6 mO_0 rfl (j := 37) (by decide) wl_956 (v := .ref (ad 13)) rfl dX6_eases_140 ?_
                    refine g_iload_n C dX6_eases_143 rfl 1 rfl ?_
                    refine g_aload_n C dX6_eases_144 rfl 0 rfl ?_
                    refine g_get C (T := TX6) hcl6 mO_0 rfl (j := 37) (by decide) wl_956 (v := .ref (ad 13)) rfl dX6_eases_145 ?_
                    refine g_iload C dX6_eases_148 6 rfl ?_
                    refine g_iald C mI_13 dX6_eases_150 h (fun h => ?_)
                    refine g_aload_n C dX6_eases_151 rfl 0 rfl ?_
                    refine g_get C (T := TX6) hcl6 mO_0 rfl (j := 38) (by decide) wl_957 (v := .ref (ad 14)) rfl dX6_eases_152 ?_
                    refine g_bipush (v := (25 : Int32)) C dX6_eases_155 (by decide) ?_
                    refine g_iload_n C dX6_eases_157 rfl 3 rfl ?_
                    refine g_imul C dX6_eases_158 ?_
                    refine g_iconst (v := (5 : Int32)) C dX6_eases_159 (by decide) ?_
                    refine g_iload C dX6_eases_160 4 rfl ?_
                    refine g_imul C dX6_eases_162 ?_
                    refine g_iadd C dX6_eases_163 ?_
                    refine g_iload C dX6_eases_164 5 rfl ?_
                    refine g_iadd C dX6_eases_166 ?_
                    refine g_iald C mI_14 dX6_eases_167 h (fun h => ?_)
                    refine g_iadd C dX6_eases_168 ?_
                    refine g_iast C mI_13 dX6_eases_169 h (fun m19 h => ?_)
                    refine g_iconst (v := (1 : Int32)) C dX6_eases_170 (by decide) ?_
                    refine g_istore_n (lv' := [(2, .int (1 : Int32)), (0, .ref (ad 0)), (1, .int a0), (3, .int x3_2), (4, .int x4_7), (5, .int x5_9), (6, .int r12)]) C dX6_eases_171 rfl (by decide) rfl ?_
                    refine g_iinc (lv' := [(2, .int (1 : Int32)), (0, .ref (ad 0)), (1, .int a0), (3, .int x3_2), (4, .int x4_7), (6, .int r12)]) C dX6_eases_172 (q := 5) rfl (by decide) h rfl (fun _ => rfl) (fun x5_20 h => ?_)
                    refine g_goto (tgt := 25) C dX6_eases_175 (by decide) ?_
                    exact g_sub [2, 3, 1, 4, 5, 0] rfl (ih _ _ _ h)
                intro J17 hJ17 h
                refine g_icmp_ge (tgt := 105) C dX6_eases_85 (by decide) h (fun h => ?_) (fun h => ?_)
                · exact g_sub [1, 2, 3, 4, 5, 6, 0] rfl (hJ17 _ _ h)
                · refine g_aload_n C dX6_eases_88 rfl 1 rfl ?_
                  refine g_get C (T := TX6) hcl6 mO_0 rfl (j := 36) (by decide) wl_955 (v := .ref (ad 12)) rfl dX6_eases_89 ?_
                  refine g_iload_n C dX6_eases_92 rfl 2 rfl ?_
                  refine g_aload_n C dX6_eases_93 rfl 1 rfl ?_
                  refine g_get C (T := TX6) hcl6 mO_0 rfl (j := 36) (by decide) wl_955 (v := .ref (ad 12)) rfl dX6_eases_94 ?_
                  refine g_iload C dX6_eases_97 0 rfl ?_
                  refine g_iald C mI_12 dX6_eases_99 h (fun h => ?_)
                  refine g_iconst (v := (1 : Int32)) C dX6_eases_100 (by decide) ?_
                  refine g_iadd C dX6_eases_101 ?_
                  refine g_iast C mI_12 dX6_eases_102 h (fun m21 h => ?_)
                  refine g_iconst (v := (1 : Int32)) C dX6_eases_103 (by decide) ?_
                  refine g_istore_n (lv' := [(2, .int (1 : Int32)), (6, .int r12), (0, .ref (ad 0)), (1, .int a0), (3, .int x3_2), (4, .int x4_7), (5, .int x5_9)]) C dX6_eases_104 rfl (by decide) rfl ?_
                  exact g_sub [2, 3, 0, 4, 5, 6, 1] rfl (hJ17 _ _ h)
              · refine g_iinc (lv' := [(6, .int r12), (0, .ref (ad 0)), (1, .int a0), (2, .int x2_8), (3, .int x3_2), (4, .int x4_7)]) C dX6_eases_172 (q := 6) rfl (by decide) h rfl (fun _ => rfl) (fun x5_22 h => ?_)
                refine g_goto (tgt := 25) C dX6_eases_175 (by decide) ?_
                exact g_sub [2, 3, 4, 5, 6, 0] rfl (ih _ _ _ h)

def rmX6_gathers : Room := { frames := 43, cells := 0, slots := 0, locals := 954 }
set_option maxRecDepth 100000 in
set_option maxHeartbeats 4000000 in
theorem c_X6_gathers (l : Launch) {F : Nat}    {m : MM} {m' : MM} (h : f_X6_gathers F m = some m') : CT l yX6_gathers cX6_gathers 6 none rmX6_gathers cfM 23 (fun ad tb => [.ref (ad 0)]) m none m' := by
  refine CT.of (cc := cX6_gathers) (maxL := 6) (ret := none) (by decide) ⟨rfl, rfl⟩ (fun _ _ => Nat.le_of_ble_eq_true rfl) ?_
  intro p e s mt args below meth c D cA ad tb C hr hlk
  refine g_lv (lv' := [(0, .ref (ad 0))]) rfl ?_
  have hcl6 : ∀ w ∈ wsX60, w.before args s = true := fun w hw => C.2.2.2.2.1 w (inlX6 w hw)
  unfold f_X6_gathers at h
  refine g_aload_n C dX6_gathers_0 rfl 0 rfl ?_
  obtain ⟨r1, hX2, h⟩ := bd1_inv h
  refine g_callV C (c_X6_codeNow l hX2) (cwVw 0 C.2.2.2.2.1 wl_1399 wl_1401 wl_96 wl_121 wl_1402 rfl rfl (by decide +kernel) ⟨Nat.le_of_ble_eq_true rfl, Nat.le_of_ble_eq_true rfl⟩) mO_0 rfl rfl rfl rfl (Nat.le_of_ble_eq_true rfl) dX6_gathers_1 ?_
  refine g_istore_n (lv' := [(1, .int r1), (0, .ref (ad 0))]) C dX6_gathers_4 rfl (by decide) rfl ?_
  refine g_aload_n C dX6_gathers_5 rfl 1 rfl ?_
  refine g_get C (T := TX6) hcl6 mO_0 rfl (j := 14) (by decide) wl_933 (v := .int (rI m 0 14)) rfl dX6_gathers_6 ?_
  refine g_join_I h 27 (fun s3 => [(0, .ref (ad 0)), (1, .int r1)]) (fun s3 => [.int s3]) ?_ ?_
  · intro s3 h
    refine g_istore_n (lv' := [(2, .int s3), (0, .ref (ad 0)), (1, .int r1)]) C dX6_gathers_27 rfl (by decide) rfl ?_
    refine g_iconst (v := (0 : Int32)) C dX6_gathers_28 (by decide) ?_
    refine g_istore_n (lv' := [(3, .int (0 : Int32)), (2, .int s3), (0, .ref (ad 0)), (1, .int r1)]) C dX6_gathers_29 rfl (by decide) rfl ?_
    refine g_sub [2, 3, 1, 0] rfl ?_
    refine g_loop_IM (L := f_X6_gathers_L30 F) h 30 107 (fun x3_5 m6 => [(0, .ref (ad 0)), (1, .int r1), (2, .int s3), (3, .int x3_5)]) (fun x3_5 m6 => [(0, .ref (ad 0)), (1, .int r1), (2, .int s3)]) (fun x3_5 m6 => []) (fun x3_5 m6 => []) ?_ ?_ (fun _ _ _ => rfl)
    · intro x3_5 m6 h
      refine g_iconst (v := (0 : Int32)) C dX6_gathers_107 (by decide) ?_
      refine g_istore_n (lv' := [(3, .int (0 : Int32)), (0, .ref (ad 0)), (1, .int r1), (2, .int s3)]) C dX6_gathers_108 rfl (by decide) rfl ?_
      refine g_sub [1, 2, 3, 0] rfl ?_
      refine g_loop_IM (L := f_X6_gathers_L109 F s3) h 109 184 (fun x3_21 m22 => [(0, .ref (ad 0)), (1, .int r1), (2, .int s3), (3, .int x3_21)]) (fun x3_21 m22 => [(0, .ref (ad 0)), (1, .int r1), (2, .int s3)]) (fun x3_21 m22 => []) (fun x3_21 m22 => []) ?_ ?_ (fun _ _ _ => rfl)
      · intro x3_21 m22 h
        refine g_aload_n C dX6_gathers_184 rfl 0 rfl ?_
        refine g_iload_n C dX6_gathers_185 rfl 1 rfl ?_
        obtain ⟨m40, hX39, h⟩ := bd1_inv h
        refine g_callV C (c_X6_lays l hX39) (cwVw 1 C.2.2.2.2.1 wl_1406 wl_1408 wl_97 wl_121 wl_1409 rfl rfl (by decide +kernel) ⟨Nat.le_of_ble_eq_true rfl, Nat.le_of_ble_eq_true rfl⟩) mO_0 rfl rfl rfl rfl (Nat.le_of_ble_eq_true rfl) dX6_gathers_186 ?_
        refine g_iconst (v := (1 : Int32)) C dX6_gathers_189 (by decide) ?_
        refine g_istore_n (lv' := [(3, .int (1 : Int32)), (0, .ref (ad 0)), (1, .int r1), (2, .int s3)]) C dX6_gathers_190 rfl (by decide) rfl ?_
        refine g_sub [1, 3, 0] rfl ?_
        refine g_loop_IM (L := f_X6_gathers_L191 F s3) h 191 237 (fun x3_41 m42 => [(0, .ref (ad 0)), (2, .int s3), (3, .int x3_41)]) (fun x3_41 m42 => []) (fun x3_41 m42 => []) (fun x3_41 m42 => []) ?_ ?_ (fun _ _ _ => rfl)
        · intro x3_41 m42 h
          obtain rfl := so_inj h
          exact g_vret C hr hlk dX6_gathers_237 rfl
        · intro K43 hK43 n ih x3_41 m42 h
          rw [f_X6_gathers_L191] at h
          refine g_iload_n C dX6_gathers_191 rfl 2 rfl ?_
          refine g_if_eq (tgt := 237) C dX6_gathers_192 (by decide) h (fun h => ?_) (fun h => ?_)
          · exact g_sub [] rfl (hK43 _ _ h)
          · refine g_iconst (v := (0 : Int32)) C dX6_gathers_195 (by decide) ?_
            refine g_istore_n (lv' := [(3, .int (0 : Int32)), (0, .ref (ad 0)), (2, .int s3)]) C dX6_gathers_196 rfl (by decide) rfl ?_
            refine g_iconst (v := (0 : Int32)) C dX6_gathers_197 (by decide) ?_
            refine g_istore (lv' := [(4, .int (0 : Int32)), (3, .int (0 : Int32)), (0, .ref (ad 0)), (2, .int s3)]) C dX6_gathers_198 (by decide) rfl ?_
            refine g_sub [2, 3, 1, 0] rfl ?_
            refine g_loop_IIM (L := f_X6_gathers_L200 F s3) h 200 191 (fun x3_44 x4_45 m46 => [(0, .ref (ad 0)), (2, .int s3), (3, .int x3_44), (4, .int x4_45)]) (fun x3_44 x4_45 m46 => [(0, .ref (ad 0)), (2, .int s3), (3, .int x3_44)]) (fun x3_44 x4_45 m46 => []) (fun x3_44 x4_45 m46 => []) ?_ ?_ (fun _ _ _ _ => rfl)
            · intro x3_44 x4_45 m46 h
              exact g_sub [0, 1, 2] rfl (ih _ _ h)
            · intro K47 hK47 n ih x3_44 x4_45 m46 h
              rw [f_X6_gathers_L200] at h
              refine g_iload C dX6_gathers_200 3 rfl ?_
              refine g_iload_n C dX6_gathers_202 rfl 1 rfl ?_
              refine g_icmp_ge (tgt := 234) C dX6_gathers_203 (by decide) h (fun h => ?_) (fun h => ?_)
              · refine g_goto (tgt := 191) C dX6_gathers_234 (by decide) ?_
                exact g_sub [0, 1, 2] rfl (hK47 _ _ _ h)
              · refine g_aload_n C dX6_gathers_206 rfl 0 rfl ?_
                refine g_get C (T := TX6) hcl6 mO_0 rfl (j := 35) (by decide) wl_954 (v := .ref (ad 11)) rfl dX6_gathers_207 ?_
                refine g_iload C dX6_gathers_210 3 rfl ?_
                refine g_iald C mI_11 dX6_gathers_212 h (fun h => ?_)
                refine g_iconst (v := (1 : Int32)) C dX6_gathers_213 (by decide) ?_
                refine g_icmp_ne (tgt := 228) C dX6_gathers_214 (by decide) h (fun h => ?_) (fun h => ?_)
                · refine g_aload_n C dX6_gathers_217 rfl 0 rfl ?_
                  refine g_iload C dX6_gathers_218 3 rfl ?_
                  obtain ⟨r48, m50, hX49, h⟩ := bd2_inv h
                  refine g_callV C (c_X6_eases l hX49) (cwVw 1 C.2.2.2.2.1 wl_1415 wl_1417 wl_99 wl_121 wl_1418 rfl rfl (by decide +kernel) ⟨Nat.le_of_ble_eq_true rfl, Nat.le_of_ble_eq_true rfl⟩) mO_0 rfl rfl rfl rfl (Nat.le_of_ble_eq_true rfl) dX6_gathers_220 ?_
                  refine g_if_eq (tgt := 228) C dX6_gathers_223 (by decide) h (fun h => ?_) (fun h => ?_)
                  · refine g_iinc (lv' := [(0, .ref (ad 0)), (2, .int s3), (3, .int x3_44)]) C dX6_gathers_228 (q := 3) rfl (by decide) h rfl (fun _ => rfl) (fun x4_51 h => ?_)
                    refine g_goto (tgt := 200) C dX6_gathers_231 (by decide) ?_
                    exact g_sub [1, 2, 3, 0] rfl (ih _ _ _ h)
                  · refine g_iconst (v := (1 : Int32)) C dX6_gathers_226 (by decide) ?_
                    refine g_istore_n (lv' := [(3, .int (1 : Int32)), (0, .ref (ad 0)), (2, .int s3), (4, .int x4_45)]) C dX6_gathers_227 rfl (by decide) rfl ?_
                    refine g_iinc (lv' := [(3, .int (1 : Int32)), (0, .ref (ad 0)), (2, .int s3)]) C dX6_gathers_228 (q := 3) rfl (by decide) h rfl (fun _ => rfl) (fun x4_52 h => ?_)
                    refine g_goto (tgt := 200) C dX6_gathers_231 (by decide) ?_
                    exact g_sub [2, 3, 1, 0] rfl (ih _ _ _ h)
                · refine g_iinc (lv' := [(0, .ref (ad 0)), (2, .int s3), (3, .int x3_44)]) C dX6_gathers_228 (q := 3) rfl (by decide) h rfl (fun _ => rfl) (fun x4_53 h => ?_)
                  refine g_goto (tgt := 200) C dX6_gathers_231 (by decide) ?_
                  exact g_sub [1, 2, 3, 0] rfl (ih _ _ _ h)
      · intro K23 hK23 n ih x3_21 m22 h
        rw [f_X6_gathers_L109] at h
        refine g_iload_n C dX6_gathers_109 rfl 3 rfl ?_
        refine g_iload_n C dX6_gathers_110 rfl 2 rfl ?_
        refine g_icmp_ge (tgt := 184) C dX6_gathers_111 (by decide) h (fun h => ?_) (fun h => ?_)
        · exact g_sub [0, 1, 2] rfl (hK23 _ _ h)
        · refine g_aload_n C dX6_gathers_114 rfl 0 rfl ?_
          refine g_iload_n C dX6_gathers_115 rfl 3 rfl ?_
          obtain ⟨m25, hX24, h⟩ := bd1_inv h
          refine g_callV C (c_X6_lays l hX24) (cwVw 1 C.2.2.2.2.1 wl_1406 wl_1408 wl_97 wl_121 wl_1409 rfl rfl (by decide +kernel) ⟨Nat.le_of_ble_eq_true rfl, Nat.le_of_ble_eq_true rfl⟩) mO_0 rfl rfl rfl rfl (Nat.le_of_ble_eq_true rfl) dX6_gathers_116 ?_
          refine g_aload_n C dX6_gathers_119 rfl 0 rfl ?_
          obtain ⟨r26, hX27, h⟩ := bd1_inv h
          refine g_callV C (c_X6_areWell l hX27) (cwVw 0 C.2.2.2.2.1 wl_1410 wl_1412 wl_98 wl_121 wl_1413 rfl rfl (by decide +kernel) ⟨Nat.le_of_ble_eq_true rfl, Nat.le_of_ble_eq_true rfl⟩) mO_0 rfl rfl rfl rfl (Nat.le_of_ble_eq_true rfl) dX6_gathers_120 ?_
          refine g_istore (lv' := [(4, .int r26), (0, .ref (ad 0)), (1, .int r1), (2, .int s3), (3, .int x3_21)]) C dX6_gathers_123 (by decide) rfl ?_
          refine g_aload_n C dX6_gathers_125 rfl 1 rfl ?_
          refine g_get C (T := TX6) hcl6 mO_0 rfl (j := 35) (by decide) wl_954 (v := .ref (ad 11)) rfl dX6_gathers_126 ?_
          refine g_iload_n C dX6_gathers_129 rfl 4 rfl ?_
          refine g_iload C dX6_gathers_130 0 rfl ?_
          refine g_join_I h 140 (fun s28 => [(0, .ref (ad 0)), (1, .int r1), (2, .int s3), (3, .int x3_21), (4, .int r26)]) (fun s28 => [.int s28, .int x3_21, .ref (ad 11)]) ?_ ?_
          · intro s28 h
            refine g_iast C mI_11 dX6_gathers_140 h (fun m30 h => ?_)
            refine g_aload_n C dX6_gathers_141 rfl 0 rfl ?_
            refine g_get C (T := TX6) hcl6 mO_0 rfl (j := 36) (by decide) wl_955 (v := .ref (ad 12)) rfl dX6_gathers_142 ?_
            refine g_iload_n C dX6_gathers_145 rfl 3 rfl ?_
            refine g_iload C dX6_gathers_146 4 rfl ?_
            refine g_join_I h 165 (fun s31 => [(0, .ref (ad 0)), (1, .int r1), (2, .int s3), (3, .int x3_21)]) (fun s31 => [.int s31, .int x3_21, .ref (ad 12)]) ?_ ?_
            · intro s31 h
              refine g_iast C mI_12 dX6_gathers_165 h (fun m33 h => ?_)
              refine g_aload_n C dX6_gathers_166 rfl 0 rfl ?_
              refine g_get C (T := TX6) hcl6 mO_0 rfl (j := 37) (by decide) wl_956 (v := .ref (ad 13)) rfl dX6_gathers_167 ?_
              refine g_iload_n C dX6_gathers_170 rfl 3 rfl ?_
              refine g_aload_n C dX6_gathers_171 rfl 0 rfl ?_
              refine g_get C (T := TX6) hcl6 mO_0 rfl (j := 36) (by decide) wl_955 (v := .ref (ad 12)) rfl dX6_gathers_172 ?_
              refine g_iload_n C dX6_gathers_175 rfl 3 rfl ?_
              refine g_iald C mI_12 dX6_gathers_176 h (fun h => ?_)
              refine g_iast C mI_13 dX6_gathers_177 h (fun m34 h => ?_)
              refine g_iinc (lv' := [(0, .ref (ad 0)), (1, .int r1), (2, .int s3)]) C dX6_gathers_178 (q := 3) rfl (by decide) h rfl (fun _ => rfl) (fun x3_35 h => ?_)
              refine g_goto (tgt := 109) C dX6_gathers_181 (by decide) ?_
              exact g_sub [1, 2, 3, 0] rfl (ih _ _ h)
            intro J32 hJ32 h
            refine g_join_ h 162 ([(0, .ref (ad 0)), (1, .int r1), (2, .int s3), (3, .int x3_21)]) ([.int x3_21, .ref (ad 12)]) ?_ ?_
            · intro h
              refine g_ldcw (v := (99999999 : Int32)) C dX6_gathers_162 wl_1414 ?_
              exact g_sub [0, 1, 2, 3] rfl (hJ32 _ h)
            intro J36 hJ36 h
            refine g_if_eq (tgt := 162) C dX6_gathers_148 (by decide) h (fun h => ?_) (fun h => ?_)
            · exact g_sub [0, 1, 2, 3] rfl (hJ36  h)
            · refine g_aload_n C dX6_gathers_151 rfl 0 rfl ?_
              obtain ⟨r37, hX38, h⟩ := bd1_inv h
              refine g_callV C (c_X6_isOpen l hX38) (cwVw 0 C.2.2.2.2.1 wl_1387 wl_1389 wl_94 wl_121 wl_1390 rfl rfl (by decide +kernel) ⟨Nat.le_of_ble_eq_true rfl, Nat.le_of_ble_eq_true rfl⟩) mO_0 rfl rfl rfl rfl (Nat.le_of_ble_eq_true rfl) dX6_gathers_152 ?_
              refine g_if_eq (tgt := 162) C dX6_gathers_155 (by decide) h (fun h => ?_) (fun h => ?_)
              · exact g_sub [0, 1, 2, 3] rfl (hJ36  h)
              · refine g_iconst (v := (0 : Int32)) C dX6_gathers_158 (by decide) ?_
                refine g_goto (tgt := 165) C dX6_gathers_159 (by decide) ?_
                exact g_sub [0, 1, 2, 3] rfl (hJ32 _ h)
          intro J29 hJ29 h
          refine g_if_eq (tgt := 139) C dX6_gathers_132 (by decide) h (fun h => ?_) (fun h => ?_)
          · refine g_iconst (v := (0 : Int32)) C dX6_gathers_139 (by decide) ?_
            exact g_sub [1, 2, 3, 4, 0] rfl (hJ29 _ h)
          · refine g_iconst (v := (1 : Int32)) C dX6_gathers_135 (by decide) ?_
            refine g_goto (tgt := 140) C dX6_gathers_136 (by decide) ?_
            exact g_sub [1, 2, 3, 4, 0] rfl (hJ29 _ h)
    · intro K7 hK7 n ih x3_5 m6 h
      rw [f_X6_gathers_L30] at h
      refine g_iload_n C dX6_gathers_30 rfl 3 rfl ?_
      refine g_aload_n C dX6_gathers_31 rfl 0 rfl ?_
      refine g_get C (T := TX6) hcl6 mO_0 rfl (j := 14) (by decide) wl_933 (v := .int (rI m6 0 14)) rfl dX6_gathers_32 ?_
      refine g_icmp_ge (tgt := 107) C dX6_gathers_35 (by decide) h (fun h => ?_) (fun h => ?_)
      · exact g_sub [0, 1, 2] rfl (hK7 _ _ h)
      · refine g_iconst (v := (0 : Int32)) C dX6_gathers_38 (by decide) ?_
        refine g_istore (lv' := [(4, .int (0 : Int32)), (0, .ref (ad 0)), (1, .int r1), (2, .int s3), (3, .int x3_5)]) C dX6_gathers_39 (by decide) rfl ?_
        refine g_sub [1, 2, 3, 4, 0] rfl ?_
        refine g_loop_IM (L := f_X6_gathers_L41 F x3_5) h 41 101 (fun x4_8 m9 => [(0, .ref (ad 0)), (1, .int r1), (2, .int s3), (3, .int x3_5), (4, .int x4_8)]) (fun x4_8 m9 => [(0, .ref (ad 0)), (1, .int r1), (2, .int s3), (3, .int x3_5)]) (fun x4_8 m9 => []) (fun x4_8 m9 => []) ?_ ?_ (fun _ _ _ => rfl)
        · intro x4_8 m9 h
          refine g_iinc (lv' := [(0, .ref (ad 0)), (1, .int r1), (2, .int s3)]) C dX6_gathers_101 (q := 3) rfl (by decide) h rfl (fun _ => rfl) (fun x3_20 h => ?_)
          refine g_goto (tgt := 30) C dX6_gathers_104 (by decide) ?_
          exact g_sub [1, 2, 3, 0] rfl (ih _ _ h)
        · intro K10 hK10 n ih x4_8 m9 h
          rw [f_X6_gathers_L41] at h
          refine g_iload C dX6_gathers_41 4 rfl ?_
          refine g_aload_n C dX6_gathers_43 rfl 0 rfl ?_
          refine g_get C (T := TX6) hcl6 mO_0 rfl (j := 9) (by decide) wl_928 (v := .int (rI m9 0 9)) rfl dX6_gathers_44 ?_
          refine g_icmp_ge (tgt := 101) C dX6_gathers_47 (by decide) h (fun h => ?_) (fun h => ?_)
          · exact g_sub [0, 1, 2, 3] rfl (hK10 _ _ h)
          · refine g_iconst (v := (0 : Int32)) C dX6_gathers_50 (by decide) ?_
            refine g_istore (lv' := [(5, .int (0 : Int32)), (0, .ref (ad 0)), (1, .int r1), (2, .int s3), (3, .int x3_5), (4, .int x4_8)]) C dX6_gathers_51 (by decide) rfl ?_
            refine g_sub [1, 2, 3, 4, 5, 0] rfl ?_
            refine g_loop_IM (L := f_X6_gathers_L53 F x3_5 x4_8) h 53 95 (fun x5_11 m12 => [(0, .ref (ad 0)), (1, .int r1), (2, .int s3), (3, .int x3_5), (4, .int x4_8), (5, .int x5_11)]) (fun x5_11 m12 => [(0, .ref (ad 0)), (1, .int r1), (2, .int s3), (3, .int x3_5), (4, .int x4_8)]) (fun x5_11 m12 => []) (fun x5_11 m12 => []) ?_ ?_ (fun _ _ _ => rfl)
            · intro x5_11 m12 h
              refine g_iinc (lv' := [(0, .ref (ad 0)), (1, .int r1), (2, .int s3), (3, .int x3_5)]) C dX6_gathers_95 (q := 4) rfl (by decide) h rfl (fun _ => rfl) (fun x4_19 h => ?_)
              refine g_goto (tgt := 41) C dX6_gathers_98 (by decide) ?_
              exact g_sub [1, 2, 3, 4, 0] rfl (ih _ _ h)
            · intro K13 hK13 n ih x5_11 m12 h
              rw [f_X6_gathers_L53] at h
              refine g_iload C dX6_gathers_53 5 rfl ?_
              refine g_aload_n C dX6_gathers_55 rfl 0 rfl ?_
              refine g_get C (T := TX6) hcl6 mO_0 rfl (j := 9) (by decide) wl_928 (v := .int (rI m12 0 9)) rfl dX6_gathers_56 ?_
              refine g_icmp_ge (tgt := 95) C dX6_gathers_59 (by decide) h (fun h => ?_) (fun h => ?_)
              · exact g_sub [0, 1, 2, 3, 4] rfl (hK13 _ _ h)
              · refine g_aload_n C dX6_gathers_62 rfl 0 rfl ?_
                refine g_get C (T := TX6) hcl6 mO_0 rfl (j := 38) (by decide) wl_957 (v := .ref (ad 14)) rfl dX6_gathers_63 ?_
                refine g_bipush (v := (25 : Int32)) C dX6_gathers_66 (by decide) ?_
                refine g_iload_n C dX6_gathers_68 rfl 3 rfl ?_
                refine g_imul C dX6_gathers_69 ?_
                refine g_iconst (v := (5 : Int32)) C dX6_gathers_70 (by decide) ?_
                refine g_iload C dX6_gathers_71 4 rfl ?_
                refine g_imul C dX6_gathers_73 ?_
                refine g_iadd C dX6_gathers_74 ?_
                refine g_iload C dX6_gathers_75 5 rfl ?_
                refine g_iadd C dX6_gathers_77 ?_
                refine g_aload_n C dX6_gathers_78 rfl 0 rfl ?_
                refine g_iconst (v := (0 : Int32)) C dX6_gathers_79 (by decide) ?_
                refine g_iload_n C dX6_gathers_80 rfl 3 rfl ?_
                refine g_iload C dX6_gathers_81 4 rfl ?_
                refine g_iload C dX6_gathers_83 5 rfl ?_
                obtain ⟨r14, m16, hX15, h⟩ := bd2_inv h
                refine g_callV C (c_X6_says l hX15) (cwVw 4 C.2.2.2.2.1 wl_1360 wl_1362 wl_91 wl_121 wl_1363 rfl rfl (by decide +kernel) ⟨Nat.le_of_ble_eq_true rfl, Nat.le_of_ble_eq_true rfl⟩) mO_0 rfl rfl rfl rfl (Nat.le_of_ble_eq_true rfl) dX6_gathers_85 ?_
                refine g_iast C mI_14 dX6_gathers_88 h (fun m17 h => ?_)
                refine g_iinc (lv' := [(0, .ref (ad 0)), (1, .int r1), (2, .int s3), (3, .int x3_5), (4, .int x4_8)]) C dX6_gathers_89 (q := 5) rfl (by decide) h rfl (fun _ => rfl) (fun x5_18 h => ?_)
                refine g_goto (tgt := 53) C dX6_gathers_92 (by decide) ?_
                exact g_sub [1, 2, 3, 4, 5, 0] rfl (ih _ _ h)
  intro J4 hJ4 h
  refine g_if_ne (tgt := 16) C dX6_gathers_9 (by decide) h (fun h => ?_) (fun h => ?_)
  · refine g_iconst (v := (1 : Int32)) C dX6_gathers_12 (by decide) ?_
    refine g_goto (tgt := 27) C dX6_gathers_13 (by decide) ?_
    exact g_sub [1, 0] rfl (hJ4 _ h)
  · refine g_aload_n C dX6_gathers_16 rfl 1 rfl ?_
    refine g_get C (T := TX6) hcl6 mO_0 rfl (j := 14) (by decide) wl_933 (v := .int (rI m 0 14)) rfl dX6_gathers_17 ?_
    refine g_iconst (v := (1 : Int32)) C dX6_gathers_20 (by decide) ?_
    refine g_isub C dX6_gathers_21 ?_
    obtain ⟨r54, hX55, h⟩ := bd1_inv h
    refine g_callS C (c_X6_place l hX55) (cwSw 1 C.2.2.2.2.1 wl_1403 wl_1404 wl_121 wl_1405 rfl rfl (by decide +kernel) ⟨Nat.le_of_ble_eq_true rfl, Nat.le_of_ble_eq_true rfl⟩) rfl rfl rfl (Nat.le_of_ble_eq_true rfl) dX6_gathers_22 ?_
    refine g_iconst (v := (5 : Int32)) C dX6_gathers_25 (by decide) ?_
    refine g_imul C dX6_gathers_26 ?_
    exact g_sub [1, 0] rfl (hJ4 _ h)

def rmX6_told1 : Room := { frames := 0, cells := 0, slots := 0, locals := 0 }
set_option maxRecDepth 100000 in
set_option maxHeartbeats 4000000 in
theorem c_X6_told1 (l : Launch)  {a0 : Int32}  {m : MM} {r : Int32} (h : f_X6_told1 a0 m = some r) : CT l yX6_told1 cX6_told1 1 (some .int) rmX6_told1 cfM 23 (fun ad tb => [.int a0]) m (some (.int r)) m := by
  refine CT.of (cc := cX6_told1) (maxL := 1) (ret := (some .int)) (by decide) ⟨rfl, rfl⟩ (fun _ _ => Nat.le_of_ble_eq_true rfl) ?_
  intro p e s mt args below meth c D cA ad tb C hr hlk
  refine g_lv (lv' := [(0, .int a0)]) rfl ?_
  unfold f_X6_told1 at h
  refine g_iload_n C dX6_told1_0 rfl 0 rfl ?_
  refine g_ldcw (v := (99999999 : Int32)) C dX6_told1_1 wl_1414 ?_
  refine g_icmp_lt (tgt := 11) C dX6_told1_4 (by decide) h (fun h => ?_) (fun h => ?_)
  · refine g_iload_n C dX6_told1_11 rfl 0 rfl ?_
    obtain rfl := so_inj h
    exact g_iret C hr hlk dX6_told1_12 rfl
  · refine g_iconst (v := (-1 : Int32)) C dX6_told1_7 (by decide) ?_
    refine g_goto (tgt := 12) C dX6_told1_8 (by decide) ?_
    obtain rfl := so_inj h
    exact g_iret C hr hlk dX6_told1_12 rfl

def rmX6_moveBy : Room := { frames := 2, cells := 0, slots := 0, locals := 43 }
set_option maxRecDepth 100000 in
set_option maxHeartbeats 4000000 in
theorem c_X6_moveBy (l : Launch) {F : Nat}  {a0 : Int32}  {m : MM} {r : Int32} (h : f_X6_moveBy F a0 m = some r) : CT l yX6_moveBy cX6_moveBy 6 (some .int) rmX6_moveBy cfM 23 (fun ad tb => [.ref (ad 0), .int a0]) m (some (.int r)) m := by
  refine CT.of (cc := cX6_moveBy) (maxL := 6) (ret := (some .int)) (by decide) ⟨rfl, rfl⟩ (fun _ _ => Nat.le_of_ble_eq_true rfl) ?_
  intro p e s mt args below meth c D cA ad tb C hr hlk
  refine g_lv (lv' := [(0, .ref (ad 0)), (1, .int a0)]) rfl ?_
  have hcl6 : ∀ w ∈ wsX60, w.before args s = true := fun w hw => C.2.2.2.2.1 w (inlX6 w hw)
  unfold f_X6_moveBy at h
  refine g_aload_n C dX6_moveBy_0 rfl 0 rfl ?_
  obtain ⟨r1, hX2, h⟩ := bd1_inv h
  refine g_callV C (c_X6_codeNow l hX2) (cwVw 0 C.2.2.2.2.1 wl_1399 wl_1401 wl_96 wl_121 wl_1402 rfl rfl (by decide +kernel) ⟨Nat.le_of_ble_eq_true rfl, Nat.le_of_ble_eq_true rfl⟩) mO_0 rfl rfl rfl rfl (Nat.le_of_ble_eq_true rfl) dX6_moveBy_1 ?_
  refine g_istore_n (lv' := [(2, .int r1), (0, .ref (ad 0)), (1, .int a0)]) C dX6_moveBy_4 rfl (by decide) rfl ?_
  refine g_aload_n C dX6_moveBy_5 rfl 1 rfl ?_
  refine g_get C (T := TX6) hcl6 mO_0 rfl (j := 36) (by decide) wl_955 (v := .ref (ad 12)) rfl dX6_moveBy_6 ?_
  refine g_iload_n C dX6_moveBy_9 rfl 0 rfl ?_
  refine g_iald C mI_12 dX6_moveBy_10 h (fun h => ?_)
  refine g_if_eq (tgt := 26) C dX6_moveBy_11 (by decide) h (fun h => ?_) (fun h => ?_)
  · refine g_iconst (v := (-1 : Int32)) C dX6_moveBy_26 (by decide) ?_
    obtain rfl := so_inj h
    exact g_iret C hr hlk dX6_moveBy_27 rfl
  · refine g_aload_n C dX6_moveBy_14 rfl 1 rfl ?_
    refine g_get C (T := TX6) hcl6 mO_0 rfl (j := 36) (by decide) wl_955 (v := .ref (ad 12)) rfl dX6_moveBy_15 ?_
    refine g_iload_n C dX6_moveBy_18 rfl 0 rfl ?_
    refine g_iald C mI_12 dX6_moveBy_19 h (fun h => ?_)
    refine g_ldcw (v := (99999999 : Int32)) C dX6_moveBy_20 wl_1414 ?_
    refine g_icmp_lt (tgt := 28) C dX6_moveBy_23 (by decide) h (fun h => ?_) (fun h => ?_)
    · refine g_iconst (v := (0 : Int32)) C dX6_moveBy_28 (by decide) ?_
      refine g_istore_n (lv' := [(3, .int (0 : Int32)), (2, .int r1), (0, .ref (ad 0)), (1, .int a0)]) C dX6_moveBy_29 rfl (by decide) rfl ?_
      refine g_sub [2, 3, 1, 0] rfl ?_
      refine g_loop_I (L := f_X6_moveBy_L30 F a0 m r1) h 30 165 (fun x3_3 => [(0, .ref (ad 0)), (1, .int a0), (2, .int r1), (3, .int x3_3)]) (fun x3_3 => []) (fun x3_3 => []) (fun x3_3 => []) ?_ ?_ (fun _ _ => rfl)
      · intro x3_3 h
        refine g_iconst (v := (-1 : Int32)) C dX6_moveBy_165 (by decide) ?_
        obtain rfl := so_inj h
        exact g_iret C hr hlk dX6_moveBy_166 rfl
      · intro K4 hK4 n ih x3_3 h
        rw [f_X6_moveBy_L30] at h
        refine g_iload_n C dX6_moveBy_30 rfl 3 rfl ?_
        refine g_aload_n C dX6_moveBy_31 rfl 0 rfl ?_
        refine g_get C (T := TX6) hcl6 mO_0 rfl (j := 14) (by decide) wl_933 (v := .int (rI m 0 14)) rfl dX6_moveBy_32 ?_
        refine g_icmp_ge (tgt := 165) C dX6_moveBy_35 (by decide) h (fun h => ?_) (fun h => ?_)
        · exact g_sub [] rfl (hK4 _ h)
        · refine g_iconst (v := (0 : Int32)) C dX6_moveBy_38 (by decide) ?_
          refine g_istore (lv' := [(4, .int (0 : Int32)), (0, .ref (ad 0)), (1, .int a0), (2, .int r1), (3, .int x3_3)]) C dX6_moveBy_39 (by decide) rfl ?_
          refine g_sub [1, 2, 3, 4, 0] rfl ?_
          refine g_loop_I (L := f_X6_moveBy_L41 a0 m r1 x3_3) h 41 159 (fun x4_5 => [(0, .ref (ad 0)), (1, .int a0), (2, .int r1), (3, .int x3_3), (4, .int x4_5)]) (fun x4_5 => [(0, .ref (ad 0)), (1, .int a0), (2, .int r1), (3, .int x3_3)]) (fun x4_5 => []) (fun x4_5 => []) ?_ ?_ (fun _ _ => rfl)
          · intro x4_5 h
            refine g_iinc (lv' := [(0, .ref (ad 0)), (1, .int a0), (2, .int r1)]) C dX6_moveBy_159 (q := 3) rfl (by decide) h rfl (fun _ => rfl) (fun x3_13 h => ?_)
            refine g_goto (tgt := 30) C dX6_moveBy_162 (by decide) ?_
            exact g_sub [1, 2, 3, 0] rfl (ih _ h)
          · intro K6 hK6 n ih x4_5 h
            rw [f_X6_moveBy_L41] at h
            refine g_iload C dX6_moveBy_41 4 rfl ?_
            refine g_aload_n C dX6_moveBy_43 rfl 0 rfl ?_
            refine g_get C (T := TX6) hcl6 mO_0 rfl (j := 9) (by decide) wl_928 (v := .int (rI m 0 9)) rfl dX6_moveBy_44 ?_
            refine g_icmp_ge (tgt := 159) C dX6_moveBy_47 (by decide) h (fun h => ?_) (fun h => ?_)
            · exact g_sub [0, 1, 2, 3] rfl (hK6 _ h)
            · refine g_aload_n C dX6_moveBy_50 rfl 0 rfl ?_
              refine g_iload_n C dX6_moveBy_51 rfl 2 rfl ?_
              refine g_iload_n C dX6_moveBy_52 rfl 3 rfl ?_
              refine g_iload C dX6_moveBy_53 4 rfl ?_
              obtain ⟨r7, hX8, h⟩ := bd1_inv h
              refine g_callV C (c_X6_after l hX8) (cwVw 3 C.2.2.2.2.1 wl_1419 wl_1421 wl_100 wl_121 wl_1422 rfl rfl (by decide +kernel) ⟨Nat.le_of_ble_eq_true rfl, Nat.le_of_ble_eq_true rfl⟩) mO_0 rfl rfl rfl rfl (Nat.le_of_ble_eq_true rfl) dX6_moveBy_55 ?_
              refine g_istore (lv' := [(5, .int r7), (0, .ref (ad 0)), (1, .int a0), (2, .int r1), (3, .int x3_3), (4, .int x4_5)]) C dX6_moveBy_58 (by decide) rfl ?_
              refine g_iload C dX6_moveBy_60 5 rfl ?_
              refine g_aload_n C dX6_moveBy_62 rfl 1 rfl ?_
              refine g_get C (T := TX6) hcl6 mO_0 rfl (j := 12) (by decide) wl_931 (v := .ref (ad 8)) rfl dX6_moveBy_63 ?_
              refine g_iload_n C dX6_moveBy_66 rfl 4 rfl ?_
              refine g_iald C mI_8 dX6_moveBy_67 h (fun h => ?_)
              refine g_icmp_eq (tgt := 153) C dX6_moveBy_68 (by decide) h (fun h => ?_) (fun h => ?_)
              · refine g_iinc (lv' := [(5, .int r7), (0, .ref (ad 0)), (1, .int a0), (2, .int r1), (3, .int x3_3)]) C dX6_moveBy_153 (q := 5) rfl (by decide) h rfl (fun _ => rfl) (fun x4_9 h => ?_)
                refine g_goto (tgt := 41) C dX6_moveBy_156 (by decide) ?_
                exact g_sub [2, 3, 4, 5, 0] rfl (ih _ h)
              · refine g_aload_n C dX6_moveBy_71 rfl 1 rfl ?_
                refine g_get C (T := TX6) hcl6 mO_0 rfl (j := 35) (by decide) wl_954 (v := .ref (ad 11)) rfl dX6_moveBy_72 ?_
                refine g_iload C dX6_moveBy_75 0 rfl ?_
                refine g_iald C mI_11 dX6_moveBy_77 h (fun h => ?_)
                refine g_iconst (v := (1 : Int32)) C dX6_moveBy_78 (by decide) ?_
                refine g_icmp_ne (tgt := 153) C dX6_moveBy_79 (by decide) h (fun h => ?_) (fun h => ?_)
                · refine g_iload_n C dX6_moveBy_82 rfl 2 rfl ?_
                  refine g_if_eq (tgt := 127) C dX6_moveBy_83 (by decide) h (fun h => ?_) (fun h => ?_)
                  · refine g_aload_n C dX6_moveBy_127 rfl 1 rfl ?_
                    refine g_get C (T := TX6) hcl6 mO_0 rfl (j := 36) (by decide) wl_955 (v := .ref (ad 12)) rfl dX6_moveBy_128 ?_
                    refine g_iload C dX6_moveBy_131 0 rfl ?_
                    refine g_iald C mI_12 dX6_moveBy_133 h (fun h => ?_)
                    refine g_iconst (v := (1 : Int32)) C dX6_moveBy_134 (by decide) ?_
                    refine g_iadd C dX6_moveBy_135 ?_
                    refine g_aload_n C dX6_moveBy_136 rfl 1 rfl ?_
                    refine g_get C (T := TX6) hcl6 mO_0 rfl (j := 36) (by decide) wl_955 (v := .ref (ad 12)) rfl dX6_moveBy_137 ?_
                    refine g_iload_n C dX6_moveBy_140 rfl 3 rfl ?_
                    refine g_iald C mI_12 dX6_moveBy_141 h (fun h => ?_)
                    refine g_icmp_ne (tgt := 153) C dX6_moveBy_142 (by decide) h (fun h => ?_) (fun h => ?_)
                    · refine g_bipush (v := (10 : Int32)) C dX6_moveBy_145 (by decide) ?_
                      refine g_iload_n C dX6_moveBy_147 rfl 4 rfl ?_
                      refine g_imul C dX6_moveBy_148 ?_
                      refine g_iload C dX6_moveBy_149 5 rfl ?_
                      refine g_iadd C dX6_moveBy_151 ?_
                      obtain rfl := so_inj h
                      exact g_iret C hr hlk dX6_moveBy_152 rfl
                    · refine g_iinc (lv' := [(5, .int r7), (0, .ref (ad 0)), (1, .int a0), (2, .int r1), (3, .int x3_3)]) C dX6_moveBy_153 (q := 5) rfl (by decide) h rfl (fun _ => rfl) (fun x4_10 h => ?_)
                      refine g_goto (tgt := 41) C dX6_moveBy_156 (by decide) ?_
                      exact g_sub [2, 3, 4, 5, 0] rfl (ih _ h)
                  · refine g_aload_n C dX6_moveBy_86 rfl 1 rfl ?_
                    refine g_get C (T := TX6) hcl6 mO_0 rfl (j := 37) (by decide) wl_956 (v := .ref (ad 13)) rfl dX6_moveBy_87 ?_
                    refine g_iload C dX6_moveBy_90 0 rfl ?_
                    refine g_iald C mI_13 dX6_moveBy_92 h (fun h => ?_)
                    refine g_aload_n C dX6_moveBy_93 rfl 1 rfl ?_
                    refine g_get C (T := TX6) hcl6 mO_0 rfl (j := 38) (by decide) wl_957 (v := .ref (ad 14)) rfl dX6_moveBy_94 ?_
                    refine g_bipush (v := (25 : Int32)) C dX6_moveBy_97 (by decide) ?_
                    refine g_iload_n C dX6_moveBy_99 rfl 4 rfl ?_
                    refine g_imul C dX6_moveBy_100 ?_
                    refine g_iconst (v := (5 : Int32)) C dX6_moveBy_101 (by decide) ?_
                    refine g_aload_n C dX6_moveBy_102 rfl 1 rfl ?_
                    refine g_get C (T := TX6) hcl6 mO_0 rfl (j := 12) (by decide) wl_931 (v := .ref (ad 8)) rfl dX6_moveBy_103 ?_
                    refine g_iload_n C dX6_moveBy_106 rfl 4 rfl ?_
                    refine g_iald C mI_8 dX6_moveBy_107 h (fun h => ?_)
                    refine g_imul C dX6_moveBy_108 ?_
                    refine g_iadd C dX6_moveBy_109 ?_
                    refine g_iload C dX6_moveBy_110 5 rfl ?_
                    refine g_iadd C dX6_moveBy_112 ?_
                    refine g_iald C mI_14 dX6_moveBy_113 h (fun h => ?_)
                    refine g_iadd C dX6_moveBy_114 ?_
                    refine g_aload_n C dX6_moveBy_115 rfl 1 rfl ?_
                    refine g_get C (T := TX6) hcl6 mO_0 rfl (j := 37) (by decide) wl_956 (v := .ref (ad 13)) rfl dX6_moveBy_116 ?_
                    refine g_iload_n C dX6_moveBy_119 rfl 3 rfl ?_
                    refine g_iald C mI_13 dX6_moveBy_120 h (fun h => ?_)
                    refine g_icmp_ne (tgt := 153) C dX6_moveBy_121 (by decide) h (fun h => ?_) (fun h => ?_)
                    · refine g_goto (tgt := 145) C dX6_moveBy_124 (by decide) ?_
                      refine g_bipush (v := (10 : Int32)) C dX6_moveBy_145 (by decide) ?_
                      refine g_iload_n C dX6_moveBy_147 rfl 4 rfl ?_
                      refine g_imul C dX6_moveBy_148 ?_
                      refine g_iload C dX6_moveBy_149 5 rfl ?_
                      refine g_iadd C dX6_moveBy_151 ?_
                      obtain rfl := so_inj h
                      exact g_iret C hr hlk dX6_moveBy_152 rfl
                    · refine g_iinc (lv' := [(5, .int r7), (0, .ref (ad 0)), (1, .int a0), (2, .int r1), (3, .int x3_3)]) C dX6_moveBy_153 (q := 5) rfl (by decide) h rfl (fun _ => rfl) (fun x4_11 h => ?_)
                      refine g_goto (tgt := 41) C dX6_moveBy_156 (by decide) ?_
                      exact g_sub [2, 3, 4, 5, 0] rfl (ih _ h)
                · refine g_iinc (lv' := [(5, .int r7), (0, .ref (ad 0)), (1, .int a0), (2, .int r1), (3, .int x3_3)]) C dX6_moveBy_153 (q := 5) rfl (by decide) h rfl (fun _ => rfl) (fun x4_12 h => ?_)
                  refine g_goto (tgt := 41) C dX6_moveBy_156 (by decide) ?_
                  exact g_sub [2, 3, 4, 5, 0] rfl (ih _ h)
    · refine g_iconst (v := (-1 : Int32)) C dX6_moveBy_26 (by decide) ?_
      obtain rfl := so_inj h
      exact g_iret C hr hlk dX6_moveBy_27 rfl
