/-! contracts: X6_term1 X6_added1 X6_not1 X6_both1 X6_either1 X6_atom0 X6_term0 X6_added0 X6_not0 X6_both0 X6_either0 X6_part_ X6_read X6_text X6_force X6_barsThing -/
def rmX6_term1 : Room := { frames := 29, cells := 0, slots := 0, locals := 640 }
set_option maxRecDepth 100000 in
set_option maxHeartbeats 4000000 in
theorem c_X6_term1 (l : Launch) {F : Nat}    {m : MM} {m' : MM} {r : Int32} (h : f_X6_term1 F m = some (r, m')) : CT l yX6_term1 cX6_term1 2 (some .int) rmX6_term1 cfM 23 (fun ad tb => [.ref (ad 0)]) m (some (.int r)) m' := by
  refine CT.of (cc := cX6_term1) (maxL := 2) (ret := (some .int)) (by decide) ⟨rfl, rfl⟩ (fun _ _ => Nat.le_of_ble_eq_true rfl) ?_
  intro p e s mt args below meth c D cA ad tb C hr hlk
  refine g_lv (lv' := [(0, .ref (ad 0))]) rfl ?_
  unfold f_X6_term1 at h
  refine g_aload_n C dX6_term1_0 rfl 0 rfl ?_
  obtain ⟨r1, m3, hX2, h⟩ := bd2_inv h
  refine g_callV C (c_X6_atom1 l hX2) (cwVw 0 C.2.2.2.2.1 wl_1319 wl_1321 wl_83 wl_121 wl_1322 rfl rfl (by decide +kernel) ⟨Nat.le_of_ble_eq_true rfl, Nat.le_of_ble_eq_true rfl⟩) mO_0 rfl rfl rfl rfl (Nat.le_of_ble_eq_true rfl) dX6_term1_1 ?_
  refine g_istore_n (lv' := [(1, .int r1), (0, .ref (ad 0))]) C dX6_term1_4 rfl (by decide) rfl ?_
  refine g_sub [1, 0] rfl ?_
  refine g_loop_IM (L := f_X6_term1_L5 F) h 5 28 (fun x1_4 m5 => [(0, .ref (ad 0)), (1, .int x1_4)]) (fun x1_4 m5 => [(1, .int x1_4)]) (fun x1_4 m5 => []) (fun x1_4 m5 => []) ?_ ?_ (fun _ _ _ => rfl)
  · intro x1_4 m5 h
    refine g_iload_n C dX6_term1_28 rfl 0 rfl ?_
    obtain ⟨rfl, rfl⟩ := sp_inj h
    exact g_iret C hr hlk dX6_term1_29 rfl
  · intro K6 hK6 n ih x1_4 m5 h
    rw [f_X6_term1_L5] at h
    refine g_aload_n C dX6_term1_5 rfl 0 rfl ?_
    refine g_bipush (v := (42 : Int32)) C dX6_term1_6 (by decide) ?_
    obtain ⟨r7, hX8, h⟩ := bd1_inv h
    refine g_callV C (c_X6_isSign l hX8) (cwVw 1 C.2.2.2.2.1 wl_1241 wl_1243 wl_64 wl_121 wl_1244 rfl rfl (by decide +kernel) ⟨Nat.le_of_ble_eq_true rfl, Nat.le_of_ble_eq_true rfl⟩) mO_0 rfl rfl rfl rfl (Nat.le_of_ble_eq_true rfl) dX6_term1_8 ?_
    refine g_if_eq (tgt := 28) C dX6_term1_11 (by decide) h (fun h => ?_) (fun h => ?_)
    · exact g_sub [1] rfl (hK6 _ _ h)
    · refine g_aload_n C dX6_term1_14 rfl 0 rfl ?_
      obtain ⟨m10, hX9, h⟩ := bd1_inv h
      refine g_callV C (c_X6_next l hX9) (cwVw 0 C.2.2.2.2.1 wl_1165 wl_1167 wl_46 wl_121 wl_1168 rfl rfl (by decide +kernel) ⟨Nat.le_of_ble_eq_true rfl, Nat.le_of_ble_eq_true rfl⟩) mO_0 rfl rfl rfl rfl (Nat.le_of_ble_eq_true rfl) dX6_term1_15 ?_
      refine g_iload_n C dX6_term1_18 rfl 1 rfl ?_
      refine g_aload_n C dX6_term1_19 rfl 0 rfl ?_
      obtain ⟨r11, m13, hX12, h⟩ := bd2_inv h
      refine g_callV C (c_X6_atom1 l hX12) (cwVw 0 C.2.2.2.2.1 wl_1319 wl_1321 wl_83 wl_121 wl_1322 rfl rfl (by decide +kernel) ⟨Nat.le_of_ble_eq_true rfl, Nat.le_of_ble_eq_true rfl⟩) mO_0 rfl rfl rfl rfl (Nat.le_of_ble_eq_true rfl) dX6_term1_20 ?_
      refine g_imul C dX6_term1_23 ?_
      refine nm_i h (fun x1_14 h => ?_)
      refine g_istore_n (lv' := [(1, .int x1_14), (0, .ref (ad 0))]) C dX6_term1_24 rfl (by decide) rfl ?_
      refine g_goto (tgt := 5) C dX6_term1_25 (by decide) ?_
      exact g_sub [1, 0] rfl (ih _ _ h)

def rmX6_added1 : Room := { frames := 30, cells := 0, slots := 0, locals := 661 }
set_option maxRecDepth 100000 in
set_option maxHeartbeats 4000000 in
theorem c_X6_added1 (l : Launch) {F : Nat}    {m : MM} {m' : MM} {r : Int32} (h : f_X6_added1 F m = some (r, m')) : CT l yX6_added1 cX6_added1 4 (some .int) rmX6_added1 cfM 23 (fun ad tb => [.ref (ad 0)]) m (some (.int r)) m' := by
  refine CT.of (cc := cX6_added1) (maxL := 4) (ret := (some .int)) (by decide) ⟨rfl, rfl⟩ (fun _ _ => Nat.le_of_ble_eq_true rfl) ?_
  intro p e s mt args below meth c D cA ad tb C hr hlk
  refine g_lv (lv' := [(0, .ref (ad 0))]) rfl ?_
  have hcl6 : ∀ w ∈ wsX60, w.before args s = true := fun w hw => C.2.2.2.2.1 w (inlX6 w hw)
  unfold f_X6_added1 at h
  refine g_aload_n C dX6_added1_0 rfl 0 rfl ?_
  obtain ⟨r1, m3, hX2, h⟩ := bd2_inv h
  refine g_callV C (c_X6_term1 l hX2) (cwVw 0 C.2.2.2.2.1 wl_1315 wl_1317 wl_82 wl_121 wl_1318 rfl rfl (by decide +kernel) ⟨Nat.le_of_ble_eq_true rfl, Nat.le_of_ble_eq_true rfl⟩) mO_0 rfl rfl rfl rfl (Nat.le_of_ble_eq_true rfl) dX6_added1_1 ?_
  refine g_istore_n (lv' := [(1, .int r1), (0, .ref (ad 0))]) C dX6_added1_4 rfl (by decide) rfl ?_
  refine g_sub [1, 0] rfl ?_
  refine g_loop_IM (L := f_X6_added1_L5 F) h 5 66 (fun x1_4 m5 => [(0, .ref (ad 0)), (1, .int x1_4)]) (fun x1_4 m5 => [(1, .int x1_4)]) (fun x1_4 m5 => []) (fun x1_4 m5 => []) ?_ ?_ (fun _ _ _ => rfl)
  · intro x1_4 m5 h
    refine g_iload_n C dX6_added1_66 rfl 0 rfl ?_
    obtain ⟨rfl, rfl⟩ := sp_inj h
    exact g_iret C hr hlk dX6_added1_67 rfl
  · intro K6 hK6 n ih x1_4 m5 h
    rw [f_X6_added1_L5] at h
    refine g_aload_n C dX6_added1_5 rfl 0 rfl ?_
    refine g_bipush (v := (43 : Int32)) C dX6_added1_6 (by decide) ?_
    obtain ⟨r7, hX8, h⟩ := bd1_inv h
    refine g_callV C (c_X6_isSign l hX8) (cwVw 1 C.2.2.2.2.1 wl_1241 wl_1243 wl_64 wl_121 wl_1244 rfl rfl (by decide +kernel) ⟨Nat.le_of_ble_eq_true rfl, Nat.le_of_ble_eq_true rfl⟩) mO_0 rfl rfl rfl rfl (Nat.le_of_ble_eq_true rfl) dX6_added1_8 ?_
    refine g_join_ h 23 ([(0, .ref (ad 0)), (1, .int x1_4)]) ([]) ?_ ?_
    · intro h
      refine g_aload_n C dX6_added1_23 rfl 0 rfl ?_
      refine g_get C (T := TX6) hcl6 mO_0 rfl (j := 30) (by decide) wl_949 (v := .long (rL m5 0 30)) rfl dX6_added1_24 ?_
      refine g_ldc2 (v := (43 : Int64)) C dX6_added1_27 wl_1249 ?_
      refine g_lcmp C dX6_added1_30 ?_
      refine g_join_I h 39 (fun s10 => [(0, .ref (ad 0)), (1, .int x1_4)]) (fun s10 => [.int s10]) ?_ ?_
      · intro s10 h
        refine g_istore_n (lv' := [(2, .int s10), (0, .ref (ad 0)), (1, .int x1_4)]) C dX6_added1_39 rfl (by decide) rfl ?_
        refine g_aload_n C dX6_added1_40 rfl 1 rfl ?_
        obtain ⟨m13, hX12, h⟩ := bd1_inv h
        refine g_callV C (c_X6_next l hX12) (cwVw 0 C.2.2.2.2.1 wl_1165 wl_1167 wl_46 wl_121 wl_1168 rfl rfl (by decide +kernel) ⟨Nat.le_of_ble_eq_true rfl, Nat.le_of_ble_eq_true rfl⟩) mO_0 rfl rfl rfl rfl (Nat.le_of_ble_eq_true rfl) dX6_added1_41 ?_
        refine g_aload_n C dX6_added1_44 rfl 1 rfl ?_
        obtain ⟨r14, m16, hX15, h⟩ := bd2_inv h
        refine g_callV C (c_X6_term1 l hX15) (cwVw 0 C.2.2.2.2.1 wl_1315 wl_1317 wl_82 wl_121 wl_1318 rfl rfl (by decide +kernel) ⟨Nat.le_of_ble_eq_true rfl, Nat.le_of_ble_eq_true rfl⟩) mO_0 rfl rfl rfl rfl (Nat.le_of_ble_eq_true rfl) dX6_added1_45 ?_
        refine g_istore_n (lv' := [(3, .int r14), (2, .int s10), (0, .ref (ad 0)), (1, .int x1_4)]) C dX6_added1_48 rfl (by decide) rfl ?_
        refine g_iload_n C dX6_added1_49 rfl 1 rfl ?_
        refine g_join_I h 62 (fun s17 => [(0, .ref (ad 0))]) (fun s17 => [.int s17]) ?_ ?_
        · intro s17 h
          refine g_istore_n (lv' := [(1, .int s17), (0, .ref (ad 0))]) C dX6_added1_62 rfl (by decide) rfl ?_
          refine g_goto (tgt := 5) C dX6_added1_63 (by decide) ?_
          exact g_sub [1, 0] rfl (ih _ _ h)
        intro J18 hJ18 h
        refine g_if_eq (tgt := 59) C dX6_added1_50 (by decide) h (fun h => ?_) (fun h => ?_)
        · refine g_iload_n C dX6_added1_59 rfl 3 rfl ?_
          refine g_iload_n C dX6_added1_60 rfl 0 rfl ?_
          refine g_isub C dX6_added1_61 ?_
          exact g_sub [2] rfl (hJ18 _ h)
        · refine g_iload_n C dX6_added1_53 rfl 3 rfl ?_
          refine g_iload_n C dX6_added1_54 rfl 0 rfl ?_
          refine g_iadd C dX6_added1_55 ?_
          refine g_goto (tgt := 62) C dX6_added1_56 (by decide) ?_
          exact g_sub [2] rfl (hJ18 _ h)
      intro J11 hJ11 h
      refine g_if_ne (tgt := 38) C dX6_added1_31 (by decide) h (fun h => ?_) (fun h => ?_)
      · refine g_iconst (v := (1 : Int32)) C dX6_added1_34 (by decide) ?_
        refine g_goto (tgt := 39) C dX6_added1_35 (by decide) ?_
        exact g_sub [0, 1] rfl (hJ11 _ h)
      · refine g_iconst (v := (0 : Int32)) C dX6_added1_38 (by decide) ?_
        exact g_sub [0, 1] rfl (hJ11 _ h)
    intro J9 hJ9 h
    refine g_if_ne (tgt := 23) C dX6_added1_11 (by decide) h (fun h => ?_) (fun h => ?_)
    · refine g_aload_n C dX6_added1_14 rfl 0 rfl ?_
      refine g_bipush (v := (45 : Int32)) C dX6_added1_15 (by decide) ?_
      obtain ⟨r19, hX20, h⟩ := bd1_inv h
      refine g_callV C (c_X6_isSign l hX20) (cwVw 1 C.2.2.2.2.1 wl_1241 wl_1243 wl_64 wl_121 wl_1244 rfl rfl (by decide +kernel) ⟨Nat.le_of_ble_eq_true rfl, Nat.le_of_ble_eq_true rfl⟩) mO_0 rfl rfl rfl rfl (Nat.le_of_ble_eq_true rfl) dX6_added1_17 ?_
      refine g_if_eq (tgt := 66) C dX6_added1_20 (by decide) h (fun h => ?_) (fun h => ?_)
      · exact g_sub [1] rfl (hK6 _ _ h)
      · exact g_sub [0, 1] rfl (hJ9  h)
    · exact g_sub [0, 1] rfl (hJ9  h)

def rmX6_not1 : Room := { frames := 31, cells := 0, slots := 0, locals := 684 }
set_option maxRecDepth 100000 in
set_option maxHeartbeats 4000000 in
theorem c_X6_not1 (l : Launch) {F : Nat}    {m : MM} {m' : MM} {r : Int32} (h : f_X6_not1 F m = some (r, m')) : CT l yX6_not1 cX6_not1 4 (some .int) rmX6_not1 cfM 23 (fun ad tb => [.ref (ad 0)]) m (some (.int r)) m' := by
  refine CT.of (cc := cX6_not1) (maxL := 4) (ret := (some .int)) (by decide) ⟨rfl, rfl⟩ (fun _ _ => Nat.le_of_ble_eq_true rfl) ?_
  intro p e s mt args below meth c D cA ad tb C hr hlk
  refine g_lv (lv' := [(0, .ref (ad 0))]) rfl ?_
  have hcl6 : ∀ w ∈ wsX60, w.before args s = true := fun w hw => C.2.2.2.2.1 w (inlX6 w hw)
  unfold f_X6_not1 at h
  refine g_aload_n C dX6_not1_0 rfl 0 rfl ?_
  refine g_bipush (v := (110 : Int32)) C dX6_not1_1 (by decide) ?_
  refine g_bipush (v := (111 : Int32)) C dX6_not1_3 (by decide) ?_
  refine g_bipush (v := (116 : Int32)) C dX6_not1_5 (by decide) ?_
  refine g_iconst (v := (0 : Int32)) C dX6_not1_7 (by decide) ?_
  refine g_iconst (v := (0 : Int32)) C dX6_not1_8 (by decide) ?_
  refine g_iconst (v := (0 : Int32)) C dX6_not1_9 (by decide) ?_
  refine g_iconst (v := (0 : Int32)) C dX6_not1_10 (by decide) ?_
  refine g_iconst (v := (0 : Int32)) C dX6_not1_11 (by decide) ?_
  obtain ⟨r1, hX2, h⟩ := bd1_inv h
  refine g_callV C (c_X6_isWord l hX2) (cwVw 8 C.2.2.2.2.1 wl_1177 wl_1179 wl_48 wl_121 wl_1180 rfl rfl (by decide +kernel) ⟨Nat.le_of_ble_eq_true rfl, Nat.le_of_ble_eq_true rfl⟩) mO_0 rfl rfl rfl rfl (Nat.le_of_ble_eq_true rfl) dX6_not1_12 ?_
  refine g_if_eq (tgt := 52) C dX6_not1_15 (by decide) h (fun h => ?_) (fun h => ?_)
  · refine g_aload_n C dX6_not1_52 rfl 0 rfl ?_
    obtain ⟨r3, m5, hX4, h⟩ := bd2_inv h
    refine g_callV C (c_X6_added1 l hX4) (cwVw 0 C.2.2.2.2.1 wl_1311 wl_1313 wl_81 wl_121 wl_1314 rfl rfl (by decide +kernel) ⟨Nat.le_of_ble_eq_true rfl, Nat.le_of_ble_eq_true rfl⟩) mO_0 rfl rfl rfl rfl (Nat.le_of_ble_eq_true rfl) dX6_not1_53 ?_
    refine g_istore_n (lv' := [(1, .int r3), (0, .ref (ad 0))]) C dX6_not1_56 rfl (by decide) rfl ?_
    refine g_aload_n C dX6_not1_57 rfl 1 rfl ?_
    refine g_bipush (v := (60 : Int32)) C dX6_not1_58 (by decide) ?_
    obtain ⟨r6, hX7, h⟩ := bd1_inv h
    refine g_callV C (c_X6_isSign l hX7) (cwVw 1 C.2.2.2.2.1 wl_1241 wl_1243 wl_64 wl_121 wl_1244 rfl rfl (by decide +kernel) ⟨Nat.le_of_ble_eq_true rfl, Nat.le_of_ble_eq_true rfl⟩) mO_0 rfl rfl rfl rfl (Nat.le_of_ble_eq_true rfl) dX6_not1_60 ?_
    refine g_join_ h 77 ([(0, .ref (ad 0)), (1, .int r3)]) ([]) ?_ ?_
    · intro h
      refine g_aload_n C dX6_not1_77 rfl 0 rfl ?_
      refine g_get C (T := TX6) hcl6 mO_0 rfl (j := 30) (by decide) wl_949 (v := .long (rL m5 0 30)) rfl dX6_not1_78 ?_
      refine g_ldc2 (v := (60 : Int64)) C dX6_not1_81 wl_1250 ?_
      refine g_lcmp C dX6_not1_84 ?_
      refine g_join_I h 93 (fun s9 => [(0, .ref (ad 0)), (1, .int r3)]) (fun s9 => [.int s9]) ?_ ?_
      · intro s9 h
        refine g_istore_n (lv' := [(2, .int s9), (0, .ref (ad 0)), (1, .int r3)]) C dX6_not1_93 rfl (by decide) rfl ?_
        refine g_aload_n C dX6_not1_94 rfl 1 rfl ?_
        obtain ⟨m12, hX11, h⟩ := bd1_inv h
        refine g_callV C (c_X6_next l hX11) (cwVw 0 C.2.2.2.2.1 wl_1165 wl_1167 wl_46 wl_121 wl_1168 rfl rfl (by decide +kernel) ⟨Nat.le_of_ble_eq_true rfl, Nat.le_of_ble_eq_true rfl⟩) mO_0 rfl rfl rfl rfl (Nat.le_of_ble_eq_true rfl) dX6_not1_95 ?_
        refine g_aload_n C dX6_not1_98 rfl 1 rfl ?_
        obtain ⟨r13, m15, hX14, h⟩ := bd2_inv h
        refine g_callV C (c_X6_added1 l hX14) (cwVw 0 C.2.2.2.2.1 wl_1311 wl_1313 wl_81 wl_121 wl_1314 rfl rfl (by decide +kernel) ⟨Nat.le_of_ble_eq_true rfl, Nat.le_of_ble_eq_true rfl⟩) mO_0 rfl rfl rfl rfl (Nat.le_of_ble_eq_true rfl) dX6_not1_99 ?_
        refine g_istore_n (lv' := [(3, .int r13), (2, .int s9), (0, .ref (ad 0)), (1, .int r3)]) C dX6_not1_102 rfl (by decide) rfl ?_
        refine g_iload_n C dX6_not1_103 rfl 1 rfl ?_
        refine g_if_eq (tgt := 115) C dX6_not1_104 (by decide) h (fun h => ?_) (fun h => ?_)
        · refine g_iload_n C dX6_not1_115 rfl 3 rfl ?_
          refine g_iload_n C dX6_not1_116 rfl 0 rfl ?_
          refine g_icmp_ne (tgt := 124) C dX6_not1_117 (by decide) h (fun h => ?_) (fun h => ?_)
          · refine g_iconst (v := (1 : Int32)) C dX6_not1_120 (by decide) ?_
            refine g_goto (tgt := 125) C dX6_not1_121 (by decide) ?_
            obtain ⟨rfl, rfl⟩ := sp_inj h
            exact g_iret C hr hlk dX6_not1_125 rfl
          · refine g_iconst (v := (0 : Int32)) C dX6_not1_124 (by decide) ?_
            obtain ⟨rfl, rfl⟩ := sp_inj h
            exact g_iret C hr hlk dX6_not1_125 rfl
        · refine g_iload_n C dX6_not1_107 rfl 3 rfl ?_
          refine g_iload_n C dX6_not1_108 rfl 0 rfl ?_
          refine g_icmp_ge (tgt := 124) C dX6_not1_109 (by decide) h (fun h => ?_) (fun h => ?_)
          · refine g_iconst (v := (0 : Int32)) C dX6_not1_124 (by decide) ?_
            obtain ⟨rfl, rfl⟩ := sp_inj h
            exact g_iret C hr hlk dX6_not1_125 rfl
          · refine g_goto (tgt := 120) C dX6_not1_112 (by decide) ?_
            refine g_iconst (v := (1 : Int32)) C dX6_not1_120 (by decide) ?_
            refine g_goto (tgt := 125) C dX6_not1_121 (by decide) ?_
            obtain ⟨rfl, rfl⟩ := sp_inj h
            exact g_iret C hr hlk dX6_not1_125 rfl
      intro J10 hJ10 h
      refine g_if_ne (tgt := 92) C dX6_not1_85 (by decide) h (fun h => ?_) (fun h => ?_)
      · refine g_iconst (v := (1 : Int32)) C dX6_not1_88 (by decide) ?_
        refine g_goto (tgt := 93) C dX6_not1_89 (by decide) ?_
        exact g_sub [0, 1] rfl (hJ10 _ h)
      · refine g_iconst (v := (0 : Int32)) C dX6_not1_92 (by decide) ?_
        exact g_sub [0, 1] rfl (hJ10 _ h)
    intro J8 hJ8 h
    refine g_if_ne (tgt := 77) C dX6_not1_63 (by decide) h (fun h => ?_) (fun h => ?_)
    · refine g_aload_n C dX6_not1_66 rfl 1 rfl ?_
      refine g_bipush (v := (61 : Int32)) C dX6_not1_67 (by decide) ?_
      obtain ⟨r16, hX17, h⟩ := bd1_inv h
      refine g_callV C (c_X6_isSign l hX17) (cwVw 1 C.2.2.2.2.1 wl_1241 wl_1243 wl_64 wl_121 wl_1244 rfl rfl (by decide +kernel) ⟨Nat.le_of_ble_eq_true rfl, Nat.le_of_ble_eq_true rfl⟩) mO_0 rfl rfl rfl rfl (Nat.le_of_ble_eq_true rfl) dX6_not1_69 ?_
      refine g_if_ne (tgt := 77) C dX6_not1_72 (by decide) h (fun h => ?_) (fun h => ?_)
      · refine g_iload_n C dX6_not1_75 rfl 0 rfl ?_
        obtain ⟨rfl, rfl⟩ := sp_inj h
        exact g_iret C hr hlk dX6_not1_76 rfl
      · exact g_sub [1, 0] rfl (hJ8  h)
    · exact g_sub [1, 0] rfl (hJ8  h)
  · refine g_aload_n C dX6_not1_18 rfl 0 rfl ?_
    obtain ⟨r18, m20, hX19, h⟩ := bd2_inv h
    refine g_callV C (c_X6_opens l hX19) (cwVw 0 C.2.2.2.2.1 wl_1205 wl_1207 wl_55 wl_121 wl_1208 rfl rfl (by decide +kernel) ⟨Nat.le_of_ble_eq_true rfl, Nat.le_of_ble_eq_true rfl⟩) mO_0 rfl rfl rfl rfl (Nat.le_of_ble_eq_true rfl) dX6_not1_19 ?_
    refine g_if_ne (tgt := 27) C dX6_not1_22 (by decide) h (fun h => ?_) (fun h => ?_)
    · refine g_iconst (v := (0 : Int32)) C dX6_not1_25 (by decide) ?_
      obtain ⟨rfl, rfl⟩ := sp_inj h
      exact g_iret C hr hlk dX6_not1_26 rfl
    · refine g_aload_n C dX6_not1_27 rfl 0 rfl ?_
      obtain ⟨r21, m23, hX22, h⟩ := bd2_inv h
      refine g_callV C (c_X6_not2 l hX22) (cwVw 0 C.2.2.2.2.1 wl_1213 wl_1215 wl_57 wl_121 wl_1216 rfl rfl (by decide +kernel) ⟨Nat.le_of_ble_eq_true rfl, Nat.le_of_ble_eq_true rfl⟩) mO_0 rfl rfl rfl rfl (Nat.le_of_ble_eq_true rfl) dX6_not1_28 ?_
      refine g_istore_n (lv' := [(1, .int r21), (0, .ref (ad 0))]) C dX6_not1_31 rfl (by decide) rfl ?_
      refine g_aload_n C dX6_not1_32 rfl 1 rfl ?_
      refine g_dup C dX6_not1_33 rfl ?_
      refine g_get C (T := TX6) hcl6 mO_0 rfl (j := 31) (by decide) wl_950 (v := .int (rI m23 0 31)) rfl dX6_not1_34 ?_
      refine g_iconst (v := (1 : Int32)) C dX6_not1_37 (by decide) ?_
      refine g_isub C dX6_not1_38 ?_
      refine g_putI C (T := TX6) hcl6 mO_0 rfl (j := 31) (by decide) wl_950 tyX6 tyX6_ok nmX6 rfl rfl pfX6_31 (plX6 31 (by decide)) dX6_not1_39 h (fun m24 h => ?_)
      refine g_iload_n C dX6_not1_42 rfl 0 rfl ?_
      refine g_if_ne (tgt := 50) C dX6_not1_43 (by decide) h (fun h => ?_) (fun h => ?_)
      · refine g_iconst (v := (1 : Int32)) C dX6_not1_46 (by decide) ?_
        refine g_goto (tgt := 51) C dX6_not1_47 (by decide) ?_
        obtain ⟨rfl, rfl⟩ := sp_inj h
        exact g_iret C hr hlk dX6_not1_51 rfl
      · refine g_iconst (v := (0 : Int32)) C dX6_not1_50 (by decide) ?_
        obtain ⟨rfl, rfl⟩ := sp_inj h
        exact g_iret C hr hlk dX6_not1_51 rfl

def rmX6_both1 : Room := { frames := 32, cells := 0, slots := 0, locals := 707 }
set_option maxRecDepth 100000 in
set_option maxHeartbeats 4000000 in
theorem c_X6_both1 (l : Launch) {F : Nat}    {m : MM} {m' : MM} {r : Int32} (h : f_X6_both1 F m = some (r, m')) : CT l yX6_both1 cX6_both1 3 (some .int) rmX6_both1 cfM 23 (fun ad tb => [.ref (ad 0)]) m (some (.int r)) m' := by
  refine CT.of (cc := cX6_both1) (maxL := 3) (ret := (some .int)) (by decide) ⟨rfl, rfl⟩ (fun _ _ => Nat.le_of_ble_eq_true rfl) ?_
  intro p e s mt args below meth c D cA ad tb C hr hlk
  refine g_lv (lv' := [(0, .ref (ad 0))]) rfl ?_
  unfold f_X6_both1 at h
  refine g_aload_n C dX6_both1_0 rfl 0 rfl ?_
  obtain ⟨r1, m3, hX2, h⟩ := bd2_inv h
  refine g_callV C (c_X6_not1 l hX2) (cwVw 0 C.2.2.2.2.1 wl_1209 wl_1211 wl_56 wl_121 wl_1212 rfl rfl (by decide +kernel) ⟨Nat.le_of_ble_eq_true rfl, Nat.le_of_ble_eq_true rfl⟩) mO_0 rfl rfl rfl rfl (Nat.le_of_ble_eq_true rfl) dX6_both1_1 ?_
  refine g_istore_n (lv' := [(1, .int r1), (0, .ref (ad 0))]) C dX6_both1_4 rfl (by decide) rfl ?_
  refine g_sub [1, 0] rfl ?_
  refine g_loop_IM (L := f_X6_both1_L5 F) h 5 49 (fun x1_4 m5 => [(0, .ref (ad 0)), (1, .int x1_4)]) (fun x1_4 m5 => [(1, .int x1_4)]) (fun x1_4 m5 => []) (fun x1_4 m5 => []) ?_ ?_ (fun _ _ _ => rfl)
  · intro x1_4 m5 h
    refine g_iload_n C dX6_both1_49 rfl 0 rfl ?_
    obtain ⟨rfl, rfl⟩ := sp_inj h
    exact g_iret C hr hlk dX6_both1_50 rfl
  · intro K6 hK6 n ih x1_4 m5 h
    rw [f_X6_both1_L5] at h
    refine g_aload_n C dX6_both1_5 rfl 0 rfl ?_
    refine g_bipush (v := (97 : Int32)) C dX6_both1_6 (by decide) ?_
    refine g_bipush (v := (110 : Int32)) C dX6_both1_8 (by decide) ?_
    refine g_bipush (v := (100 : Int32)) C dX6_both1_10 (by decide) ?_
    refine g_iconst (v := (0 : Int32)) C dX6_both1_12 (by decide) ?_
    refine g_iconst (v := (0 : Int32)) C dX6_both1_13 (by decide) ?_
    refine g_iconst (v := (0 : Int32)) C dX6_both1_14 (by decide) ?_
    refine g_iconst (v := (0 : Int32)) C dX6_both1_15 (by decide) ?_
    refine g_iconst (v := (0 : Int32)) C dX6_both1_16 (by decide) ?_
    obtain ⟨r7, hX8, h⟩ := bd1_inv h
    refine g_callV C (c_X6_isWord l hX8) (cwVw 8 C.2.2.2.2.1 wl_1177 wl_1179 wl_48 wl_121 wl_1180 rfl rfl (by decide +kernel) ⟨Nat.le_of_ble_eq_true rfl, Nat.le_of_ble_eq_true rfl⟩) mO_0 rfl rfl rfl rfl (Nat.le_of_ble_eq_true rfl) dX6_both1_17 ?_
    refine g_if_eq (tgt := 49) C dX6_both1_20 (by decide) h (fun h => ?_) (fun h => ?_)
    · exact g_sub [1] rfl (hK6 _ _ h)
    · refine g_aload_n C dX6_both1_23 rfl 0 rfl ?_
      obtain ⟨m10, hX9, h⟩ := bd1_inv h
      refine g_callV C (c_X6_next l hX9) (cwVw 0 C.2.2.2.2.1 wl_1165 wl_1167 wl_46 wl_121 wl_1168 rfl rfl (by decide +kernel) ⟨Nat.le_of_ble_eq_true rfl, Nat.le_of_ble_eq_true rfl⟩) mO_0 rfl rfl rfl rfl (Nat.le_of_ble_eq_true rfl) dX6_both1_24 ?_
      refine g_aload_n C dX6_both1_27 rfl 0 rfl ?_
      obtain ⟨r11, m13, hX12, h⟩ := bd2_inv h
      refine g_callV C (c_X6_not1 l hX12) (cwVw 0 C.2.2.2.2.1 wl_1209 wl_1211 wl_56 wl_121 wl_1212 rfl rfl (by decide +kernel) ⟨Nat.le_of_ble_eq_true rfl, Nat.le_of_ble_eq_true rfl⟩) mO_0 rfl rfl rfl rfl (Nat.le_of_ble_eq_true rfl) dX6_both1_28 ?_
      refine g_istore_n (lv' := [(2, .int r11), (0, .ref (ad 0)), (1, .int x1_4)]) C dX6_both1_31 rfl (by decide) rfl ?_
      refine g_iload_n C dX6_both1_32 rfl 2 rfl ?_
      refine g_join_I h 45 (fun s14 => [(0, .ref (ad 0))]) (fun s14 => [.int s14]) ?_ ?_
      · intro s14 h
        refine g_istore_n (lv' := [(1, .int s14), (0, .ref (ad 0))]) C dX6_both1_45 rfl (by decide) rfl ?_
        refine g_goto (tgt := 5) C dX6_both1_46 (by decide) ?_
        exact g_sub [1, 0] rfl (ih _ _ h)
      intro J15 hJ15 h
      refine g_join_ h 44 ([(0, .ref (ad 0))]) ([]) ?_ ?_
      · intro h
        refine g_iconst (v := (0 : Int32)) C dX6_both1_44 (by decide) ?_
        exact g_sub [0] rfl (hJ15 _ h)
      intro J16 hJ16 h
      refine g_if_eq (tgt := 44) C dX6_both1_33 (by decide) h (fun h => ?_) (fun h => ?_)
      · exact g_sub [1] rfl (hJ16  h)
      · refine g_iload_n C dX6_both1_36 rfl 0 rfl ?_
        refine g_if_eq (tgt := 44) C dX6_both1_37 (by decide) h (fun h => ?_) (fun h => ?_)
        · exact g_sub [1] rfl (hJ16  h)
        · refine g_iconst (v := (1 : Int32)) C dX6_both1_40 (by decide) ?_
          refine g_goto (tgt := 45) C dX6_both1_41 (by decide) ?_
          exact g_sub [1] rfl (hJ15 _ h)

def rmX6_either1 : Room := { frames := 33, cells := 0, slots := 0, locals := 729 }
set_option maxRecDepth 100000 in
set_option maxHeartbeats 4000000 in
theorem c_X6_either1 (l : Launch) {F : Nat}    {m : MM} {m' : MM} {r : Int32} (h : f_X6_either1 F m = some (r, m')) : CT l yX6_either1 cX6_either1 3 (some .int) rmX6_either1 cfM 23 (fun ad tb => [.ref (ad 0)]) m (some (.int r)) m' := by
  refine CT.of (cc := cX6_either1) (maxL := 3) (ret := (some .int)) (by decide) ⟨rfl, rfl⟩ (fun _ _ => Nat.le_of_ble_eq_true rfl) ?_
  intro p e s mt args below meth c D cA ad tb C hr hlk
  refine g_lv (lv' := [(0, .ref (ad 0))]) rfl ?_
  unfold f_X6_either1 at h
  refine g_aload_n C dX6_either1_0 rfl 0 rfl ?_
  obtain ⟨r1, m3, hX2, h⟩ := bd2_inv h
  refine g_callV C (c_X6_both1 l hX2) (cwVw 0 C.2.2.2.2.1 wl_1347 wl_1349 wl_90 wl_121 wl_1350 rfl rfl (by decide +kernel) ⟨Nat.le_of_ble_eq_true rfl, Nat.le_of_ble_eq_true rfl⟩) mO_0 rfl rfl rfl rfl (Nat.le_of_ble_eq_true rfl) dX6_either1_1 ?_
  refine g_istore_n (lv' := [(1, .int r1), (0, .ref (ad 0))]) C dX6_either1_4 rfl (by decide) rfl ?_
  refine g_sub [1, 0] rfl ?_
  refine g_loop_IM (L := f_X6_either1_L5 F) h 5 48 (fun x1_4 m5 => [(0, .ref (ad 0)), (1, .int x1_4)]) (fun x1_4 m5 => [(1, .int x1_4)]) (fun x1_4 m5 => []) (fun x1_4 m5 => []) ?_ ?_ (fun _ _ _ => rfl)
  · intro x1_4 m5 h
    refine g_iload_n C dX6_either1_48 rfl 0 rfl ?_
    obtain ⟨rfl, rfl⟩ := sp_inj h
    exact g_iret C hr hlk dX6_either1_49 rfl
  · intro K6 hK6 n ih x1_4 m5 h
    rw [f_X6_either1_L5] at h
    refine g_aload_n C dX6_either1_5 rfl 0 rfl ?_
    refine g_bipush (v := (111 : Int32)) C dX6_either1_6 (by decide) ?_
    refine g_bipush (v := (114 : Int32)) C dX6_either1_8 (by decide) ?_
    refine g_iconst (v := (0 : Int32)) C dX6_either1_10 (by decide) ?_
    refine g_iconst (v := (0 : Int32)) C dX6_either1_11 (by decide) ?_
    refine g_iconst (v := (0 : Int32)) C dX6_either1_12 (by decide) ?_
    refine g_iconst (v := (0 : Int32)) C dX6_either1_13 (by decide) ?_
    refine g_iconst (v := (0 : Int32)) C dX6_either1_14 (by decide) ?_
    refine g_iconst (v := (0 : Int32)) C dX6_either1_15 (by decide) ?_
    obtain ⟨r7, hX8, h⟩ := bd1_inv h
    refine g_callV C (c_X6_isWord l hX8) (cwVw 8 C.2.2.2.2.1 wl_1177 wl_1179 wl_48 wl_121 wl_1180 rfl rfl (by decide +kernel) ⟨Nat.le_of_ble_eq_true rfl, Nat.le_of_ble_eq_true rfl⟩) mO_0 rfl rfl rfl rfl (Nat.le_of_ble_eq_true rfl) dX6_either1_16 ?_
    refine g_if_eq (tgt := 48) C dX6_either1_19 (by decide) h (fun h => ?_) (fun h => ?_)
    · exact g_sub [1] rfl (hK6 _ _ h)
    · refine g_aload_n C dX6_either1_22 rfl 0 rfl ?_
      obtain ⟨m10, hX9, h⟩ := bd1_inv h
      refine g_callV C (c_X6_next l hX9) (cwVw 0 C.2.2.2.2.1 wl_1165 wl_1167 wl_46 wl_121 wl_1168 rfl rfl (by decide +kernel) ⟨Nat.le_of_ble_eq_true rfl, Nat.le_of_ble_eq_true rfl⟩) mO_0 rfl rfl rfl rfl (Nat.le_of_ble_eq_true rfl) dX6_either1_23 ?_
      refine g_aload_n C dX6_either1_26 rfl 0 rfl ?_
      obtain ⟨r11, m13, hX12, h⟩ := bd2_inv h
      refine g_callV C (c_X6_both1 l hX12) (cwVw 0 C.2.2.2.2.1 wl_1347 wl_1349 wl_90 wl_121 wl_1350 rfl rfl (by decide +kernel) ⟨Nat.le_of_ble_eq_true rfl, Nat.le_of_ble_eq_true rfl⟩) mO_0 rfl rfl rfl rfl (Nat.le_of_ble_eq_true rfl) dX6_either1_27 ?_
      refine g_istore_n (lv' := [(2, .int r11), (0, .ref (ad 0)), (1, .int x1_4)]) C dX6_either1_30 rfl (by decide) rfl ?_
      refine g_iload_n C dX6_either1_31 rfl 2 rfl ?_
      refine g_join_I h 44 (fun s14 => [(0, .ref (ad 0))]) (fun s14 => [.int s14]) ?_ ?_
      · intro s14 h
        refine g_istore_n (lv' := [(1, .int s14), (0, .ref (ad 0))]) C dX6_either1_44 rfl (by decide) rfl ?_
        refine g_goto (tgt := 5) C dX6_either1_45 (by decide) ?_
        exact g_sub [1, 0] rfl (ih _ _ h)
      intro J15 hJ15 h
      refine g_join_ h 39 ([(0, .ref (ad 0))]) ([]) ?_ ?_
      · intro h
        refine g_iconst (v := (1 : Int32)) C dX6_either1_39 (by decide) ?_
        refine g_goto (tgt := 44) C dX6_either1_40 (by decide) ?_
        exact g_sub [0] rfl (hJ15 _ h)
      intro J16 hJ16 h
      refine g_if_ne (tgt := 39) C dX6_either1_32 (by decide) h (fun h => ?_) (fun h => ?_)
      · refine g_iload_n C dX6_either1_35 rfl 0 rfl ?_
        refine g_if_eq (tgt := 43) C dX6_either1_36 (by decide) h (fun h => ?_) (fun h => ?_)
        · refine g_iconst (v := (0 : Int32)) C dX6_either1_43 (by decide) ?_
          exact g_sub [1] rfl (hJ15 _ h)
        · exact g_sub [1] rfl (hJ16  h)
      · exact g_sub [1] rfl (hJ16  h)

def rmX6_atom0 : Room := { frames := 34, cells := 0, slots := 0, locals := 751 }
set_option maxRecDepth 100000 in
set_option maxHeartbeats 4000000 in
theorem c_X6_atom0 (l : Launch) {F : Nat}    {m : MM} {m' : MM} {r : Int32} (h : f_X6_atom0 F m = some (r, m')) : CT l yX6_atom0 cX6_atom0 2 (some .int) rmX6_atom0 cfM 23 (fun ad tb => [.ref (ad 0)]) m (some (.int r)) m' := by
  refine CT.of (cc := cX6_atom0) (maxL := 2) (ret := (some .int)) (by decide) ⟨rfl, rfl⟩ (fun _ _ => Nat.le_of_ble_eq_true rfl) ?_
  intro p e s mt args below meth c D cA ad tb C hr hlk
  refine g_lv (lv' := [(0, .ref (ad 0))]) rfl ?_
  have hcl6 : ∀ w ∈ wsX60, w.before args s = true := fun w hw => C.2.2.2.2.1 w (inlX6 w hw)
  unfold f_X6_atom0 at h
  refine g_iconst (v := (0 : Int32)) C dX6_atom0_0 (by decide) ?_
  refine g_istore_n (lv' := [(1, .int (0 : Int32)), (0, .ref (ad 0))]) C dX6_atom0_1 rfl (by decide) rfl ?_
  refine g_aload_n C dX6_atom0_2 rfl 1 rfl ?_
  refine g_bipush (v := (45 : Int32)) C dX6_atom0_3 (by decide) ?_
  obtain ⟨r1, hX2, h⟩ := bd1_inv h
  refine g_callV C (c_X6_isSign l hX2) (cwVw 1 C.2.2.2.2.1 wl_1241 wl_1243 wl_64 wl_121 wl_1244 rfl rfl (by decide +kernel) ⟨Nat.le_of_ble_eq_true rfl, Nat.le_of_ble_eq_true rfl⟩) mO_0 rfl rfl rfl rfl (Nat.le_of_ble_eq_true rfl) dX6_atom0_5 ?_
  refine g_if_eq (tgt := 37) C dX6_atom0_8 (by decide) h (fun h => ?_) (fun h => ?_)
  · refine g_aload_n C dX6_atom0_37 rfl 1 rfl ?_
    refine g_bipush (v := (40 : Int32)) C dX6_atom0_38 (by decide) ?_
    obtain ⟨r3, hX4, h⟩ := bd1_inv h
    refine g_callV C (c_X6_isSign l hX4) (cwVw 1 C.2.2.2.2.1 wl_1241 wl_1243 wl_64 wl_121 wl_1244 rfl rfl (by decide +kernel) ⟨Nat.le_of_ble_eq_true rfl, Nat.le_of_ble_eq_true rfl⟩) mO_0 rfl rfl rfl rfl (Nat.le_of_ble_eq_true rfl) dX6_atom0_40 ?_
    refine g_if_eq (tgt := 95) C dX6_atom0_43 (by decide) h (fun h => ?_) (fun h => ?_)
    · refine g_aload_n C dX6_atom0_95 rfl 1 rfl ?_
      refine g_get C (T := TX6) hcl6 mO_0 rfl (j := 32) (by decide) wl_951 (v := .int (rI m 0 32)) rfl dX6_atom0_96 ?_
      refine g_join_ h 123 ([(0, .ref (ad 0)), (1, .int (0 : Int32))]) ([]) ?_ ?_
      · intro h
        refine g_aload_n C dX6_atom0_123 rfl 0 rfl ?_
        refine g_get C (T := TX6) hcl6 mO_0 rfl (j := 32) (by decide) wl_951 (v := .int (rI m 0 32)) rfl dX6_atom0_124 ?_
        refine g_join_ h 157 ([(0, .ref (ad 0)), (1, .int (0 : Int32))]) ([]) ?_ ?_
        · intro h
          refine g_aload_n C dX6_atom0_157 rfl 0 rfl ?_
          obtain ⟨m8, hX7, h⟩ := bd1_inv h
          refine g_callV C (c_X6_fail l hX7) (cwVw 0 C.2.2.2.2.1 wl_1189 wl_1191 wl_51 wl_121 wl_1192 rfl rfl (by decide +kernel) ⟨Nat.le_of_ble_eq_true rfl, Nat.le_of_ble_eq_true rfl⟩) mO_0 rfl rfl rfl rfl (Nat.le_of_ble_eq_true rfl) dX6_atom0_158 ?_
          refine g_iload_n C dX6_atom0_161 rfl 1 rfl ?_
          obtain ⟨rfl, rfl⟩ := sp_inj h
          exact g_iret C hr hlk dX6_atom0_162 rfl
        intro J6 hJ6 h
        refine g_if_ne (tgt := 157) C dX6_atom0_127 (by decide) h (fun h => ?_) (fun h => ?_)
        · refine g_aload_n C dX6_atom0_130 rfl 0 rfl ?_
          refine g_get C (T := TX6) hcl6 mO_0 rfl (j := 28) (by decide) wl_947 (v := .int (rI m 0 28)) rfl dX6_atom0_131 ?_
          refine g_iconst (v := (1 : Int32)) C dX6_atom0_134 (by decide) ?_
          refine g_icmp_ne (tgt := 157) C dX6_atom0_135 (by decide) h (fun h => ?_) (fun h => ?_)
          · refine g_aload_n C dX6_atom0_138 rfl 0 rfl ?_
            obtain ⟨r9, m11, hX10, h⟩ := bd2_inv h
            refine g_callV C (c_X6_name l hX10) (cwVw 0 C.2.2.2.2.1 wl_1245 wl_1247 wl_65 wl_121 wl_1248 rfl rfl (by decide +kernel) ⟨Nat.le_of_ble_eq_true rfl, Nat.le_of_ble_eq_true rfl⟩) mO_0 rfl rfl rfl rfl (Nat.le_of_ble_eq_true rfl) dX6_atom0_139 ?_
            refine g_istore_n (lv' := [(1, .int r9), (0, .ref (ad 0))]) C dX6_atom0_142 rfl (by decide) rfl ?_
            refine g_aload_n C dX6_atom0_143 rfl 1 rfl ?_
            refine g_get C (T := TX6) hcl6 mO_0 rfl (j := 32) (by decide) wl_951 (v := .int (rI m11 0 32)) rfl dX6_atom0_144 ?_
            refine g_if_ne (tgt := 161) C dX6_atom0_147 (by decide) h (fun h => ?_) (fun h => ?_)
            · refine g_aload_n C dX6_atom0_150 rfl 1 rfl ?_
              obtain ⟨m13, hX12, h⟩ := bd1_inv h
              refine g_callV C (c_X6_next l hX12) (cwVw 0 C.2.2.2.2.1 wl_1165 wl_1167 wl_46 wl_121 wl_1168 rfl rfl (by decide +kernel) ⟨Nat.le_of_ble_eq_true rfl, Nat.le_of_ble_eq_true rfl⟩) mO_0 rfl rfl rfl rfl (Nat.le_of_ble_eq_true rfl) dX6_atom0_151 ?_
              refine g_goto (tgt := 161) C dX6_atom0_154 (by decide) ?_
              refine g_iload_n C dX6_atom0_161 rfl 0 rfl ?_
              obtain ⟨rfl, rfl⟩ := sp_inj h
              exact g_iret C hr hlk dX6_atom0_162 rfl
            · refine g_iload_n C dX6_atom0_161 rfl 0 rfl ?_
              obtain ⟨rfl, rfl⟩ := sp_inj h
              exact g_iret C hr hlk dX6_atom0_162 rfl
          · exact g_sub [0, 1] rfl (hJ6  h)
        · exact g_sub [0, 1] rfl (hJ6  h)
      intro J5 hJ5 h
      refine g_if_ne (tgt := 123) C dX6_atom0_99 (by decide) h (fun h => ?_) (fun h => ?_)
      · refine g_aload_n C dX6_atom0_102 rfl 1 rfl ?_
        refine g_get C (T := TX6) hcl6 mO_0 rfl (j := 28) (by decide) wl_947 (v := .int (rI m 0 28)) rfl dX6_atom0_103 ?_
        refine g_iconst (v := (2 : Int32)) C dX6_atom0_106 (by decide) ?_
        refine g_icmp_ne (tgt := 123) C dX6_atom0_107 (by decide) h (fun h => ?_) (fun h => ?_)
        · refine g_aload_n C dX6_atom0_110 rfl 1 rfl ?_
          refine g_get C (T := TX6) hcl6 mO_0 rfl (j := 30) (by decide) wl_949 (v := .long (rL m 0 30)) rfl dX6_atom0_111 ?_
          refine g_l2i C dX6_atom0_114 ?_
          refine nm_i h (fun x1_14 h => ?_)
          refine g_istore_n (lv' := [(1, .int x1_14), (0, .ref (ad 0))]) C dX6_atom0_115 rfl (by decide) rfl ?_
          refine g_aload_n C dX6_atom0_116 rfl 1 rfl ?_
          obtain ⟨m16, hX15, h⟩ := bd1_inv h
          refine g_callV C (c_X6_next l hX15) (cwVw 0 C.2.2.2.2.1 wl_1165 wl_1167 wl_46 wl_121 wl_1168 rfl rfl (by decide +kernel) ⟨Nat.le_of_ble_eq_true rfl, Nat.le_of_ble_eq_true rfl⟩) mO_0 rfl rfl rfl rfl (Nat.le_of_ble_eq_true rfl) dX6_atom0_117 ?_
          refine g_goto (tgt := 161) C dX6_atom0_120 (by decide) ?_
          refine g_iload_n C dX6_atom0_161 rfl 0 rfl ?_
          obtain ⟨rfl, rfl⟩ := sp_inj h
          exact g_iret C hr hlk dX6_atom0_162 rfl
        · exact g_sub [1, 0] rfl (hJ5  h)
      · exact g_sub [1, 0] rfl (hJ5  h)
    · refine g_aload_n C dX6_atom0_46 rfl 1 rfl ?_
      obtain ⟨r17, m19, hX18, h⟩ := bd2_inv h
      refine g_callV C (c_X6_opens l hX18) (cwVw 0 C.2.2.2.2.1 wl_1205 wl_1207 wl_55 wl_121 wl_1208 rfl rfl (by decide +kernel) ⟨Nat.le_of_ble_eq_true rfl, Nat.le_of_ble_eq_true rfl⟩) mO_0 rfl rfl rfl rfl (Nat.le_of_ble_eq_true rfl) dX6_atom0_47 ?_
      refine g_if_eq (tgt := 161) C dX6_atom0_50 (by decide) h (fun h => ?_) (fun h => ?_)
      · refine g_iload_n C dX6_atom0_161 rfl 0 rfl ?_
        obtain ⟨rfl, rfl⟩ := sp_inj h
        exact g_iret C hr hlk dX6_atom0_162 rfl
      · refine g_aload_n C dX6_atom0_53 rfl 1 rfl ?_
        obtain ⟨r20, m22, hX21, h⟩ := bd2_inv h
        refine g_callV C (c_X6_either1 l hX21) (cwVw 0 C.2.2.2.2.1 wl_1343 wl_1345 wl_89 wl_121 wl_1346 rfl rfl (by decide +kernel) ⟨Nat.le_of_ble_eq_true rfl, Nat.le_of_ble_eq_true rfl⟩) mO_0 rfl rfl rfl rfl (Nat.le_of_ble_eq_true rfl) dX6_atom0_54 ?_
        refine g_istore_n (lv' := [(1, .int r20), (0, .ref (ad 0))]) C dX6_atom0_57 rfl (by decide) rfl ?_
        refine g_aload_n C dX6_atom0_58 rfl 1 rfl ?_
        refine g_bipush (v := (41 : Int32)) C dX6_atom0_59 (by decide) ?_
        obtain ⟨r23, hX24, h⟩ := bd1_inv h
        refine g_callV C (c_X6_isSign l hX24) (cwVw 1 C.2.2.2.2.1 wl_1241 wl_1243 wl_64 wl_121 wl_1244 rfl rfl (by decide +kernel) ⟨Nat.le_of_ble_eq_true rfl, Nat.le_of_ble_eq_true rfl⟩) mO_0 rfl rfl rfl rfl (Nat.le_of_ble_eq_true rfl) dX6_atom0_61 ?_
        refine g_join_M h 71 (fun m25 => [(0, .ref (ad 0)), (1, .int r20)]) (fun m25 => []) ?_ ?_
        · intro m25 h
          refine g_aload_n C dX6_atom0_71 rfl 0 rfl ?_
          refine g_dup C dX6_atom0_72 rfl ?_
          refine g_get C (T := TX6) hcl6 mO_0 rfl (j := 31) (by decide) wl_950 (v := .int (rI m25 0 31)) rfl dX6_atom0_73 ?_
          refine g_iconst (v := (1 : Int32)) C dX6_atom0_76 (by decide) ?_
          refine g_isub C dX6_atom0_77 ?_
          refine g_putI C (T := TX6) hcl6 mO_0 rfl (j := 31) (by decide) wl_950 tyX6 tyX6_ok nmX6 rfl rfl pfX6_31 (plX6 31 (by decide)) dX6_atom0_78 h (fun m27 h => ?_)
          refine g_aload_n C dX6_atom0_81 rfl 0 rfl ?_
          refine g_get C (T := TX6) hcl6 mO_0 rfl (j := 32) (by decide) wl_951 (v := .int (rI m27 0 32)) rfl dX6_atom0_82 ?_
          refine g_if_ne (tgt := 161) C dX6_atom0_85 (by decide) h (fun h => ?_) (fun h => ?_)
          · refine g_aload_n C dX6_atom0_88 rfl 0 rfl ?_
            obtain ⟨m29, hX28, h⟩ := bd1_inv h
            refine g_callV C (c_X6_next l hX28) (cwVw 0 C.2.2.2.2.1 wl_1165 wl_1167 wl_46 wl_121 wl_1168 rfl rfl (by decide +kernel) ⟨Nat.le_of_ble_eq_true rfl, Nat.le_of_ble_eq_true rfl⟩) mO_0 rfl rfl rfl rfl (Nat.le_of_ble_eq_true rfl) dX6_atom0_89 ?_
            refine g_goto (tgt := 161) C dX6_atom0_92 (by decide) ?_
            refine g_iload_n C dX6_atom0_161 rfl 1 rfl ?_
            obtain ⟨rfl, rfl⟩ := sp_inj h
            exact g_iret C hr hlk dX6_atom0_162 rfl
          · refine g_iload_n C dX6_atom0_161 rfl 1 rfl ?_
            obtain ⟨rfl, rfl⟩ := sp_inj h
            exact g_iret C hr hlk dX6_atom0_162 rfl
        intro J26 hJ26 h
        refine g_if_ne (tgt := 71) C dX6_atom0_64 (by decide) h (fun h => ?_) (fun h => ?_)
        · refine g_aload_n C dX6_atom0_67 rfl 1 rfl ?_
          obtain ⟨m31, hX30, h⟩ := bd1_inv h
          refine g_callV C (c_X6_fail l hX30) (cwVw 0 C.2.2.2.2.1 wl_1189 wl_1191 wl_51 wl_121 wl_1192 rfl rfl (by decide +kernel) ⟨Nat.le_of_ble_eq_true rfl, Nat.le_of_ble_eq_true rfl⟩) mO_0 rfl rfl rfl rfl (Nat.le_of_ble_eq_true rfl) dX6_atom0_68 ?_
          exact g_sub [1, 0] rfl (hJ26 _ h)
        · exact g_sub [1, 0] rfl (hJ26 _ h)
  · refine g_aload_n C dX6_atom0_11 rfl 1 rfl ?_
    obtain ⟨r32, m34, hX33, h⟩ := bd2_inv h
    refine g_callV C (c_X6_opens l hX33) (cwVw 0 C.2.2.2.2.1 wl_1205 wl_1207 wl_55 wl_121 wl_1208 rfl rfl (by decide +kernel) ⟨Nat.le_of_ble_eq_true rfl, Nat.le_of_ble_eq_true rfl⟩) mO_0 rfl rfl rfl rfl (Nat.le_of_ble_eq_true rfl) dX6_atom0_12 ?_
    refine g_if_eq (tgt := 161) C dX6_atom0_15 (by decide) h (fun h => ?_) (fun h => ?_)
    · refine g_iload_n C dX6_atom0_161 rfl 0 rfl ?_
      obtain ⟨rfl, rfl⟩ := sp_inj h
      exact g_iret C hr hlk dX6_atom0_162 rfl
    · refine g_aload_n C dX6_atom0_18 rfl 1 rfl ?_
      obtain ⟨r35, m37, hX36, h⟩ := bd2_inv h
      refine g_callV C (c_X6_atom1 l hX36) (cwVw 0 C.2.2.2.2.1 wl_1319 wl_1321 wl_83 wl_121 wl_1322 rfl rfl (by decide +kernel) ⟨Nat.le_of_ble_eq_true rfl, Nat.le_of_ble_eq_true rfl⟩) mO_0 rfl rfl rfl rfl (Nat.le_of_ble_eq_true rfl) dX6_atom0_19 ?_
      refine g_ineg C dX6_atom0_22 ?_
      refine g_istore_n (lv' := [(1, .int (-r35)), (0, .ref (ad 0))]) C dX6_atom0_23 rfl (by decide) rfl ?_
      refine g_aload_n C dX6_atom0_24 rfl 1 rfl ?_
      refine g_dup C dX6_atom0_25 rfl ?_
      refine g_get C (T := TX6) hcl6 mO_0 rfl (j := 31) (by decide) wl_950 (v := .int (rI m37 0 31)) rfl dX6_atom0_26 ?_
      refine g_iconst (v := (1 : Int32)) C dX6_atom0_29 (by decide) ?_
      refine g_isub C dX6_atom0_30 ?_
      refine g_putI C (T := TX6) hcl6 mO_0 rfl (j := 31) (by decide) wl_950 tyX6 tyX6_ok nmX6 rfl rfl pfX6_31 (plX6 31 (by decide)) dX6_atom0_31 h (fun m38 h => ?_)
      refine g_goto (tgt := 161) C dX6_atom0_34 (by decide) ?_
      refine g_iload_n C dX6_atom0_161 rfl 0 rfl ?_
      obtain ⟨rfl, rfl⟩ := sp_inj h
      exact g_iret C hr hlk dX6_atom0_162 rfl

def rmX6_term0 : Room := { frames := 35, cells := 0, slots := 0, locals := 772 }
set_option maxRecDepth 100000 in
set_option maxHeartbeats 4000000 in
theorem c_X6_term0 (l : Launch) {F : Nat}    {m : MM} {m' : MM} {r : Int32} (h : f_X6_term0 F m = some (r, m')) : CT l yX6_term0 cX6_term0 2 (some .int) rmX6_term0 cfM 23 (fun ad tb => [.ref (ad 0)]) m (some (.int r)) m' := by
  refine CT.of (cc := cX6_term0) (maxL := 2) (ret := (some .int)) (by decide) ⟨rfl, rfl⟩ (fun _ _ => Nat.le_of_ble_eq_true rfl) ?_
  intro p e s mt args below meth c D cA ad tb C hr hlk
  refine g_lv (lv' := [(0, .ref (ad 0))]) rfl ?_
  unfold f_X6_term0 at h
  refine g_aload_n C dX6_term0_0 rfl 0 rfl ?_
  obtain ⟨r1, m3, hX2, h⟩ := bd2_inv h
  refine g_callV C (c_X6_atom0 l hX2) (cwVw 0 C.2.2.2.2.1 wl_1339 wl_1341 wl_88 wl_121 wl_1342 rfl rfl (by decide +kernel) ⟨Nat.le_of_ble_eq_true rfl, Nat.le_of_ble_eq_true rfl⟩) mO_0 rfl rfl rfl rfl (Nat.le_of_ble_eq_true rfl) dX6_term0_1 ?_
  refine g_istore_n (lv' := [(1, .int r1), (0, .ref (ad 0))]) C dX6_term0_4 rfl (by decide) rfl ?_
  refine g_sub [1, 0] rfl ?_
  refine g_loop_IM (L := f_X6_term0_L5 F) h 5 28 (fun x1_4 m5 => [(0, .ref (ad 0)), (1, .int x1_4)]) (fun x1_4 m5 => [(1, .int x1_4)]) (fun x1_4 m5 => []) (fun x1_4 m5 => []) ?_ ?_ (fun _ _ _ => rfl)
  · intro x1_4 m5 h
    refine g_iload_n C dX6_term0_28 rfl 0 rfl ?_
    obtain ⟨rfl, rfl⟩ := sp_inj h
    exact g_iret C hr hlk dX6_term0_29 rfl
  · intro K6 hK6 n ih x1_4 m5 h
    rw [f_X6_term0_L5] at h
    refine g_aload_n C dX6_term0_5 rfl 0 rfl ?_
    refine g_bipush (v := (42 : Int32)) C dX6_term0_6 (by decide) ?_
    obtain ⟨r7, hX8, h⟩ := bd1_inv h
    refine g_callV C (c_X6_isSign l hX8) (cwVw 1 C.2.2.2.2.1 wl_1241 wl_1243 wl_64 wl_121 wl_1244 rfl rfl (by decide +kernel) ⟨Nat.le_of_ble_eq_true rfl, Nat.le_of_ble_eq_true rfl⟩) mO_0 rfl rfl rfl rfl (Nat.le_of_ble_eq_true rfl) dX6_term0_8 ?_
    refine g_if_eq (tgt := 28) C dX6_term0_11 (by decide) h (fun h => ?_) (fun h => ?_)
    · exact g_sub [1] rfl (hK6 _ _ h)
    · refine g_aload_n C dX6_term0_14 rfl 0 rfl ?_
      obtain ⟨m10, hX9, h⟩ := bd1_inv h
      refine g_callV C (c_X6_next l hX9) (cwVw 0 C.2.2.2.2.1 wl_1165 wl_1167 wl_46 wl_121 wl_1168 rfl rfl (by decide +kernel) ⟨Nat.le_of_ble_eq_true rfl, Nat.le_of_ble_eq_true rfl⟩) mO_0 rfl rfl rfl rfl (Nat.le_of_ble_eq_true rfl) dX6_term0_15 ?_
      refine g_iload_n C dX6_term0_18 rfl 1 rfl ?_
      refine g_aload_n C dX6_term0_19 rfl 0 rfl ?_
      obtain ⟨r11, m13, hX12, h⟩ := bd2_inv h
      refine g_callV C (c_X6_atom0 l hX12) (cwVw 0 C.2.2.2.2.1 wl_1339 wl_1341 wl_88 wl_121 wl_1342 rfl rfl (by decide +kernel) ⟨Nat.le_of_ble_eq_true rfl, Nat.le_of_ble_eq_true rfl⟩) mO_0 rfl rfl rfl rfl (Nat.le_of_ble_eq_true rfl) dX6_term0_20 ?_
      refine g_imul C dX6_term0_23 ?_
      refine nm_i h (fun x1_14 h => ?_)
      refine g_istore_n (lv' := [(1, .int x1_14), (0, .ref (ad 0))]) C dX6_term0_24 rfl (by decide) rfl ?_
      refine g_goto (tgt := 5) C dX6_term0_25 (by decide) ?_
      exact g_sub [1, 0] rfl (ih _ _ h)

def rmX6_added0 : Room := { frames := 36, cells := 0, slots := 0, locals := 793 }
set_option maxRecDepth 100000 in
set_option maxHeartbeats 4000000 in
theorem c_X6_added0 (l : Launch) {F : Nat}    {m : MM} {m' : MM} {r : Int32} (h : f_X6_added0 F m = some (r, m')) : CT l yX6_added0 cX6_added0 4 (some .int) rmX6_added0 cfM 23 (fun ad tb => [.ref (ad 0)]) m (some (.int r)) m' := by
  refine CT.of (cc := cX6_added0) (maxL := 4) (ret := (some .int)) (by decide) ⟨rfl, rfl⟩ (fun _ _ => Nat.le_of_ble_eq_true rfl) ?_
  intro p e s mt args below meth c D cA ad tb C hr hlk
  refine g_lv (lv' := [(0, .ref (ad 0))]) rfl ?_
  have hcl6 : ∀ w ∈ wsX60, w.before args s = true := fun w hw => C.2.2.2.2.1 w (inlX6 w hw)
  unfold f_X6_added0 at h
  refine g_aload_n C dX6_added0_0 rfl 0 rfl ?_
  obtain ⟨r1, m3, hX2, h⟩ := bd2_inv h
  refine g_callV C (c_X6_term0 l hX2) (cwVw 0 C.2.2.2.2.1 wl_1335 wl_1337 wl_87 wl_121 wl_1338 rfl rfl (by decide +kernel) ⟨Nat.le_of_ble_eq_true rfl, Nat.le_of_ble_eq_true rfl⟩) mO_0 rfl rfl rfl rfl (Nat.le_of_ble_eq_true rfl) dX6_added0_1 ?_
  refine g_istore_n (lv' := [(1, .int r1), (0, .ref (ad 0))]) C dX6_added0_4 rfl (by decide) rfl ?_
  refine g_sub [1, 0] rfl ?_
  refine g_loop_IM (L := f_X6_added0_L5 F) h 5 66 (fun x1_4 m5 => [(0, .ref (ad 0)), (1, .int x1_4)]) (fun x1_4 m5 => [(1, .int x1_4)]) (fun x1_4 m5 => []) (fun x1_4 m5 => []) ?_ ?_ (fun _ _ _ => rfl)
  · intro x1_4 m5 h
    refine g_iload_n C dX6_added0_66 rfl 0 rfl ?_
    obtain ⟨rfl, rfl⟩ := sp_inj h
    exact g_iret C hr hlk dX6_added0_67 rfl
  · intro K6 hK6 n ih x1_4 m5 h
    rw [f_X6_added0_L5] at h
    refine g_aload_n C dX6_added0_5 rfl 0 rfl ?_
    refine g_bipush (v := (43 : Int32)) C dX6_added0_6 (by decide) ?_
    obtain ⟨r7, hX8, h⟩ := bd1_inv h
    refine g_callV C (c_X6_isSign l hX8) (cwVw 1 C.2.2.2.2.1 wl_1241 wl_1243 wl_64 wl_121 wl_1244 rfl rfl (by decide +kernel) ⟨Nat.le_of_ble_eq_true rfl, Nat.le_of_ble_eq_true rfl⟩) mO_0 rfl rfl rfl rfl (Nat.le_of_ble_eq_true rfl) dX6_added0_8 ?_
    refine g_join_ h 23 ([(0, .ref (ad 0)), (1, .int x1_4)]) ([]) ?_ ?_
    · intro h
      refine g_aload_n C dX6_added0_23 rfl 0 rfl ?_
      refine g_get C (T := TX6) hcl6 mO_0 rfl (j := 30) (by decide) wl_949 (v := .long (rL m5 0 30)) rfl dX6_added0_24 ?_
      refine g_ldc2 (v := (43 : Int64)) C dX6_added0_27 wl_1249 ?_
      refine g_lcmp C dX6_added0_30 ?_
      refine g_join_I h 39 (fun s10 => [(0, .ref (ad 0)), (1, .int x1_4)]) (fun s10 => [.int s10]) ?_ ?_
      · intro s10 h
        refine g_istore_n (lv' := [(2, .int s10), (0, .ref (ad 0)), (1, .int x1_4)]) C dX6_added0_39 rfl (by decide) rfl ?_
        refine g_aload_n C dX6_added0_40 rfl 1 rfl ?_
        obtain ⟨m13, hX12, h⟩ := bd1_inv h
        refine g_callV C (c_X6_next l hX12) (cwVw 0 C.2.2.2.2.1 wl_1165 wl_1167 wl_46 wl_121 wl_1168 rfl rfl (by decide +kernel) ⟨Nat.le_of_ble_eq_true rfl, Nat.le_of_ble_eq_true rfl⟩) mO_0 rfl rfl rfl rfl (Nat.le_of_ble_eq_true rfl) dX6_added0_41 ?_
        refine g_aload_n C dX6_added0_44 rfl 1 rfl ?_
        obtain ⟨r14, m16, hX15, h⟩ := bd2_inv h
        refine g_callV C (c_X6_term0 l hX15) (cwVw 0 C.2.2.2.2.1 wl_1335 wl_1337 wl_87 wl_121 wl_1338 rfl rfl (by decide +kernel) ⟨Nat.le_of_ble_eq_true rfl, Nat.le_of_ble_eq_true rfl⟩) mO_0 rfl rfl rfl rfl (Nat.le_of_ble_eq_true rfl) dX6_added0_45 ?_
        refine g_istore_n (lv' := [(3, .int r14), (2, .int s10), (0, .ref (ad 0)), (1, .int x1_4)]) C dX6_added0_48 rfl (by decide) rfl ?_
        refine g_iload_n C dX6_added0_49 rfl 1 rfl ?_
        refine g_join_I h 62 (fun s17 => [(0, .ref (ad 0))]) (fun s17 => [.int s17]) ?_ ?_
        · intro s17 h
          refine g_istore_n (lv' := [(1, .int s17), (0, .ref (ad 0))]) C dX6_added0_62 rfl (by decide) rfl ?_
          refine g_goto (tgt := 5) C dX6_added0_63 (by decide) ?_
          exact g_sub [1, 0] rfl (ih _ _ h)
        intro J18 hJ18 h
        refine g_if_eq (tgt := 59) C dX6_added0_50 (by decide) h (fun h => ?_) (fun h => ?_)
        · refine g_iload_n C dX6_added0_59 rfl 3 rfl ?_
          refine g_iload_n C dX6_added0_60 rfl 0 rfl ?_
          refine g_isub C dX6_added0_61 ?_
          exact g_sub [2] rfl (hJ18 _ h)
        · refine g_iload_n C dX6_added0_53 rfl 3 rfl ?_
          refine g_iload_n C dX6_added0_54 rfl 0 rfl ?_
          refine g_iadd C dX6_added0_55 ?_
          refine g_goto (tgt := 62) C dX6_added0_56 (by decide) ?_
          exact g_sub [2] rfl (hJ18 _ h)
      intro J11 hJ11 h
      refine g_if_ne (tgt := 38) C dX6_added0_31 (by decide) h (fun h => ?_) (fun h => ?_)
      · refine g_iconst (v := (1 : Int32)) C dX6_added0_34 (by decide) ?_
        refine g_goto (tgt := 39) C dX6_added0_35 (by decide) ?_
        exact g_sub [0, 1] rfl (hJ11 _ h)
      · refine g_iconst (v := (0 : Int32)) C dX6_added0_38 (by decide) ?_
        exact g_sub [0, 1] rfl (hJ11 _ h)
    intro J9 hJ9 h
    refine g_if_ne (tgt := 23) C dX6_added0_11 (by decide) h (fun h => ?_) (fun h => ?_)
    · refine g_aload_n C dX6_added0_14 rfl 0 rfl ?_
      refine g_bipush (v := (45 : Int32)) C dX6_added0_15 (by decide) ?_
      obtain ⟨r19, hX20, h⟩ := bd1_inv h
      refine g_callV C (c_X6_isSign l hX20) (cwVw 1 C.2.2.2.2.1 wl_1241 wl_1243 wl_64 wl_121 wl_1244 rfl rfl (by decide +kernel) ⟨Nat.le_of_ble_eq_true rfl, Nat.le_of_ble_eq_true rfl⟩) mO_0 rfl rfl rfl rfl (Nat.le_of_ble_eq_true rfl) dX6_added0_17 ?_
      refine g_if_eq (tgt := 66) C dX6_added0_20 (by decide) h (fun h => ?_) (fun h => ?_)
      · exact g_sub [1] rfl (hK6 _ _ h)
      · exact g_sub [0, 1] rfl (hJ9  h)
    · exact g_sub [0, 1] rfl (hJ9  h)

def rmX6_not0 : Room := { frames := 37, cells := 0, slots := 0, locals := 816 }
set_option maxRecDepth 100000 in
set_option maxHeartbeats 4000000 in
theorem c_X6_not0 (l : Launch) {F : Nat}    {m : MM} {m' : MM} {r : Int32} (h : f_X6_not0 F m = some (r, m')) : CT l yX6_not0 cX6_not0 4 (some .int) rmX6_not0 cfM 23 (fun ad tb => [.ref (ad 0)]) m (some (.int r)) m' := by
  refine CT.of (cc := cX6_not0) (maxL := 4) (ret := (some .int)) (by decide) ⟨rfl, rfl⟩ (fun _ _ => Nat.le_of_ble_eq_true rfl) ?_
  intro p e s mt args below meth c D cA ad tb C hr hlk
  refine g_lv (lv' := [(0, .ref (ad 0))]) rfl ?_
  have hcl6 : ∀ w ∈ wsX60, w.before args s = true := fun w hw => C.2.2.2.2.1 w (inlX6 w hw)
  unfold f_X6_not0 at h
  refine g_aload_n C dX6_not0_0 rfl 0 rfl ?_
  refine g_bipush (v := (110 : Int32)) C dX6_not0_1 (by decide) ?_
  refine g_bipush (v := (111 : Int32)) C dX6_not0_3 (by decide) ?_
  refine g_bipush (v := (116 : Int32)) C dX6_not0_5 (by decide) ?_
  refine g_iconst (v := (0 : Int32)) C dX6_not0_7 (by decide) ?_
  refine g_iconst (v := (0 : Int32)) C dX6_not0_8 (by decide) ?_
  refine g_iconst (v := (0 : Int32)) C dX6_not0_9 (by decide) ?_
  refine g_iconst (v := (0 : Int32)) C dX6_not0_10 (by decide) ?_
  refine g_iconst (v := (0 : Int32)) C dX6_not0_11 (by decide) ?_
  obtain ⟨r1, hX2, h⟩ := bd1_inv h
  refine g_callV C (c_X6_isWord l hX2) (cwVw 8 C.2.2.2.2.1 wl_1177 wl_1179 wl_48 wl_121 wl_1180 rfl rfl (by decide +kernel) ⟨Nat.le_of_ble_eq_true rfl, Nat.le_of_ble_eq_true rfl⟩) mO_0 rfl rfl rfl rfl (Nat.le_of_ble_eq_true rfl) dX6_not0_12 ?_
  refine g_if_eq (tgt := 52) C dX6_not0_15 (by decide) h (fun h => ?_) (fun h => ?_)
  · refine g_aload_n C dX6_not0_52 rfl 0 rfl ?_
    obtain ⟨r3, m5, hX4, h⟩ := bd2_inv h
    refine g_callV C (c_X6_added0 l hX4) (cwVw 0 C.2.2.2.2.1 wl_1331 wl_1333 wl_86 wl_121 wl_1334 rfl rfl (by decide +kernel) ⟨Nat.le_of_ble_eq_true rfl, Nat.le_of_ble_eq_true rfl⟩) mO_0 rfl rfl rfl rfl (Nat.le_of_ble_eq_true rfl) dX6_not0_53 ?_
    refine g_istore_n (lv' := [(1, .int r3), (0, .ref (ad 0))]) C dX6_not0_56 rfl (by decide) rfl ?_
    refine g_aload_n C dX6_not0_57 rfl 1 rfl ?_
    refine g_bipush (v := (60 : Int32)) C dX6_not0_58 (by decide) ?_
    obtain ⟨r6, hX7, h⟩ := bd1_inv h
    refine g_callV C (c_X6_isSign l hX7) (cwVw 1 C.2.2.2.2.1 wl_1241 wl_1243 wl_64 wl_121 wl_1244 rfl rfl (by decide +kernel) ⟨Nat.le_of_ble_eq_true rfl, Nat.le_of_ble_eq_true rfl⟩) mO_0 rfl rfl rfl rfl (Nat.le_of_ble_eq_true rfl) dX6_not0_60 ?_
    refine g_join_ h 77 ([(0, .ref (ad 0)), (1, .int r3)]) ([]) ?_ ?_
    · intro h
      refine g_aload_n C dX6_not0_77 rfl 0 rfl ?_
      refine g_get C (T := TX6) hcl6 mO_0 rfl (j := 30) (by decide) wl_949 (v := .long (rL m5 0 30)) rfl dX6_not0_78 ?_
      refine g_ldc2 (v := (60 : Int64)) C dX6_not0_81 wl_1250 ?_
      refine g_lcmp C dX6_not0_84 ?_
      refine g_join_I h 93 (fun s9 => [(0, .ref (ad 0)), (1, .int r3)]) (fun s9 => [.int s9]) ?_ ?_
      · intro s9 h
        refine g_istore_n (lv' := [(2, .int s9), (0, .ref (ad 0)), (1, .int r3)]) C dX6_not0_93 rfl (by decide) rfl ?_
        refine g_aload_n C dX6_not0_94 rfl 1 rfl ?_
        obtain ⟨m12, hX11, h⟩ := bd1_inv h
        refine g_callV C (c_X6_next l hX11) (cwVw 0 C.2.2.2.2.1 wl_1165 wl_1167 wl_46 wl_121 wl_1168 rfl rfl (by decide +kernel) ⟨Nat.le_of_ble_eq_true rfl, Nat.le_of_ble_eq_true rfl⟩) mO_0 rfl rfl rfl rfl (Nat.le_of_ble_eq_true rfl) dX6_not0_95 ?_
        refine g_aload_n C dX6_not0_98 rfl 1 rfl ?_
        obtain ⟨r13, m15, hX14, h⟩ := bd2_inv h
        refine g_callV C (c_X6_added0 l hX14) (cwVw 0 C.2.2.2.2.1 wl_1331 wl_1333 wl_86 wl_121 wl_1334 rfl rfl (by decide +kernel) ⟨Nat.le_of_ble_eq_true rfl, Nat.le_of_ble_eq_true rfl⟩) mO_0 rfl rfl rfl rfl (Nat.le_of_ble_eq_true rfl) dX6_not0_99 ?_
        refine g_istore_n (lv' := [(3, .int r13), (2, .int s9), (0, .ref (ad 0)), (1, .int r3)]) C dX6_not0_102 rfl (by decide) rfl ?_
        refine g_iload_n C dX6_not0_103 rfl 1 rfl ?_
        refine g_if_eq (tgt := 115) C dX6_not0_104 (by decide) h (fun h => ?_) (fun h => ?_)
        · refine g_iload_n C dX6_not0_115 rfl 3 rfl ?_
          refine g_iload_n C dX6_not0_116 rfl 0 rfl ?_
          refine g_icmp_ne (tgt := 124) C dX6_not0_117 (by decide) h (fun h => ?_) (fun h => ?_)
          · refine g_iconst (v := (1 : Int32)) C dX6_not0_120 (by decide) ?_
            refine g_goto (tgt := 125) C dX6_not0_121 (by decide) ?_
            obtain ⟨rfl, rfl⟩ := sp_inj h
            exact g_iret C hr hlk dX6_not0_125 rfl
          · refine g_iconst (v := (0 : Int32)) C dX6_not0_124 (by decide) ?_
            obtain ⟨rfl, rfl⟩ := sp_inj h
            exact g_iret C hr hlk dX6_not0_125 rfl
        · refine g_iload_n C dX6_not0_107 rfl 3 rfl ?_
          refine g_iload_n C dX6_not0_108 rfl 0 rfl ?_
          refine g_icmp_ge (tgt := 124) C dX6_not0_109 (by decide) h (fun h => ?_) (fun h => ?_)
          · refine g_iconst (v := (0 : Int32)) C dX6_not0_124 (by decide) ?_
            obtain ⟨rfl, rfl⟩ := sp_inj h
            exact g_iret C hr hlk dX6_not0_125 rfl
          · refine g_goto (tgt := 120) C dX6_not0_112 (by decide) ?_
            refine g_iconst (v := (1 : Int32)) C dX6_not0_120 (by decide) ?_
            refine g_goto (tgt := 125) C dX6_not0_121 (by decide) ?_
            obtain ⟨rfl, rfl⟩ := sp_inj h
            exact g_iret C hr hlk dX6_not0_125 rfl
      intro J10 hJ10 h
      refine g_if_ne (tgt := 92) C dX6_not0_85 (by decide) h (fun h => ?_) (fun h => ?_)
      · refine g_iconst (v := (1 : Int32)) C dX6_not0_88 (by decide) ?_
        refine g_goto (tgt := 93) C dX6_not0_89 (by decide) ?_
        exact g_sub [0, 1] rfl (hJ10 _ h)
      · refine g_iconst (v := (0 : Int32)) C dX6_not0_92 (by decide) ?_
        exact g_sub [0, 1] rfl (hJ10 _ h)
    intro J8 hJ8 h
    refine g_if_ne (tgt := 77) C dX6_not0_63 (by decide) h (fun h => ?_) (fun h => ?_)
    · refine g_aload_n C dX6_not0_66 rfl 1 rfl ?_
      refine g_bipush (v := (61 : Int32)) C dX6_not0_67 (by decide) ?_
      obtain ⟨r16, hX17, h⟩ := bd1_inv h
      refine g_callV C (c_X6_isSign l hX17) (cwVw 1 C.2.2.2.2.1 wl_1241 wl_1243 wl_64 wl_121 wl_1244 rfl rfl (by decide +kernel) ⟨Nat.le_of_ble_eq_true rfl, Nat.le_of_ble_eq_true rfl⟩) mO_0 rfl rfl rfl rfl (Nat.le_of_ble_eq_true rfl) dX6_not0_69 ?_
      refine g_if_ne (tgt := 77) C dX6_not0_72 (by decide) h (fun h => ?_) (fun h => ?_)
      · refine g_iload_n C dX6_not0_75 rfl 0 rfl ?_
        obtain ⟨rfl, rfl⟩ := sp_inj h
        exact g_iret C hr hlk dX6_not0_76 rfl
      · exact g_sub [1, 0] rfl (hJ8  h)
    · exact g_sub [1, 0] rfl (hJ8  h)
  · refine g_aload_n C dX6_not0_18 rfl 0 rfl ?_
    obtain ⟨r18, m20, hX19, h⟩ := bd2_inv h
    refine g_callV C (c_X6_opens l hX19) (cwVw 0 C.2.2.2.2.1 wl_1205 wl_1207 wl_55 wl_121 wl_1208 rfl rfl (by decide +kernel) ⟨Nat.le_of_ble_eq_true rfl, Nat.le_of_ble_eq_true rfl⟩) mO_0 rfl rfl rfl rfl (Nat.le_of_ble_eq_true rfl) dX6_not0_19 ?_
    refine g_if_ne (tgt := 27) C dX6_not0_22 (by decide) h (fun h => ?_) (fun h => ?_)
    · refine g_iconst (v := (0 : Int32)) C dX6_not0_25 (by decide) ?_
      obtain ⟨rfl, rfl⟩ := sp_inj h
      exact g_iret C hr hlk dX6_not0_26 rfl
    · refine g_aload_n C dX6_not0_27 rfl 0 rfl ?_
      obtain ⟨r21, m23, hX22, h⟩ := bd2_inv h
      refine g_callV C (c_X6_not1 l hX22) (cwVw 0 C.2.2.2.2.1 wl_1209 wl_1211 wl_56 wl_121 wl_1212 rfl rfl (by decide +kernel) ⟨Nat.le_of_ble_eq_true rfl, Nat.le_of_ble_eq_true rfl⟩) mO_0 rfl rfl rfl rfl (Nat.le_of_ble_eq_true rfl) dX6_not0_28 ?_
      refine g_istore_n (lv' := [(1, .int r21), (0, .ref (ad 0))]) C dX6_not0_31 rfl (by decide) rfl ?_
      refine g_aload_n C dX6_not0_32 rfl 1 rfl ?_
      refine g_dup C dX6_not0_33 rfl ?_
      refine g_get C (T := TX6) hcl6 mO_0 rfl (j := 31) (by decide) wl_950 (v := .int (rI m23 0 31)) rfl dX6_not0_34 ?_
      refine g_iconst (v := (1 : Int32)) C dX6_not0_37 (by decide) ?_
      refine g_isub C dX6_not0_38 ?_
      refine g_putI C (T := TX6) hcl6 mO_0 rfl (j := 31) (by decide) wl_950 tyX6 tyX6_ok nmX6 rfl rfl pfX6_31 (plX6 31 (by decide)) dX6_not0_39 h (fun m24 h => ?_)
      refine g_iload_n C dX6_not0_42 rfl 0 rfl ?_
      refine g_if_ne (tgt := 50) C dX6_not0_43 (by decide) h (fun h => ?_) (fun h => ?_)
      · refine g_iconst (v := (1 : Int32)) C dX6_not0_46 (by decide) ?_
        refine g_goto (tgt := 51) C dX6_not0_47 (by decide) ?_
        obtain ⟨rfl, rfl⟩ := sp_inj h
        exact g_iret C hr hlk dX6_not0_51 rfl
      · refine g_iconst (v := (0 : Int32)) C dX6_not0_50 (by decide) ?_
        obtain ⟨rfl, rfl⟩ := sp_inj h
        exact g_iret C hr hlk dX6_not0_51 rfl

def rmX6_both0 : Room := { frames := 38, cells := 0, slots := 0, locals := 839 }
set_option maxRecDepth 100000 in
set_option maxHeartbeats 4000000 in
theorem c_X6_both0 (l : Launch) {F : Nat}    {m : MM} {m' : MM} {r : Int32} (h : f_X6_both0 F m = some (r, m')) : CT l yX6_both0 cX6_both0 3 (some .int) rmX6_both0 cfM 23 (fun ad tb => [.ref (ad 0)]) m (some (.int r)) m' := by
  refine CT.of (cc := cX6_both0) (maxL := 3) (ret := (some .int)) (by decide) ⟨rfl, rfl⟩ (fun _ _ => Nat.le_of_ble_eq_true rfl) ?_
  intro p e s mt args below meth c D cA ad tb C hr hlk
  refine g_lv (lv' := [(0, .ref (ad 0))]) rfl ?_
  unfold f_X6_both0 at h
  refine g_aload_n C dX6_both0_0 rfl 0 rfl ?_
  obtain ⟨r1, m3, hX2, h⟩ := bd2_inv h
  refine g_callV C (c_X6_not0 l hX2) (cwVw 0 C.2.2.2.2.1 wl_1201 wl_1203 wl_54 wl_121 wl_1204 rfl rfl (by decide +kernel) ⟨Nat.le_of_ble_eq_true rfl, Nat.le_of_ble_eq_true rfl⟩) mO_0 rfl rfl rfl rfl (Nat.le_of_ble_eq_true rfl) dX6_both0_1 ?_
  refine g_istore_n (lv' := [(1, .int r1), (0, .ref (ad 0))]) C dX6_both0_4 rfl (by decide) rfl ?_
  refine g_sub [1, 0] rfl ?_
  refine g_loop_IM (L := f_X6_both0_L5 F) h 5 49 (fun x1_4 m5 => [(0, .ref (ad 0)), (1, .int x1_4)]) (fun x1_4 m5 => [(1, .int x1_4)]) (fun x1_4 m5 => []) (fun x1_4 m5 => []) ?_ ?_ (fun _ _ _ => rfl)
  · intro x1_4 m5 h
    refine g_iload_n C dX6_both0_49 rfl 0 rfl ?_
    obtain ⟨rfl, rfl⟩ := sp_inj h
    exact g_iret C hr hlk dX6_both0_50 rfl
  · intro K6 hK6 n ih x1_4 m5 h
    rw [f_X6_both0_L5] at h
    refine g_aload_n C dX6_both0_5 rfl 0 rfl ?_
    refine g_bipush (v := (97 : Int32)) C dX6_both0_6 (by decide) ?_
    refine g_bipush (v := (110 : Int32)) C dX6_both0_8 (by decide) ?_
    refine g_bipush (v := (100 : Int32)) C dX6_both0_10 (by decide) ?_
    refine g_iconst (v := (0 : Int32)) C dX6_both0_12 (by decide) ?_
    refine g_iconst (v := (0 : Int32)) C dX6_both0_13 (by decide) ?_
    refine g_iconst (v := (0 : Int32)) C dX6_both0_14 (by decide) ?_
    refine g_iconst (v := (0 : Int32)) C dX6_both0_15 (by decide) ?_
    refine g_iconst (v := (0 : Int32)) C dX6_both0_16 (by decide) ?_
    obtain ⟨r7, hX8, h⟩ := bd1_inv h
    refine g_callV C (c_X6_isWord l hX8) (cwVw 8 C.2.2.2.2.1 wl_1177 wl_1179 wl_48 wl_121 wl_1180 rfl rfl (by decide +kernel) ⟨Nat.le_of_ble_eq_true rfl, Nat.le_of_ble_eq_true rfl⟩) mO_0 rfl rfl rfl rfl (Nat.le_of_ble_eq_true rfl) dX6_both0_17 ?_
    refine g_if_eq (tgt := 49) C dX6_both0_20 (by decide) h (fun h => ?_) (fun h => ?_)
    · exact g_sub [1] rfl (hK6 _ _ h)
    · refine g_aload_n C dX6_both0_23 rfl 0 rfl ?_
      obtain ⟨m10, hX9, h⟩ := bd1_inv h
      refine g_callV C (c_X6_next l hX9) (cwVw 0 C.2.2.2.2.1 wl_1165 wl_1167 wl_46 wl_121 wl_1168 rfl rfl (by decide +kernel) ⟨Nat.le_of_ble_eq_true rfl, Nat.le_of_ble_eq_true rfl⟩) mO_0 rfl rfl rfl rfl (Nat.le_of_ble_eq_true rfl) dX6_both0_24 ?_
      refine g_aload_n C dX6_both0_27 rfl 0 rfl ?_
      obtain ⟨r11, m13, hX12, h⟩ := bd2_inv h
      refine g_callV C (c_X6_not0 l hX12) (cwVw 0 C.2.2.2.2.1 wl_1201 wl_1203 wl_54 wl_121 wl_1204 rfl rfl (by decide +kernel) ⟨Nat.le_of_ble_eq_true rfl, Nat.le_of_ble_eq_true rfl⟩) mO_0 rfl rfl rfl rfl (Nat.le_of_ble_eq_true rfl) dX6_both0_28 ?_
      refine g_istore_n (lv' := [(2, .int r11), (0, .ref (ad 0)), (1, .int x1_4)]) C dX6_both0_31 rfl (by decide) rfl ?_
      refine g_iload_n C dX6_both0_32 rfl 2 rfl ?_
      refine g_join_I h 45 (fun s14 => [(0, .ref (ad 0))]) (fun s14 => [.int s14]) ?_ ?_
      · intro s14 h
        refine g_istore_n (lv' := [(1, .int s14), (0, .ref (ad 0))]) C dX6_both0_45 rfl (by decide) rfl ?_
        refine g_goto (tgt := 5) C dX6_both0_46 (by decide) ?_
        exact g_sub [1, 0] rfl (ih _ _ h)
      intro J15 hJ15 h
      refine g_join_ h 44 ([(0, .ref (ad 0))]) ([]) ?_ ?_
      · intro h
        refine g_iconst (v := (0 : Int32)) C dX6_both0_44 (by decide) ?_
        exact g_sub [0] rfl (hJ15 _ h)
      intro J16 hJ16 h
      refine g_if_eq (tgt := 44) C dX6_both0_33 (by decide) h (fun h => ?_) (fun h => ?_)
      · exact g_sub [1] rfl (hJ16  h)
      · refine g_iload_n C dX6_both0_36 rfl 0 rfl ?_
        refine g_if_eq (tgt := 44) C dX6_both0_37 (by decide) h (fun h => ?_) (fun h => ?_)
        · exact g_sub [1] rfl (hJ16  h)
        · refine g_iconst (v := (1 : Int32)) C dX6_both0_40 (by decide) ?_
          refine g_goto (tgt := 45) C dX6_both0_41 (by decide) ?_
          exact g_sub [1] rfl (hJ15 _ h)

def rmX6_either0 : Room := { frames := 39, cells := 0, slots := 0, locals := 861 }
set_option maxRecDepth 100000 in
set_option maxHeartbeats 4000000 in
theorem c_X6_either0 (l : Launch) {F : Nat}    {m : MM} {m' : MM} {r : Int32} (h : f_X6_either0 F m = some (r, m')) : CT l yX6_either0 cX6_either0 3 (some .int) rmX6_either0 cfM 23 (fun ad tb => [.ref (ad 0)]) m (some (.int r)) m' := by
  refine CT.of (cc := cX6_either0) (maxL := 3) (ret := (some .int)) (by decide) ⟨rfl, rfl⟩ (fun _ _ => Nat.le_of_ble_eq_true rfl) ?_
  intro p e s mt args below meth c D cA ad tb C hr hlk
  refine g_lv (lv' := [(0, .ref (ad 0))]) rfl ?_
  unfold f_X6_either0 at h
  refine g_aload_n C dX6_either0_0 rfl 0 rfl ?_
  obtain ⟨r1, m3, hX2, h⟩ := bd2_inv h
  refine g_callV C (c_X6_both0 l hX2) (cwVw 0 C.2.2.2.2.1 wl_1197 wl_1199 wl_53 wl_121 wl_1200 rfl rfl (by decide +kernel) ⟨Nat.le_of_ble_eq_true rfl, Nat.le_of_ble_eq_true rfl⟩) mO_0 rfl rfl rfl rfl (Nat.le_of_ble_eq_true rfl) dX6_either0_1 ?_
  refine g_istore_n (lv' := [(1, .int r1), (0, .ref (ad 0))]) C dX6_either0_4 rfl (by decide) rfl ?_
  refine g_sub [1, 0] rfl ?_
  refine g_loop_IM (L := f_X6_either0_L5 F) h 5 48 (fun x1_4 m5 => [(0, .ref (ad 0)), (1, .int x1_4)]) (fun x1_4 m5 => [(1, .int x1_4)]) (fun x1_4 m5 => []) (fun x1_4 m5 => []) ?_ ?_ (fun _ _ _ => rfl)
  · intro x1_4 m5 h
    refine g_iload_n C dX6_either0_48 rfl 0 rfl ?_
    obtain ⟨rfl, rfl⟩ := sp_inj h
    exact g_iret C hr hlk dX6_either0_49 rfl
  · intro K6 hK6 n ih x1_4 m5 h
    rw [f_X6_either0_L5] at h
    refine g_aload_n C dX6_either0_5 rfl 0 rfl ?_
    refine g_bipush (v := (111 : Int32)) C dX6_either0_6 (by decide) ?_
    refine g_bipush (v := (114 : Int32)) C dX6_either0_8 (by decide) ?_
    refine g_iconst (v := (0 : Int32)) C dX6_either0_10 (by decide) ?_
    refine g_iconst (v := (0 : Int32)) C dX6_either0_11 (by decide) ?_
    refine g_iconst (v := (0 : Int32)) C dX6_either0_12 (by decide) ?_
    refine g_iconst (v := (0 : Int32)) C dX6_either0_13 (by decide) ?_
    refine g_iconst (v := (0 : Int32)) C dX6_either0_14 (by decide) ?_
    refine g_iconst (v := (0 : Int32)) C dX6_either0_15 (by decide) ?_
    obtain ⟨r7, hX8, h⟩ := bd1_inv h
    refine g_callV C (c_X6_isWord l hX8) (cwVw 8 C.2.2.2.2.1 wl_1177 wl_1179 wl_48 wl_121 wl_1180 rfl rfl (by decide +kernel) ⟨Nat.le_of_ble_eq_true rfl, Nat.le_of_ble_eq_true rfl⟩) mO_0 rfl rfl rfl rfl (Nat.le_of_ble_eq_true rfl) dX6_either0_16 ?_
    refine g_if_eq (tgt := 48) C dX6_either0_19 (by decide) h (fun h => ?_) (fun h => ?_)
    · exact g_sub [1] rfl (hK6 _ _ h)
    · refine g_aload_n C dX6_either0_22 rfl 0 rfl ?_
      obtain ⟨m10, hX9, h⟩ := bd1_inv h
      refine g_callV C (c_X6_next l hX9) (cwVw 0 C.2.2.2.2.1 wl_1165 wl_1167 wl_46 wl_121 wl_1168 rfl rfl (by decide +kernel) ⟨Nat.le_of_ble_eq_true rfl, Nat.le_of_ble_eq_true rfl⟩) mO_0 rfl rfl rfl rfl (Nat.le_of_ble_eq_true rfl) dX6_either0_23 ?_
      refine g_aload_n C dX6_either0_26 rfl 0 rfl ?_
      obtain ⟨r11, m13, hX12, h⟩ := bd2_inv h
      refine g_callV C (c_X6_both0 l hX12) (cwVw 0 C.2.2.2.2.1 wl_1197 wl_1199 wl_53 wl_121 wl_1200 rfl rfl (by decide +kernel) ⟨Nat.le_of_ble_eq_true rfl, Nat.le_of_ble_eq_true rfl⟩) mO_0 rfl rfl rfl rfl (Nat.le_of_ble_eq_true rfl) dX6_either0_27 ?_
      refine g_istore_n (lv' := [(2, .int r11), (0, .ref (ad 0)), (1, .int x1_4)]) C dX6_either0_30 rfl (by decide) rfl ?_
      refine g_iload_n C dX6_either0_31 rfl 2 rfl ?_
      refine g_join_I h 44 (fun s14 => [(0, .ref (ad 0))]) (fun s14 => [.int s14]) ?_ ?_
      · intro s14 h
        refine g_istore_n (lv' := [(1, .int s14), (0, .ref (ad 0))]) C dX6_either0_44 rfl (by decide) rfl ?_
        refine g_goto (tgt := 5) C dX6_either0_45 (by decide) ?_
        exact g_sub [1, 0] rfl (ih _ _ h)
      intro J15 hJ15 h
      refine g_join_ h 39 ([(0, .ref (ad 0))]) ([]) ?_ ?_
      · intro h
        refine g_iconst (v := (1 : Int32)) C dX6_either0_39 (by decide) ?_
        refine g_goto (tgt := 44) C dX6_either0_40 (by decide) ?_
        exact g_sub [0] rfl (hJ15 _ h)
      intro J16 hJ16 h
      refine g_if_ne (tgt := 39) C dX6_either0_32 (by decide) h (fun h => ?_) (fun h => ?_)
      · refine g_iload_n C dX6_either0_35 rfl 0 rfl ?_
        refine g_if_eq (tgt := 43) C dX6_either0_36 (by decide) h (fun h => ?_) (fun h => ?_)
        · refine g_iconst (v := (0 : Int32)) C dX6_either0_43 (by decide) ?_
          exact g_sub [1] rfl (hJ15 _ h)
        · exact g_sub [1] rfl (hJ16  h)
      · exact g_sub [1] rfl (hJ16  h)

def rmX6_part_ : Room := { frames := 40, cells := 0, slots := 0, locals := 883 }
set_option maxRecDepth 100000 in
set_option maxHeartbeats 4000000 in
theorem c_X6_part_ (l : Launch) {F : Nat}  {a0 : Int32}  {m : MM} {m' : MM} {r : Int32} (h : f_X6_part_ F a0 m = some (r, m')) : CT l yX6_part_ cX6_part_ 3 (some .int) rmX6_part_ cfM 23 (fun ad tb => [.ref (ad 0), .int a0]) m (some (.int r)) m' := by
  refine CT.of (cc := cX6_part_) (maxL := 3) (ret := (some .int)) (by decide) ⟨rfl, rfl⟩ (fun _ _ => Nat.le_of_ble_eq_true rfl) ?_
  intro p e s mt args below meth c D cA ad tb C hr hlk
  refine g_lv (lv' := [(0, .ref (ad 0)), (1, .int a0)]) rfl ?_
  have hcl6 : ∀ w ∈ wsX60, w.before args s = true := fun w hw => C.2.2.2.2.1 w (inlX6 w hw)
  unfold f_X6_part_ at h
  refine g_iload_n C dX6_part__0 rfl 1 rfl ?_
  refine g_join_M h 8 (fun m1 => [(0, .ref (ad 0))]) (fun m1 => []) ?_ ?_
  · intro m1 h
    refine g_aload_n C dX6_part__8 rfl 0 rfl ?_
    refine g_get C (T := TX6) hcl6 mO_0 rfl (j := 32) (by decide) wl_951 (v := .int (rI m1 0 32)) rfl dX6_part__9 ?_
    refine g_join_M h 19 (fun m3 => [(0, .ref (ad 0))]) (fun m3 => []) ?_ ?_
    · intro m3 h
      refine g_aload_n C dX6_part__19 rfl 0 rfl ?_
      refine g_get C (T := TX6) hcl6 mO_0 rfl (j := 32) (by decide) wl_951 (v := .int (rI m3 0 32)) rfl dX6_part__20 ?_
      refine g_join_IM h 34 (fun s5 m6 => [(0, .ref (ad 0))]) (fun s5 m6 => [.int s5]) ?_ ?_
      · intro s5 m6 h
        refine g_istore_n (lv' := [(2, .int s5), (0, .ref (ad 0))]) C dX6_part__34 rfl (by decide) rfl ?_
        refine g_aload_n C dX6_part__35 rfl 1 rfl ?_
        refine g_bipush (v := (59 : Int32)) C dX6_part__36 (by decide) ?_
        obtain ⟨r8, hX9, h⟩ := bd1_inv h
        refine g_callV C (c_X6_isSign l hX9) (cwVw 1 C.2.2.2.2.1 wl_1241 wl_1243 wl_64 wl_121 wl_1244 rfl rfl (by decide +kernel) ⟨Nat.le_of_ble_eq_true rfl, Nat.le_of_ble_eq_true rfl⟩) mO_0 rfl rfl rfl rfl (Nat.le_of_ble_eq_true rfl) dX6_part__38 ?_
        refine g_join_M h 48 (fun m10 => [(0, .ref (ad 0)), (2, .int s5)]) (fun m10 => []) ?_ ?_
        · intro m10 h
          refine g_aload_n C dX6_part__48 rfl 0 rfl ?_
          refine g_get C (T := TX6) hcl6 mO_0 rfl (j := 32) (by decide) wl_951 (v := .int (rI m10 0 32)) rfl dX6_part__49 ?_
          refine g_if_ne (tgt := 59) C dX6_part__52 (by decide) h (fun h => ?_) (fun h => ?_)
          · refine g_aload_n C dX6_part__55 rfl 0 rfl ?_
            obtain ⟨m13, hX12, h⟩ := bd1_inv h
            refine g_callV C (c_X6_next l hX12) (cwVw 0 C.2.2.2.2.1 wl_1165 wl_1167 wl_46 wl_121 wl_1168 rfl rfl (by decide +kernel) ⟨Nat.le_of_ble_eq_true rfl, Nat.le_of_ble_eq_true rfl⟩) mO_0 rfl rfl rfl rfl (Nat.le_of_ble_eq_true rfl) dX6_part__56 ?_
            refine g_iload_n C dX6_part__59 rfl 1 rfl ?_
            obtain ⟨rfl, rfl⟩ := sp_inj h
            exact g_iret C hr hlk dX6_part__60 rfl
          · refine g_iload_n C dX6_part__59 rfl 1 rfl ?_
            obtain ⟨rfl, rfl⟩ := sp_inj h
            exact g_iret C hr hlk dX6_part__60 rfl
        intro J11 hJ11 h
        refine g_if_ne (tgt := 48) C dX6_part__41 (by decide) h (fun h => ?_) (fun h => ?_)
        · refine g_aload_n C dX6_part__44 rfl 1 rfl ?_
          obtain ⟨m15, hX14, h⟩ := bd1_inv h
          refine g_callV C (c_X6_fail l hX14) (cwVw 0 C.2.2.2.2.1 wl_1189 wl_1191 wl_51 wl_121 wl_1192 rfl rfl (by decide +kernel) ⟨Nat.le_of_ble_eq_true rfl, Nat.le_of_ble_eq_true rfl⟩) mO_0 rfl rfl rfl rfl (Nat.le_of_ble_eq_true rfl) dX6_part__45 ?_
          exact g_sub [1, 0] rfl (hJ11 _ h)
        · exact g_sub [1, 0] rfl (hJ11 _ h)
      intro J7 hJ7 h
      refine g_if_eq (tgt := 30) C dX6_part__23 (by decide) h (fun h => ?_) (fun h => ?_)
      · refine g_aload_n C dX6_part__30 rfl 0 rfl ?_
        obtain ⟨r16, m18, hX17, h⟩ := bd2_inv h
        refine g_callV C (c_X6_either0 l hX17) (cwVw 0 C.2.2.2.2.1 wl_1193 wl_1195 wl_52 wl_121 wl_1196 rfl rfl (by decide +kernel) ⟨Nat.le_of_ble_eq_true rfl, Nat.le_of_ble_eq_true rfl⟩) mO_0 rfl rfl rfl rfl (Nat.le_of_ble_eq_true rfl) dX6_part__31 ?_
        exact g_sub [0] rfl (hJ7 _ _ h)
      · refine g_iconst (v := (0 : Int32)) C dX6_part__26 (by decide) ?_
        refine g_goto (tgt := 34) C dX6_part__27 (by decide) ?_
        exact g_sub [0] rfl (hJ7 _ _ h)
    intro J4 hJ4 h
    refine g_if_ne (tgt := 19) C dX6_part__12 (by decide) h (fun h => ?_) (fun h => ?_)
    · refine g_aload_n C dX6_part__15 rfl 0 rfl ?_
      obtain ⟨m20, hX19, h⟩ := bd1_inv h
      refine g_callV C (c_X6_next l hX19) (cwVw 0 C.2.2.2.2.1 wl_1165 wl_1167 wl_46 wl_121 wl_1168 rfl rfl (by decide +kernel) ⟨Nat.le_of_ble_eq_true rfl, Nat.le_of_ble_eq_true rfl⟩) mO_0 rfl rfl rfl rfl (Nat.le_of_ble_eq_true rfl) dX6_part__16 ?_
      exact g_sub [0] rfl (hJ4 _ h)
    · exact g_sub [0] rfl (hJ4 _ h)
  intro J2 hJ2 h
  refine g_if_ne (tgt := 8) C dX6_part__1 (by decide) h (fun h => ?_) (fun h => ?_)
  · refine g_aload_n C dX6_part__4 rfl 0 rfl ?_
    obtain ⟨m22, hX21, h⟩ := bd1_inv h
    refine g_callV C (c_X6_fail l hX21) (cwVw 0 C.2.2.2.2.1 wl_1189 wl_1191 wl_51 wl_121 wl_1192 rfl rfl (by decide +kernel) ⟨Nat.le_of_ble_eq_true rfl, Nat.le_of_ble_eq_true rfl⟩) mO_0 rfl rfl rfl rfl (Nat.le_of_ble_eq_true rfl) dX6_part__5 ?_
    exact g_sub [0] rfl (hJ2 _ h)
  · exact g_sub [0] rfl (hJ2 _ h)

def rmX6_read : Room := { frames := 41, cells := 0, slots := 0, locals := 905 }
set_option maxRecDepth 100000 in
set_option maxHeartbeats 4000000 in
theorem c_X6_read (l : Launch) {F : Nat}  {a0 : Int32} {a1 : Int32}  {m : MM} {m' : MM} {r : Int32} (h : f_X6_read F a0 a1 m = some (r, m')) : CT l yX6_read cX6_read 6 (some .int) rmX6_read cfM 23 (fun ad tb => [.ref (ad 0), .int a0, .int a1]) m (some (.int r)) m' := by
  refine CT.of (cc := cX6_read) (maxL := 6) (ret := (some .int)) (by decide) ⟨rfl, rfl⟩ (fun _ _ => Nat.le_of_ble_eq_true rfl) ?_
  intro p e s mt args below meth c D cA ad tb C hr hlk
  refine g_lv (lv' := [(0, .ref (ad 0)), (1, .int a0), (2, .int a1)]) rfl ?_
  have hcl6 : ∀ w ∈ wsX60, w.before args s = true := fun w hw => C.2.2.2.2.1 w (inlX6 w hw)
  unfold f_X6_read at h
  refine g_aload_n C dX6_read_0 rfl 0 rfl ?_
  refine g_sipush (v := (160 : Int32)) C dX6_read_1 (by decide) ?_
  refine g_iload_n C dX6_read_4 rfl 1 rfl ?_
  refine g_imul C dX6_read_5 ?_
  refine g_putI C (T := TX6) hcl6 mO_0 rfl (j := 25) (by decide) wl_944 tyX6 tyX6_ok nmX6 rfl rfl pfX6_25 (plX6 25 (by decide)) dX6_read_6 h (fun m1 h => ?_)
  refine g_aload_n C dX6_read_9 rfl 0 rfl ?_
  refine g_aload_n C dX6_read_10 rfl 0 rfl ?_
  refine g_get C (T := TX6) hcl6 mO_0 rfl (j := 2) (by decide) wl_921 (v := .ref (ad 2)) rfl dX6_read_11 ?_
  refine g_iload_n C dX6_read_14 rfl 1 rfl ?_
  refine g_iald C mI_2 dX6_read_15 h (fun h => ?_)
  refine g_putI C (T := TX6) hcl6 mO_0 rfl (j := 26) (by decide) wl_945 tyX6 tyX6_ok nmX6 rfl rfl pfX6_26 (plX6 26 (by decide)) dX6_read_16 h (fun m2 h => ?_)
  refine g_aload_n C dX6_read_19 rfl 0 rfl ?_
  refine g_iconst (v := (0 : Int32)) C dX6_read_20 (by decide) ?_
  refine g_putI C (T := TX6) hcl6 mO_0 rfl (j := 27) (by decide) wl_946 tyX6 tyX6_ok nmX6 rfl rfl pfX6_27 (plX6 27 (by decide)) dX6_read_21 h (fun m3 h => ?_)
  refine g_aload_n C dX6_read_24 rfl 0 rfl ?_
  refine g_iconst (v := (0 : Int32)) C dX6_read_25 (by decide) ?_
  refine g_putI C (T := TX6) hcl6 mO_0 rfl (j := 31) (by decide) wl_950 tyX6 tyX6_ok nmX6 rfl rfl pfX6_31 (plX6 31 (by decide)) dX6_read_26 h (fun m4 h => ?_)
  refine g_aload_n C dX6_read_29 rfl 0 rfl ?_
  refine g_iconst (v := (0 : Int32)) C dX6_read_30 (by decide) ?_
  refine g_putZ C (T := TX6) hcl6 mO_0 rfl (j := 32) (by decide) wl_951 tyX6 tyX6_ok nmX6 rfl rfl pfX6_32 (plX6 32 (by decide)) dX6_read_31 h (fun m5 h => ?_)
  refine g_aload_n C dX6_read_34 rfl 0 rfl ?_
  obtain ⟨m7, hX6, h⟩ := bd1_inv h
  refine g_callV C (c_X6_next l hX6) (cwVw 0 C.2.2.2.2.1 wl_1165 wl_1167 wl_46 wl_121 wl_1168 rfl rfl (by decide +kernel) ⟨Nat.le_of_ble_eq_true rfl, Nat.le_of_ble_eq_true rfl⟩) mO_0 rfl rfl rfl rfl (Nat.le_of_ble_eq_true rfl) dX6_read_35 ?_
  refine g_aload_n C dX6_read_38 rfl 0 rfl ?_
  refine g_aload_n C dX6_read_39 rfl 0 rfl ?_
  refine g_bipush (v := (99 : Int32)) C dX6_read_40 (by decide) ?_
  refine g_bipush (v := (111 : Int32)) C dX6_read_42 (by decide) ?_
  refine g_bipush (v := (115 : Int32)) C dX6_read_44 (by decide) ?_
  refine g_bipush (v := (116 : Int32)) C dX6_read_46 (by decide) ?_
  refine g_bipush (v := (115 : Int32)) C dX6_read_48 (by decide) ?_
  refine g_iconst (v := (0 : Int32)) C dX6_read_50 (by decide) ?_
  refine g_iconst (v := (0 : Int32)) C dX6_read_51 (by decide) ?_
  refine g_iconst (v := (0 : Int32)) C dX6_read_52 (by decide) ?_
  obtain ⟨r8, hX9, h⟩ := bd1_inv h
  refine g_callV C (c_X6_isWord l hX9) (cwVw 8 C.2.2.2.2.1 wl_1177 wl_1179 wl_48 wl_121 wl_1180 rfl rfl (by decide +kernel) ⟨Nat.le_of_ble_eq_true rfl, Nat.le_of_ble_eq_true rfl⟩) mO_0 rfl rfl rfl rfl (Nat.le_of_ble_eq_true rfl) dX6_read_53 ?_
  obtain ⟨r10, m12, hX11, h⟩ := bd2_inv h
  refine g_callV C (c_X6_part_ l hX11) (cwVw 1 C.2.2.2.2.1 wl_1185 wl_1187 wl_50 wl_121 wl_1188 rfl rfl (by decide +kernel) ⟨Nat.le_of_ble_eq_true rfl, Nat.le_of_ble_eq_true rfl⟩) mO_0 rfl rfl rfl rfl (Nat.le_of_ble_eq_true rfl) dX6_read_56 ?_
  refine g_istore_n (lv' := [(3, .int r10), (0, .ref (ad 0)), (1, .int a0), (2, .int a1)]) C dX6_read_59 rfl (by decide) rfl ?_
  refine g_aload_n C dX6_read_60 rfl 1 rfl ?_
  refine g_get C (T := TX6) hcl6 mO_0 rfl (j := 32) (by decide) wl_951 (v := .int (rI m12 0 32)) rfl dX6_read_61 ?_
  refine g_join_IM h 91 (fun s13 m14 => [(0, .ref (ad 0)), (2, .int a1), (3, .int r10)]) (fun s13 m14 => [.int s13]) ?_ ?_
  · intro s13 m14 h
    refine g_istore (lv' := [(4, .int s13), (0, .ref (ad 0)), (2, .int a1), (3, .int r10)]) C dX6_read_91 (by decide) rfl ?_
    refine g_aload_n C dX6_read_93 rfl 1 rfl ?_
    refine g_get C (T := TX6) hcl6 mO_0 rfl (j := 32) (by decide) wl_951 (v := .int (rI m14 0 32)) rfl dX6_read_94 ?_
    refine g_join_IM h 125 (fun s16 m17 => [(0, .ref (ad 0)), (2, .int a1), (3, .int r10), (4, .int s13)]) (fun s16 m17 => [.int s16]) ?_ ?_
    · intro s16 m17 h
      refine g_istore (lv' := [(5, .int s16), (0, .ref (ad 0)), (2, .int a1), (3, .int r10), (4, .int s13)]) C dX6_read_125 (by decide) rfl ?_
      refine g_aload_n C dX6_read_127 rfl 1 rfl ?_
      refine g_get C (T := TX6) hcl6 mO_0 rfl (j := 32) (by decide) wl_951 (v := .int (rI m17 0 32)) rfl dX6_read_128 ?_
      refine g_join_M h 145 (fun m19 => [(2, .int a1), (3, .int r10), (4, .int s13), (5, .int s16)]) (fun m19 => []) ?_ ?_
      · intro m19 h
        refine g_iload_n C dX6_read_145 rfl 0 rfl ?_
        refine g_if_ne (tgt := 153) C dX6_read_146 (by decide) h (fun h => ?_) (fun h => ?_)
        · refine g_iload_n C dX6_read_149 rfl 1 rfl ?_
          refine g_goto (tgt := 165) C dX6_read_150 (by decide) ?_
          obtain ⟨rfl, rfl⟩ := sp_inj h
          exact g_iret C hr hlk dX6_read_165 rfl
        · refine g_iload_n C dX6_read_153 rfl 0 rfl ?_
          refine g_iconst (v := (1 : Int32)) C dX6_read_154 (by decide) ?_
          refine g_icmp_ne (tgt := 163) C dX6_read_155 (by decide) h (fun h => ?_) (fun h => ?_)
          · refine g_iload C dX6_read_158 2 rfl ?_
            refine g_goto (tgt := 165) C dX6_read_160 (by decide) ?_
            obtain ⟨rfl, rfl⟩ := sp_inj h
            exact g_iret C hr hlk dX6_read_165 rfl
          · refine g_iload C dX6_read_163 3 rfl ?_
            obtain ⟨rfl, rfl⟩ := sp_inj h
            exact g_iret C hr hlk dX6_read_165 rfl
      intro J20 hJ20 h
      refine g_if_ne (tgt := 145) C dX6_read_131 (by decide) h (fun h => ?_) (fun h => ?_)
      · refine g_aload_n C dX6_read_134 rfl 1 rfl ?_
        refine g_get C (T := TX6) hcl6 mO_0 rfl (j := 28) (by decide) wl_947 (v := .int (rI m17 0 28)) rfl dX6_read_135 ?_
        refine g_if_eq (tgt := 145) C dX6_read_138 (by decide) h (fun h => ?_) (fun h => ?_)
        · exact g_sub [2, 3, 4, 0] rfl (hJ20 _ h)
        · refine g_aload_n C dX6_read_141 rfl 1 rfl ?_
          obtain ⟨m22, hX21, h⟩ := bd1_inv h
          refine g_callV C (c_X6_fail l hX21) (cwVw 0 C.2.2.2.2.1 wl_1189 wl_1191 wl_51 wl_121 wl_1192 rfl rfl (by decide +kernel) ⟨Nat.le_of_ble_eq_true rfl, Nat.le_of_ble_eq_true rfl⟩) mO_0 rfl rfl rfl rfl (Nat.le_of_ble_eq_true rfl) dX6_read_142 ?_
          exact g_sub [2, 3, 4, 0] rfl (hJ20 _ h)
      · exact g_sub [2, 3, 4, 0] rfl (hJ20 _ h)
    intro J18 hJ18 h
    refine g_if_eq (tgt := 104) C dX6_read_97 (by decide) h (fun h => ?_) (fun h => ?_)
    · refine g_aload_n C dX6_read_104 rfl 1 rfl ?_
      refine g_aload_n C dX6_read_105 rfl 1 rfl ?_
      refine g_bipush (v := (119 : Int32)) C dX6_read_106 (by decide) ?_
      refine g_bipush (v := (111 : Int32)) C dX6_read_108 (by decide) ?_
      refine g_bipush (v := (114 : Int32)) C dX6_read_110 (by decide) ?_
      refine g_bipush (v := (116 : Int32)) C dX6_read_112 (by decide) ?_
      refine g_bipush (v := (104 : Int32)) C dX6_read_114 (by decide) ?_
      refine g_iconst (v := (0 : Int32)) C dX6_read_116 (by decide) ?_
      refine g_iconst (v := (0 : Int32)) C dX6_read_117 (by decide) ?_
      refine g_iconst (v := (0 : Int32)) C dX6_read_118 (by decide) ?_
      obtain ⟨r23, hX24, h⟩ := bd1_inv h
      refine g_callV C (c_X6_isWord l hX24) (cwVw 8 C.2.2.2.2.1 wl_1177 wl_1179 wl_48 wl_121 wl_1180 rfl rfl (by decide +kernel) ⟨Nat.le_of_ble_eq_true rfl, Nat.le_of_ble_eq_true rfl⟩) mO_0 rfl rfl rfl rfl (Nat.le_of_ble_eq_true rfl) dX6_read_119 ?_
      obtain ⟨r25, m27, hX26, h⟩ := bd2_inv h
      refine g_callV C (c_X6_part_ l hX26) (cwVw 1 C.2.2.2.2.1 wl_1185 wl_1187 wl_50 wl_121 wl_1188 rfl rfl (by decide +kernel) ⟨Nat.le_of_ble_eq_true rfl, Nat.le_of_ble_eq_true rfl⟩) mO_0 rfl rfl rfl rfl (Nat.le_of_ble_eq_true rfl) dX6_read_122 ?_
      exact g_sub [1, 2, 3, 0] rfl (hJ18 _ _ h)
    · refine g_iconst (v := (0 : Int32)) C dX6_read_100 (by decide) ?_
      refine g_goto (tgt := 125) C dX6_read_101 (by decide) ?_
      exact g_sub [1, 2, 3, 0] rfl (hJ18 _ _ h)
  intro J15 hJ15 h
  refine g_if_eq (tgt := 71) C dX6_read_64 (by decide) h (fun h => ?_) (fun h => ?_)
  · refine g_aload_n C dX6_read_71 rfl 1 rfl ?_
    refine g_aload_n C dX6_read_72 rfl 1 rfl ?_
    refine g_bipush (v := (98 : Int32)) C dX6_read_73 (by decide) ?_
    refine g_bipush (v := (101 : Int32)) C dX6_read_75 (by decide) ?_
    refine g_bipush (v := (108 : Int32)) C dX6_read_77 (by decide) ?_
    refine g_bipush (v := (108 : Int32)) C dX6_read_79 (by decide) ?_
    refine g_iconst (v := (0 : Int32)) C dX6_read_81 (by decide) ?_
    refine g_iconst (v := (0 : Int32)) C dX6_read_82 (by decide) ?_
    refine g_iconst (v := (0 : Int32)) C dX6_read_83 (by decide) ?_
    refine g_iconst (v := (0 : Int32)) C dX6_read_84 (by decide) ?_
    obtain ⟨r28, hX29, h⟩ := bd1_inv h
    refine g_callV C (c_X6_isWord l hX29) (cwVw 8 C.2.2.2.2.1 wl_1177 wl_1179 wl_48 wl_121 wl_1180 rfl rfl (by decide +kernel) ⟨Nat.le_of_ble_eq_true rfl, Nat.le_of_ble_eq_true rfl⟩) mO_0 rfl rfl rfl rfl (Nat.le_of_ble_eq_true rfl) dX6_read_85 ?_
    obtain ⟨r30, m32, hX31, h⟩ := bd2_inv h
    refine g_callV C (c_X6_part_ l hX31) (cwVw 1 C.2.2.2.2.1 wl_1185 wl_1187 wl_50 wl_121 wl_1188 rfl rfl (by decide +kernel) ⟨Nat.le_of_ble_eq_true rfl, Nat.le_of_ble_eq_true rfl⟩) mO_0 rfl rfl rfl rfl (Nat.le_of_ble_eq_true rfl) dX6_read_88 ?_
    exact g_sub [1, 3, 0] rfl (hJ15 _ _ h)
  · refine g_iconst (v := (0 : Int32)) C dX6_read_67 (by decide) ?_
    refine g_goto (tgt := 91) C dX6_read_68 (by decide) ?_
    exact g_sub [1, 3, 0] rfl (hJ15 _ _ h)

def rmX6_text : Room := { frames := 42, cells := 0, slots := 0, locals := 930 }
set_option maxRecDepth 100000 in
set_option maxHeartbeats 4000000 in
theorem c_X6_text (l : Launch) {F : Nat}    {m : MM} {m' : MM} {r : Int32} (h : f_X6_text F m = some (r, m')) : CT l yX6_text cX6_text 2 (some .int) rmX6_text cfM 23 (fun ad tb => [.ref (ad 0)]) m (some (.int r)) m' := by
  refine CT.of (cc := cX6_text) (maxL := 2) (ret := (some .int)) (by decide) ⟨rfl, rfl⟩ (fun _ _ => Nat.le_of_ble_eq_true rfl) ?_
  intro p e s mt args below meth c D cA ad tb C hr hlk
  refine g_lv (lv' := [(0, .ref (ad 0))]) rfl ?_
  have hcl6 : ∀ w ∈ wsX60, w.before args s = true := fun w hw => C.2.2.2.2.1 w (inlX6 w hw)
  unfold f_X6_text at h
  refine g_aload_n C dX6_text_0 rfl 0 rfl ?_
  refine g_get C (T := TX6) hcl6 mO_0 rfl (j := 3) (by decide) wl_922 (v := .int (rI m 0 3)) rfl dX6_text_1 ?_
  refine g_bipush (v := (6 : Int32)) C dX6_text_4 (by decide) ?_
  refine g_icmp_ne (tgt := 12) C dX6_text_6 (by decide) h (fun h => ?_) (fun h => ?_)
  · refine g_bipush (v := (-4 : Int32)) C dX6_text_9 (by decide) ?_
    obtain ⟨rfl, rfl⟩ := sp_inj h
    exact g_iret C hr hlk dX6_text_11 rfl
  · refine g_iconst (v := (0 : Int32)) C dX6_text_12 (by decide) ?_
    refine g_istore_n (lv' := [(1, .int (0 : Int32)), (0, .ref (ad 0))]) C dX6_text_13 rfl (by decide) rfl ?_
    refine g_sub [1, 0] rfl ?_
    refine g_loop_IM (L := f_X6_text_L14) h 14 49 (fun x1_1 m2 => [(0, .ref (ad 0)), (1, .int x1_1)]) (fun x1_1 m2 => [(0, .ref (ad 0))]) (fun x1_1 m2 => []) (fun x1_1 m2 => []) ?_ ?_ (fun _ _ _ => rfl)
    · intro x1_1 m2 h
      refine g_aload_n C dX6_text_49 rfl 0 rfl ?_
      refine g_get C (T := TX6) hcl6 mO_0 rfl (j := 2) (by decide) wl_921 (v := .ref (ad 2)) rfl dX6_text_50 ?_
      refine g_aload_n C dX6_text_53 rfl 0 rfl ?_
      refine g_get C (T := TX6) hcl6 mO_0 rfl (j := 3) (by decide) wl_922 (v := .int (rI m2 0 3)) rfl dX6_text_54 ?_
      refine g_aload_n C dX6_text_57 rfl 0 rfl ?_
      refine g_get C (T := TX6) hcl6 mO_0 rfl (j := 6) (by decide) wl_925 (v := .int (rI m2 0 6)) rfl dX6_text_58 ?_
      refine g_iast C mI_2 dX6_text_61 h (fun m6 h => ?_)
      refine g_aload_n C dX6_text_62 rfl 0 rfl ?_
      refine g_iconst (v := (0 : Int32)) C dX6_text_63 (by decide) ?_
      refine g_putI C (T := TX6) hcl6 mO_0 rfl (j := 6) (by decide) wl_925 tyX6 tyX6_ok nmX6 rfl rfl pfX6_6 (plX6 6 (by decide)) dX6_text_64 h (fun m7 h => ?_)
      refine g_aload_n C dX6_text_67 rfl 0 rfl ?_
      refine g_aload_n C dX6_text_68 rfl 0 rfl ?_
      refine g_get C (T := TX6) hcl6 mO_0 rfl (j := 3) (by decide) wl_922 (v := .int (rI m7 0 3)) rfl dX6_text_69 ?_
      refine g_iconst (v := (0 : Int32)) C dX6_text_72 (by decide) ?_
      obtain ⟨r8, m10, hX9, h⟩ := bd2_inv h
      refine g_callV C (c_X6_read l hX9) (cwVw 2 C.2.2.2.2.1 wl_1161 wl_1163 wl_45 wl_121 wl_1164 rfl rfl (by decide +kernel) ⟨Nat.le_of_ble_eq_true rfl, Nat.le_of_ble_eq_true rfl⟩) mO_0 rfl rfl rfl rfl (Nat.le_of_ble_eq_true rfl) dX6_text_73 ?_
      refine g_istore_n (lv' := [(1, .int r8), (0, .ref (ad 0))]) C dX6_text_76 rfl (by decide) rfl ?_
      refine g_aload_n C dX6_text_77 rfl 1 rfl ?_
      refine g_get C (T := TX6) hcl6 mO_0 rfl (j := 32) (by decide) wl_951 (v := .int (rI m10 0 32)) rfl dX6_text_78 ?_
      refine g_if_eq (tgt := 92) C dX6_text_81 (by decide) h (fun h => ?_) (fun h => ?_)
      · refine g_aload_n C dX6_text_92 rfl 1 rfl ?_
        refine g_dup C dX6_text_93 rfl ?_
        refine g_get C (T := TX6) hcl6 mO_0 rfl (j := 3) (by decide) wl_922 (v := .int (rI m10 0 3)) rfl dX6_text_94 ?_
        refine g_iconst (v := (1 : Int32)) C dX6_text_97 (by decide) ?_
        refine g_iadd C dX6_text_98 ?_
        refine g_putI C (T := TX6) hcl6 mO_0 rfl (j := 3) (by decide) wl_922 tyX6 tyX6_ok nmX6 rfl rfl pfX6_3 (plX6 3 (by decide)) dX6_text_99 h (fun m11 h => ?_)
        refine g_aload_n C dX6_text_102 rfl 1 rfl ?_
        refine g_get C (T := TX6) hcl6 mO_0 rfl (j := 3) (by decide) wl_922 (v := .int (rI m11 0 3)) rfl dX6_text_103 ?_
        refine g_iconst (v := (1 : Int32)) C dX6_text_106 (by decide) ?_
        refine g_isub C dX6_text_107 ?_
        obtain ⟨rfl, rfl⟩ := sp_inj h
        exact g_iret C hr hlk dX6_text_108 rfl
      · refine g_bipush (v := (-100 : Int32)) C dX6_text_84 (by decide) ?_
        refine g_aload_n C dX6_text_86 rfl 1 rfl ?_
        refine g_get C (T := TX6) hcl6 mO_0 rfl (j := 33) (by decide) wl_952 (v := .int (rI m10 0 33)) rfl dX6_text_87 ?_
        refine g_isub C dX6_text_90 ?_
        obtain ⟨rfl, rfl⟩ := sp_inj h
        exact g_iret C hr hlk dX6_text_91 rfl
    · intro K3 hK3 n ih x1_1 m2 h
      rw [f_X6_text_L14] at h
      refine g_iload_n C dX6_text_14 rfl 1 rfl ?_
      refine g_aload_n C dX6_text_15 rfl 0 rfl ?_
      refine g_get C (T := TX6) hcl6 mO_0 rfl (j := 6) (by decide) wl_925 (v := .int (rI m2 0 6)) rfl dX6_text_16 ?_
      refine g_icmp_ge (tgt := 49) C dX6_text_19 (by decide) h (fun h => ?_) (fun h => ?_)
      · exact g_sub [0] rfl (hK3 _ _ h)
      · refine g_aload_n C dX6_text_22 rfl 0 rfl ?_
        refine g_get C (T := TX6) hcl6 mO_0 rfl (j := 1) (by decide) wl_920 (v := .ref (ad 1)) rfl dX6_text_23 ?_
        refine g_sipush (v := (160 : Int32)) C dX6_text_26 (by decide) ?_
        refine g_aload_n C dX6_text_29 rfl 0 rfl ?_
        refine g_get C (T := TX6) hcl6 mO_0 rfl (j := 3) (by decide) wl_922 (v := .int (rI m2 0 3)) rfl dX6_text_30 ?_
        refine g_imul C dX6_text_33 ?_
        refine g_iload_n C dX6_text_34 rfl 1 rfl ?_
        refine g_iadd C dX6_text_35 ?_
        refine g_aload_n C dX6_text_36 rfl 0 rfl ?_
        refine g_get C (T := TX6) hcl6 mO_0 rfl (j := 5) (by decide) wl_924 (v := .ref (ad 3)) rfl dX6_text_37 ?_
        refine g_iload_n C dX6_text_40 rfl 1 rfl ?_
        refine g_iald C mI_3 dX6_text_41 h (fun h => ?_)
        refine g_iast C mI_1 dX6_text_42 h (fun m4 h => ?_)
        refine g_iinc (lv' := [(0, .ref (ad 0))]) C dX6_text_43 (q := 1) rfl (by decide) h rfl (fun _ => rfl) (fun x1_5 h => ?_)
        refine g_goto (tgt := 14) C dX6_text_46 (by decide) ?_
        exact g_sub [1, 0] rfl (ih _ _ h)

def rmX6_force : Room := { frames := 1, cells := 0, slots := 0, locals := 25 }
set_option maxRecDepth 100000 in
set_option maxHeartbeats 4000000 in
theorem c_X6_force (l : Launch)  {a0 : Int32}  {m : MM} {m' : MM} {r : Int32} (h : f_X6_force a0 m = some (r, m')) : CT l yX6_force cX6_force 3 (some .int) rmX6_force cfM 23 (fun ad tb => [.ref (ad 0), .int a0]) m (some (.int r)) m' := by
  refine CT.of (cc := cX6_force) (maxL := 3) (ret := (some .int)) (by decide) ⟨rfl, rfl⟩ (fun _ _ => Nat.le_of_ble_eq_true rfl) ?_
  intro p e s mt args below meth c D cA ad tb C hr hlk
  refine g_lv (lv' := [(0, .ref (ad 0)), (1, .int a0)]) rfl ?_
  have hcl6 : ∀ w ∈ wsX60, w.before args s = true := fun w hw => C.2.2.2.2.1 w (inlX6 w hw)
  unfold f_X6_force at h
  refine g_iload_n C dX6_force_0 rfl 1 rfl ?_
  refine g_i2l C dX6_force_1 ?_
  refine g_lconst (v := (0 : Int64)) C dX6_force_2 (by decide) ?_
  refine g_aload_n C dX6_force_3 rfl 0 rfl ?_
  refine g_get C (T := TX6) hcl6 mO_0 rfl (j := 3) (by decide) wl_922 (v := .int (rI m 0 3)) rfl dX6_force_4 ?_
  refine g_iconst (v := (1 : Int32)) C dX6_force_7 (by decide) ?_
  refine g_isub C dX6_force_8 ?_
  refine g_i2l C dX6_force_9 ?_
  obtain ⟨r1, hX2, h⟩ := bd1_inv h
  refine g_callS C (c_X6_in l hX2) (cwSw 3 C.2.2.2.2.1 wl_1089 wl_1090 wl_121 wl_1091 rfl rfl (by decide +kernel) ⟨Nat.le_of_ble_eq_true rfl, Nat.le_of_ble_eq_true rfl⟩) rfl rfl rfl (Nat.le_of_ble_eq_true rfl) dX6_force_10 ?_
  refine g_if_ne (tgt := 19) C dX6_force_13 (by decide) h (fun h => ?_) (fun h => ?_)
  · refine g_bipush (v := (-2 : Int32)) C dX6_force_16 (by decide) ?_
    obtain ⟨rfl, rfl⟩ := sp_inj h
    exact g_iret C hr hlk dX6_force_18 rfl
  · refine g_aload_n C dX6_force_19 rfl 0 rfl ?_
    refine g_get C (T := TX6) hcl6 mO_0 rfl (j := 4) (by decide) wl_923 (v := .int (rI m 0 4)) rfl dX6_force_20 ?_
    refine nm_i h (fun x2_3 h => ?_)
    refine g_istore_n (lv' := [(2, .int x2_3), (0, .ref (ad 0)), (1, .int a0)]) C dX6_force_23 rfl (by decide) rfl ?_
    refine g_aload_n C dX6_force_24 rfl 1 rfl ?_
    refine g_iload_n C dX6_force_25 rfl 2 rfl ?_
    refine g_putI C (T := TX6) hcl6 mO_0 rfl (j := 4) (by decide) wl_923 tyX6 tyX6_ok nmX6 rfl rfl pfX6_4 (plX6 4 (by decide)) dX6_force_26 h (fun m4 h => ?_)
    refine g_iload_n C dX6_force_29 rfl 0 rfl ?_
    obtain ⟨rfl, rfl⟩ := sp_inj h
    exact g_iret C hr hlk dX6_force_30 rfl

def rmX6_barsThing : Room := { frames := 2, cells := 0, slots := 0, locals := 49 }
set_option maxRecDepth 100000 in
set_option maxHeartbeats 4000000 in
theorem c_X6_barsThing (l : Launch) {F : Nat}  {a0 : Int32} {a1 : Int32}  {m : MM} {r : Int32} (h : f_X6_barsThing F a0 a1 m = some r) : CT l yX6_barsThing cX6_barsThing 3 (some .int) rmX6_barsThing cfM 23 (fun ad tb => [.ref (ad 0), .int a0, .int a1]) m (some (.int r)) m := by
  refine CT.of (cc := cX6_barsThing) (maxL := 3) (ret := (some .int)) (by decide) ⟨rfl, rfl⟩ (fun _ _ => Nat.le_of_ble_eq_true rfl) ?_
  intro p e s mt args below meth c D cA ad tb C hr hlk
  refine g_lv (lv' := [(0, .ref (ad 0)), (1, .int a0), (2, .int a1)]) rfl ?_
  have hcl6 : ∀ w ∈ wsX60, w.before args s = true := fun w hw => C.2.2.2.2.1 w (inlX6 w hw)
  unfold f_X6_barsThing at h
  refine g_aload_n C dX6_barsThing_0 rfl 0 rfl ?_
  refine g_aload_n C dX6_barsThing_1 rfl 0 rfl ?_
  refine g_get C (T := TX6) hcl6 mO_0 rfl (j := 10) (by decide) wl_929 (v := .ref (ad 6)) rfl dX6_barsThing_2 ?_
  refine g_iload_n C dX6_barsThing_5 rfl 1 rfl ?_
  refine g_iald C mI_6 dX6_barsThing_6 h (fun h => ?_)
  refine g_aload_n C dX6_barsThing_7 rfl 0 rfl ?_
  refine g_get C (T := TX6) hcl6 mO_0 rfl (j := 11) (by decide) wl_930 (v := .ref (ad 7)) rfl dX6_barsThing_8 ?_
  refine g_iload_n C dX6_barsThing_11 rfl 1 rfl ?_
  refine g_iald C mI_7 dX6_barsThing_12 h (fun h => ?_)
  refine g_aload_n C dX6_barsThing_13 rfl 0 rfl ?_
  refine g_get C (T := TX6) hcl6 mO_0 rfl (j := 13) (by decide) wl_932 (v := .ref (ad 9)) rfl dX6_barsThing_14 ?_
  refine g_iload_n C dX6_barsThing_17 rfl 1 rfl ?_
  refine g_iald C mI_9 dX6_barsThing_18 h (fun h => ?_)
  refine g_iload_n C dX6_barsThing_19 rfl 2 rfl ?_
  refine g_aload_n C dX6_barsThing_20 rfl 0 rfl ?_
  refine g_iload_n C dX6_barsThing_21 rfl 2 rfl ?_
  obtain ⟨r1, hX2, h⟩ := bd1_inv h
  refine g_callV C (c_X6_inside l hX2) (cwVw 1 C.2.2.2.2.1 wl_1103 wl_1105 wl_37 wl_121 wl_1106 rfl rfl (by decide +kernel) ⟨Nat.le_of_ble_eq_true rfl, Nat.le_of_ble_eq_true rfl⟩) mO_0 rfl rfl rfl rfl (Nat.le_of_ble_eq_true rfl) dX6_barsThing_22 ?_
  refine g_iconst (v := (1 : Int32)) C dX6_barsThing_25 (by decide) ?_
  refine g_iload_n C dX6_barsThing_26 rfl 1 rfl ?_
  refine g_ishl C dX6_barsThing_27 ?_
  refine g_iconst (v := (-1 : Int32)) C dX6_barsThing_28 (by decide) ?_
  refine g_ixor C dX6_barsThing_29 ?_
  refine g_iand C dX6_barsThing_30 ?_
  obtain ⟨r3, hX4, h⟩ := bd1_inv h
  refine g_callV C (c_X6_bars l hX4) (cwVw 5 C.2.2.2.2.1 wl_1107 wl_1109 wl_38 wl_121 wl_1110 rfl rfl (by decide +kernel) ⟨Nat.le_of_ble_eq_true rfl, Nat.le_of_ble_eq_true rfl⟩) mO_0 rfl rfl rfl rfl (Nat.le_of_ble_eq_true rfl) dX6_barsThing_31 ?_
  obtain rfl := so_inj h
  exact g_iret C hr hlk dX6_barsThing_34 rfl
