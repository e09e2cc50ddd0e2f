/-! contracts: X6_either4 X6_atom3 X6_term3 X6_added3 X6_not3 X6_both3 X6_either3 X6_atom2 X6_term2 X6_added2 X6_not2 X6_both2 X6_either2 X6_atom1 -/
def rmX6_either4 : Room := { frames := 15, cells := 0, slots := 0, locals := 333 }
set_option maxRecDepth 100000 in
set_option maxHeartbeats 4000000 in
theorem c_X6_either4 (l : Launch) {F : Nat}    {m : MM} {m' : MM} {r : Int32} (h : f_X6_either4 F m = some (r, m')) : CT l yX6_either4 cX6_either4 3 (some .int) rmX6_either4 cfM 23 (fun ad tb => [.ref (ad 0)]) m (some (.int r)) m' := by
  refine CT.of (cc := cX6_either4) (maxL := 3) (ret := (some .int)) (by decide) ⟨rfl, rfl⟩ (fun _ _ => Nat.le_of_ble_eq_true rfl) ?_
  intro p e s mt args below meth c D cA ad tb C hr hlk
  refine g_lv (lv' := [(0, .ref (ad 0))]) rfl ?_
  unfold f_X6_either4 at h
  refine g_aload_n C dX6_either4_0 rfl 0 rfl ?_
  obtain ⟨r1, m3, hX2, h⟩ := bd2_inv h
  refine g_callV C (c_X6_both4 l hX2) (cwVw 0 C.2.2.2.2.1 wl_1287 wl_1289 wl_75 wl_121 wl_1290 rfl rfl (by decide +kernel) ⟨Nat.le_of_ble_eq_true rfl, Nat.le_of_ble_eq_true rfl⟩) mO_0 rfl rfl rfl rfl (Nat.le_of_ble_eq_true rfl) dX6_either4_1 ?_
  refine g_istore_n (lv' := [(1, .int r1), (0, .ref (ad 0))]) C dX6_either4_4 rfl (by decide) rfl ?_
  refine g_sub [1, 0] rfl ?_
  refine g_loop_IM (L := f_X6_either4_L5 F) h 5 48 (fun x1_4 m5 => [(0, .ref (ad 0)), (1, .int x1_4)]) (fun x1_4 m5 => [(1, .int x1_4)]) (fun x1_4 m5 => []) (fun x1_4 m5 => []) ?_ ?_ (fun _ _ _ => rfl)
  · intro x1_4 m5 h
    refine g_iload_n C dX6_either4_48 rfl 0 rfl ?_
    obtain ⟨rfl, rfl⟩ := sp_inj h
    exact g_iret C hr hlk dX6_either4_49 rfl
  · intro K6 hK6 n ih x1_4 m5 h
    rw [f_X6_either4_L5] at h
    refine g_aload_n C dX6_either4_5 rfl 0 rfl ?_
    refine g_bipush (v := (111 : Int32)) C dX6_either4_6 (by decide) ?_
    refine g_bipush (v := (114 : Int32)) C dX6_either4_8 (by decide) ?_
    refine g_iconst (v := (0 : Int32)) C dX6_either4_10 (by decide) ?_
    refine g_iconst (v := (0 : Int32)) C dX6_either4_11 (by decide) ?_
    refine g_iconst (v := (0 : Int32)) C dX6_either4_12 (by decide) ?_
    refine g_iconst (v := (0 : Int32)) C dX6_either4_13 (by decide) ?_
    refine g_iconst (v := (0 : Int32)) C dX6_either4_14 (by decide) ?_
    refine g_iconst (v := (0 : Int32)) C dX6_either4_15 (by decide) ?_
    obtain ⟨r7, hX8, h⟩ := bd1_inv h
    refine g_callV C (c_X6_isWord l hX8) (cwVw 8 C.2.2.2.2.1 wl_1177 wl_1179 wl_48 wl_121 wl_1180 rfl rfl (by decide +kernel) ⟨Nat.le_of_ble_eq_true rfl, Nat.le_of_ble_eq_true rfl⟩) mO_0 rfl rfl rfl rfl (Nat.le_of_ble_eq_true rfl) dX6_either4_16 ?_
    refine g_if_eq (tgt := 48) C dX6_either4_19 (by decide) h (fun h => ?_) (fun h => ?_)
    · exact g_sub [1] rfl (hK6 _ _ h)
    · refine g_aload_n C dX6_either4_22 rfl 0 rfl ?_
      obtain ⟨m10, hX9, h⟩ := bd1_inv h
      refine g_callV C (c_X6_next l hX9) (cwVw 0 C.2.2.2.2.1 wl_1165 wl_1167 wl_46 wl_121 wl_1168 rfl rfl (by decide +kernel) ⟨Nat.le_of_ble_eq_true rfl, Nat.le_of_ble_eq_true rfl⟩) mO_0 rfl rfl rfl rfl (Nat.le_of_ble_eq_true rfl) dX6_either4_23 ?_
      refine g_aload_n C dX6_either4_26 rfl 0 rfl ?_
      obtain ⟨r11, m13, hX12, h⟩ := bd2_inv h
      refine g_callV C (c_X6_both4 l hX12) (cwVw 0 C.2.2.2.2.1 wl_1287 wl_1289 wl_75 wl_121 wl_1290 rfl rfl (by decide +kernel) ⟨Nat.le_of_ble_eq_true rfl, Nat.le_of_ble_eq_true rfl⟩) mO_0 rfl rfl rfl rfl (Nat.le_of_ble_eq_true rfl) dX6_either4_27 ?_
      refine g_istore_n (lv' := [(2, .int r11), (0, .ref (ad 0)), (1, .int x1_4)]) C dX6_either4_30 rfl (by decide) rfl ?_
      refine g_iload_n C dX6_either4_31 rfl 2 rfl ?_
      refine g_join_I h 44 (fun s14 => [(0, .ref (ad 0))]) (fun s14 => [.int s14]) ?_ ?_
      · intro s14 h
        refine g_istore_n (lv' := [(1, .int s14), (0, .ref (ad 0))]) C dX6_either4_44 rfl (by decide) rfl ?_
        refine g_goto (tgt := 5) C dX6_either4_45 (by decide) ?_
        exact g_sub [1, 0] rfl (ih _ _ h)
      intro J15 hJ15 h
      refine g_join_ h 39 ([(0, .ref (ad 0))]) ([]) ?_ ?_
      · intro h
        refine g_iconst (v := (1 : Int32)) C dX6_either4_39 (by decide) ?_
        refine g_goto (tgt := 44) C dX6_either4_40 (by decide) ?_
        exact g_sub [0] rfl (hJ15 _ h)
      intro J16 hJ16 h
      refine g_if_ne (tgt := 39) C dX6_either4_32 (by decide) h (fun h => ?_) (fun h => ?_)
      · refine g_iload_n C dX6_either4_35 rfl 0 rfl ?_
        refine g_if_eq (tgt := 43) C dX6_either4_36 (by decide) h (fun h => ?_) (fun h => ?_)
        · refine g_iconst (v := (0 : Int32)) C dX6_either4_43 (by decide) ?_
          exact g_sub [1] rfl (hJ15 _ h)
        · exact g_sub [1] rfl (hJ16  h)
      · exact g_sub [1] rfl (hJ16  h)

def rmX6_atom3 : Room := { frames := 16, cells := 0, slots := 0, locals := 355 }
set_option maxRecDepth 100000 in
set_option maxHeartbeats 4000000 in
theorem c_X6_atom3 (l : Launch) {F : Nat}    {m : MM} {m' : MM} {r : Int32} (h : f_X6_atom3 F m = some (r, m')) : CT l yX6_atom3 cX6_atom3 2 (some .int) rmX6_atom3 cfM 23 (fun ad tb => [.ref (ad 0)]) m (some (.int r)) m' := by
  refine CT.of (cc := cX6_atom3) (maxL := 2) (ret := (some .int)) (by decide) ⟨rfl, rfl⟩ (fun _ _ => Nat.le_of_ble_eq_true rfl) ?_
  intro p e s mt args below meth c D cA ad tb C hr hlk
  refine g_lv (lv' := [(0, .ref (ad 0))]) rfl ?_
  have hcl6 : ∀ w ∈ wsX60, w.before args s = true := fun w hw => C.2.2.2.2.1 w (inlX6 w hw)
  unfold f_X6_atom3 at h
  refine g_iconst (v := (0 : Int32)) C dX6_atom3_0 (by decide) ?_
  refine g_istore_n (lv' := [(1, .int (0 : Int32)), (0, .ref (ad 0))]) C dX6_atom3_1 rfl (by decide) rfl ?_
  refine g_aload_n C dX6_atom3_2 rfl 1 rfl ?_
  refine g_bipush (v := (45 : Int32)) C dX6_atom3_3 (by decide) ?_
  obtain ⟨r1, hX2, h⟩ := bd1_inv h
  refine g_callV C (c_X6_isSign l hX2) (cwVw 1 C.2.2.2.2.1 wl_1241 wl_1243 wl_64 wl_121 wl_1244 rfl rfl (by decide +kernel) ⟨Nat.le_of_ble_eq_true rfl, Nat.le_of_ble_eq_true rfl⟩) mO_0 rfl rfl rfl rfl (Nat.le_of_ble_eq_true rfl) dX6_atom3_5 ?_
  refine g_if_eq (tgt := 37) C dX6_atom3_8 (by decide) h (fun h => ?_) (fun h => ?_)
  · refine g_aload_n C dX6_atom3_37 rfl 1 rfl ?_
    refine g_bipush (v := (40 : Int32)) C dX6_atom3_38 (by decide) ?_
    obtain ⟨r3, hX4, h⟩ := bd1_inv h
    refine g_callV C (c_X6_isSign l hX4) (cwVw 1 C.2.2.2.2.1 wl_1241 wl_1243 wl_64 wl_121 wl_1244 rfl rfl (by decide +kernel) ⟨Nat.le_of_ble_eq_true rfl, Nat.le_of_ble_eq_true rfl⟩) mO_0 rfl rfl rfl rfl (Nat.le_of_ble_eq_true rfl) dX6_atom3_40 ?_
    refine g_if_eq (tgt := 95) C dX6_atom3_43 (by decide) h (fun h => ?_) (fun h => ?_)
    · refine g_aload_n C dX6_atom3_95 rfl 1 rfl ?_
      refine g_get C (T := TX6) hcl6 mO_0 rfl (j := 32) (by decide) wl_951 (v := .int (rI m 0 32)) rfl dX6_atom3_96 ?_
      refine g_join_ h 123 ([(0, .ref (ad 0)), (1, .int (0 : Int32))]) ([]) ?_ ?_
      · intro h
        refine g_aload_n C dX6_atom3_123 rfl 0 rfl ?_
        refine g_get C (T := TX6) hcl6 mO_0 rfl (j := 32) (by decide) wl_951 (v := .int (rI m 0 32)) rfl dX6_atom3_124 ?_
        refine g_join_ h 157 ([(0, .ref (ad 0)), (1, .int (0 : Int32))]) ([]) ?_ ?_
        · intro h
          refine g_aload_n C dX6_atom3_157 rfl 0 rfl ?_
          obtain ⟨m8, hX7, h⟩ := bd1_inv h
          refine g_callV C (c_X6_fail l hX7) (cwVw 0 C.2.2.2.2.1 wl_1189 wl_1191 wl_51 wl_121 wl_1192 rfl rfl (by decide +kernel) ⟨Nat.le_of_ble_eq_true rfl, Nat.le_of_ble_eq_true rfl⟩) mO_0 rfl rfl rfl rfl (Nat.le_of_ble_eq_true rfl) dX6_atom3_158 ?_
          refine g_iload_n C dX6_atom3_161 rfl 1 rfl ?_
          obtain ⟨rfl, rfl⟩ := sp_inj h
          exact g_iret C hr hlk dX6_atom3_162 rfl
        intro J6 hJ6 h
        refine g_if_ne (tgt := 157) C dX6_atom3_127 (by decide) h (fun h => ?_) (fun h => ?_)
        · refine g_aload_n C dX6_atom3_130 rfl 0 rfl ?_
          refine g_get C (T := TX6) hcl6 mO_0 rfl (j := 28) (by decide) wl_947 (v := .int (rI m 0 28)) rfl dX6_atom3_131 ?_
          refine g_iconst (v := (1 : Int32)) C dX6_atom3_134 (by decide) ?_
          refine g_icmp_ne (tgt := 157) C dX6_atom3_135 (by decide) h (fun h => ?_) (fun h => ?_)
          · refine g_aload_n C dX6_atom3_138 rfl 0 rfl ?_
            obtain ⟨r9, m11, hX10, h⟩ := bd2_inv h
            refine g_callV C (c_X6_name l hX10) (cwVw 0 C.2.2.2.2.1 wl_1245 wl_1247 wl_65 wl_121 wl_1248 rfl rfl (by decide +kernel) ⟨Nat.le_of_ble_eq_true rfl, Nat.le_of_ble_eq_true rfl⟩) mO_0 rfl rfl rfl rfl (Nat.le_of_ble_eq_true rfl) dX6_atom3_139 ?_
            refine g_istore_n (lv' := [(1, .int r9), (0, .ref (ad 0))]) C dX6_atom3_142 rfl (by decide) rfl ?_
            refine g_aload_n C dX6_atom3_143 rfl 1 rfl ?_
            refine g_get C (T := TX6) hcl6 mO_0 rfl (j := 32) (by decide) wl_951 (v := .int (rI m11 0 32)) rfl dX6_atom3_144 ?_
            refine g_if_ne (tgt := 161) C dX6_atom3_147 (by decide) h (fun h => ?_) (fun h => ?_)
            · refine g_aload_n C dX6_atom3_150 rfl 1 rfl ?_
              obtain ⟨m13, hX12, h⟩ := bd1_inv h
              refine g_callV C (c_X6_next l hX12) (cwVw 0 C.2.2.2.2.1 wl_1165 wl_1167 wl_46 wl_121 wl_1168 rfl rfl (by decide +kernel) ⟨Nat.le_of_ble_eq_true rfl, Nat.le_of_ble_eq_true rfl⟩) mO_0 rfl rfl rfl rfl (Nat.le_of_ble_eq_true rfl) dX6_atom3_151 ?_
              refine g_goto (tgt := 161) C dX6_atom3_154 (by decide) ?_
              refine g_iload_n C dX6_atom3_161 rfl 0 rfl ?_
              obtain ⟨rfl, rfl⟩ := sp_inj h
              exact g_iret C hr hlk dX6_atom3_162 rfl
            · refine g_iload_n C dX6_atom3_161 rfl 0 rfl ?_
              obtain ⟨rfl, rfl⟩ := sp_inj h
              exact g_iret C hr hlk dX6_atom3_162 rfl
          · exact g_sub [0, 1] rfl (hJ6  h)
        · exact g_sub [0, 1] rfl (hJ6  h)
      intro J5 hJ5 h
      refine g_if_ne (tgt := 123) C dX6_atom3_99 (by decide) h (fun h => ?_) (fun h => ?_)
      · refine g_aload_n C dX6_atom3_102 rfl 1 rfl ?_
        refine g_get C (T := TX6) hcl6 mO_0 rfl (j := 28) (by decide) wl_947 (v := .int (rI m 0 28)) rfl dX6_atom3_103 ?_
        refine g_iconst (v := (2 : Int32)) C dX6_atom3_106 (by decide) ?_
        refine g_icmp_ne (tgt := 123) C dX6_atom3_107 (by decide) h (fun h => ?_) (fun h => ?_)
        · refine g_aload_n C dX6_atom3_110 rfl 1 rfl ?_
          refine g_get C (T := TX6) hcl6 mO_0 rfl (j := 30) (by decide) wl_949 (v := .long (rL m 0 30)) rfl dX6_atom3_111 ?_
          refine g_l2i C dX6_atom3_114 ?_
          refine nm_i h (fun x1_14 h => ?_)
          refine g_istore_n (lv' := [(1, .int x1_14), (0, .ref (ad 0))]) C dX6_atom3_115 rfl (by decide) rfl ?_
          refine g_aload_n C dX6_atom3_116 rfl 1 rfl ?_
          obtain ⟨m16, hX15, h⟩ := bd1_inv h
          refine g_callV C (c_X6_next l hX15) (cwVw 0 C.2.2.2.2.1 wl_1165 wl_1167 wl_46 wl_121 wl_1168 rfl rfl (by decide +kernel) ⟨Nat.le_of_ble_eq_true rfl, Nat.le_of_ble_eq_true rfl⟩) mO_0 rfl rfl rfl rfl (Nat.le_of_ble_eq_true rfl) dX6_atom3_117 ?_
          refine g_goto (tgt := 161) C dX6_atom3_120 (by decide) ?_
          refine g_iload_n C dX6_atom3_161 rfl 0 rfl ?_
          obtain ⟨rfl, rfl⟩ := sp_inj h
          exact g_iret C hr hlk dX6_atom3_162 rfl
        · exact g_sub [1, 0] rfl (hJ5  h)
      · exact g_sub [1, 0] rfl (hJ5  h)
    · refine g_aload_n C dX6_atom3_46 rfl 1 rfl ?_
      obtain ⟨r17, m19, hX18, h⟩ := bd2_inv h
      refine g_callV C (c_X6_opens l hX18) (cwVw 0 C.2.2.2.2.1 wl_1205 wl_1207 wl_55 wl_121 wl_1208 rfl rfl (by decide +kernel) ⟨Nat.le_of_ble_eq_true rfl, Nat.le_of_ble_eq_true rfl⟩) mO_0 rfl rfl rfl rfl (Nat.le_of_ble_eq_true rfl) dX6_atom3_47 ?_
      refine g_if_eq (tgt := 161) C dX6_atom3_50 (by decide) h (fun h => ?_) (fun h => ?_)
      · refine g_iload_n C dX6_atom3_161 rfl 0 rfl ?_
        obtain ⟨rfl, rfl⟩ := sp_inj h
        exact g_iret C hr hlk dX6_atom3_162 rfl
      · refine g_aload_n C dX6_atom3_53 rfl 1 rfl ?_
        obtain ⟨r20, m22, hX21, h⟩ := bd2_inv h
        refine g_callV C (c_X6_either4 l hX21) (cwVw 0 C.2.2.2.2.1 wl_1283 wl_1285 wl_74 wl_121 wl_1286 rfl rfl (by decide +kernel) ⟨Nat.le_of_ble_eq_true rfl, Nat.le_of_ble_eq_true rfl⟩) mO_0 rfl rfl rfl rfl (Nat.le_of_ble_eq_true rfl) dX6_atom3_54 ?_
        refine g_istore_n (lv' := [(1, .int r20), (0, .ref (ad 0))]) C dX6_atom3_57 rfl (by decide) rfl ?_
        refine g_aload_n C dX6_atom3_58 rfl 1 rfl ?_
        refine g_bipush (v := (41 : Int32)) C dX6_atom3_59 (by decide) ?_
        obtain ⟨r23, hX24, h⟩ := bd1_inv h
        refine g_callV C (c_X6_isSign l hX24) (cwVw 1 C.2.2.2.2.1 wl_1241 wl_1243 wl_64 wl_121 wl_1244 rfl rfl (by decide +kernel) ⟨Nat.le_of_ble_eq_true rfl, Nat.le_of_ble_eq_true rfl⟩) mO_0 rfl rfl rfl rfl (Nat.le_of_ble_eq_true rfl) dX6_atom3_61 ?_
        refine g_join_M h 71 (fun m25 => [(0, .ref (ad 0)), (1, .int r20)]) (fun m25 => []) ?_ ?_
        · intro m25 h
          refine g_aload_n C dX6_atom3_71 rfl 0 rfl ?_
          refine g_dup C dX6_atom3_72 rfl ?_
          refine g_get C (T := TX6) hcl6 mO_0 rfl (j := 31) (by decide) wl_950 (v := .int (rI m25 0 31)) rfl dX6_atom3_73 ?_
          refine g_iconst (v := (1 : Int32)) C dX6_atom3_76 (by decide) ?_
          refine g_isub C dX6_atom3_77 ?_
          refine g_putI C (T := TX6) hcl6 mO_0 rfl (j := 31) (by decide) wl_950 tyX6 tyX6_ok nmX6 rfl rfl pfX6_31 (plX6 31 (by decide)) dX6_atom3_78 h (fun m27 h => ?_)
          refine g_aload_n C dX6_atom3_81 rfl 0 rfl ?_
          refine g_get C (T := TX6) hcl6 mO_0 rfl (j := 32) (by decide) wl_951 (v := .int (rI m27 0 32)) rfl dX6_atom3_82 ?_
          refine g_if_ne (tgt := 161) C dX6_atom3_85 (by decide) h (fun h => ?_) (fun h => ?_)
          · refine g_aload_n C dX6_atom3_88 rfl 0 rfl ?_
            obtain ⟨m29, hX28, h⟩ := bd1_inv h
            refine g_callV C (c_X6_next l hX28) (cwVw 0 C.2.2.2.2.1 wl_1165 wl_1167 wl_46 wl_121 wl_1168 rfl rfl (by decide +kernel) ⟨Nat.le_of_ble_eq_true rfl, Nat.le_of_ble_eq_true rfl⟩) mO_0 rfl rfl rfl rfl (Nat.le_of_ble_eq_true rfl) dX6_atom3_89 ?_
            refine g_goto (tgt := 161) C dX6_atom3_92 (by decide) ?_
            refine g_iload_n C dX6_atom3_161 rfl 1 rfl ?_
            obtain ⟨rfl, rfl⟩ := sp_inj h
            exact g_iret C hr hlk dX6_atom3_162 rfl
          · refine g_iload_n C dX6_atom3_161 rfl 1 rfl ?_
            obtain ⟨rfl, rfl⟩ := sp_inj h
            exact g_iret C hr hlk dX6_atom3_162 rfl
        intro J26 hJ26 h
        refine g_if_ne (tgt := 71) C dX6_atom3_64 (by decide) h (fun h => ?_) (fun h => ?_)
        · refine g_aload_n C dX6_atom3_67 rfl 1 rfl ?_
          obtain ⟨m31, hX30, h⟩ := bd1_inv h
          refine g_callV C (c_X6_fail l hX30) (cwVw 0 C.2.2.2.2.1 wl_1189 wl_1191 wl_51 wl_121 wl_1192 rfl rfl (by decide +kernel) ⟨Nat.le_of_ble_eq_true rfl, Nat.le_of_ble_eq_true rfl⟩) mO_0 rfl rfl rfl rfl (Nat.le_of_ble_eq_true rfl) dX6_atom3_68 ?_
          exact g_sub [1, 0] rfl (hJ26 _ h)
        · exact g_sub [1, 0] rfl (hJ26 _ h)
  · refine g_aload_n C dX6_atom3_11 rfl 1 rfl ?_
    obtain ⟨r32, m34, hX33, h⟩ := bd2_inv h
    refine g_callV C (c_X6_opens l hX33) (cwVw 0 C.2.2.2.2.1 wl_1205 wl_1207 wl_55 wl_121 wl_1208 rfl rfl (by decide +kernel) ⟨Nat.le_of_ble_eq_true rfl, Nat.le_of_ble_eq_true rfl⟩) mO_0 rfl rfl rfl rfl (Nat.le_of_ble_eq_true rfl) dX6_atom3_12 ?_
    refine g_if_eq (tgt := 161) C dX6_atom3_15 (by decide) h (fun h => ?_) (fun h => ?_)
    · refine g_iload_n C dX6_atom3_161 rfl 0 rfl ?_
      obtain ⟨rfl, rfl⟩ := sp_inj h
      exact g_iret C hr hlk dX6_atom3_162 rfl
    · refine g_aload_n C dX6_atom3_18 rfl 1 rfl ?_
      obtain ⟨r35, m37, hX36, h⟩ := bd2_inv h
      refine g_callV C (c_X6_atom4 l hX36) (cwVw 0 C.2.2.2.2.1 wl_1259 wl_1261 wl_68 wl_121 wl_1262 rfl rfl (by decide +kernel) ⟨Nat.le_of_ble_eq_true rfl, Nat.le_of_ble_eq_true rfl⟩) mO_0 rfl rfl rfl rfl (Nat.le_of_ble_eq_true rfl) dX6_atom3_19 ?_
      refine g_ineg C dX6_atom3_22 ?_
      refine g_istore_n (lv' := [(1, .int (-r35)), (0, .ref (ad 0))]) C dX6_atom3_23 rfl (by decide) rfl ?_
      refine g_aload_n C dX6_atom3_24 rfl 1 rfl ?_
      refine g_dup C dX6_atom3_25 rfl ?_
      refine g_get C (T := TX6) hcl6 mO_0 rfl (j := 31) (by decide) wl_950 (v := .int (rI m37 0 31)) rfl dX6_atom3_26 ?_
      refine g_iconst (v := (1 : Int32)) C dX6_atom3_29 (by decide) ?_
      refine g_isub C dX6_atom3_30 ?_
      refine g_putI C (T := TX6) hcl6 mO_0 rfl (j := 31) (by decide) wl_950 tyX6 tyX6_ok nmX6 rfl rfl pfX6_31 (plX6 31 (by decide)) dX6_atom3_31 h (fun m38 h => ?_)
      refine g_goto (tgt := 161) C dX6_atom3_34 (by decide) ?_
      refine g_iload_n C dX6_atom3_161 rfl 0 rfl ?_
      obtain ⟨rfl, rfl⟩ := sp_inj h
      exact g_iret C hr hlk dX6_atom3_162 rfl

def rmX6_term3 : Room := { frames := 17, cells := 0, slots := 0, locals := 376 }
set_option maxRecDepth 100000 in
set_option maxHeartbeats 4000000 in
theorem c_X6_term3 (l : Launch) {F : Nat}    {m : MM} {m' : MM} {r : Int32} (h : f_X6_term3 F m = some (r, m')) : CT l yX6_term3 cX6_term3 2 (some .int) rmX6_term3 cfM 23 (fun ad tb => [.ref (ad 0)]) m (some (.int r)) m' := by
  refine CT.of (cc := cX6_term3) (maxL := 2) (ret := (some .int)) (by decide) ⟨rfl, rfl⟩ (fun _ _ => Nat.le_of_ble_eq_true rfl) ?_
  intro p e s mt args below meth c D cA ad tb C hr hlk
  refine g_lv (lv' := [(0, .ref (ad 0))]) rfl ?_
  unfold f_X6_term3 at h
  refine g_aload_n C dX6_term3_0 rfl 0 rfl ?_
  obtain ⟨r1, m3, hX2, h⟩ := bd2_inv h
  refine g_callV C (c_X6_atom3 l hX2) (cwVw 0 C.2.2.2.2.1 wl_1279 wl_1281 wl_73 wl_121 wl_1282 rfl rfl (by decide +kernel) ⟨Nat.le_of_ble_eq_true rfl, Nat.le_of_ble_eq_true rfl⟩) mO_0 rfl rfl rfl rfl (Nat.le_of_ble_eq_true rfl) dX6_term3_1 ?_
  refine g_istore_n (lv' := [(1, .int r1), (0, .ref (ad 0))]) C dX6_term3_4 rfl (by decide) rfl ?_
  refine g_sub [1, 0] rfl ?_
  refine g_loop_IM (L := f_X6_term3_L5 F) h 5 28 (fun x1_4 m5 => [(0, .ref (ad 0)), (1, .int x1_4)]) (fun x1_4 m5 => [(1, .int x1_4)]) (fun x1_4 m5 => []) (fun x1_4 m5 => []) ?_ ?_ (fun _ _ _ => rfl)
  · intro x1_4 m5 h
    refine g_iload_n C dX6_term3_28 rfl 0 rfl ?_
    obtain ⟨rfl, rfl⟩ := sp_inj h
    exact g_iret C hr hlk dX6_term3_29 rfl
  · intro K6 hK6 n ih x1_4 m5 h
    rw [f_X6_term3_L5] at h
    refine g_aload_n C dX6_term3_5 rfl 0 rfl ?_
    refine g_bipush (v := (42 : Int32)) C dX6_term3_6 (by decide) ?_
    obtain ⟨r7, hX8, h⟩ := bd1_inv h
    refine g_callV C (c_X6_isSign l hX8) (cwVw 1 C.2.2.2.2.1 wl_1241 wl_1243 wl_64 wl_121 wl_1244 rfl rfl (by decide +kernel) ⟨Nat.le_of_ble_eq_true rfl, Nat.le_of_ble_eq_true rfl⟩) mO_0 rfl rfl rfl rfl (Nat.le_of_ble_eq_true rfl) dX6_term3_8 ?_
    refine g_if_eq (tgt := 28) C dX6_term3_11 (by decide) h (fun h => ?_) (fun h => ?_)
    · exact g_sub [1] rfl (hK6 _ _ h)
    · refine g_aload_n C dX6_term3_14 rfl 0 rfl ?_
      obtain ⟨m10, hX9, h⟩ := bd1_inv h
      refine g_callV C (c_X6_next l hX9) (cwVw 0 C.2.2.2.2.1 wl_1165 wl_1167 wl_46 wl_121 wl_1168 rfl rfl (by decide +kernel) ⟨Nat.le_of_ble_eq_true rfl, Nat.le_of_ble_eq_true rfl⟩) mO_0 rfl rfl rfl rfl (Nat.le_of_ble_eq_true rfl) dX6_term3_15 ?_
      refine g_iload_n C dX6_term3_18 rfl 1 rfl ?_
      refine g_aload_n C dX6_term3_19 rfl 0 rfl ?_
      obtain ⟨r11, m13, hX12, h⟩ := bd2_inv h
      refine g_callV C (c_X6_atom3 l hX12) (cwVw 0 C.2.2.2.2.1 wl_1279 wl_1281 wl_73 wl_121 wl_1282 rfl rfl (by decide +kernel) ⟨Nat.le_of_ble_eq_true rfl, Nat.le_of_ble_eq_true rfl⟩) mO_0 rfl rfl rfl rfl (Nat.le_of_ble_eq_true rfl) dX6_term3_20 ?_
      refine g_imul C dX6_term3_23 ?_
      refine nm_i h (fun x1_14 h => ?_)
      refine g_istore_n (lv' := [(1, .int x1_14), (0, .ref (ad 0))]) C dX6_term3_24 rfl (by decide) rfl ?_
      refine g_goto (tgt := 5) C dX6_term3_25 (by decide) ?_
      exact g_sub [1, 0] rfl (ih _ _ h)

def rmX6_added3 : Room := { frames := 18, cells := 0, slots := 0, locals := 397 }
set_option maxRecDepth 100000 in
set_option maxHeartbeats 4000000 in
theorem c_X6_added3 (l : Launch) {F : Nat}    {m : MM} {m' : MM} {r : Int32} (h : f_X6_added3 F m = some (r, m')) : CT l yX6_added3 cX6_added3 4 (some .int) rmX6_added3 cfM 23 (fun ad tb => [.ref (ad 0)]) m (some (.int r)) m' := by
  refine CT.of (cc := cX6_added3) (maxL := 4) (ret := (some .int)) (by decide) ⟨rfl, rfl⟩ (fun _ _ => Nat.le_of_ble_eq_true rfl) ?_
  intro p e s mt args below meth c D cA ad tb C hr hlk
  refine g_lv (lv' := [(0, .ref (ad 0))]) rfl ?_
  have hcl6 : ∀ w ∈ wsX60, w.before args s = true := fun w hw => C.2.2.2.2.1 w (inlX6 w hw)
  unfold f_X6_added3 at h
  refine g_aload_n C dX6_added3_0 rfl 0 rfl ?_
  obtain ⟨r1, m3, hX2, h⟩ := bd2_inv h
  refine g_callV C (c_X6_term3 l hX2) (cwVw 0 C.2.2.2.2.1 wl_1275 wl_1277 wl_72 wl_121 wl_1278 rfl rfl (by decide +kernel) ⟨Nat.le_of_ble_eq_true rfl, Nat.le_of_ble_eq_true rfl⟩) mO_0 rfl rfl rfl rfl (Nat.le_of_ble_eq_true rfl) dX6_added3_1 ?_
  refine g_istore_n (lv' := [(1, .int r1), (0, .ref (ad 0))]) C dX6_added3_4 rfl (by decide) rfl ?_
  refine g_sub [1, 0] rfl ?_
  refine g_loop_IM (L := f_X6_added3_L5 F) h 5 66 (fun x1_4 m5 => [(0, .ref (ad 0)), (1, .int x1_4)]) (fun x1_4 m5 => [(1, .int x1_4)]) (fun x1_4 m5 => []) (fun x1_4 m5 => []) ?_ ?_ (fun _ _ _ => rfl)
  · intro x1_4 m5 h
    refine g_iload_n C dX6_added3_66 rfl 0 rfl ?_
    obtain ⟨rfl, rfl⟩ := sp_inj h
    exact g_iret C hr hlk dX6_added3_67 rfl
  · intro K6 hK6 n ih x1_4 m5 h
    rw [f_X6_added3_L5] at h
    refine g_aload_n C dX6_added3_5 rfl 0 rfl ?_
    refine g_bipush (v := (43 : Int32)) C dX6_added3_6 (by decide) ?_
    obtain ⟨r7, hX8, h⟩ := bd1_inv h
    refine g_callV C (c_X6_isSign l hX8) (cwVw 1 C.2.2.2.2.1 wl_1241 wl_1243 wl_64 wl_121 wl_1244 rfl rfl (by decide +kernel) ⟨Nat.le_of_ble_eq_true rfl, Nat.le_of_ble_eq_true rfl⟩) mO_0 rfl rfl rfl rfl (Nat.le_of_ble_eq_true rfl) dX6_added3_8 ?_
    refine g_join_ h 23 ([(0, .ref (ad 0)), (1, .int x1_4)]) ([]) ?_ ?_
    · intro h
      refine g_aload_n C dX6_added3_23 rfl 0 rfl ?_
      refine g_get C (T := TX6) hcl6 mO_0 rfl (j := 30) (by decide) wl_949 (v := .long (rL m5 0 30)) rfl dX6_added3_24 ?_
      refine g_ldc2 (v := (43 : Int64)) C dX6_added3_27 wl_1249 ?_
      refine g_lcmp C dX6_added3_30 ?_
      refine g_join_I h 39 (fun s10 => [(0, .ref (ad 0)), (1, .int x1_4)]) (fun s10 => [.int s10]) ?_ ?_
      · intro s10 h
        refine g_istore_n (lv' := [(2, .int s10), (0, .ref (ad 0)), (1, .int x1_4)]) C dX6_added3_39 rfl (by decide) rfl ?_
        refine g_aload_n C dX6_added3_40 rfl 1 rfl ?_
        obtain ⟨m13, hX12, h⟩ := bd1_inv h
        refine g_callV C (c_X6_next l hX12) (cwVw 0 C.2.2.2.2.1 wl_1165 wl_1167 wl_46 wl_121 wl_1168 rfl rfl (by decide +kernel) ⟨Nat.le_of_ble_eq_true rfl, Nat.le_of_ble_eq_true rfl⟩) mO_0 rfl rfl rfl rfl (Nat.le_of_ble_eq_true rfl) dX6_added3_41 ?_
        refine g_aload_n C dX6_added3_44 rfl 1 rfl ?_
        obtain ⟨r14, m16, hX15, h⟩ := bd2_inv h
        refine g_callV C (c_X6_term3 l hX15) (cwVw 0 C.2.2.2.2.1 wl_1275 wl_1277 wl_72 wl_121 wl_1278 rfl rfl (by decide +kernel) ⟨Nat.le_of_ble_eq_true rfl, Nat.le_of_ble_eq_true rfl⟩) mO_0 rfl rfl rfl rfl (Nat.le_of_ble_eq_true rfl) dX6_added3_45 ?_
        refine g_istore_n (lv' := [(3, .int r14), (2, .int s10), (0, .ref (ad 0)), (1, .int x1_4)]) C dX6_added3_48 rfl (by decide) rfl ?_
        refine g_iload_n C dX6_added3_49 rfl 1 rfl ?_
        refine g_join_I h 62 (fun s17 => [(0, .ref (ad 0))]) (fun s17 => [.int s17]) ?_ ?_
        · intro s17 h
          refine g_istore_n (lv' := [(1, .int s17), (0, .ref (ad 0))]) C dX6_added3_62 rfl (by decide) rfl ?_
          refine g_goto (tgt := 5) C dX6_added3_63 (by decide) ?_
          exact g_sub [1, 0] rfl (ih _ _ h)
        intro J18 hJ18 h
        refine g_if_eq (tgt := 59) C dX6_added3_50 (by decide) h (fun h => ?_) (fun h => ?_)
        · refine g_iload_n C dX6_added3_59 rfl 3 rfl ?_
          refine g_iload_n C dX6_added3_60 rfl 0 rfl ?_
          refine g_isub C dX6_added3_61 ?_
          exact g_sub [2] rfl (hJ18 _ h)
        · refine g_iload_n C dX6_added3_53 rfl 3 rfl ?_
          refine g_iload_n C dX6_added3_54 rfl 0 rfl ?_
          refine g_iadd C dX6_added3_55 ?_
          refine g_goto (tgt := 62) C dX6_added3_56 (by decide) ?_
          exact g_sub [2] rfl (hJ18 _ h)
      intro J11 hJ11 h
      refine g_if_ne (tgt := 38) C dX6_added3_31 (by decide) h (fun h => ?_) (fun h => ?_)
      · refine g_iconst (v := (1 : Int32)) C dX6_added3_34 (by decide) ?_
        refine g_goto (tgt := 39) C dX6_added3_35 (by decide) ?_
        exact g_sub [0, 1] rfl (hJ11 _ h)
      · refine g_iconst (v := (0 : Int32)) C dX6_added3_38 (by decide) ?_
        exact g_sub [0, 1] rfl (hJ11 _ h)
    intro J9 hJ9 h
    refine g_if_ne (tgt := 23) C dX6_added3_11 (by decide) h (fun h => ?_) (fun h => ?_)
    · refine g_aload_n C dX6_added3_14 rfl 0 rfl ?_
      refine g_bipush (v := (45 : Int32)) C dX6_added3_15 (by decide) ?_
      obtain ⟨r19, hX20, h⟩ := bd1_inv h
      refine g_callV C (c_X6_isSign l hX20) (cwVw 1 C.2.2.2.2.1 wl_1241 wl_1243 wl_64 wl_121 wl_1244 rfl rfl (by decide +kernel) ⟨Nat.le_of_ble_eq_true rfl, Nat.le_of_ble_eq_true rfl⟩) mO_0 rfl rfl rfl rfl (Nat.le_of_ble_eq_true rfl) dX6_added3_17 ?_
      refine g_if_eq (tgt := 66) C dX6_added3_20 (by decide) h (fun h => ?_) (fun h => ?_)
      · exact g_sub [1] rfl (hK6 _ _ h)
      · exact g_sub [0, 1] rfl (hJ9  h)
    · exact g_sub [0, 1] rfl (hJ9  h)

def rmX6_not3 : Room := { frames := 19, cells := 0, slots := 0, locals := 420 }
set_option maxRecDepth 100000 in
set_option maxHeartbeats 4000000 in
theorem c_X6_not3 (l : Launch) {F : Nat}    {m : MM} {m' : MM} {r : Int32} (h : f_X6_not3 F m = some (r, m')) : CT l yX6_not3 cX6_not3 4 (some .int) rmX6_not3 cfM 23 (fun ad tb => [.ref (ad 0)]) m (some (.int r)) m' := by
  refine CT.of (cc := cX6_not3) (maxL := 4) (ret := (some .int)) (by decide) ⟨rfl, rfl⟩ (fun _ _ => Nat.le_of_ble_eq_true rfl) ?_
  intro p e s mt args below meth c D cA ad tb C hr hlk
  refine g_lv (lv' := [(0, .ref (ad 0))]) rfl ?_
  have hcl6 : ∀ w ∈ wsX60, w.before args s = true := fun w hw => C.2.2.2.2.1 w (inlX6 w hw)
  unfold f_X6_not3 at h
  refine g_aload_n C dX6_not3_0 rfl 0 rfl ?_
  refine g_bipush (v := (110 : Int32)) C dX6_not3_1 (by decide) ?_
  refine g_bipush (v := (111 : Int32)) C dX6_not3_3 (by decide) ?_
  refine g_bipush (v := (116 : Int32)) C dX6_not3_5 (by decide) ?_
  refine g_iconst (v := (0 : Int32)) C dX6_not3_7 (by decide) ?_
  refine g_iconst (v := (0 : Int32)) C dX6_not3_8 (by decide) ?_
  refine g_iconst (v := (0 : Int32)) C dX6_not3_9 (by decide) ?_
  refine g_iconst (v := (0 : Int32)) C dX6_not3_10 (by decide) ?_
  refine g_iconst (v := (0 : Int32)) C dX6_not3_11 (by decide) ?_
  obtain ⟨r1, hX2, h⟩ := bd1_inv h
  refine g_callV C (c_X6_isWord l hX2) (cwVw 8 C.2.2.2.2.1 wl_1177 wl_1179 wl_48 wl_121 wl_1180 rfl rfl (by decide +kernel) ⟨Nat.le_of_ble_eq_true rfl, Nat.le_of_ble_eq_true rfl⟩) mO_0 rfl rfl rfl rfl (Nat.le_of_ble_eq_true rfl) dX6_not3_12 ?_
  refine g_if_eq (tgt := 52) C dX6_not3_15 (by decide) h (fun h => ?_) (fun h => ?_)
  · refine g_aload_n C dX6_not3_52 rfl 0 rfl ?_
    obtain ⟨r3, m5, hX4, h⟩ := bd2_inv h
    refine g_callV C (c_X6_added3 l hX4) (cwVw 0 C.2.2.2.2.1 wl_1271 wl_1273 wl_71 wl_121 wl_1274 rfl rfl (by decide +kernel) ⟨Nat.le_of_ble_eq_true rfl, Nat.le_of_ble_eq_true rfl⟩) mO_0 rfl rfl rfl rfl (Nat.le_of_ble_eq_true rfl) dX6_not3_53 ?_
    refine g_istore_n (lv' := [(1, .int r3), (0, .ref (ad 0))]) C dX6_not3_56 rfl (by decide) rfl ?_
    refine g_aload_n C dX6_not3_57 rfl 1 rfl ?_
    refine g_bipush (v := (60 : Int32)) C dX6_not3_58 (by decide) ?_
    obtain ⟨r6, hX7, h⟩ := bd1_inv h
    refine g_callV C (c_X6_isSign l hX7) (cwVw 1 C.2.2.2.2.1 wl_1241 wl_1243 wl_64 wl_121 wl_1244 rfl rfl (by decide +kernel) ⟨Nat.le_of_ble_eq_true rfl, Nat.le_of_ble_eq_true rfl⟩) mO_0 rfl rfl rfl rfl (Nat.le_of_ble_eq_true rfl) dX6_not3_60 ?_
    refine g_join_ h 77 ([(0, .ref (ad 0)), (1, .int r3)]) ([]) ?_ ?_
    · intro h
      refine g_aload_n C dX6_not3_77 rfl 0 rfl ?_
      refine g_get C (T := TX6) hcl6 mO_0 rfl (j := 30) (by decide) wl_949 (v := .long (rL m5 0 30)) rfl dX6_not3_78 ?_
      refine g_ldc2 (v := (60 : Int64)) C dX6_not3_81 wl_1250 ?_
      refine g_lcmp C dX6_not3_84 ?_
      refine g_join_I h 93 (fun s9 => [(0, .ref (ad 0)), (1, .int r3)]) (fun s9 => [.int s9]) ?_ ?_
      · intro s9 h
        refine g_istore_n (lv' := [(2, .int s9), (0, .ref (ad 0)), (1, .int r3)]) C dX6_not3_93 rfl (by decide) rfl ?_
        refine g_aload_n C dX6_not3_94 rfl 1 rfl ?_
        obtain ⟨m12, hX11, h⟩ := bd1_inv h
        refine g_callV C (c_X6_next l hX11) (cwVw 0 C.2.2.2.2.1 wl_1165 wl_1167 wl_46 wl_121 wl_1168 rfl rfl (by decide +kernel) ⟨Nat.le_of_ble_eq_true rfl, Nat.le_of_ble_eq_true rfl⟩) mO_0 rfl rfl rfl rfl (Nat.le_of_ble_eq_true rfl) dX6_not3_95 ?_
        refine g_aload_n C dX6_not3_98 rfl 1 rfl ?_
        obtain ⟨r13, m15, hX14, h⟩ := bd2_inv h
        refine g_callV C (c_X6_added3 l hX14) (cwVw 0 C.2.2.2.2.1 wl_1271 wl_1273 wl_71 wl_121 wl_1274 rfl rfl (by decide +kernel) ⟨Nat.le_of_ble_eq_true rfl, Nat.le_of_ble_eq_true rfl⟩) mO_0 rfl rfl rfl rfl (Nat.le_of_ble_eq_true rfl) dX6_not3_99 ?_
        refine g_istore_n (lv' := [(3, .int r13), (2, .int s9), (0, .ref (ad 0)), (1, .int r3)]) C dX6_not3_102 rfl (by decide) rfl ?_
        refine g_iload_n C dX6_not3_103 rfl 1 rfl ?_
        refine g_if_eq (tgt := 115) C dX6_not3_104 (by decide) h (fun h => ?_) (fun h => ?_)
        · refine g_iload_n C dX6_not3_115 rfl 3 rfl ?_
          refine g_iload_n C dX6_not3_116 rfl 0 rfl ?_
          refine g_icmp_ne (tgt := 124) C dX6_not3_117 (by decide) h (fun h => ?_) (fun h => ?_)
          · refine g_iconst (v := (1 : Int32)) C dX6_not3_120 (by decide) ?_
            refine g_goto (tgt := 125) C dX6_not3_121 (by decide) ?_
            obtain ⟨rfl, rfl⟩ := sp_inj h
            exact g_iret C hr hlk dX6_not3_125 rfl
          · refine g_iconst (v := (0 : Int32)) C dX6_not3_124 (by decide) ?_
            obtain ⟨rfl, rfl⟩ := sp_inj h
            exact g_iret C hr hlk dX6_not3_125 rfl
        · refine g_iload_n C dX6_not3_107 rfl 3 rfl ?_
          refine g_iload_n C dX6_not3_108 rfl 0 rfl ?_
          refine g_icmp_ge (tgt := 124) C dX6_not3_109 (by decide) h (fun h => ?_) (fun h => ?_)
          · refine g_iconst (v := (0 : Int32)) C dX6_not3_124 (by decide) ?_
            obtain ⟨rfl, rfl⟩ := sp_inj h
            exact g_iret C hr hlk dX6_not3_125 rfl
          · refine g_goto (tgt := 120) C dX6_not3_112 (by decide) ?_
            refine g_iconst (v := (1 : Int32)) C dX6_not3_120 (by decide) ?_
            refine g_goto (tgt := 125) C dX6_not3_121 (by decide) ?_
            obtain ⟨rfl, rfl⟩ := sp_inj h
            exact g_iret C hr hlk dX6_not3_125 rfl
      intro J10 hJ10 h
      refine g_if_ne (tgt := 92) C dX6_not3_85 (by decide) h (fun h => ?_) (fun h => ?_)
      · refine g_iconst (v := (1 : Int32)) C dX6_not3_88 (by decide) ?_
        refine g_goto (tgt := 93) C dX6_not3_89 (by decide) ?_
        exact g_sub [0, 1] rfl (hJ10 _ h)
      · refine g_iconst (v := (0 : Int32)) C dX6_not3_92 (by decide) ?_
        exact g_sub [0, 1] rfl (hJ10 _ h)
    intro J8 hJ8 h
    refine g_if_ne (tgt := 77) C dX6_not3_63 (by decide) h (fun h => ?_) (fun h => ?_)
    · refine g_aload_n C dX6_not3_66 rfl 1 rfl ?_
      refine g_bipush (v := (61 : Int32)) C dX6_not3_67 (by decide) ?_
      obtain ⟨r16, hX17, h⟩ := bd1_inv h
      refine g_callV C (c_X6_isSign l hX17) (cwVw 1 C.2.2.2.2.1 wl_1241 wl_1243 wl_64 wl_121 wl_1244 rfl rfl (by decide +kernel) ⟨Nat.le_of_ble_eq_true rfl, Nat.le_of_ble_eq_true rfl⟩) mO_0 rfl rfl rfl rfl (Nat.le_of_ble_eq_true rfl) dX6_not3_69 ?_
      refine g_if_ne (tgt := 77) C dX6_not3_72 (by decide) h (fun h => ?_) (fun h => ?_)
      · refine g_iload_n C dX6_not3_75 rfl 0 rfl ?_
        obtain ⟨rfl, rfl⟩ := sp_inj h
        exact g_iret C hr hlk dX6_not3_76 rfl
      · exact g_sub [1, 0] rfl (hJ8  h)
    · exact g_sub [1, 0] rfl (hJ8  h)
  · refine g_aload_n C dX6_not3_18 rfl 0 rfl ?_
    obtain ⟨r18, m20, hX19, h⟩ := bd2_inv h
    refine g_callV C (c_X6_opens l hX19) (cwVw 0 C.2.2.2.2.1 wl_1205 wl_1207 wl_55 wl_121 wl_1208 rfl rfl (by decide +kernel) ⟨Nat.le_of_ble_eq_true rfl, Nat.le_of_ble_eq_true rfl⟩) mO_0 rfl rfl rfl rfl (Nat.le_of_ble_eq_true rfl) dX6_not3_19 ?_
    refine g_if_ne (tgt := 27) C dX6_not3_22 (by decide) h (fun h => ?_) (fun h => ?_)
    · refine g_iconst (v := (0 : Int32)) C dX6_not3_25 (by decide) ?_
      obtain ⟨rfl, rfl⟩ := sp_inj h
      exact g_iret C hr hlk dX6_not3_26 rfl
    · refine g_aload_n C dX6_not3_27 rfl 0 rfl ?_
      obtain ⟨r21, m23, hX22, h⟩ := bd2_inv h
      refine g_callV C (c_X6_not4 l hX22) (cwVw 0 C.2.2.2.2.1 wl_1221 wl_1223 wl_59 wl_121 wl_1224 rfl rfl (by decide +kernel) ⟨Nat.le_of_ble_eq_true rfl, Nat.le_of_ble_eq_true rfl⟩) mO_0 rfl rfl rfl rfl (Nat.le_of_ble_eq_true rfl) dX6_not3_28 ?_
      refine g_istore_n (lv' := [(1, .int r21), (0, .ref (ad 0))]) C dX6_not3_31 rfl (by decide) rfl ?_
      refine g_aload_n C dX6_not3_32 rfl 1 rfl ?_
      refine g_dup C dX6_not3_33 rfl ?_
      refine g_get C (T := TX6) hcl6 mO_0 rfl (j := 31) (by decide) wl_950 (v := .int (rI m23 0 31)) rfl dX6_not3_34 ?_
      refine g_iconst (v := (1 : Int32)) C dX6_not3_37 (by decide) ?_
      refine g_isub C dX6_not3_38 ?_
      refine g_putI C (T := TX6) hcl6 mO_0 rfl (j := 31) (by decide) wl_950 tyX6 tyX6_ok nmX6 rfl rfl pfX6_31 (plX6 31 (by decide)) dX6_not3_39 h (fun m24 h => ?_)
      refine g_iload_n C dX6_not3_42 rfl 0 rfl ?_
      refine g_if_ne (tgt := 50) C dX6_not3_43 (by decide) h (fun h => ?_) (fun h => ?_)
      · refine g_iconst (v := (1 : Int32)) C dX6_not3_46 (by decide) ?_
        refine g_goto (tgt := 51) C dX6_not3_47 (by decide) ?_
        obtain ⟨rfl, rfl⟩ := sp_inj h
        exact g_iret C hr hlk dX6_not3_51 rfl
      · refine g_iconst (v := (0 : Int32)) C dX6_not3_50 (by decide) ?_
        obtain ⟨rfl, rfl⟩ := sp_inj h
        exact g_iret C hr hlk dX6_not3_51 rfl

def rmX6_both3 : Room := { frames := 20, cells := 0, slots := 0, locals := 443 }
set_option maxRecDepth 100000 in
set_option maxHeartbeats 4000000 in
theorem c_X6_both3 (l : Launch) {F : Nat}    {m : MM} {m' : MM} {r : Int32} (h : f_X6_both3 F m = some (r, m')) : CT l yX6_both3 cX6_both3 3 (some .int) rmX6_both3 cfM 23 (fun ad tb => [.ref (ad 0)]) m (some (.int r)) m' := by
  refine CT.of (cc := cX6_both3) (maxL := 3) (ret := (some .int)) (by decide) ⟨rfl, rfl⟩ (fun _ _ => Nat.le_of_ble_eq_true rfl) ?_
  intro p e s mt args below meth c D cA ad tb C hr hlk
  refine g_lv (lv' := [(0, .ref (ad 0))]) rfl ?_
  unfold f_X6_both3 at h
  refine g_aload_n C dX6_both3_0 rfl 0 rfl ?_
  obtain ⟨r1, m3, hX2, h⟩ := bd2_inv h
  refine g_callV C (c_X6_not3 l hX2) (cwVw 0 C.2.2.2.2.1 wl_1217 wl_1219 wl_58 wl_121 wl_1220 rfl rfl (by decide +kernel) ⟨Nat.le_of_ble_eq_true rfl, Nat.le_of_ble_eq_true rfl⟩) mO_0 rfl rfl rfl rfl (Nat.le_of_ble_eq_true rfl) dX6_both3_1 ?_
  refine g_istore_n (lv' := [(1, .int r1), (0, .ref (ad 0))]) C dX6_both3_4 rfl (by decide) rfl ?_
  refine g_sub [1, 0] rfl ?_
  refine g_loop_IM (L := f_X6_both3_L5 F) h 5 49 (fun x1_4 m5 => [(0, .ref (ad 0)), (1, .int x1_4)]) (fun x1_4 m5 => [(1, .int x1_4)]) (fun x1_4 m5 => []) (fun x1_4 m5 => []) ?_ ?_ (fun _ _ _ => rfl)
  · intro x1_4 m5 h
    refine g_iload_n C dX6_both3_49 rfl 0 rfl ?_
    obtain ⟨rfl, rfl⟩ := sp_inj h
    exact g_iret C hr hlk dX6_both3_50 rfl
  · intro K6 hK6 n ih x1_4 m5 h
    rw [f_X6_both3_L5] at h
    refine g_aload_n C dX6_both3_5 rfl 0 rfl ?_
    refine g_bipush (v := (97 : Int32)) C dX6_both3_6 (by decide) ?_
    refine g_bipush (v := (110 : Int32)) C dX6_both3_8 (by decide) ?_
    refine g_bipush (v := (100 : Int32)) C dX6_both3_10 (by decide) ?_
    refine g_iconst (v := (0 : Int32)) C dX6_both3_12 (by decide) ?_
    refine g_iconst (v := (0 : Int32)) C dX6_both3_13 (by decide) ?_
    refine g_iconst (v := (0 : Int32)) C dX6_both3_14 (by decide) ?_
    refine g_iconst (v := (0 : Int32)) C dX6_both3_15 (by decide) ?_
    refine g_iconst (v := (0 : Int32)) C dX6_both3_16 (by decide) ?_
    obtain ⟨r7, hX8, h⟩ := bd1_inv h
    refine g_callV C (c_X6_isWord l hX8) (cwVw 8 C.2.2.2.2.1 wl_1177 wl_1179 wl_48 wl_121 wl_1180 rfl rfl (by decide +kernel) ⟨Nat.le_of_ble_eq_true rfl, Nat.le_of_ble_eq_true rfl⟩) mO_0 rfl rfl rfl rfl (Nat.le_of_ble_eq_true rfl) dX6_both3_17 ?_
    refine g_if_eq (tgt := 49) C dX6_both3_20 (by decide) h (fun h => ?_) (fun h => ?_)
    · exact g_sub [1] rfl (hK6 _ _ h)
    · refine g_aload_n C dX6_both3_23 rfl 0 rfl ?_
      obtain ⟨m10, hX9, h⟩ := bd1_inv h
      refine g_callV C (c_X6_next l hX9) (cwVw 0 C.2.2.2.2.1 wl_1165 wl_1167 wl_46 wl_121 wl_1168 rfl rfl (by decide +kernel) ⟨Nat.le_of_ble_eq_true rfl, Nat.le_of_ble_eq_true rfl⟩) mO_0 rfl rfl rfl rfl (Nat.le_of_ble_eq_true rfl) dX6_both3_24 ?_
      refine g_aload_n C dX6_both3_27 rfl 0 rfl ?_
      obtain ⟨r11, m13, hX12, h⟩ := bd2_inv h
      refine g_callV C (c_X6_not3 l hX12) (cwVw 0 C.2.2.2.2.1 wl_1217 wl_1219 wl_58 wl_121 wl_1220 rfl rfl (by decide +kernel) ⟨Nat.le_of_ble_eq_true rfl, Nat.le_of_ble_eq_true rfl⟩) mO_0 rfl rfl rfl rfl (Nat.le_of_ble_eq_true rfl) dX6_both3_28 ?_
      refine g_istore_n (lv' := [(2, .int r11), (0, .ref (ad 0)), (1, .int x1_4)]) C dX6_both3_31 rfl (by decide) rfl ?_
      refine g_iload_n C dX6_both3_32 rfl 2 rfl ?_
      refine g_join_I h 45 (fun s14 => [(0, .ref (ad 0))]) (fun s14 => [.int s14]) ?_ ?_
      · intro s14 h
        refine g_istore_n (lv' := [(1, .int s14), (0, .ref (ad 0))]) C dX6_both3_45 rfl (by decide) rfl ?_
        refine g_goto (tgt := 5) C dX6_both3_46 (by decide) ?_
        exact g_sub [1, 0] rfl (ih _ _ h)
      intro J15 hJ15 h
      refine g_join_ h 44 ([(0, .ref (ad 0))]) ([]) ?_ ?_
      · intro h
        refine g_iconst (v := (0 : Int32)) C dX6_both3_44 (by decide) ?_
        exact g_sub [0] rfl (hJ15 _ h)
      intro J16 hJ16 h
      refine g_if_eq (tgt := 44) C dX6_both3_33 (by decide) h (fun h => ?_) (fun h => ?_)
      · exact g_sub [1] rfl (hJ16  h)
      · refine g_iload_n C dX6_both3_36 rfl 0 rfl ?_
        refine g_if_eq (tgt := 44) C dX6_both3_37 (by decide) h (fun h => ?_) (fun h => ?_)
        · exact g_sub [1] rfl (hJ16  h)
        · refine g_iconst (v := (1 : Int32)) C dX6_both3_40 (by decide) ?_
          refine g_goto (tgt := 45) C dX6_both3_41 (by decide) ?_
          exact g_sub [1] rfl (hJ15 _ h)

def rmX6_either3 : Room := { frames := 21, cells := 0, slots := 0, locals := 465 }
set_option maxRecDepth 100000 in
set_option maxHeartbeats 4000000 in
theorem c_X6_either3 (l : Launch) {F : Nat}    {m : MM} {m' : MM} {r : Int32} (h : f_X6_either3 F m = some (r, m')) : CT l yX6_either3 cX6_either3 3 (some .int) rmX6_either3 cfM 23 (fun ad tb => [.ref (ad 0)]) m (some (.int r)) m' := by
  refine CT.of (cc := cX6_either3) (maxL := 3) (ret := (some .int)) (by decide) ⟨rfl, rfl⟩ (fun _ _ => Nat.le_of_ble_eq_true rfl) ?_
  intro p e s mt args below meth c D cA ad tb C hr hlk
  refine g_lv (lv' := [(0, .ref (ad 0))]) rfl ?_
  unfold f_X6_either3 at h
  refine g_aload_n C dX6_either3_0 rfl 0 rfl ?_
  obtain ⟨r1, m3, hX2, h⟩ := bd2_inv h
  refine g_callV C (c_X6_both3 l hX2) (cwVw 0 C.2.2.2.2.1 wl_1307 wl_1309 wl_80 wl_121 wl_1310 rfl rfl (by decide +kernel) ⟨Nat.le_of_ble_eq_true rfl, Nat.le_of_ble_eq_true rfl⟩) mO_0 rfl rfl rfl rfl (Nat.le_of_ble_eq_true rfl) dX6_either3_1 ?_
  refine g_istore_n (lv' := [(1, .int r1), (0, .ref (ad 0))]) C dX6_either3_4 rfl (by decide) rfl ?_
  refine g_sub [1, 0] rfl ?_
  refine g_loop_IM (L := f_X6_either3_L5 F) h 5 48 (fun x1_4 m5 => [(0, .ref (ad 0)), (1, .int x1_4)]) (fun x1_4 m5 => [(1, .int x1_4)]) (fun x1_4 m5 => []) (fun x1_4 m5 => []) ?_ ?_ (fun _ _ _ => rfl)
  · intro x1_4 m5 h
    refine g_iload_n C dX6_either3_48 rfl 0 rfl ?_
    obtain ⟨rfl, rfl⟩ := sp_inj h
    exact g_iret C hr hlk dX6_either3_49 rfl
  · intro K6 hK6 n ih x1_4 m5 h
    rw [f_X6_either3_L5] at h
    refine g_aload_n C dX6_either3_5 rfl 0 rfl ?_
    refine g_bipush (v := (111 : Int32)) C dX6_either3_6 (by decide) ?_
    refine g_bipush (v := (114 : Int32)) C dX6_either3_8 (by decide) ?_
    refine g_iconst (v := (0 : Int32)) C dX6_either3_10 (by decide) ?_
    refine g_iconst (v := (0 : Int32)) C dX6_either3_11 (by decide) ?_
    refine g_iconst (v := (0 : Int32)) C dX6_either3_12 (by decide) ?_
    refine g_iconst (v := (0 : Int32)) C dX6_either3_13 (by decide) ?_
    refine g_iconst (v := (0 : Int32)) C dX6_either3_14 (by decide) ?_
    refine g_iconst (v := (0 : Int32)) C dX6_either3_15 (by decide) ?_
    obtain ⟨r7, hX8, h⟩ := bd1_inv h
    refine g_callV C (c_X6_isWord l hX8) (cwVw 8 C.2.2.2.2.1 wl_1177 wl_1179 wl_48 wl_121 wl_1180 rfl rfl (by decide +kernel) ⟨Nat.le_of_ble_eq_true rfl, Nat.le_of_ble_eq_true rfl⟩) mO_0 rfl rfl rfl rfl (Nat.le_of_ble_eq_true rfl) dX6_either3_16 ?_
    refine g_if_eq (tgt := 48) C dX6_either3_19 (by decide) h (fun h => ?_) (fun h => ?_)
    · exact g_sub [1] rfl (hK6 _ _ h)
    · refine g_aload_n C dX6_either3_22 rfl 0 rfl ?_
      obtain ⟨m10, hX9, h⟩ := bd1_inv h
      refine g_callV C (c_X6_next l hX9) (cwVw 0 C.2.2.2.2.1 wl_1165 wl_1167 wl_46 wl_121 wl_1168 rfl rfl (by decide +kernel) ⟨Nat.le_of_ble_eq_true rfl, Nat.le_of_ble_eq_true rfl⟩) mO_0 rfl rfl rfl rfl (Nat.le_of_ble_eq_true rfl) dX6_either3_23 ?_
      refine g_aload_n C dX6_either3_26 rfl 0 rfl ?_
      obtain ⟨r11, m13, hX12, h⟩ := bd2_inv h
      refine g_callV C (c_X6_both3 l hX12) (cwVw 0 C.2.2.2.2.1 wl_1307 wl_1309 wl_80 wl_121 wl_1310 rfl rfl (by decide +kernel) ⟨Nat.le_of_ble_eq_true rfl, Nat.le_of_ble_eq_true rfl⟩) mO_0 rfl rfl rfl rfl (Nat.le_of_ble_eq_true rfl) dX6_either3_27 ?_
      refine g_istore_n (lv' := [(2, .int r11), (0, .ref (ad 0)), (1, .int x1_4)]) C dX6_either3_30 rfl (by decide) rfl ?_
      refine g_iload_n C dX6_either3_31 rfl 2 rfl ?_
      refine g_join_I h 44 (fun s14 => [(0, .ref (ad 0))]) (fun s14 => [.int s14]) ?_ ?_
      · intro s14 h
        refine g_istore_n (lv' := [(1, .int s14), (0, .ref (ad 0))]) C dX6_either3_44 rfl (by decide) rfl ?_
        refine g_goto (tgt := 5) C dX6_either3_45 (by decide) ?_
        exact g_sub [1, 0] rfl (ih _ _ h)
      intro J15 hJ15 h
      refine g_join_ h 39 ([(0, .ref (ad 0))]) ([]) ?_ ?_
      · intro h
        refine g_iconst (v := (1 : Int32)) C dX6_either3_39 (by decide) ?_
        refine g_goto (tgt := 44) C dX6_either3_40 (by decide) ?_
        exact g_sub [0] rfl (hJ15 _ h)
      intro J16 hJ16 h
      refine g_if_ne (tgt := 39) C dX6_either3_32 (by decide) h (fun h => ?_) (fun h => ?_)
      · refine g_iload_n C dX6_either3_35 rfl 0 rfl ?_
        refine g_if_eq (tgt := 43) C dX6_either3_36 (by decide) h (fun h => ?_) (fun h => ?_)
        · refine g_iconst (v := (0 : Int32)) C dX6_either3_43 (by decide) ?_
          exact g_sub [1] rfl (hJ15 _ h)
        · exact g_sub [1] rfl (hJ16  h)
      · exact g_sub [1] rfl (hJ16  h)

def rmX6_atom2 : Room := { frames := 22, cells := 0, slots := 0, locals := 487 }
set_option maxRecDepth 100000 in
set_option maxHeartbeats 4000000 in
theorem c_X6_atom2 (l : Launch) {F : Nat}    {m : MM} {m' : MM} {r : Int32} (h : f_X6_atom2 F m = some (r, m')) : CT l yX6_atom2 cX6_atom2 2 (some .int) rmX6_atom2 cfM 23 (fun ad tb => [.ref (ad 0)]) m (some (.int r)) m' := by
  refine CT.of (cc := cX6_atom2) (maxL := 2) (ret := (some .int)) (by decide) ⟨rfl, rfl⟩ (fun _ _ => Nat.le_of_ble_eq_true rfl) ?_
  intro p e s mt args below meth c D cA ad tb C hr hlk
  refine g_lv (lv' := [(0, .ref (ad 0))]) rfl ?_
  have hcl6 : ∀ w ∈ wsX60, w.before args s = true := fun w hw => C.2.2.2.2.1 w (inlX6 w hw)
  unfold f_X6_atom2 at h
  refine g_iconst (v := (0 : Int32)) C dX6_atom2_0 (by decide) ?_
  refine g_istore_n (lv' := [(1, .int (0 : Int32)), (0, .ref (ad 0))]) C dX6_atom2_1 rfl (by decide) rfl ?_
  refine g_aload_n C dX6_atom2_2 rfl 1 rfl ?_
  refine g_bipush (v := (45 : Int32)) C dX6_atom2_3 (by decide) ?_
  obtain ⟨r1, hX2, h⟩ := bd1_inv h
  refine g_callV C (c_X6_isSign l hX2) (cwVw 1 C.2.2.2.2.1 wl_1241 wl_1243 wl_64 wl_121 wl_1244 rfl rfl (by decide +kernel) ⟨Nat.le_of_ble_eq_true rfl, Nat.le_of_ble_eq_true rfl⟩) mO_0 rfl rfl rfl rfl (Nat.le_of_ble_eq_true rfl) dX6_atom2_5 ?_
  refine g_if_eq (tgt := 37) C dX6_atom2_8 (by decide) h (fun h => ?_) (fun h => ?_)
  · refine g_aload_n C dX6_atom2_37 rfl 1 rfl ?_
    refine g_bipush (v := (40 : Int32)) C dX6_atom2_38 (by decide) ?_
    obtain ⟨r3, hX4, h⟩ := bd1_inv h
    refine g_callV C (c_X6_isSign l hX4) (cwVw 1 C.2.2.2.2.1 wl_1241 wl_1243 wl_64 wl_121 wl_1244 rfl rfl (by decide +kernel) ⟨Nat.le_of_ble_eq_true rfl, Nat.le_of_ble_eq_true rfl⟩) mO_0 rfl rfl rfl rfl (Nat.le_of_ble_eq_true rfl) dX6_atom2_40 ?_
    refine g_if_eq (tgt := 95) C dX6_atom2_43 (by decide) h (fun h => ?_) (fun h => ?_)
    · refine g_aload_n C dX6_atom2_95 rfl 1 rfl ?_
      refine g_get C (T := TX6) hcl6 mO_0 rfl (j := 32) (by decide) wl_951 (v := .int (rI m 0 32)) rfl dX6_atom2_96 ?_
      refine g_join_ h 123 ([(0, .ref (ad 0)), (1, .int (0 : Int32))]) ([]) ?_ ?_
      · intro h
        refine g_aload_n C dX6_atom2_123 rfl 0 rfl ?_
        refine g_get C (T := TX6) hcl6 mO_0 rfl (j := 32) (by decide) wl_951 (v := .int (rI m 0 32)) rfl dX6_atom2_124 ?_
        refine g_join_ h 157 ([(0, .ref (ad 0)), (1, .int (0 : Int32))]) ([]) ?_ ?_
        · intro h
          refine g_aload_n C dX6_atom2_157 rfl 0 rfl ?_
          obtain ⟨m8, hX7, h⟩ := bd1_inv h
          refine g_callV C (c_X6_fail l hX7) (cwVw 0 C.2.2.2.2.1 wl_1189 wl_1191 wl_51 wl_121 wl_1192 rfl rfl (by decide +kernel) ⟨Nat.le_of_ble_eq_true rfl, Nat.le_of_ble_eq_true rfl⟩) mO_0 rfl rfl rfl rfl (Nat.le_of_ble_eq_true rfl) dX6_atom2_158 ?_
          refine g_iload_n C dX6_atom2_161 rfl 1 rfl ?_
          obtain ⟨rfl, rfl⟩ := sp_inj h
          exact g_iret C hr hlk dX6_atom2_162 rfl
        intro J6 hJ6 h
        refine g_if_ne (tgt := 157) C dX6_atom2_127 (by decide) h (fun h => ?_) (fun h => ?_)
        · refine g_aload_n C dX6_atom2_130 rfl 0 rfl ?_
          refine g_get C (T := TX6) hcl6 mO_0 rfl (j := 28) (by decide) wl_947 (v := .int (rI m 0 28)) rfl dX6_atom2_131 ?_
          refine g_iconst (v := (1 : Int32)) C dX6_atom2_134 (by decide) ?_
          refine g_icmp_ne (tgt := 157) C dX6_atom2_135 (by decide) h (fun h => ?_) (fun h => ?_)
          · refine g_aload_n C dX6_atom2_138 rfl 0 rfl ?_
            obtain ⟨r9, m11, hX10, h⟩ := bd2_inv h
            refine g_callV C (c_X6_name l hX10) (cwVw 0 C.2.2.2.2.1 wl_1245 wl_1247 wl_65 wl_121 wl_1248 rfl rfl (by decide +kernel) ⟨Nat.le_of_ble_eq_true rfl, Nat.le_of_ble_eq_true rfl⟩) mO_0 rfl rfl rfl rfl (Nat.le_of_ble_eq_true rfl) dX6_atom2_139 ?_
            refine g_istore_n (lv' := [(1, .int r9), (0, .ref (ad 0))]) C dX6_atom2_142 rfl (by decide) rfl ?_
            refine g_aload_n C dX6_atom2_143 rfl 1 rfl ?_
            refine g_get C (T := TX6) hcl6 mO_0 rfl (j := 32) (by decide) wl_951 (v := .int (rI m11 0 32)) rfl dX6_atom2_144 ?_
            refine g_if_ne (tgt := 161) C dX6_atom2_147 (by decide) h (fun h => ?_) (fun h => ?_)
            · refine g_aload_n C dX6_atom2_150 rfl 1 rfl ?_
              obtain ⟨m13, hX12, h⟩ := bd1_inv h
              refine g_callV C (c_X6_next l hX12) (cwVw 0 C.2.2.2.2.1 wl_1165 wl_1167 wl_46 wl_121 wl_1168 rfl rfl (by decide +kernel) ⟨Nat.le_of_ble_eq_true rfl, Nat.le_of_ble_eq_true rfl⟩) mO_0 rfl rfl rfl rfl (Nat.le_of_ble_eq_true rfl) dX6_atom2_151 ?_
              refine g_goto (tgt := 161) C dX6_atom2_154 (by decide) ?_
              refine g_iload_n C dX6_atom2_161 rfl 0 rfl ?_
              obtain ⟨rfl, rfl⟩ := sp_inj h
              exact g_iret C hr hlk dX6_atom2_162 rfl
            · refine g_iload_n C dX6_atom2_161 rfl 0 rfl ?_
              obtain ⟨rfl, rfl⟩ := sp_inj h
              exact g_iret C hr hlk dX6_atom2_162 rfl
          · exact g_sub [0, 1] rfl (hJ6  h)
        · exact g_sub [0, 1] rfl (hJ6  h)
      intro J5 hJ5 h
      refine g_if_ne (tgt := 123) C dX6_atom2_99 (by decide) h (fun h => ?_) (fun h => ?_)
      · refine g_aload_n C dX6_atom2_102 rfl 1 rfl ?_
        refine g_get C (T := TX6) hcl6 mO_0 rfl (j := 28) (by decide) wl_947 (v := .int (rI m 0 28)) rfl dX6_atom2_103 ?_
        refine g_iconst (v := (2 : Int32)) C dX6_atom2_106 (by decide) ?_
        refine g_icmp_ne (tgt := 123) C dX6_atom2_107 (by decide) h (fun h => ?_) (fun h => ?_)
        · refine g_aload_n C dX6_atom2_110 rfl 1 rfl ?_
          refine g_get C (T := TX6) hcl6 mO_0 rfl (j := 30) (by decide) wl_949 (v := .long (rL m 0 30)) rfl dX6_atom2_111 ?_
          refine g_l2i C dX6_atom2_114 ?_
          refine nm_i h (fun x1_14 h => ?_)
          refine g_istore_n (lv' := [(1, .int x1_14), (0, .ref (ad 0))]) C dX6_atom2_115 rfl (by decide) rfl ?_
          refine g_aload_n C dX6_atom2_116 rfl 1 rfl ?_
          obtain ⟨m16, hX15, h⟩ := bd1_inv h
          refine g_callV C (c_X6_next l hX15) (cwVw 0 C.2.2.2.2.1 wl_1165 wl_1167 wl_46 wl_121 wl_1168 rfl rfl (by decide +kernel) ⟨Nat.le_of_ble_eq_true rfl, Nat.le_of_ble_eq_true rfl⟩) mO_0 rfl rfl rfl rfl (Nat.le_of_ble_eq_true rfl) dX6_atom2_117 ?_
          refine g_goto (tgt := 161) C dX6_atom2_120 (by decide) ?_
          refine g_iload_n C dX6_atom2_161 rfl 0 rfl ?_
          obtain ⟨rfl, rfl⟩ := sp_inj h
          exact g_iret C hr hlk dX6_atom2_162 rfl
        · exact g_sub [1, 0] rfl (hJ5  h)
      · exact g_sub [1, 0] rfl (hJ5  h)
    · refine g_aload_n C dX6_atom2_46 rfl 1 rfl ?_
      obtain ⟨r17, m19, hX18, h⟩ := bd2_inv h
      refine g_callV C (c_X6_opens l hX18) (cwVw 0 C.2.2.2.2.1 wl_1205 wl_1207 wl_55 wl_121 wl_1208 rfl rfl (by decide +kernel) ⟨Nat.le_of_ble_eq_true rfl, Nat.le_of_ble_eq_true rfl⟩) mO_0 rfl rfl rfl rfl (Nat.le_of_ble_eq_true rfl) dX6_atom2_47 ?_
      refine g_if_eq (tgt := 161) C dX6_atom2_50 (by decide) h (fun h => ?_) (fun h => ?_)
      · refine g_iload_n C dX6_atom2_161 rfl 0 rfl ?_
        obtain ⟨rfl, rfl⟩ := sp_inj h
        exact g_iret C hr hlk dX6_atom2_162 rfl
      · refine g_aload_n C dX6_atom2_53 rfl 1 rfl ?_
        obtain ⟨r20, m22, hX21, h⟩ := bd2_inv h
        refine g_callV C (c_X6_either3 l hX21) (cwVw 0 C.2.2.2.2.1 wl_1303 wl_1305 wl_79 wl_121 wl_1306 rfl rfl (by decide +kernel) ⟨Nat.le_of_ble_eq_true rfl, Nat.le_of_ble_eq_true rfl⟩) mO_0 rfl rfl rfl rfl (Nat.le_of_ble_eq_true rfl) dX6_atom2_54 ?_
        refine g_istore_n (lv' := [(1, .int r20), (0, .ref (ad 0))]) C dX6_atom2_57 rfl (by decide) rfl ?_
        refine g_aload_n C dX6_atom2_58 rfl 1 rfl ?_
        refine g_bipush (v := (41 : Int32)) C dX6_atom2_59 (by decide) ?_
        obtain ⟨r23, hX24, h⟩ := bd1_inv h
        refine g_callV C (c_X6_isSign l hX24) (cwVw 1 C.2.2.2.2.1 wl_1241 wl_1243 wl_64 wl_121 wl_1244 rfl rfl (by decide +kernel) ⟨Nat.le_of_ble_eq_true rfl, Nat.le_of_ble_eq_true rfl⟩) mO_0 rfl rfl rfl rfl (Nat.le_of_ble_eq_true rfl) dX6_atom2_61 ?_
        refine g_join_M h 71 (fun m25 => [(0, .ref (ad 0)), (1, .int r20)]) (fun m25 => []) ?_ ?_
        · intro m25 h
          refine g_aload_n C dX6_atom2_71 rfl 0 rfl ?_
          refine g_dup C dX6_atom2_72 rfl ?_
          refine g_get C (T := TX6) hcl6 mO_0 rfl (j := 31) (by decide) wl_950 (v := .int (rI m25 0 31)) rfl dX6_atom2_73 ?_
          refine g_iconst (v := (1 : Int32)) C dX6_atom2_76 (by decide) ?_
          refine g_isub C dX6_atom2_77 ?_
          refine g_putI C (T := TX6) hcl6 mO_0 rfl (j := 31) (by decide) wl_950 tyX6 tyX6_ok nmX6 rfl rfl pfX6_31 (plX6 31 (by decide)) dX6_atom2_78 h (fun m27 h => ?_)
          refine g_aload_n C dX6_atom2_81 rfl 0 rfl ?_
          refine g_get C (T := TX6) hcl6 mO_0 rfl (j := 32) (by decide) wl_951 (v := .int (rI m27 0 32)) rfl dX6_atom2_82 ?_
          refine g_if_ne (tgt := 161) C dX6_atom2_85 (by decide) h (fun h => ?_) (fun h => ?_)
          · refine g_aload_n C dX6_atom2_88 rfl 0 rfl ?_
            obtain ⟨m29, hX28, h⟩ := bd1_inv h
            refine g_callV C (c_X6_next l hX28) (cwVw 0 C.2.2.2.2.1 wl_1165 wl_1167 wl_46 wl_121 wl_1168 rfl rfl (by decide +kernel) ⟨Nat.le_of_ble_eq_true rfl, Nat.le_of_ble_eq_true rfl⟩) mO_0 rfl rfl rfl rfl (Nat.le_of_ble_eq_true rfl) dX6_atom2_89 ?_
            refine g_goto (tgt := 161) C dX6_atom2_92 (by decide) ?_
            refine g_iload_n C dX6_atom2_161 rfl 1 rfl ?_
            obtain ⟨rfl, rfl⟩ := sp_inj h
            exact g_iret C hr hlk dX6_atom2_162 rfl
          · refine g_iload_n C dX6_atom2_161 rfl 1 rfl ?_
            obtain ⟨rfl, rfl⟩ := sp_inj h
            exact g_iret C hr hlk dX6_atom2_162 rfl
        intro J26 hJ26 h
        refine g_if_ne (tgt := 71) C dX6_atom2_64 (by decide) h (fun h => ?_) (fun h => ?_)
        · refine g_aload_n C dX6_atom2_67 rfl 1 rfl ?_
          obtain ⟨m31, hX30, h⟩ := bd1_inv h
          refine g_callV C (c_X6_fail l hX30) (cwVw 0 C.2.2.2.2.1 wl_1189 wl_1191 wl_51 wl_121 wl_1192 rfl rfl (by decide +kernel) ⟨Nat.le_of_ble_eq_true rfl, Nat.le_of_ble_eq_true rfl⟩) mO_0 rfl rfl rfl rfl (Nat.le_of_ble_eq_true rfl) dX6_atom2_68 ?_
          exact g_sub [1, 0] rfl (hJ26 _ h)
        · exact g_sub [1, 0] rfl (hJ26 _ h)
  · refine g_aload_n C dX6_atom2_11 rfl 1 rfl ?_
    obtain ⟨r32, m34, hX33, h⟩ := bd2_inv h
    refine g_callV C (c_X6_opens l hX33) (cwVw 0 C.2.2.2.2.1 wl_1205 wl_1207 wl_55 wl_121 wl_1208 rfl rfl (by decide +kernel) ⟨Nat.le_of_ble_eq_true rfl, Nat.le_of_ble_eq_true rfl⟩) mO_0 rfl rfl rfl rfl (Nat.le_of_ble_eq_true rfl) dX6_atom2_12 ?_
    refine g_if_eq (tgt := 161) C dX6_atom2_15 (by decide) h (fun h => ?_) (fun h => ?_)
    · refine g_iload_n C dX6_atom2_161 rfl 0 rfl ?_
      obtain ⟨rfl, rfl⟩ := sp_inj h
      exact g_iret C hr hlk dX6_atom2_162 rfl
    · refine g_aload_n C dX6_atom2_18 rfl 1 rfl ?_
      obtain ⟨r35, m37, hX36, h⟩ := bd2_inv h
      refine g_callV C (c_X6_atom3 l hX36) (cwVw 0 C.2.2.2.2.1 wl_1279 wl_1281 wl_73 wl_121 wl_1282 rfl rfl (by decide +kernel) ⟨Nat.le_of_ble_eq_true rfl, Nat.le_of_ble_eq_true rfl⟩) mO_0 rfl rfl rfl rfl (Nat.le_of_ble_eq_true rfl) dX6_atom2_19 ?_
      refine g_ineg C dX6_atom2_22 ?_
      refine g_istore_n (lv' := [(1, .int (-r35)), (0, .ref (ad 0))]) C dX6_atom2_23 rfl (by decide) rfl ?_
      refine g_aload_n C dX6_atom2_24 rfl 1 rfl ?_
      refine g_dup C dX6_atom2_25 rfl ?_
      refine g_get C (T := TX6) hcl6 mO_0 rfl (j := 31) (by decide) wl_950 (v := .int (rI m37 0 31)) rfl dX6_atom2_26 ?_
      refine g_iconst (v := (1 : Int32)) C dX6_atom2_29 (by decide) ?_
      refine g_isub C dX6_atom2_30 ?_
      refine g_putI C (T := TX6) hcl6 mO_0 rfl (j := 31) (by decide) wl_950 tyX6 tyX6_ok nmX6 rfl rfl pfX6_31 (plX6 31 (by decide)) dX6_atom2_31 h (fun m38 h => ?_)
      refine g_goto (tgt := 161) C dX6_atom2_34 (by decide) ?_
      refine g_iload_n C dX6_atom2_161 rfl 0 rfl ?_
      obtain ⟨rfl, rfl⟩ := sp_inj h
      exact g_iret C hr hlk dX6_atom2_162 rfl

def rmX6_term2 : Room := { frames := 23, cells := 0, slots := 0, locals := 508 }
set_option maxRecDepth 100000 in
set_option maxHeartbeats 4000000 in
theorem c_X6_term2 (l : Launch) {F : Nat}    {m : MM} {m' : MM} {r : Int32} (h : f_X6_term2 F m = some (r, m')) : CT l yX6_term2 cX6_term2 2 (some .int) rmX6_term2 cfM 23 (fun ad tb => [.ref (ad 0)]) m (some (.int r)) m' := by
  refine CT.of (cc := cX6_term2) (maxL := 2) (ret := (some .int)) (by decide) ⟨rfl, rfl⟩ (fun _ _ => Nat.le_of_ble_eq_true rfl) ?_
  intro p e s mt args below meth c D cA ad tb C hr hlk
  refine g_lv (lv' := [(0, .ref (ad 0))]) rfl ?_
  unfold f_X6_term2 at h
  refine g_aload_n C dX6_term2_0 rfl 0 rfl ?_
  obtain ⟨r1, m3, hX2, h⟩ := bd2_inv h
  refine g_callV C (c_X6_atom2 l hX2) (cwVw 0 C.2.2.2.2.1 wl_1299 wl_1301 wl_78 wl_121 wl_1302 rfl rfl (by decide +kernel) ⟨Nat.le_of_ble_eq_true rfl, Nat.le_of_ble_eq_true rfl⟩) mO_0 rfl rfl rfl rfl (Nat.le_of_ble_eq_true rfl) dX6_term2_1 ?_
  refine g_istore_n (lv' := [(1, .int r1), (0, .ref (ad 0))]) C dX6_term2_4 rfl (by decide) rfl ?_
  refine g_sub [1, 0] rfl ?_
  refine g_loop_IM (L := f_X6_term2_L5 F) h 5 28 (fun x1_4 m5 => [(0, .ref (ad 0)), (1, .int x1_4)]) (fun x1_4 m5 => [(1, .int x1_4)]) (fun x1_4 m5 => []) (fun x1_4 m5 => []) ?_ ?_ (fun _ _ _ => rfl)
  · intro x1_4 m5 h
    refine g_iload_n C dX6_term2_28 rfl 0 rfl ?_
    obtain ⟨rfl, rfl⟩ := sp_inj h
    exact g_iret C hr hlk dX6_term2_29 rfl
  · intro K6 hK6 n ih x1_4 m5 h
    rw [f_X6_term2_L5] at h
    refine g_aload_n C dX6_term2_5 rfl 0 rfl ?_
    refine g_bipush (v := (42 : Int32)) C dX6_term2_6 (by decide) ?_
    obtain ⟨r7, hX8, h⟩ := bd1_inv h
    refine g_callV C (c_X6_isSign l hX8) (cwVw 1 C.2.2.2.2.1 wl_1241 wl_1243 wl_64 wl_121 wl_1244 rfl rfl (by decide +kernel) ⟨Nat.le_of_ble_eq_true rfl, Nat.le_of_ble_eq_true rfl⟩) mO_0 rfl rfl rfl rfl (Nat.le_of_ble_eq_true rfl) dX6_term2_8 ?_
    refine g_if_eq (tgt := 28) C dX6_term2_11 (by decide) h (fun h => ?_) (fun h => ?_)
    · exact g_sub [1] rfl (hK6 _ _ h)
    · refine g_aload_n C dX6_term2_14 rfl 0 rfl ?_
      obtain ⟨m10, hX9, h⟩ := bd1_inv h
      refine g_callV C (c_X6_next l hX9) (cwVw 0 C.2.2.2.2.1 wl_1165 wl_1167 wl_46 wl_121 wl_1168 rfl rfl (by decide +kernel) ⟨Nat.le_of_ble_eq_true rfl, Nat.le_of_ble_eq_true rfl⟩) mO_0 rfl rfl rfl rfl (Nat.le_of_ble_eq_true rfl) dX6_term2_15 ?_
      refine g_iload_n C dX6_term2_18 rfl 1 rfl ?_
      refine g_aload_n C dX6_term2_19 rfl 0 rfl ?_
      obtain ⟨r11, m13, hX12, h⟩ := bd2_inv h
      refine g_callV C (c_X6_atom2 l hX12) (cwVw 0 C.2.2.2.2.1 wl_1299 wl_1301 wl_78 wl_121 wl_1302 rfl rfl (by decide +kernel) ⟨Nat.le_of_ble_eq_true rfl, Nat.le_of_ble_eq_true rfl⟩) mO_0 rfl rfl rfl rfl (Nat.le_of_ble_eq_true rfl) dX6_term2_20 ?_
      refine g_imul C dX6_term2_23 ?_
      refine nm_i h (fun x1_14 h => ?_)
      refine g_istore_n (lv' := [(1, .int x1_14), (0, .ref (ad 0))]) C dX6_term2_24 rfl (by decide) rfl ?_
      refine g_goto (tgt := 5) C dX6_term2_25 (by decide) ?_
      exact g_sub [1, 0] rfl (ih _ _ h)

def rmX6_added2 : Room := { frames := 24, cells := 0, slots := 0, locals := 529 }
set_option maxRecDepth 100000 in
set_option maxHeartbeats 4000000 in
theorem c_X6_added2 (l : Launch) {F : Nat}    {m : MM} {m' : MM} {r : Int32} (h : f_X6_added2 F m = some (r, m')) : CT l yX6_added2 cX6_added2 4 (some .int) rmX6_added2 cfM 23 (fun ad tb => [.ref (ad 0)]) m (some (.int r)) m' := by
  refine CT.of (cc := cX6_added2) (maxL := 4) (ret := (some .int)) (by decide) ⟨rfl, rfl⟩ (fun _ _ => Nat.le_of_ble_eq_true rfl) ?_
  intro p e s mt args below meth c D cA ad tb C hr hlk
  refine g_lv (lv' := [(0, .ref (ad 0))]) rfl ?_
  have hcl6 : ∀ w ∈ wsX60, w.before args s = true := fun w hw => C.2.2.2.2.1 w (inlX6 w hw)
  unfold f_X6_added2 at h
  refine g_aload_n C dX6_added2_0 rfl 0 rfl ?_
  obtain ⟨r1, m3, hX2, h⟩ := bd2_inv h
  refine g_callV C (c_X6_term2 l hX2) (cwVw 0 C.2.2.2.2.1 wl_1295 wl_1297 wl_77 wl_121 wl_1298 rfl rfl (by decide +kernel) ⟨Nat.le_of_ble_eq_true rfl, Nat.le_of_ble_eq_true rfl⟩) mO_0 rfl rfl rfl rfl (Nat.le_of_ble_eq_true rfl) dX6_added2_1 ?_
  refine g_istore_n (lv' := [(1, .int r1), (0, .ref (ad 0))]) C dX6_added2_4 rfl (by decide) rfl ?_
  refine g_sub [1, 0] rfl ?_
  refine g_loop_IM (L := f_X6_added2_L5 F) h 5 66 (fun x1_4 m5 => [(0, .ref (ad 0)), (1, .int x1_4)]) (fun x1_4 m5 => [(1, .int x1_4)]) (fun x1_4 m5 => []) (fun x1_4 m5 => []) ?_ ?_ (fun _ _ _ => rfl)
  · intro x1_4 m5 h
    refine g_iload_n C dX6_added2_66 rfl 0 rfl ?_
    obtain ⟨rfl, rfl⟩ := sp_inj h
    exact g_iret C hr hlk dX6_added2_67 rfl
  · intro K6 hK6 n ih x1_4 m5 h
    rw [f_X6_added2_L5] at h
    refine g_aload_n C dX6_added2_5 rfl 0 rfl ?_
    refine g_bipush (v := (43 : Int32)) C dX6_added2_6 (by decide) ?_
    obtain ⟨r7, hX8, h⟩ := bd1_inv h
    refine g_callV C (c_X6_isSign l hX8) (cwVw 1 C.2.2.2.2.1 wl_1241 wl_1243 wl_64 wl_121 wl_1244 rfl rfl (by decide +kernel) ⟨Nat.le_of_ble_eq_true rfl, Nat.le_of_ble_eq_true rfl⟩) mO_0 rfl rfl rfl rfl (Nat.le_of_ble_eq_true rfl) dX6_added2_8 ?_
    refine g_join_ h 23 ([(0, .ref (ad 0)), (1, .int x1_4)]) ([]) ?_ ?_
    · intro h
      refine g_aload_n C dX6_added2_23 rfl 0 rfl ?_
      refine g_get C (T := TX6) hcl6 mO_0 rfl (j := 30) (by decide) wl_949 (v := .long (rL m5 0 30)) rfl dX6_added2_24 ?_
      refine g_ldc2 (v := (43 : Int64)) C dX6_added2_27 wl_1249 ?_
      refine g_lcmp C dX6_added2_30 ?_
      refine g_join_I h 39 (fun s10 => [(0, .ref (ad 0)), (1, .int x1_4)]) (fun s10 => [.int s10]) ?_ ?_
      · intro s10 h
        refine g_istore_n (lv' := [(2, .int s10), (0, .ref (ad 0)), (1, .int x1_4)]) C dX6_added2_39 rfl (by decide) rfl ?_
        refine g_aload_n C dX6_added2_40 rfl 1 rfl ?_
        obtain ⟨m13, hX12, h⟩ := bd1_inv h
        refine g_callV C (c_X6_next l hX12) (cwVw 0 C.2.2.2.2.1 wl_1165 wl_1167 wl_46 wl_121 wl_1168 rfl rfl (by decide +kernel) ⟨Nat.le_of_ble_eq_true rfl, Nat.le_of_ble_eq_true rfl⟩) mO_0 rfl rfl rfl rfl (Nat.le_of_ble_eq_true rfl) dX6_added2_41 ?_
        refine g_aload_n C dX6_added2_44 rfl 1 rfl ?_
        obtain ⟨r14, m16, hX15, h⟩ := bd2_inv h
        refine g_callV C (c_X6_term2 l hX15) (cwVw 0 C.2.2.2.2.1 wl_1295 wl_1297 wl_77 wl_121 wl_1298 rfl rfl (by decide +kernel) ⟨Nat.le_of_ble_eq_true rfl, Nat.le_of_ble_eq_true rfl⟩) mO_0 rfl rfl rfl rfl (Nat.le_of_ble_eq_true rfl) dX6_added2_45 ?_
        refine g_istore_n (lv' := [(3, .int r14), (2, .int s10), (0, .ref (ad 0)), (1, .int x1_4)]) C dX6_added2_48 rfl (by decide) rfl ?_
        refine g_iload_n C dX6_added2_49 rfl 1 rfl ?_
        refine g_join_I h 62 (fun s17 => [(0, .ref (ad 0))]) (fun s17 => [.int s17]) ?_ ?_
        · intro s17 h
          refine g_istore_n (lv' := [(1, .int s17), (0, .ref (ad 0))]) C dX6_added2_62 rfl (by decide) rfl ?_
          refine g_goto (tgt := 5) C dX6_added2_63 (by decide) ?_
          exact g_sub [1, 0] rfl (ih _ _ h)
        intro J18 hJ18 h
        refine g_if_eq (tgt := 59) C dX6_added2_50 (by decide) h (fun h => ?_) (fun h => ?_)
        · refine g_iload_n C dX6_added2_59 rfl 3 rfl ?_
          refine g_iload_n C dX6_added2_60 rfl 0 rfl ?_
          refine g_isub C dX6_added2_61 ?_
          exact g_sub [2] rfl (hJ18 _ h)
        · refine g_iload_n C dX6_added2_53 rfl 3 rfl ?_
          refine g_iload_n C dX6_added2_54 rfl 0 rfl ?_
          refine g_iadd C dX6_added2_55 ?_
          refine g_goto (tgt := 62) C dX6_added2_56 (by decide) ?_
          exact g_sub [2] rfl (hJ18 _ h)
      intro J11 hJ11 h
      refine g_if_ne (tgt := 38) C dX6_added2_31 (by decide) h (fun h => ?_) (fun h => ?_)
      · refine g_iconst (v := (1 : Int32)) C dX6_added2_34 (by decide) ?_
        refine g_goto (tgt := 39) C dX6_added2_35 (by decide) ?_
        exact g_sub [0, 1] rfl (hJ11 _ h)
      · refine g_iconst (v := (0 : Int32)) C dX6_added2_38 (by decide) ?_
        exact g_sub [0, 1] rfl (hJ11 _ h)
    intro J9 hJ9 h
    refine g_if_ne (tgt := 23) C dX6_added2_11 (by decide) h (fun h => ?_) (fun h => ?_)
    · refine g_aload_n C dX6_added2_14 rfl 0 rfl ?_
      refine g_bipush (v := (45 : Int32)) C dX6_added2_15 (by decide) ?_
      obtain ⟨r19, hX20, h⟩ := bd1_inv h
      refine g_callV C (c_X6_isSign l hX20) (cwVw 1 C.2.2.2.2.1 wl_1241 wl_1243 wl_64 wl_121 wl_1244 rfl rfl (by decide +kernel) ⟨Nat.le_of_ble_eq_true rfl, Nat.le_of_ble_eq_true rfl⟩) mO_0 rfl rfl rfl rfl (Nat.le_of_ble_eq_true rfl) dX6_added2_17 ?_
      refine g_if_eq (tgt := 66) C dX6_added2_20 (by decide) h (fun h => ?_) (fun h => ?_)
      · exact g_sub [1] rfl (hK6 _ _ h)
      · exact g_sub [0, 1] rfl (hJ9  h)
    · exact g_sub [0, 1] rfl (hJ9  h)

def rmX6_not2 : Room := { frames := 25, cells := 0, slots := 0, locals := 552 }
set_option maxRecDepth 100000 in
set_option maxHeartbeats 4000000 in
theorem c_X6_not2 (l : Launch) {F : Nat}    {m : MM} {m' : MM} {r : Int32} (h : f_X6_not2 F m = some (r, m')) : CT l yX6_not2 cX6_not2 4 (some .int) rmX6_not2 cfM 23 (fun ad tb => [.ref (ad 0)]) m (some (.int r)) m' := by
  refine CT.of (cc := cX6_not2) (maxL := 4) (ret := (some .int)) (by decide) ⟨rfl, rfl⟩ (fun _ _ => Nat.le_of_ble_eq_true rfl) ?_
  intro p e s mt args below meth c D cA ad tb C hr hlk
  refine g_lv (lv' := [(0, .ref (ad 0))]) rfl ?_
  have hcl6 : ∀ w ∈ wsX60, w.before args s = true := fun w hw => C.2.2.2.2.1 w (inlX6 w hw)
  unfold f_X6_not2 at h
  refine g_aload_n C dX6_not2_0 rfl 0 rfl ?_
  refine g_bipush (v := (110 : Int32)) C dX6_not2_1 (by decide) ?_
  refine g_bipush (v := (111 : Int32)) C dX6_not2_3 (by decide) ?_
  refine g_bipush (v := (116 : Int32)) C dX6_not2_5 (by decide) ?_
  refine g_iconst (v := (0 : Int32)) C dX6_not2_7 (by decide) ?_
  refine g_iconst (v := (0 : Int32)) C dX6_not2_8 (by decide) ?_
  refine g_iconst (v := (0 : Int32)) C dX6_not2_9 (by decide) ?_
  refine g_iconst (v := (0 : Int32)) C dX6_not2_10 (by decide) ?_
  refine g_iconst (v := (0 : Int32)) C dX6_not2_11 (by decide) ?_
  obtain ⟨r1, hX2, h⟩ := bd1_inv h
  refine g_callV C (c_X6_isWord l hX2) (cwVw 8 C.2.2.2.2.1 wl_1177 wl_1179 wl_48 wl_121 wl_1180 rfl rfl (by decide +kernel) ⟨Nat.le_of_ble_eq_true rfl, Nat.le_of_ble_eq_true rfl⟩) mO_0 rfl rfl rfl rfl (Nat.le_of_ble_eq_true rfl) dX6_not2_12 ?_
  refine g_if_eq (tgt := 52) C dX6_not2_15 (by decide) h (fun h => ?_) (fun h => ?_)
  · refine g_aload_n C dX6_not2_52 rfl 0 rfl ?_
    obtain ⟨r3, m5, hX4, h⟩ := bd2_inv h
    refine g_callV C (c_X6_added2 l hX4) (cwVw 0 C.2.2.2.2.1 wl_1291 wl_1293 wl_76 wl_121 wl_1294 rfl rfl (by decide +kernel) ⟨Nat.le_of_ble_eq_true rfl, Nat.le_of_ble_eq_true rfl⟩) mO_0 rfl rfl rfl rfl (Nat.le_of_ble_eq_true rfl) dX6_not2_53 ?_
    refine g_istore_n (lv' := [(1, .int r3), (0, .ref (ad 0))]) C dX6_not2_56 rfl (by decide) rfl ?_
    refine g_aload_n C dX6_not2_57 rfl 1 rfl ?_
    refine g_bipush (v := (60 : Int32)) C dX6_not2_58 (by decide) ?_
    obtain ⟨r6, hX7, h⟩ := bd1_inv h
    refine g_callV C (c_X6_isSign l hX7) (cwVw 1 C.2.2.2.2.1 wl_1241 wl_1243 wl_64 wl_121 wl_1244 rfl rfl (by decide +kernel) ⟨Nat.le_of_ble_eq_true rfl, Nat.le_of_ble_eq_true rfl⟩) mO_0 rfl rfl rfl rfl (Nat.le_of_ble_eq_true rfl) dX6_not2_60 ?_
    refine g_join_ h 77 ([(0, .ref (ad 0)), (1, .int r3)]) ([]) ?_ ?_
    · intro h
      refine g_aload_n C dX6_not2_77 rfl 0 rfl ?_
      refine g_get C (T := TX6) hcl6 mO_0 rfl (j := 30) (by decide) wl_949 (v := .long (rL m5 0 30)) rfl dX6_not2_78 ?_
      refine g_ldc2 (v := (60 : Int64)) C dX6_not2_81 wl_1250 ?_
      refine g_lcmp C dX6_not2_84 ?_
      refine g_join_I h 93 (fun s9 => [(0, .ref (ad 0)), (1, .int r3)]) (fun s9 => [.int s9]) ?_ ?_
      · intro s9 h
        refine g_istore_n (lv' := [(2, .int s9), (0, .ref (ad 0)), (1, .int r3)]) C dX6_not2_93 rfl (by decide) rfl ?_
        refine g_aload_n C dX6_not2_94 rfl 1 rfl ?_
        obtain ⟨m12, hX11, h⟩ := bd1_inv h
        refine g_callV C (c_X6_next l hX11) (cwVw 0 C.2.2.2.2.1 wl_1165 wl_1167 wl_46 wl_121 wl_1168 rfl rfl (by decide +kernel) ⟨Nat.le_of_ble_eq_true rfl, Nat.le_of_ble_eq_true rfl⟩) mO_0 rfl rfl rfl rfl (Nat.le_of_ble_eq_true rfl) dX6_not2_95 ?_
        refine g_aload_n C dX6_not2_98 rfl 1 rfl ?_
        obtain ⟨r13, m15, hX14, h⟩ := bd2_inv h
        refine g_callV C (c_X6_added2 l hX14) (cwVw 0 C.2.2.2.2.1 wl_1291 wl_1293 wl_76 wl_121 wl_1294 rfl rfl (by decide +kernel) ⟨Nat.le_of_ble_eq_true rfl, Nat.le_of_ble_eq_true rfl⟩) mO_0 rfl rfl rfl rfl (Nat.le_of_ble_eq_true rfl) dX6_not2_99 ?_
        refine g_istore_n (lv' := [(3, .int r13), (2, .int s9), (0, .ref (ad 0)), (1, .int r3)]) C dX6_not2_102 rfl (by decide) rfl ?_
        refine g_iload_n C dX6_not2_103 rfl 1 rfl ?_
        refine g_if_eq (tgt := 115) C dX6_not2_104 (by decide) h (fun h => ?_) (fun h => ?_)
        · refine g_iload_n C dX6_not2_115 rfl 3 rfl ?_
          refine g_iload_n C dX6_not2_116 rfl 0 rfl ?_
          refine g_icmp_ne (tgt := 124) C dX6_not2_117 (by decide) h (fun h => ?_) (fun h => ?_)
          · refine g_iconst (v := (1 : Int32)) C dX6_not2_120 (by decide) ?_
            refine g_goto (tgt := 125) C dX6_not2_121 (by decide) ?_
            obtain ⟨rfl, rfl⟩ := sp_inj h
            exact g_iret C hr hlk dX6_not2_125 rfl
          · refine g_iconst (v := (0 : Int32)) C dX6_not2_124 (by decide) ?_
            obtain ⟨rfl, rfl⟩ := sp_inj h
            exact g_iret C hr hlk dX6_not2_125 rfl
        · refine g_iload_n C dX6_not2_107 rfl 3 rfl ?_
          refine g_iload_n C dX6_not2_108 rfl 0 rfl ?_
          refine g_icmp_ge (tgt := 124) C dX6_not2_109 (by decide) h (fun h => ?_) (fun h => ?_)
          · refine g_iconst (v := (0 : Int32)) C dX6_not2_124 (by decide) ?_
            obtain ⟨rfl, rfl⟩ := sp_inj h
            exact g_iret C hr hlk dX6_not2_125 rfl
          · refine g_goto (tgt := 120) C dX6_not2_112 (by decide) ?_
            refine g_iconst (v := (1 : Int32)) C dX6_not2_120 (by decide) ?_
            refine g_goto (tgt := 125) C dX6_not2_121 (by decide) ?_
            obtain ⟨rfl, rfl⟩ := sp_inj h
            exact g_iret C hr hlk dX6_not2_125 rfl
      intro J10 hJ10 h
      refine g_if_ne (tgt := 92) C dX6_not2_85 (by decide) h (fun h => ?_) (fun h => ?_)
      · refine g_iconst (v := (1 : Int32)) C dX6_not2_88 (by decide) ?_
        refine g_goto (tgt := 93) C dX6_not2_89 (by decide) ?_
        exact g_sub [0, 1] rfl (hJ10 _ h)
      · refine g_iconst (v := (0 : Int32)) C dX6_not2_92 (by decide) ?_
        exact g_sub [0, 1] rfl (hJ10 _ h)
    intro J8 hJ8 h
    refine g_if_ne (tgt := 77) C dX6_not2_63 (by decide) h (fun h => ?_) (fun h => ?_)
    · refine g_aload_n C dX6_not2_66 rfl 1 rfl ?_
      refine g_bipush (v := (61 : Int32)) C dX6_not2_67 (by decide) ?_
      obtain ⟨r16, hX17, h⟩ := bd1_inv h
      refine g_callV C (c_X6_isSign l hX17) (cwVw 1 C.2.2.2.2.1 wl_1241 wl_1243 wl_64 wl_121 wl_1244 rfl rfl (by decide +kernel) ⟨Nat.le_of_ble_eq_true rfl, Nat.le_of_ble_eq_true rfl⟩) mO_0 rfl rfl rfl rfl (Nat.le_of_ble_eq_true rfl) dX6_not2_69 ?_
      refine g_if_ne (tgt := 77) C dX6_not2_72 (by decide) h (fun h => ?_) (fun h => ?_)
      · refine g_iload_n C dX6_not2_75 rfl 0 rfl ?_
        obtain ⟨rfl, rfl⟩ := sp_inj h
        exact g_iret C hr hlk dX6_not2_76 rfl
      · exact g_sub [1, 0] rfl (hJ8  h)
    · exact g_sub [1, 0] rfl (hJ8  h)
  · refine g_aload_n C dX6_not2_18 rfl 0 rfl ?_
    obtain ⟨r18, m20, hX19, h⟩ := bd2_inv h
    refine g_callV C (c_X6_opens l hX19) (cwVw 0 C.2.2.2.2.1 wl_1205 wl_1207 wl_55 wl_121 wl_1208 rfl rfl (by decide +kernel) ⟨Nat.le_of_ble_eq_true rfl, Nat.le_of_ble_eq_true rfl⟩) mO_0 rfl rfl rfl rfl (Nat.le_of_ble_eq_true rfl) dX6_not2_19 ?_
    refine g_if_ne (tgt := 27) C dX6_not2_22 (by decide) h (fun h => ?_) (fun h => ?_)
    · refine g_iconst (v := (0 : Int32)) C dX6_not2_25 (by decide) ?_
      obtain ⟨rfl, rfl⟩ := sp_inj h
      exact g_iret C hr hlk dX6_not2_26 rfl
    · refine g_aload_n C dX6_not2_27 rfl 0 rfl ?_
      obtain ⟨r21, m23, hX22, h⟩ := bd2_inv h
      refine g_callV C (c_X6_not3 l hX22) (cwVw 0 C.2.2.2.2.1 wl_1217 wl_1219 wl_58 wl_121 wl_1220 rfl rfl (by decide +kernel) ⟨Nat.le_of_ble_eq_true rfl, Nat.le_of_ble_eq_true rfl⟩) mO_0 rfl rfl rfl rfl (Nat.le_of_ble_eq_true rfl) dX6_not2_28 ?_
      refine g_istore_n (lv' := [(1, .int r21), (0, .ref (ad 0))]) C dX6_not2_31 rfl (by decide) rfl ?_
      refine g_aload_n C dX6_not2_32 rfl 1 rfl ?_
      refine g_dup C dX6_not2_33 rfl ?_
      refine g_get C (T := TX6) hcl6 mO_0 rfl (j := 31) (by decide) wl_950 (v := .int (rI m23 0 31)) rfl dX6_not2_34 ?_
      refine g_iconst (v := (1 : Int32)) C dX6_not2_37 (by decide) ?_
      refine g_isub C dX6_not2_38 ?_
      refine g_putI C (T := TX6) hcl6 mO_0 rfl (j := 31) (by decide) wl_950 tyX6 tyX6_ok nmX6 rfl rfl pfX6_31 (plX6 31 (by decide)) dX6_not2_39 h (fun m24 h => ?_)
      refine g_iload_n C dX6_not2_42 rfl 0 rfl ?_
      refine g_if_ne (tgt := 50) C dX6_not2_43 (by decide) h (fun h => ?_) (fun h => ?_)
      · refine g_iconst (v := (1 : Int32)) C dX6_not2_46 (by decide) ?_
        refine g_goto (tgt := 51) C dX6_not2_47 (by decide) ?_
        obtain ⟨rfl, rfl⟩ := sp_inj h
        exact g_iret C hr hlk dX6_not2_51 rfl
      · refine g_iconst (v := (0 : Int32)) C dX6_not2_50 (by decide) ?_
        obtain ⟨rfl, rfl⟩ := sp_inj h
        exact g_iret C hr hlk dX6_not2_51 rfl

def rmX6_both2 : Room := { frames := 26, cells := 0, slots := 0, locals := 575 }
set_option maxRecDepth 100000 in
set_option maxHeartbeats 4000000 in
theorem c_X6_both2 (l : Launch) {F : Nat}    {m : MM} {m' : MM} {r : Int32} (h : f_X6_both2 F m = some (r, m')) : CT l yX6_both2 cX6_both2 3 (some .int) rmX6_both2 cfM 23 (fun ad tb => [.ref (ad 0)]) m (some (.int r)) m' := by
  refine CT.of (cc := cX6_both2) (maxL := 3) (ret := (some .int)) (by decide) ⟨rfl, rfl⟩ (fun _ _ => Nat.le_of_ble_eq_true rfl) ?_
  intro p e s mt args below meth c D cA ad tb C hr hlk
  refine g_lv (lv' := [(0, .ref (ad 0))]) rfl ?_
  unfold f_X6_both2 at h
  refine g_aload_n C dX6_both2_0 rfl 0 rfl ?_
  obtain ⟨r1, m3, hX2, h⟩ := bd2_inv h
  refine g_callV C (c_X6_not2 l hX2) (cwVw 0 C.2.2.2.2.1 wl_1213 wl_1215 wl_57 wl_121 wl_1216 rfl rfl (by decide +kernel) ⟨Nat.le_of_ble_eq_true rfl, Nat.le_of_ble_eq_true rfl⟩) mO_0 rfl rfl rfl rfl (Nat.le_of_ble_eq_true rfl) dX6_both2_1 ?_
  refine g_istore_n (lv' := [(1, .int r1), (0, .ref (ad 0))]) C dX6_both2_4 rfl (by decide) rfl ?_
  refine g_sub [1, 0] rfl ?_
  refine g_loop_IM (L := f_X6_both2_L5 F) h 5 49 (fun x1_4 m5 => [(0, .ref (ad 0)), (1, .int x1_4)]) (fun x1_4 m5 => [(1, .int x1_4)]) (fun x1_4 m5 => []) (fun x1_4 m5 => []) ?_ ?_ (fun _ _ _ => rfl)
  · intro x1_4 m5 h
    refine g_iload_n C dX6_both2_49 rfl 0 rfl ?_
    obtain ⟨rfl, rfl⟩ := sp_inj h
    exact g_iret C hr hlk dX6_both2_50 rfl
  · intro K6 hK6 n ih x1_4 m5 h
    rw [f_X6_both2_L5] at h
    refine g_aload_n C dX6_both2_5 rfl 0 rfl ?_
    refine g_bipush (v := (97 : Int32)) C dX6_both2_6 (by decide) ?_
    refine g_bipush (v := (110 : Int32)) C dX6_both2_8 (by decide) ?_
    refine g_bipush (v := (100 : Int32)) C dX6_both2_10 (by decide) ?_
    refine g_iconst (v := (0 : Int32)) C dX6_both2_12 (by decide) ?_
    refine g_iconst (v := (0 : Int32)) C dX6_both2_13 (by decide) ?_
    refine g_iconst (v := (0 : Int32)) C dX6_both2_14 (by decide) ?_
    refine g_iconst (v := (0 : Int32)) C dX6_both2_15 (by decide) ?_
    refine g_iconst (v := (0 : Int32)) C dX6_both2_16 (by decide) ?_
    obtain ⟨r7, hX8, h⟩ := bd1_inv h
    refine g_callV C (c_X6_isWord l hX8) (cwVw 8 C.2.2.2.2.1 wl_1177 wl_1179 wl_48 wl_121 wl_1180 rfl rfl (by decide +kernel) ⟨Nat.le_of_ble_eq_true rfl, Nat.le_of_ble_eq_true rfl⟩) mO_0 rfl rfl rfl rfl (Nat.le_of_ble_eq_true rfl) dX6_both2_17 ?_
    refine g_if_eq (tgt := 49) C dX6_both2_20 (by decide) h (fun h => ?_) (fun h => ?_)
    · exact g_sub [1] rfl (hK6 _ _ h)
    · refine g_aload_n C dX6_both2_23 rfl 0 rfl ?_
      obtain ⟨m10, hX9, h⟩ := bd1_inv h
      refine g_callV C (c_X6_next l hX9) (cwVw 0 C.2.2.2.2.1 wl_1165 wl_1167 wl_46 wl_121 wl_1168 rfl rfl (by decide +kernel) ⟨Nat.le_of_ble_eq_true rfl, Nat.le_of_ble_eq_true rfl⟩) mO_0 rfl rfl rfl rfl (Nat.le_of_ble_eq_true rfl) dX6_both2_24 ?_
      refine g_aload_n C dX6_both2_27 rfl 0 rfl ?_
      obtain ⟨r11, m13, hX12, h⟩ := bd2_inv h
      refine g_callV C (c_X6_not2 l hX12) (cwVw 0 C.2.2.2.2.1 wl_1213 wl_1215 wl_57 wl_121 wl_1216 rfl rfl (by decide +kernel) ⟨Nat.le_of_ble_eq_true rfl, Nat.le_of_ble_eq_true rfl⟩) mO_0 rfl rfl rfl rfl (Nat.le_of_ble_eq_true rfl) dX6_both2_28 ?_
      refine g_istore_n (lv' := [(2, .int r11), (0, .ref (ad 0)), (1, .int x1_4)]) C dX6_both2_31 rfl (by decide) rfl ?_
      refine g_iload_n C dX6_both2_32 rfl 2 rfl ?_
      refine g_join_I h 45 (fun s14 => [(0, .ref (ad 0))]) (fun s14 => [.int s14]) ?_ ?_
      · intro s14 h
        refine g_istore_n (lv' := [(1, .int s14), (0, .ref (ad 0))]) C dX6_both2_45 rfl (by decide) rfl ?_
        refine g_goto (tgt := 5) C dX6_both2_46 (by decide) ?_
        exact g_sub [1, 0] rfl (ih _ _ h)
      intro J15 hJ15 h
      refine g_join_ h 44 ([(0, .ref (ad 0))]) ([]) ?_ ?_
      · intro h
        refine g_iconst (v := (0 : Int32)) C dX6_both2_44 (by decide) ?_
        exact g_sub [0] rfl (hJ15 _ h)
      intro J16 hJ16 h
      refine g_if_eq (tgt := 44) C dX6_both2_33 (by decide) h (fun h => ?_) (fun h => ?_)
      · exact g_sub [1] rfl (hJ16  h)
      · refine g_iload_n C dX6_both2_36 rfl 0 rfl ?_
        refine g_if_eq (tgt := 44) C dX6_both2_37 (by decide) h (fun h => ?_) (fun h => ?_)
        · exact g_sub [1] rfl (hJ16  h)
        · refine g_iconst (v := (1 : Int32)) C dX6_both2_40 (by decide) ?_
          refine g_goto (tgt := 45) C dX6_both2_41 (by decide) ?_
          exact g_sub [1] rfl (hJ15 _ h)

def rmX6_either2 : Room := { frames := 27, cells := 0, slots := 0, locals := 597 }
set_option maxRecDepth 100000 in
set_option maxHeartbeats 4000000 in
theorem c_X6_either2 (l : Launch) {F : Nat}    {m : MM} {m' : MM} {r : Int32} (h : f_X6_either2 F m = some (r, m')) : CT l yX6_either2 cX6_either2 3 (some .int) rmX6_either2 cfM 23 (fun ad tb => [.ref (ad 0)]) m (some (.int r)) m' := by
  refine CT.of (cc := cX6_either2) (maxL := 3) (ret := (some .int)) (by decide) ⟨rfl, rfl⟩ (fun _ _ => Nat.le_of_ble_eq_true rfl) ?_
  intro p e s mt args below meth c D cA ad tb C hr hlk
  refine g_lv (lv' := [(0, .ref (ad 0))]) rfl ?_
  unfold f_X6_either2 at h
  refine g_aload_n C dX6_either2_0 rfl 0 rfl ?_
  obtain ⟨r1, m3, hX2, h⟩ := bd2_inv h
  refine g_callV C (c_X6_both2 l hX2) (cwVw 0 C.2.2.2.2.1 wl_1327 wl_1329 wl_85 wl_121 wl_1330 rfl rfl (by decide +kernel) ⟨Nat.le_of_ble_eq_true rfl, Nat.le_of_ble_eq_true rfl⟩) mO_0 rfl rfl rfl rfl (Nat.le_of_ble_eq_true rfl) dX6_either2_1 ?_
  refine g_istore_n (lv' := [(1, .int r1), (0, .ref (ad 0))]) C dX6_either2_4 rfl (by decide) rfl ?_
  refine g_sub [1, 0] rfl ?_
  refine g_loop_IM (L := f_X6_either2_L5 F) h 5 48 (fun x1_4 m5 => [(0, .ref (ad 0)), (1, .int x1_4)]) (fun x1_4 m5 => [(1, .int x1_4)]) (fun x1_4 m5 => []) (fun x1_4 m5 => []) ?_ ?_ (fun _ _ _ => rfl)
  · intro x1_4 m5 h
    refine g_iload_n C dX6_either2_48 rfl 0 rfl ?_
    obtain ⟨rfl, rfl⟩ := sp_inj h
    exact g_iret C hr hlk dX6_either2_49 rfl
  · intro K6 hK6 n ih x1_4 m5 h
    rw [f_X6_either2_L5] at h
    refine g_aload_n C dX6_either2_5 rfl 0 rfl ?_
    refine g_bipush (v := (111 : Int32)) C dX6_either2_6 (by decide) ?_
    refine g_bipush (v := (114 : Int32)) C dX6_either2_8 (by decide) ?_
    refine g_iconst (v := (0 : Int32)) C dX6_either2_10 (by decide) ?_
    refine g_iconst (v := (0 : Int32)) C dX6_either2_11 (by decide) ?_
    refine g_iconst (v := (0 : Int32)) C dX6_either2_12 (by decide) ?_
    refine g_iconst (v := (0 : Int32)) C dX6_either2_13 (by decide) ?_
    refine g_iconst (v := (0 : Int32)) C dX6_either2_14 (by decide) ?_
    refine g_iconst (v := (0 : Int32)) C dX6_either2_15 (by decide) ?_
    obtain ⟨r7, hX8, h⟩ := bd1_inv h
    refine g_callV C (c_X6_isWord l hX8) (cwVw 8 C.2.2.2.2.1 wl_1177 wl_1179 wl_48 wl_121 wl_1180 rfl rfl (by decide +kernel) ⟨Nat.le_of_ble_eq_true rfl, Nat.le_of_ble_eq_true rfl⟩) mO_0 rfl rfl rfl rfl (Nat.le_of_ble_eq_true rfl) dX6_either2_16 ?_
    refine g_if_eq (tgt := 48) C dX6_either2_19 (by decide) h (fun h => ?_) (fun h => ?_)
    · exact g_sub [1] rfl (hK6 _ _ h)
    · refine g_aload_n C dX6_either2_22 rfl 0 rfl ?_
      obtain ⟨m10, hX9, h⟩ := bd1_inv h
      refine g_callV C (c_X6_next l hX9) (cwVw 0 C.2.2.2.2.1 wl_1165 wl_1167 wl_46 wl_121 wl_1168 rfl rfl (by decide +kernel) ⟨Nat.le_of_ble_eq_true rfl, Nat.le_of_ble_eq_true rfl⟩) mO_0 rfl rfl rfl rfl (Nat.le_of_ble_eq_true rfl) dX6_either2_23 ?_
      refine g_aload_n C dX6_either2_26 rfl 0 rfl ?_
      obtain ⟨r11, m13, hX12, h⟩ := bd2_inv h
      refine g_callV C (c_X6_both2 l hX12) (cwVw 0 C.2.2.2.2.1 wl_1327 wl_1329 wl_85 wl_121 wl_1330 rfl rfl (by decide +kernel) ⟨Nat.le_of_ble_eq_true rfl, Nat.le_of_ble_eq_true rfl⟩) mO_0 rfl rfl rfl rfl (Nat.le_of_ble_eq_true rfl) dX6_either2_27 ?_
      refine g_istore_n (lv' := [(2, .int r11), (0, .ref (ad 0)), (1, .int x1_4)]) C dX6_either2_30 rfl (by decide) rfl ?_
      refine g_iload_n C dX6_either2_31 rfl 2 rfl ?_
      refine g_join_I h 44 (fun s14 => [(0, .ref (ad 0))]) (fun s14 => [.int s14]) ?_ ?_
      · intro s14 h
        refine g_istore_n (lv' := [(1, .int s14), (0, .ref (ad 0))]) C dX6_either2_44 rfl (by decide) rfl ?_
        refine g_goto (tgt := 5) C dX6_either2_45 (by decide) ?_
        exact g_sub [1, 0] rfl (ih _ _ h)
      intro J15 hJ15 h
      refine g_join_ h 39 ([(0, .ref (ad 0))]) ([]) ?_ ?_
      · intro h
        refine g_iconst (v := (1 : Int32)) C dX6_either2_39 (by decide) ?_
        refine g_goto (tgt := 44) C dX6_either2_40 (by decide) ?_
        exact g_sub [0] rfl (hJ15 _ h)
      intro J16 hJ16 h
      refine g_if_ne (tgt := 39) C dX6_either2_32 (by decide) h (fun h => ?_) (fun h => ?_)
      · refine g_iload_n C dX6_either2_35 rfl 0 rfl ?_
        refine g_if_eq (tgt := 43) C dX6_either2_36 (by decide) h (fun h => ?_) (fun h => ?_)
        · refine g_iconst (v := (0 : Int32)) C dX6_either2_43 (by decide) ?_
          exact g_sub [1] rfl (hJ15 _ h)
        · exact g_sub [1] rfl (hJ16  h)
      · exact g_sub [1] rfl (hJ16  h)

def rmX6_atom1 : Room := { frames := 28, cells := 0, slots := 0, locals := 619 }
set_option maxRecDepth 100000 in
set_option maxHeartbeats 4000000 in
theorem c_X6_atom1 (l : Launch) {F : Nat}    {m : MM} {m' : MM} {r : Int32} (h : f_X6_atom1 F m = some (r, m')) : CT l yX6_atom1 cX6_atom1 2 (some .int) rmX6_atom1 cfM 23 (fun ad tb => [.ref (ad 0)]) m (some (.int r)) m' := by
  refine CT.of (cc := cX6_atom1) (maxL := 2) (ret := (some .int)) (by decide) ⟨rfl, rfl⟩ (fun _ _ => Nat.le_of_ble_eq_true rfl) ?_
  intro p e s mt args below meth c D cA ad tb C hr hlk
  refine g_lv (lv' := [(0, .ref (ad 0))]) rfl ?_
  have hcl6 : ∀ w ∈ wsX60, w.before args s = true := fun w hw => C.2.2.2.2.1 w (inlX6 w hw)
  unfold f_X6_atom1 at h
  refine g_iconst (v := (0 : Int32)) C dX6_atom1_0 (by decide) ?_
  refine g_istore_n (lv' := [(1, .int (0 : Int32)), (0, .ref (ad 0))]) C dX6_atom1_1 rfl (by decide) rfl ?_
  refine g_aload_n C dX6_atom1_2 rfl 1 rfl ?_
  refine g_bipush (v := (45 : Int32)) C dX6_atom1_3 (by decide) ?_
  obtain ⟨r1, hX2, h⟩ := bd1_inv h
  refine g_callV C (c_X6_isSign l hX2) (cwVw 1 C.2.2.2.2.1 wl_1241 wl_1243 wl_64 wl_121 wl_1244 rfl rfl (by decide +kernel) ⟨Nat.le_of_ble_eq_true rfl, Nat.le_of_ble_eq_true rfl⟩) mO_0 rfl rfl rfl rfl (Nat.le_of_ble_eq_true rfl) dX6_atom1_5 ?_
  refine g_if_eq (tgt := 37) C dX6_atom1_8 (by decide) h (fun h => ?_) (fun h => ?_)
  · refine g_aload_n C dX6_atom1_37 rfl 1 rfl ?_
    refine g_bipush (v := (40 : Int32)) C dX6_atom1_38 (by decide) ?_
    obtain ⟨r3, hX4, h⟩ := bd1_inv h
    refine g_callV C (c_X6_isSign l hX4) (cwVw 1 C.2.2.2.2.1 wl_1241 wl_1243 wl_64 wl_121 wl_1244 rfl rfl (by decide +kernel) ⟨Nat.le_of_ble_eq_true rfl, Nat.le_of_ble_eq_true rfl⟩) mO_0 rfl rfl rfl rfl (Nat.le_of_ble_eq_true rfl) dX6_atom1_40 ?_
    refine g_if_eq (tgt := 95) C dX6_atom1_43 (by decide) h (fun h => ?_) (fun h => ?_)
    · refine g_aload_n C dX6_atom1_95 rfl 1 rfl ?_
      refine g_get C (T := TX6) hcl6 mO_0 rfl (j := 32) (by decide) wl_951 (v := .int (rI m 0 32)) rfl dX6_atom1_96 ?_
      refine g_join_ h 123 ([(0, .ref (ad 0)), (1, .int (0 : Int32))]) ([]) ?_ ?_
      · intro h
        refine g_aload_n C dX6_atom1_123 rfl 0 rfl ?_
        refine g_get C (T := TX6) hcl6 mO_0 rfl (j := 32) (by decide) wl_951 (v := .int (rI m 0 32)) rfl dX6_atom1_124 ?_
        refine g_join_ h 157 ([(0, .ref (ad 0)), (1, .int (0 : Int32))]) ([]) ?_ ?_
        · intro h
          refine g_aload_n C dX6_atom1_157 rfl 0 rfl ?_
          obtain ⟨m8, hX7, h⟩ := bd1_inv h
          refine g_callV C (c_X6_fail l hX7) (cwVw 0 C.2.2.2.2.1 wl_1189 wl_1191 wl_51 wl_121 wl_1192 rfl rfl (by decide +kernel) ⟨Nat.le_of_ble_eq_true rfl, Nat.le_of_ble_eq_true rfl⟩) mO_0 rfl rfl rfl rfl (Nat.le_of_ble_eq_true rfl) dX6_atom1_158 ?_
          refine g_iload_n C dX6_atom1_161 rfl 1 rfl ?_
          obtain ⟨rfl, rfl⟩ := sp_inj h
          exact g_iret C hr hlk dX6_atom1_162 rfl
        intro J6 hJ6 h
        refine g_if_ne (tgt := 157) C dX6_atom1_127 (by decide) h (fun h => ?_) (fun h => ?_)
        · refine g_aload_n C dX6_atom1_130 rfl 0 rfl ?_
          refine g_get C (T := TX6) hcl6 mO_0 rfl (j := 28) (by decide) wl_947 (v := .int (rI m 0 28)) rfl dX6_atom1_131 ?_
          refine g_iconst (v := (1 : Int32)) C dX6_atom1_134 (by decide) ?_
          refine g_icmp_ne (tgt := 157) C dX6_atom1_135 (by decide) h (fun h => ?_) (fun h => ?_)
          · refine g_aload_n C dX6_atom1_138 rfl 0 rfl ?_
            obtain ⟨r9, m11, hX10, h⟩ := bd2_inv h
            refine g_callV C (c_X6_name l hX10) (cwVw 0 C.2.2.2.2.1 wl_1245 wl_1247 wl_65 wl_121 wl_1248 rfl rfl (by decide +kernel) ⟨Nat.le_of_ble_eq_true rfl, Nat.le_of_ble_eq_true rfl⟩) mO_0 rfl rfl rfl rfl (Nat.le_of_ble_eq_true rfl) dX6_atom1_139 ?_
            refine g_istore_n (lv' := [(1, .int r9), (0, .ref (ad 0))]) C dX6_atom1_142 rfl (by decide) rfl ?_
            refine g_aload_n C dX6_atom1_143 rfl 1 rfl ?_
            refine g_get C (T := TX6) hcl6 mO_0 rfl (j := 32) (by decide) wl_951 (v := .int (rI m11 0 32)) rfl dX6_atom1_144 ?_
            refine g_if_ne (tgt := 161) C dX6_atom1_147 (by decide) h (fun h => ?_) (fun h => ?_)
            · refine g_aload_n C dX6_atom1_150 rfl 1 rfl ?_
              obtain ⟨m13, hX12, h⟩ := bd1_inv h
              refine g_callV C (c_X6_next l hX12) (cwVw 0 C.2.2.2.2.1 wl_1165 wl_1167 wl_46 wl_121 wl_1168 rfl rfl (by decide +kernel) ⟨Nat.le_of_ble_eq_true rfl, Nat.le_of_ble_eq_true rfl⟩) mO_0 rfl rfl rfl rfl (Nat.le_of_ble_eq_true rfl) dX6_atom1_151 ?_
              refine g_goto (tgt := 161) C dX6_atom1_154 (by decide) ?_
              refine g_iload_n C dX6_atom1_161 rfl 0 rfl ?_
              obtain ⟨rfl, rfl⟩ := sp_inj h
              exact g_iret C hr hlk dX6_atom1_162 rfl
            · refine g_iload_n C dX6_atom1_161 rfl 0 rfl ?_
              obtain ⟨rfl, rfl⟩ := sp_inj h
              exact g_iret C hr hlk dX6_atom1_162 rfl
          · exact g_sub [0, 1] rfl (hJ6  h)
        · exact g_sub [0, 1] rfl (hJ6  h)
      intro J5 hJ5 h
      refine g_if_ne (tgt := 123) C dX6_atom1_99 (by decide) h (fun h => ?_) (fun h => ?_)
      · refine g_aload_n C dX6_atom1_102 rfl 1 rfl ?_
        refine g_get C (T := TX6) hcl6 mO_0 rfl (j := 28) (by decide) wl_947 (v := .int (rI m 0 28)) rfl dX6_atom1_103 ?_
        refine g_iconst (v := (2 : Int32)) C dX6_atom1_106 (by decide) ?_
        refine g_icmp_ne (tgt := 123) C dX6_atom1_107 (by decide) h (fun h => ?_) (fun h => ?_)
        · refine g_aload_n C dX6_atom1_110 rfl 1 rfl ?_
          refine g_get C (T := TX6) hcl6 mO_0 rfl (j := 30) (by decide) wl_949 (v := .long (rL m 0 30)) rfl dX6_atom1_111 ?_
          refine g_l2i C dX6_atom1_114 ?_
          refine nm_i h (fun x1_14 h => ?_)
          refine g_istore_n (lv' := [(1, .int x1_14), (0, .ref (ad 0))]) C dX6_atom1_115 rfl (by decide) rfl ?_
          refine g_aload_n C dX6_atom1_116 rfl 1 rfl ?_
          obtain ⟨m16, hX15, h⟩ := bd1_inv h
          refine g_callV C (c_X6_next l hX15) (cwVw 0 C.2.2.2.2.1 wl_1165 wl_1167 wl_46 wl_121 wl_1168 rfl rfl (by decide +kernel) ⟨Nat.le_of_ble_eq_true rfl, Nat.le_of_ble_eq_true rfl⟩) mO_0 rfl rfl rfl rfl (Nat.le_of_ble_eq_true rfl) dX6_atom1_117 ?_
          refine g_goto (tgt := 161) C dX6_atom1_120 (by decide) ?_
          refine g_iload_n C dX6_atom1_161 rfl 0 rfl ?_
          obtain ⟨rfl, rfl⟩ := sp_inj h
          exact g_iret C hr hlk dX6_atom1_162 rfl
        · exact g_sub [1, 0] rfl (hJ5  h)
      · exact g_sub [1, 0] rfl (hJ5  h)
    · refine g_aload_n C dX6_atom1_46 rfl 1 rfl ?_
      obtain ⟨r17, m19, hX18, h⟩ := bd2_inv h
      refine g_callV C (c_X6_opens l hX18) (cwVw 0 C.2.2.2.2.1 wl_1205 wl_1207 wl_55 wl_121 wl_1208 rfl rfl (by decide +kernel) ⟨Nat.le_of_ble_eq_true rfl, Nat.le_of_ble_eq_true rfl⟩) mO_0 rfl rfl rfl rfl (Nat.le_of_ble_eq_true rfl) dX6_atom1_47 ?_
      refine g_if_eq (tgt := 161) C dX6_atom1_50 (by decide) h (fun h => ?_) (fun h => ?_)
      · refine g_iload_n C dX6_atom1_161 rfl 0 rfl ?_
        obtain ⟨rfl, rfl⟩ := sp_inj h
        exact g_iret C hr hlk dX6_atom1_162 rfl
      · refine g_aload_n C dX6_atom1_53 rfl 1 rfl ?_
        obtain ⟨r20, m22, hX21, h⟩ := bd2_inv h
        refine g_callV C (c_X6_either2 l hX21) (cwVw 0 C.2.2.2.2.1 wl_1323 wl_1325 wl_84 wl_121 wl_1326 rfl rfl (by decide +kernel) ⟨Nat.le_of_ble_eq_true rfl, Nat.le_of_ble_eq_true rfl⟩) mO_0 rfl rfl rfl rfl (Nat.le_of_ble_eq_true rfl) dX6_atom1_54 ?_
        refine g_istore_n (lv' := [(1, .int r20), (0, .ref (ad 0))]) C dX6_atom1_57 rfl (by decide) rfl ?_
        refine g_aload_n C dX6_atom1_58 rfl 1 rfl ?_
        refine g_bipush (v := (41 : Int32)) C dX6_atom1_59 (by decide) ?_
        obtain ⟨r23, hX24, h⟩ := bd1_inv h
        refine g_callV C (c_X6_isSign l hX24) (cwVw 1 C.2.2.2.2.1 wl_1241 wl_1243 wl_64 wl_121 wl_1244 rfl rfl (by decide +kernel) ⟨Nat.le_of_ble_eq_true rfl, Nat.le_of_ble_eq_true rfl⟩) mO_0 rfl rfl rfl rfl (Nat.le_of_ble_eq_true rfl) dX6_atom1_61 ?_
        refine g_join_M h 71 (fun m25 => [(0, .ref (ad 0)), (1, .int r20)]) (fun m25 => []) ?_ ?_
        · intro m25 h
          refine g_aload_n C dX6_atom1_71 rfl 0 rfl ?_
          refine g_dup C dX6_atom1_72 rfl ?_
          refine g_get C (T := TX6) hcl6 mO_0 rfl (j := 31) (by decide) wl_950 (v := .int (rI m25 0 31)) rfl dX6_atom1_73 ?_
          refine g_iconst (v := (1 : Int32)) C dX6_atom1_76 (by decide) ?_
          refine g_isub C dX6_atom1_77 ?_
          refine g_putI C (T := TX6) hcl6 mO_0 rfl (j := 31) (by decide) wl_950 tyX6 tyX6_ok nmX6 rfl rfl pfX6_31 (plX6 31 (by decide)) dX6_atom1_78 h (fun m27 h => ?_)
          refine g_aload_n C dX6_atom1_81 rfl 0 rfl ?_
          refine g_get C (T := TX6) hcl6 mO_0 rfl (j := 32) (by decide) wl_951 (v := .int (rI m27 0 32)) rfl dX6_atom1_82 ?_
          refine g_if_ne (tgt := 161) C dX6_atom1_85 (by decide) h (fun h => ?_) (fun h => ?_)
          · refine g_aload_n C dX6_atom1_88 rfl 0 rfl ?_
            obtain ⟨m29, hX28, h⟩ := bd1_inv h
            refine g_callV C (c_X6_next l hX28) (cwVw 0 C.2.2.2.2.1 wl_1165 wl_1167 wl_46 wl_121 wl_1168 rfl rfl (by decide +kernel) ⟨Nat.le_of_ble_eq_true rfl, Nat.le_of_ble_eq_true rfl⟩) mO_0 rfl rfl rfl rfl (Nat.le_of_ble_eq_true rfl) dX6_atom1_89 ?_
            refine g_goto (tgt := 161) C dX6_atom1_92 (by decide) ?_
            refine g_iload_n C dX6_atom1_161 rfl 1 rfl ?_
            obtain ⟨rfl, rfl⟩ := sp_inj h
            exact g_iret C hr hlk dX6_atom1_162 rfl
          · refine g_iload_n C dX6_atom1_161 rfl 1 rfl ?_
            obtain ⟨rfl, rfl⟩ := sp_inj h
            exact g_iret C hr hlk dX6_atom1_162 rfl
        intro J26 hJ26 h
        refine g_if_ne (tgt := 71) C dX6_atom1_64 (by decide) h (fun h => ?_) (fun h => ?_)
        · refine g_aload_n C dX6_atom1_67 rfl 1 rfl ?_
          obtain ⟨m31, hX30, h⟩ := bd1_inv h
          refine g_callV C (c_X6_fail l hX30) (cwVw 0 C.2.2.2.2.1 wl_1189 wl_1191 wl_51 wl_121 wl_1192 rfl rfl (by decide +kernel) ⟨Nat.le_of_ble_eq_true rfl, Nat.le_of_ble_eq_true rfl⟩) mO_0 rfl rfl rfl rfl (Nat.le_of_ble_eq_true rfl) dX6_atom1_68 ?_
          exact g_sub [1, 0] rfl (hJ26 _ h)
        · exact g_sub [1, 0] rfl (hJ26 _ h)
  · refine g_aload_n C dX6_atom1_11 rfl 1 rfl ?_
    obtain ⟨r32, m34, hX33, h⟩ := bd2_inv h
    refine g_callV C (c_X6_opens l hX33) (cwVw 0 C.2.2.2.2.1 wl_1205 wl_1207 wl_55 wl_121 wl_1208 rfl rfl (by decide +kernel) ⟨Nat.le_of_ble_eq_true rfl, Nat.le_of_ble_eq_true rfl⟩) mO_0 rfl rfl rfl rfl (Nat.le_of_ble_eq_true rfl) dX6_atom1_12 ?_
    refine g_if_eq (tgt := 161) C dX6_atom1_15 (by decide) h (fun h => ?_) (fun h => ?_)
    · refine g_iload_n C dX6_atom1_161 rfl 0 rfl ?_
      obtain ⟨rfl, rfl⟩ := sp_inj h
      exact g_iret C hr hlk dX6_atom1_162 rfl
    · refine g_aload_n C dX6_atom1_18 rfl 1 rfl ?_
      obtain ⟨r35, m37, hX36, h⟩ := bd2_inv h
      refine g_callV C (c_X6_atom2 l hX36) (cwVw 0 C.2.2.2.2.1 wl_1299 wl_1301 wl_78 wl_121 wl_1302 rfl rfl (by decide +kernel) ⟨Nat.le_of_ble_eq_true rfl, Nat.le_of_ble_eq_true rfl⟩) mO_0 rfl rfl rfl rfl (Nat.le_of_ble_eq_true rfl) dX6_atom1_19 ?_
      refine g_ineg C dX6_atom1_22 ?_
      refine g_istore_n (lv' := [(1, .int (-r35)), (0, .ref (ad 0))]) C dX6_atom1_23 rfl (by decide) rfl ?_
      refine g_aload_n C dX6_atom1_24 rfl 1 rfl ?_
      refine g_dup C dX6_atom1_25 rfl ?_
      refine g_get C (T := TX6) hcl6 mO_0 rfl (j := 31) (by decide) wl_950 (v := .int (rI m37 0 31)) rfl dX6_atom1_26 ?_
      refine g_iconst (v := (1 : Int32)) C dX6_atom1_29 (by decide) ?_
      refine g_isub C dX6_atom1_30 ?_
      refine g_putI C (T := TX6) hcl6 mO_0 rfl (j := 31) (by decide) wl_950 tyX6 tyX6_ok nmX6 rfl rfl pfX6_31 (plX6 31 (by decide)) dX6_atom1_31 h (fun m38 h => ?_)
      refine g_goto (tgt := 161) C dX6_atom1_34 (by decide) ?_
      refine g_iload_n C dX6_atom1_161 rfl 0 rfl ?_
      obtain ⟨rfl, rfl⟩ := sp_inj h
      exact g_iret C hr hlk dX6_atom1_162 rfl
