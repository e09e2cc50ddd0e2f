/-! contracts: X6_taken X6_spell -/
def rmX6_taken : Room := { frames := 2, cells := 0, slots := 0, locals := 46 }
set_option maxRecDepth 100000 in
set_option maxHeartbeats 4000000 in
theorem c_X6_taken (l : Launch) {F : Nat}  {a0 : Int32} {a1 : Int32}  {m : MM} {r : Int32} (h : f_X6_taken F a0 a1 m = some r) : CT l yX6_taken cX6_taken 4 (some .int) rmX6_taken cfM 23 (fun ad tb => [.ref (ad 0), .int a0, .int a1]) m (some (.int r)) m := by
  refine CT.of (cc := cX6_taken) (maxL := 4) (ret := (some .int)) (by decide) ⟨rfl, rfl⟩ (fun _ _ => Nat.le_of_ble_eq_true rfl) ?_
  intro p e s mt args below meth c D cA ad tb C hr hlk
  refine g_lv (lv' := [(0, .ref (ad 0)), (1, .int a0), (2, .int a1)]) rfl ?_
  have hcl6 : ∀ w ∈ wsX60, w.before args s = true := fun w hw => C.2.2.2.2.1 w (inlX6 w hw)
  unfold f_X6_taken at h
  refine g_iload_n C dX6_taken_0 rfl 2 rfl ?_
  refine g_i2l C dX6_taken_1 ?_
  refine g_lconst (v := (0 : Int64)) C dX6_taken_2 (by decide) ?_
  refine g_ldc2 (v := (5 : Int64)) C dX6_taken_3 wl_1088 ?_
  obtain ⟨r1, hX2, h⟩ := bd1_inv h
  refine g_callS C (c_X6_in l hX2) (cwSw 3 C.2.2.2.2.1 wl_1089 wl_1090 wl_121 wl_1091 rfl rfl (by decide +kernel) ⟨Nat.le_of_ble_eq_true rfl, Nat.le_of_ble_eq_true rfl⟩) rfl rfl rfl (Nat.le_of_ble_eq_true rfl) dX6_taken_6 ?_
  refine g_if_ne (tgt := 15) C dX6_taken_9 (by decide) h (fun h => ?_) (fun h => ?_)
  · refine g_bipush (v := (-2 : Int32)) C dX6_taken_12 (by decide) ?_
    obtain rfl := so_inj h
    exact g_iret C hr hlk dX6_taken_14 rfl
  · refine g_aload_n C dX6_taken_15 rfl 0 rfl ?_
    refine g_iload_n C dX6_taken_16 rfl 1 rfl ?_
    obtain ⟨r3, hX4, h⟩ := bd1_inv h
    refine g_callV C (c_X6_isHold l hX4) (cwVw 1 C.2.2.2.2.1 wl_1099 wl_1101 wl_36 wl_121 wl_1102 rfl rfl (by decide +kernel) ⟨Nat.le_of_ble_eq_true rfl, Nat.le_of_ble_eq_true rfl⟩) mO_0 rfl rfl rfl rfl (Nat.le_of_ble_eq_true rfl) dX6_taken_17 ?_
    refine g_if_ne (tgt := 26) C dX6_taken_20 (by decide) h (fun h => ?_) (fun h => ?_)
    · refine g_bipush (v := (-11 : Int32)) C dX6_taken_23 (by decide) ?_
      obtain rfl := so_inj h
      exact g_iret C hr hlk dX6_taken_25 rfl
    · refine g_aload_n C dX6_taken_26 rfl 0 rfl ?_
      refine g_get C (T := TX6) hcl6 mO_0 rfl (j := 7) (by decide) wl_926 (v := .ref (ad 4)) rfl dX6_taken_27 ?_
      refine g_iload_n C dX6_taken_30 rfl 1 rfl ?_
      refine g_iald C mI_4 dX6_taken_31 h (fun h => ?_)
      refine nm_i h (fun x3_5 h => ?_)
      refine g_istore_n (lv' := [(3, .int x3_5), (0, .ref (ad 0)), (1, .int a0), (2, .int a1)]) C dX6_taken_32 rfl (by decide) rfl ?_
      refine g_sub [1, 2, 3, 0] rfl ?_
      refine g_loop_I (L := f_X6_taken_L33 a1 m) h 33 51 (fun x3_6 => [(0, .ref (ad 0)), (1, .int a0), (2, .int a1), (3, .int x3_6)]) (fun x3_6 => [(0, .ref (ad 0)), (1, .int a0), (2, .int a1), (3, .int x3_6)]) (fun x3_6 => []) (fun x3_6 => []) ?_ ?_ (fun _ _ => rfl)
      · intro x3_6 h
        refine g_iload_n C dX6_taken_51 rfl 3 rfl ?_
        refine g_iload_n C dX6_taken_52 rfl 2 rfl ?_
        refine g_icmp_ne (tgt := 65) C dX6_taken_53 (by decide) h (fun h => ?_) (fun h => ?_)
        · refine g_aload_n C dX6_taken_56 rfl 0 rfl ?_
          refine g_get C (T := TX6) hcl6 mO_0 rfl (j := 8) (by decide) wl_927 (v := .ref (ad 5)) rfl dX6_taken_57 ?_
          refine g_iload_n C dX6_taken_60 rfl 1 rfl ?_
          refine g_iald C mI_5 dX6_taken_61 h (fun h => ?_)
          refine g_goto (tgt := 67) C dX6_taken_62 (by decide) ?_
          obtain rfl := so_inj h
          exact g_iret C hr hlk dX6_taken_67 rfl
        · refine g_bipush (v := (-13 : Int32)) C dX6_taken_65 (by decide) ?_
          obtain rfl := so_inj h
          exact g_iret C hr hlk dX6_taken_67 rfl
      · intro K7 hK7 n ih x3_6 h
        rw [f_X6_taken_L33] at h
        refine g_iload_n C dX6_taken_33 rfl 3 rfl ?_
        refine g_iconst (v := (-1 : Int32)) C dX6_taken_34 (by decide) ?_
        refine g_icmp_eq (tgt := 51) C dX6_taken_35 (by decide) h (fun h => ?_) (fun h => ?_)
        · exact g_sub [0, 1, 2, 3] rfl (hK7 _ h)
        · refine g_iload_n C dX6_taken_38 rfl 3 rfl ?_
          refine g_iload_n C dX6_taken_39 rfl 2 rfl ?_
          refine g_icmp_eq (tgt := 51) C dX6_taken_40 (by decide) h (fun h => ?_) (fun h => ?_)
          · exact g_sub [0, 1, 2, 3] rfl (hK7 _ h)
          · refine g_iload_n C dX6_taken_43 rfl 3 rfl ?_
            obtain ⟨r8, hX9, h⟩ := bd1_inv h
            refine g_callS C (c_X6_over l hX9) (cwSw 1 C.2.2.2.2.1 wl_1534 wl_1535 wl_121 wl_1536 rfl rfl (by decide +kernel) ⟨Nat.le_of_ble_eq_true rfl, Nat.le_of_ble_eq_true rfl⟩) rfl rfl rfl (Nat.le_of_ble_eq_true rfl) dX6_taken_44 ?_
            refine g_istore_n (lv' := [(3, .int r8), (0, .ref (ad 0)), (1, .int a0), (2, .int a1)]) C dX6_taken_47 rfl (by decide) rfl ?_
            refine g_goto (tgt := 33) C dX6_taken_48 (by decide) ?_
            exact g_sub [1, 2, 3, 0] rfl (ih _ h)

def rmX6_spell : Room := { frames := 0, cells := 0, slots := 0, locals := 0 }
set_option maxRecDepth 100000 in
set_option maxHeartbeats 4000000 in
theorem c_X6_spell (l : Launch)  {a0 : Int32} {a1 : Int32} {a2 : Int32} {a3 : Int32} {a4 : Int32} {a5 : Int32} {a6 : Int32} {a7 : Int32} {a8 : Int32}  {m : MM} {m' : MM} (h : f_X6_spell a0 a1 a2 a3 a4 a5 a6 a7 a8 m = some m') : CT l yX6_spell cX6_spell 10 none rmX6_spell cfM 23 (fun ad tb => [.ref (ad 0), .int a0, .int a1, .int a2, .int a3, .int a4, .int a5, .int a6, .int a7, .int a8]) m none m' := by
  refine CT.of (cc := cX6_spell) (maxL := 10) (ret := none) (by decide) ⟨rfl, rfl⟩ (fun _ _ => Nat.le_of_ble_eq_true rfl) ?_
  intro p e s mt args below meth c D cA ad tb C hr hlk
  refine g_lv (lv' := [(0, .ref (ad 0)), (1, .int a0), (2, .int a1), (3, .int a2), (4, .int a3), (5, .int a4), (6, .int a5), (7, .int a6), (8, .int a7), (9, .int a8)]) rfl ?_
  have hcl6 : ∀ w ∈ wsX60, w.before args s = true := fun w hw => C.2.2.2.2.1 w (inlX6 w hw)
  unfold f_X6_spell at h
  refine g_aload_n C dX6_spell_0 rfl 0 rfl ?_
  refine g_get C (T := TX6) hcl6 mO_0 rfl (j := 1) (by decide) wl_920 (v := .ref (ad 1)) rfl dX6_spell_1 ?_
  refine g_iload_n C dX6_spell_4 rfl 1 rfl ?_
  refine g_iload_n C dX6_spell_5 rfl 2 rfl ?_
  refine g_iast C mI_1 dX6_spell_6 h (fun m1 h => ?_)
  refine g_aload_n C dX6_spell_7 rfl 0 rfl ?_
  refine g_get C (T := TX6) hcl6 mO_0 rfl (j := 1) (by decide) wl_920 (v := .ref (ad 1)) rfl dX6_spell_8 ?_
  refine g_iload_n C dX6_spell_11 rfl 1 rfl ?_
  refine g_iconst (v := (1 : Int32)) C dX6_spell_12 (by decide) ?_
  refine g_iadd C dX6_spell_13 ?_
  refine g_iload_n C dX6_spell_14 rfl 3 rfl ?_
  refine g_iast C mI_1 dX6_spell_15 h (fun m2 h => ?_)
  refine g_aload_n C dX6_spell_16 rfl 0 rfl ?_
  refine g_get C (T := TX6) hcl6 mO_0 rfl (j := 1) (by decide) wl_920 (v := .ref (ad 1)) rfl dX6_spell_17 ?_
  refine g_iload_n C dX6_spell_20 rfl 1 rfl ?_
  refine g_iconst (v := (2 : Int32)) C dX6_spell_21 (by decide) ?_
  refine g_iadd C dX6_spell_22 ?_
  refine g_iload C dX6_spell_23 4 rfl ?_
  refine g_iast C mI_1 dX6_spell_25 h (fun m3 h => ?_)
  refine g_aload_n C dX6_spell_26 rfl 0 rfl ?_
  refine g_get C (T := TX6) hcl6 mO_0 rfl (j := 1) (by decide) wl_920 (v := .ref (ad 1)) rfl dX6_spell_27 ?_
  refine g_iload_n C dX6_spell_30 rfl 1 rfl ?_
  refine g_iconst (v := (3 : Int32)) C dX6_spell_31 (by decide) ?_
  refine g_iadd C dX6_spell_32 ?_
  refine g_iload C dX6_spell_33 5 rfl ?_
  refine g_iast C mI_1 dX6_spell_35 h (fun m4 h => ?_)
  refine g_aload_n C dX6_spell_36 rfl 0 rfl ?_
  refine g_get C (T := TX6) hcl6 mO_0 rfl (j := 1) (by decide) wl_920 (v := .ref (ad 1)) rfl dX6_spell_37 ?_
  refine g_iload_n C dX6_spell_40 rfl 1 rfl ?_
  refine g_iconst (v := (4 : Int32)) C dX6_spell_41 (by decide) ?_
  refine g_iadd C dX6_spell_42 ?_
  refine g_iload C dX6_spell_43 6 rfl ?_
  refine g_iast C mI_1 dX6_spell_45 h (fun m5 h => ?_)
  refine g_aload_n C dX6_spell_46 rfl 0 rfl ?_
  refine g_get C (T := TX6) hcl6 mO_0 rfl (j := 1) (by decide) wl_920 (v := .ref (ad 1)) rfl dX6_spell_47 ?_
  refine g_iload_n C dX6_spell_50 rfl 1 rfl ?_
  refine g_iconst (v := (5 : Int32)) C dX6_spell_51 (by decide) ?_
  refine g_iadd C dX6_spell_52 ?_
  refine g_iload C dX6_spell_53 7 rfl ?_
  refine g_iast C mI_1 dX6_spell_55 h (fun m6 h => ?_)
  refine g_aload_n C dX6_spell_56 rfl 0 rfl ?_
  refine g_get C (T := TX6) hcl6 mO_0 rfl (j := 1) (by decide) wl_920 (v := .ref (ad 1)) rfl dX6_spell_57 ?_
  refine g_iload_n C dX6_spell_60 rfl 1 rfl ?_
  refine g_bipush (v := (6 : Int32)) C dX6_spell_61 (by decide) ?_
  refine g_iadd C dX6_spell_63 ?_
  refine g_iload C dX6_spell_64 8 rfl ?_
  refine g_iast C mI_1 dX6_spell_66 h (fun m7 h => ?_)
  refine g_aload_n C dX6_spell_67 rfl 0 rfl ?_
  refine g_get C (T := TX6) hcl6 mO_0 rfl (j := 1) (by decide) wl_920 (v := .ref (ad 1)) rfl dX6_spell_68 ?_
  refine g_iload_n C dX6_spell_71 rfl 1 rfl ?_
  refine g_bipush (v := (7 : Int32)) C dX6_spell_72 (by decide) ?_
  refine g_iadd C dX6_spell_74 ?_
  refine g_iload C dX6_spell_75 9 rfl ?_
  refine g_iast C mI_1 dX6_spell_77 h (fun m8 h => ?_)
  obtain rfl := so_inj h
  exact g_vret C hr hlk dX6_spell_78 rfl
