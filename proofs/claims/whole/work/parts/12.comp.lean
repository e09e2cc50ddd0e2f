/-! contracts: X3_clear X5_text X5_force X5_name X4_ofOne X4_ofTwo X4_tells X5_bounded X5_costs X5_move X5_why X0_freeHands X0_isOpen X0_movesThatCanBe X5_open X5_bell X5_worth X5_asks X0_become X1_lay X1_split -/
def rmX3_clear : Room := { frames := 0, cells := 0, slots := 0, locals := 0 }
set_option maxRecDepth 100000 in
set_option maxHeartbeats 4000000 in
theorem c_X3_clear (l : Launch)    {m : MM} {m' : MM} (h : f_X3_clear m = some m') : CT l yX3_clear cX3_clear 1 none rmX3_clear cfC 73 (fun ad tb => [.ref (ad 36)]) m none m' := by
  refine CT.of (cc := cX3_clear) (maxL := 1) (ret := none) (by decide) ⟨rfl, rfl⟩ (fun _ _ => Nat.le_of_ble_eq_true rfl) ?_
  intro p e s mt args below meth c D cA ad tb C hr hlk
  refine g_lv (lv' := [(0, .ref (ad 36))]) rfl ?_
  have hcl3 : ∀ w ∈ wsX30, w.before args s = true := fun w hw => C.2.2.2.2.1 w (inlX3 w hw)
  unfold f_X3_clear at h
  refine g_aload_n C dX3_clear_0 rfl 0 rfl ?_
  refine g_iconst (v := (0 : Int32)) C dX3_clear_1 (by decide) ?_
  refine g_putI C (T := TX3) hcl3 cO_36 rfl (j := 1) (by decide) wl_251 tyX3 tyX3_ok nmX3 rfl rfl pfX3_1 (plX3 1 (by decide)) dX3_clear_2 h (fun m1 h => ?_)
  obtain rfl := so_inj h
  exact g_vret C hr hlk dX3_clear_5 rfl

def rmX5_text : Room := { frames := 57, cells := 0, slots := 0, locals := 1396 }
set_option maxRecDepth 100000 in
set_option maxHeartbeats 4000000 in
theorem c_X5_text (l : Launch) {F : Nat}    {m : MM} {m' : MM} {r : Int32} (h : f_X5_text F m = some (r, m')) : CT l yX5_text cX5_text 2 (some .int) rmX5_text cfC 73 (fun ad tb => [.ref (ad 0)]) m (some (.int r)) m' := by
  refine CT.of (cc := cX5_text) (maxL := 2) (ret := (some .int)) (by decide) ⟨rfl, rfl⟩ (fun _ _ => Nat.le_of_ble_eq_true rfl) ?_
  intro p e s mt args below meth c D cA ad tb C hr hlk
  refine g_lv (lv' := [(0, .ref (ad 0))]) rfl ?_
  have hcl5 : ∀ w ∈ wsX50, w.before args s = true := fun w hw => C.2.2.2.2.1 w (inlX5 w hw)
  unfold f_X5_text at h
  refine g_aload_n C dX5_text_0 rfl 0 rfl ?_
  refine g_get C (T := TX5) hcl5 cO_0 rfl (j := 8) (by decide) wl_490 (v := .int (rI m 0 8)) rfl dX5_text_1 ?_
  refine g_bipush (v := (6 : Int32)) C dX5_text_4 (by decide) ?_
  refine g_icmp_lt (tgt := 12) C dX5_text_6 (by decide) h (fun h => ?_) (fun h => ?_)
  · refine g_aload_n C dX5_text_12 rfl 0 rfl ?_
    refine g_get C (T := TX5) hcl5 cO_0 rfl (j := 4) (by decide) wl_486 (v := .ref (ad 36)) rfl dX5_text_13 ?_
    refine g_aload_n C dX5_text_16 rfl 0 rfl ?_
    refine g_get C (T := TX5) hcl5 cO_0 rfl (j := 5) (by decide) wl_487 (v := .ref (ad 38)) rfl dX5_text_17 ?_
    refine g_aload_n C dX5_text_20 rfl 0 rfl ?_
    refine g_get C (T := TX5) hcl5 cO_0 rfl (j := 8) (by decide) wl_490 (v := .int (rI m 0 8)) rfl dX5_text_21 ?_
    refine g_aald C cQ_38 (fun _ => rfl) dX5_text_24 h (fun hb1 h => ?_)
    obtain ⟨r2, m4, hX3, h⟩ := bd2_inv h
    refine g_callV C (c_X3_read l (tx_ix hb1) hX3) (cwVw 1 C.2.2.2.2.1 wl_366 wl_367 wl_368 wl_112 wl_369 rfl rfl (by decide +kernel) ⟨Nat.le_of_ble_eq_true rfl, Nat.le_of_ble_eq_true rfl⟩) cO_36 rfl rfl rfl rfl (Nat.le_of_ble_eq_true rfl) dX5_text_25 ?_
    refine g_istore_n (lv' := [(1, .int r2), (0, .ref (ad 0))]) C dX5_text_28 rfl (by decide) rfl ?_
    refine g_aload_n C dX5_text_29 rfl 1 rfl ?_
    refine g_get C (T := TX5) hcl5 cO_0 rfl (j := 4) (by decide) wl_486 (v := .ref (ad 36)) rfl dX5_text_30 ?_
    obtain ⟨m6, hX5, h⟩ := bd1_inv h
    refine g_callV C (c_X3_clear l hX5) (cwVw 0 C.2.2.2.2.1 wl_478 wl_479 wl_480 wl_112 wl_481 rfl rfl (by decide +kernel) ⟨Nat.le_of_ble_eq_true rfl, Nat.le_of_ble_eq_true rfl⟩) cO_36 rfl rfl rfl rfl (Nat.le_of_ble_eq_true rfl) dX5_text_33 ?_
    refine g_iload_n C dX5_text_36 rfl 0 rfl ?_
    refine g_iconst (v := (-1 : Int32)) C dX5_text_37 (by decide) ?_
    refine g_icmp_eq (tgt := 46) C dX5_text_38 (by decide) h (fun h => ?_) (fun h => ?_)
    · refine g_aload_n C dX5_text_46 rfl 1 rfl ?_
      refine g_dup C dX5_text_47 rfl ?_
      refine g_get C (T := TX5) hcl5 cO_0 rfl (j := 8) (by decide) wl_490 (v := .int (rI m6 0 8)) rfl dX5_text_48 ?_
      refine g_dup_x1 C dX5_text_51 rfl rfl ?_
      refine g_iconst (v := (1 : Int32)) C dX5_text_52 (by decide) ?_
      refine g_iadd C dX5_text_53 ?_
      refine g_putI C (T := TX5) hcl5 cO_0 rfl (j := 8) (by decide) wl_490 tyX5 tyX5_ok nmX5 rfl rfl pfX5_8 (plX5 8 (by decide)) dX5_text_54 h (fun m7 h => ?_)
      obtain ⟨rfl, rfl⟩ := sp_inj h
      exact g_iret C hr hlk dX5_text_57 rfl
    · refine g_bipush (v := (-100 : Int32)) C dX5_text_41 (by decide) ?_
      refine g_iload_n C dX5_text_43 rfl 0 rfl ?_
      refine g_isub C dX5_text_44 ?_
      obtain ⟨rfl, rfl⟩ := sp_inj h
      exact g_iret C hr hlk dX5_text_45 rfl
  · refine g_bipush (v := (-4 : Int32)) C dX5_text_9 (by decide) ?_
    obtain ⟨rfl, rfl⟩ := sp_inj h
    exact g_iret C hr hlk dX5_text_11 rfl

def rmX5_force : Room := { frames := 1, cells := 0, slots := 0, locals := 21 }
set_option maxRecDepth 100000 in
set_option maxHeartbeats 4000000 in
theorem c_X5_force (l : Launch)  {a0 : Int32}  {m : MM} {m' : MM} {r : Int32} (h : f_X5_force a0 m = some (r, m')) : CT l yX5_force cX5_force 3 (some .int) rmX5_force cfC 73 (fun ad tb => [.ref (ad 0), .int a0]) m (some (.int r)) m' := by
  refine CT.of (cc := cX5_force) (maxL := 3) (ret := (some .int)) (by decide) ⟨rfl, rfl⟩ (fun _ _ => Nat.le_of_ble_eq_true rfl) ?_
  intro p e s mt args below meth c D cA ad tb C hr hlk
  refine g_lv (lv' := [(0, .ref (ad 0)), (1, .int a0)]) rfl ?_
  have hcl0 : ∀ w ∈ wsX00, w.before args s = true := fun w hw => C.2.2.2.2.1 w (inlX0 w hw)
  have hcl5 : ∀ w ∈ wsX50, w.before args s = true := fun w hw => C.2.2.2.2.1 w (inlX5 w hw)
  unfold f_X5_force at h
  refine g_iload_n C dX5_force_0 rfl 1 rfl ?_
  refine g_aload_n C dX5_force_1 rfl 0 rfl ?_
  refine g_get C (T := TX5) hcl5 cO_0 rfl (j := 8) (by decide) wl_490 (v := .int (rI m 0 8)) rfl dX5_force_2 ?_
  obtain ⟨r1, hX2, h⟩ := bd1_inv h
  refine g_callS C (c_X5_within l hX2) (cwSw 2 C.2.2.2.2.1 wl_518 wl_519 wl_109 wl_520 rfl rfl (by decide +kernel) ⟨Nat.le_of_ble_eq_true rfl, Nat.le_of_ble_eq_true rfl⟩) rfl rfl rfl (Nat.le_of_ble_eq_true rfl) dX5_force_5 ?_
  refine g_if_ne (tgt := 14) C dX5_force_8 (by decide) h (fun h => ?_) (fun h => ?_)
  · refine g_bipush (v := (-2 : Int32)) C dX5_force_11 (by decide) ?_
    obtain ⟨rfl, rfl⟩ := sp_inj h
    exact g_iret C hr hlk dX5_force_13 rfl
  · refine g_aload_n C dX5_force_14 rfl 0 rfl ?_
    refine g_get C (T := TX5) hcl5 cO_0 rfl (j := 0) (by decide) wl_482 (v := .ref (ad 1)) rfl dX5_force_15 ?_
    refine g_get C (T := TX0) hcl0 cO_1 rfl (j := 11) (by decide) wl_163 (v := .int (rI m 1 11)) rfl dX5_force_18 ?_
    refine nm_i h (fun x2_3 h => ?_)
    refine g_istore_n (lv' := [(2, .int x2_3), (0, .ref (ad 0)), (1, .int a0)]) C dX5_force_21 rfl (by decide) rfl ?_
    refine g_aload_n C dX5_force_22 rfl 1 rfl ?_
    refine g_get C (T := TX5) hcl5 cO_0 rfl (j := 0) (by decide) wl_482 (v := .ref (ad 1)) rfl dX5_force_23 ?_
    refine g_iload_n C dX5_force_26 rfl 2 rfl ?_
    refine g_putI C (T := TX0) hcl0 cO_1 rfl (j := 11) (by decide) wl_163 tyX0 tyX0_ok nmX0 rfl rfl pfX0_11 (plX0 11 (by decide)) dX5_force_27 h (fun m4 h => ?_)
    refine g_iload_n C dX5_force_30 rfl 0 rfl ?_
    obtain ⟨rfl, rfl⟩ := sp_inj h
    exact g_iret C hr hlk dX5_force_31 rfl

def rmX5_name : Room := { frames := 0, cells := 0, slots := 0, locals := 0 }
set_option maxRecDepth 100000 in
set_option maxHeartbeats 4000000 in
theorem c_X5_name (l : Launch)  {a0 : Int32} {a1 : Int32} {a2 : Int32} {a3 : Int32} {a4 : Int32}  {m : MM} {m' : MM} (h : f_X5_name a0 a1 a2 a3 a4 m = some m') : CT l yX5_name cX5_name 6 none rmX5_name cfC 73 (fun ad tb => [.ref (ad 0), .int a0, .int a1, .int a2, .int a3, .int a4]) m none m' := by
  refine CT.of (cc := cX5_name) (maxL := 6) (ret := none) (by decide) ⟨rfl, rfl⟩ (fun _ _ => Nat.le_of_ble_eq_true rfl) ?_
  intro p e s mt args below meth c D cA ad tb C hr hlk
  refine g_lv (lv' := [(0, .ref (ad 0)), (1, .int a0), (2, .int a1), (3, .int a2), (4, .int a3), (5, .int a4)]) rfl ?_
  have hcl0 : ∀ w ∈ wsX00, w.before args s = true := fun w hw => C.2.2.2.2.1 w (inlX0 w hw)
  have hcl5 : ∀ w ∈ wsX50, w.before args s = true := fun w hw => C.2.2.2.2.1 w (inlX5 w hw)
  unfold f_X5_name at h
  refine g_aload_n C dX5_name_0 rfl 0 rfl ?_
  refine g_get C (T := TX5) hcl5 cO_0 rfl (j := 7) (by decide) wl_489 (v := .ref (ad 72)) rfl dX5_name_1 ?_
  refine g_iconst (v := (0 : Int32)) C dX5_name_4 (by decide) ?_
  refine g_iload_n C dX5_name_5 rfl 1 rfl ?_
  refine g_iast C cI_72 dX5_name_6 h (fun m1 h => ?_)
  refine g_aload_n C dX5_name_7 rfl 0 rfl ?_
  refine g_get C (T := TX5) hcl5 cO_0 rfl (j := 7) (by decide) wl_489 (v := .ref (ad 72)) rfl dX5_name_8 ?_
  refine g_iconst (v := (1 : Int32)) C dX5_name_11 (by decide) ?_
  refine g_iload_n C dX5_name_12 rfl 2 rfl ?_
  refine g_iast C cI_72 dX5_name_13 h (fun m2 h => ?_)
  refine g_aload_n C dX5_name_14 rfl 0 rfl ?_
  refine g_get C (T := TX5) hcl5 cO_0 rfl (j := 7) (by decide) wl_489 (v := .ref (ad 72)) rfl dX5_name_15 ?_
  refine g_iconst (v := (2 : Int32)) C dX5_name_18 (by decide) ?_
  refine g_iload_n C dX5_name_19 rfl 3 rfl ?_
  refine g_iast C cI_72 dX5_name_20 h (fun m3 h => ?_)
  refine g_aload_n C dX5_name_21 rfl 0 rfl ?_
  refine g_get C (T := TX5) hcl5 cO_0 rfl (j := 7) (by decide) wl_489 (v := .ref (ad 72)) rfl dX5_name_22 ?_
  refine g_iconst (v := (3 : Int32)) C dX5_name_25 (by decide) ?_
  refine g_iload C dX5_name_26 4 rfl ?_
  refine g_iast C cI_72 dX5_name_28 h (fun m4 h => ?_)
  refine g_aload_n C dX5_name_29 rfl 0 rfl ?_
  refine g_get C (T := TX5) hcl5 cO_0 rfl (j := 7) (by decide) wl_489 (v := .ref (ad 72)) rfl dX5_name_30 ?_
  refine g_iconst (v := (4 : Int32)) C dX5_name_33 (by decide) ?_
  refine g_aload_n C dX5_name_34 rfl 0 rfl ?_
  refine g_get C (T := TX5) hcl5 cO_0 rfl (j := 0) (by decide) wl_482 (v := .ref (ad 1)) rfl dX5_name_35 ?_
  refine g_get C (T := TX0) hcl0 cO_1 rfl (j := 8) (by decide) wl_157 (v := .int (rI m4 1 8)) rfl dX5_name_38 ?_
  refine g_iast C cI_72 dX5_name_41 h (fun m5 h => ?_)
  refine g_aload_n C dX5_name_42 rfl 0 rfl ?_
  refine g_get C (T := TX5) hcl5 cO_0 rfl (j := 7) (by decide) wl_489 (v := .ref (ad 72)) rfl dX5_name_43 ?_
  refine g_iconst (v := (5 : Int32)) C dX5_name_46 (by decide) ?_
  refine g_iload C dX5_name_47 5 rfl ?_
  refine g_iast C cI_72 dX5_name_49 h (fun m6 h => ?_)
  obtain rfl := so_inj h
  exact g_vret C hr hlk dX5_name_50 rfl

def rmX4_ofOne : Room := { frames := 0, cells := 0, slots := 0, locals := 0 }
set_option maxRecDepth 100000 in
set_option maxHeartbeats 4000000 in
theorem c_X4_ofOne (l : Launch)  {a0 : Int32} {a1 : Int32}  {m : MM} {r : Int32} (h : f_X4_ofOne a0 a1 m = some r) : CT l yX4_ofOne cX4_ofOne 2 (some .int) rmX4_ofOne cfC 73 (fun ad tb => [.int a0, .int a1]) m (some (.int r)) m := by
  refine CT.of (cc := cX4_ofOne) (maxL := 2) (ret := (some .int)) (by decide) ⟨rfl, rfl⟩ (fun _ _ => Nat.le_of_ble_eq_true rfl) ?_
  intro p e s mt args below meth c D cA ad tb C hr hlk
  refine g_lv (lv' := [(0, .int a0), (1, .int a1)]) rfl ?_
  unfold f_X4_ofOne at h
  refine g_iload_n C dX4_ofOne_0 rfl 0 rfl ?_
  refine g_iconst (v := (1 : Int32)) C dX4_ofOne_1 (by decide) ?_
  refine g_icmp_ne (tgt := 8) C dX4_ofOne_2 (by decide) h (fun h => ?_) (fun h => ?_)
  · refine g_iload_n C dX4_ofOne_5 rfl 1 rfl ?_
    refine g_ineg C dX4_ofOne_6 ?_
    obtain rfl := so_inj h
    exact g_iret C hr hlk dX4_ofOne_7 rfl
  · refine g_iload_n C dX4_ofOne_8 rfl 1 rfl ?_
    refine g_if_ne (tgt := 16) C dX4_ofOne_9 (by decide) h (fun h => ?_) (fun h => ?_)
    · refine g_iconst (v := (1 : Int32)) C dX4_ofOne_12 (by decide) ?_
      refine g_goto (tgt := 17) C dX4_ofOne_13 (by decide) ?_
      obtain rfl := so_inj h
      exact g_iret C hr hlk dX4_ofOne_17 rfl
    · refine g_iconst (v := (0 : Int32)) C dX4_ofOne_16 (by decide) ?_
      obtain rfl := so_inj h
      exact g_iret C hr hlk dX4_ofOne_17 rfl

def rmX4_ofTwo : Room := { frames := 0, cells := 0, slots := 0, locals := 0 }
set_option maxRecDepth 100000 in
set_option maxHeartbeats 4000000 in
theorem c_X4_ofTwo (l : Launch)  {a0 : Int32} {a1 : Int32} {a2 : Int32}  {m : MM} {r : Int32} (h : f_X4_ofTwo a0 a1 a2 m = some r) : CT l yX4_ofTwo cX4_ofTwo 3 (some .int) rmX4_ofTwo cfC 73 (fun ad tb => [.int a0, .int a1, .int a2]) m (some (.int r)) m := by
  refine CT.of (cc := cX4_ofTwo) (maxL := 3) (ret := (some .int)) (by decide) ⟨rfl, rfl⟩ (fun _ _ => Nat.le_of_ble_eq_true rfl) ?_
  intro p e s mt args below meth c D cA ad tb C hr hlk
  refine g_lv (lv' := [(0, .int a0), (1, .int a1), (2, .int a2)]) rfl ?_
  unfold f_X4_ofTwo at h
  refine g_iload_n C dX4_ofTwo_0 rfl 0 rfl ?_
  by_cases q1 : a0 = (10 : Int32)
  · rw [if_pos q1] at h
    refine g_lookup (tgt := 94) C dX4_ofTwo_1 (by decide) (by rw [q1] <;> rfl) (by decide) ?_
    refine g_iload_n C dX4_ofTwo_94 rfl 1 rfl ?_
    refine g_if_eq (tgt := 106) C dX4_ofTwo_95 (by decide) h (fun h => ?_) (fun h => ?_)
    · refine g_iconst (v := (0 : Int32)) C dX4_ofTwo_106 (by decide) ?_
      obtain rfl := so_inj h
      exact g_iret C hr hlk dX4_ofTwo_107 rfl
    · refine g_iload_n C dX4_ofTwo_98 rfl 2 rfl ?_
      refine g_if_eq (tgt := 106) C dX4_ofTwo_99 (by decide) h (fun h => ?_) (fun h => ?_)
      · refine g_iconst (v := (0 : Int32)) C dX4_ofTwo_106 (by decide) ?_
        obtain rfl := so_inj h
        exact g_iret C hr hlk dX4_ofTwo_107 rfl
      · refine g_iconst (v := (1 : Int32)) C dX4_ofTwo_102 (by decide) ?_
        refine g_goto (tgt := 107) C dX4_ofTwo_103 (by decide) ?_
        obtain rfl := so_inj h
        exact g_iret C hr hlk dX4_ofTwo_107 rfl
  rw [if_neg q1] at h
  by_cases q2 : a0 = (42 : Int32)
  · rw [if_pos q2] at h
    refine g_lookup (tgt := 68) C dX4_ofTwo_1 (by decide) (by rw [q2] <;> rfl) (by decide) ?_
    refine g_iload_n C dX4_ofTwo_68 rfl 1 rfl ?_
    refine g_iload_n C dX4_ofTwo_69 rfl 2 rfl ?_
    refine g_imul C dX4_ofTwo_70 ?_
    obtain rfl := so_inj h
    exact g_iret C hr hlk dX4_ofTwo_71 rfl
  rw [if_neg q2] at h
  by_cases q3 : a0 = (43 : Int32)
  · rw [if_pos q3] at h
    refine g_lookup (tgt := 60) C dX4_ofTwo_1 (by decide) (by rw [q3] <;> rfl) (by decide) ?_
    refine g_iload_n C dX4_ofTwo_60 rfl 1 rfl ?_
    refine g_iload_n C dX4_ofTwo_61 rfl 2 rfl ?_
    refine g_iadd C dX4_ofTwo_62 ?_
    obtain rfl := so_inj h
    exact g_iret C hr hlk dX4_ofTwo_63 rfl
  rw [if_neg q3] at h
  by_cases q4 : a0 = (45 : Int32)
  · rw [if_pos q4] at h
    refine g_lookup (tgt := 64) C dX4_ofTwo_1 (by decide) (by rw [q4] <;> rfl) (by decide) ?_
    refine g_iload_n C dX4_ofTwo_64 rfl 1 rfl ?_
    refine g_iload_n C dX4_ofTwo_65 rfl 2 rfl ?_
    refine g_isub C dX4_ofTwo_66 ?_
    obtain rfl := so_inj h
    exact g_iret C hr hlk dX4_ofTwo_67 rfl
  rw [if_neg q4] at h
  by_cases q5 : a0 = (60 : Int32)
  · rw [if_pos q5] at h
    refine g_lookup (tgt := 72) C dX4_ofTwo_1 (by decide) (by rw [q5] <;> rfl) (by decide) ?_
    refine g_iload_n C dX4_ofTwo_72 rfl 1 rfl ?_
    refine g_iload_n C dX4_ofTwo_73 rfl 2 rfl ?_
    refine g_icmp_ge (tgt := 81) C dX4_ofTwo_74 (by decide) h (fun h => ?_) (fun h => ?_)
    · refine g_iconst (v := (0 : Int32)) C dX4_ofTwo_81 (by decide) ?_
      obtain rfl := so_inj h
      exact g_iret C hr hlk dX4_ofTwo_82 rfl
    · refine g_iconst (v := (1 : Int32)) C dX4_ofTwo_77 (by decide) ?_
      refine g_goto (tgt := 82) C dX4_ofTwo_78 (by decide) ?_
      obtain rfl := so_inj h
      exact g_iret C hr hlk dX4_ofTwo_82 rfl
  rw [if_neg q5] at h
  by_cases q6 : a0 = (61 : Int32)
  · rw [if_pos q6] at h
    refine g_lookup (tgt := 83) C dX4_ofTwo_1 (by decide) (by rw [q6] <;> rfl) (by decide) ?_
    refine g_iload_n C dX4_ofTwo_83 rfl 1 rfl ?_
    refine g_iload_n C dX4_ofTwo_84 rfl 2 rfl ?_
    refine g_icmp_ne (tgt := 92) C dX4_ofTwo_85 (by decide) h (fun h => ?_) (fun h => ?_)
    · refine g_iconst (v := (1 : Int32)) C dX4_ofTwo_88 (by decide) ?_
      refine g_goto (tgt := 93) C dX4_ofTwo_89 (by decide) ?_
      obtain rfl := so_inj h
      exact g_iret C hr hlk dX4_ofTwo_93 rfl
    · refine g_iconst (v := (0 : Int32)) C dX4_ofTwo_92 (by decide) ?_
      obtain rfl := so_inj h
      exact g_iret C hr hlk dX4_ofTwo_93 rfl
  rw [if_neg q6] at h
  refine g_lookup (tgt := 108) C dX4_ofTwo_1 (by decide) (off := 107) (by have t0 := ti_ne q1 (z := 10) (by decide); have t1 := ti_ne q2 (z := 42) (by decide); have t2 := ti_ne q3 (z := 43) (by decide); have t3 := ti_ne q4 (z := 45) (by decide); have t4 := ti_ne q5 (z := 60) (by decide); have t5 := ti_ne q6 (z := 61) (by decide); simp [Op.lookupswitch.offset]; omega) (by decide) ?_
  refine g_iload_n C dX4_ofTwo_108 rfl 1 rfl ?_
  refine g_if_ne (tgt := 116) C dX4_ofTwo_109 (by decide) h (fun h => ?_) (fun h => ?_)
  · refine g_iload_n C dX4_ofTwo_112 rfl 2 rfl ?_
    refine g_if_eq (tgt := 120) C dX4_ofTwo_113 (by decide) h (fun h => ?_) (fun h => ?_)
    · refine g_iconst (v := (0 : Int32)) C dX4_ofTwo_120 (by decide) ?_
      obtain rfl := so_inj h
      exact g_iret C hr hlk dX4_ofTwo_121 rfl
    · refine g_iconst (v := (1 : Int32)) C dX4_ofTwo_116 (by decide) ?_
      refine g_goto (tgt := 121) C dX4_ofTwo_117 (by decide) ?_
      obtain rfl := so_inj h
      exact g_iret C hr hlk dX4_ofTwo_121 rfl
  · refine g_iconst (v := (1 : Int32)) C dX4_ofTwo_116 (by decide) ?_
    refine g_goto (tgt := 121) C dX4_ofTwo_117 (by decide) ?_
    obtain rfl := so_inj h
    exact g_iret C hr hlk dX4_ofTwo_121 rfl

def rmX4_tells : Room := { frames := 1, cells := 0, slots := 0, locals := 22 }
set_option maxRecDepth 100000 in
set_option maxHeartbeats 4000000 in
theorem c_X4_tells (l : Launch) {F : Nat}  {k : Nat} {a0 : Int32} (hk : isTx k) {m : MM} {m' : MM} {r : Int32} (h : f_X4_tells F k a0 m = some (r, m')) : CT l yX4_tells cX4_tells 6 (some .int) rmX4_tells cfC 73 (fun ad tb => [.ref (ad k), .int a0, .ref (ad 72)]) m (some (.int r)) m' := by
  refine CT.of (cc := cX4_tells) (maxL := 6) (ret := (some .int)) (by decide) ⟨rfl, rfl⟩ (fun _ _ => Nat.le_of_ble_eq_true rfl) ?_
  intro p e s mt args below meth c D cA ad tb C hr hlk
  refine g_lv (lv' := [(0, .ref (ad k)), (1, .int a0), (2, .ref (ad 72))]) rfl ?_
  have hcl4 : ∀ w ∈ wsX40, w.before args s = true := fun w hw => C.2.2.2.2.1 w (inlX4 w hw)
  unfold f_X4_tells at h
  refine g_iconst (v := (0 : Int32)) C dX4_tells_0 (by decide) ?_
  refine g_istore_n (lv' := [(3, .int (0 : Int32)), (0, .ref (ad k)), (1, .int a0), (2, .ref (ad 72))]) C dX4_tells_1 rfl (by decide) rfl ?_
  refine g_aload_n C dX4_tells_2 rfl 1 rfl ?_
  refine g_get C (T := TX4) hcl4 (tx_O hk) rfl (j := 1) (by decide) wl_283 (v := .ref (ad (k + 2))) rfl dX4_tells_3 ?_
  refine g_iload_n C dX4_tells_6 rfl 2 rfl ?_
  refine g_iald C (tx_I2 hk) dX4_tells_7 h (fun h => ?_)
  refine nm_i h (fun x4_1 h => ?_)
  refine g_istore (lv' := [(4, .int x4_1), (3, .int (0 : Int32)), (0, .ref (ad k)), (1, .int a0), (2, .ref (ad 72))]) C dX4_tells_8 (by decide) rfl ?_
  refine g_sub [2, 3, 4, 1, 0] rfl ?_
  refine g_loop_IIM (L := f_X4_tells_L10 k a0) h 10 179 (fun x3_2 x4_3 m4 => [(0, .ref (ad k)), (1, .int a0), (2, .ref (ad 72)), (3, .int x3_2), (4, .int x4_3)]) (fun x3_2 x4_3 m4 => [(0, .ref (ad k))]) (fun x3_2 x4_3 m4 => []) (fun x3_2 x4_3 m4 => []) ?_ ?_ (fun _ _ _ _ => rfl)
  · intro x3_2 x4_3 m4 h
    refine g_aload_n C dX4_tells_179 rfl 0 rfl ?_
    refine g_get C (T := TX4) hcl4 (tx_O hk) rfl (j := 2) (by decide) wl_284 (v := .ref (ad (k + 3))) rfl dX4_tells_180 ?_
    refine g_iconst (v := (0 : Int32)) C dX4_tells_183 (by decide) ?_
    refine g_iald C (tx_I3 hk) dX4_tells_184 h (fun h => ?_)
    obtain ⟨rfl, rfl⟩ := sp_inj h
    exact g_iret C hr hlk dX4_tells_185 rfl
  · intro K5 hK5 n ih x3_2 x4_3 m4 h
    rw [f_X4_tells_L10] at h
    refine g_iload C dX4_tells_10 4 rfl ?_
    refine g_aload_n C dX4_tells_12 rfl 0 rfl ?_
    refine g_get C (T := TX4) hcl4 (tx_O hk) rfl (j := 1) (by decide) wl_283 (v := .ref (ad (k + 2))) rfl dX4_tells_13 ?_
    refine g_iload_n C dX4_tells_16 rfl 1 rfl ?_
    refine g_iconst (v := (1 : Int32)) C dX4_tells_17 (by decide) ?_
    refine g_iadd C dX4_tells_18 ?_
    refine g_iald C (tx_I2 hk) dX4_tells_19 h (fun h => ?_)
    refine g_icmp_ge (tgt := 179) C dX4_tells_20 (by decide) h (fun h => ?_) (fun h => ?_)
    · exact g_sub [0] rfl (hK5 _ _ _ h)
    · refine g_aload_n C dX4_tells_23 rfl 0 rfl ?_
      refine g_get C (T := TX4) hcl4 (tx_O hk) rfl (j := 0) (by decide) wl_282 (v := .ref (ad (k + 1))) rfl dX4_tells_24 ?_
      refine g_iload C dX4_tells_27 4 rfl ?_
      refine g_iald C (tx_I1 hk) dX4_tells_29 h (fun h => ?_)
      refine nm_i h (fun x5_6 h => ?_)
      refine g_istore (lv' := [(5, .int x5_6), (0, .ref (ad k)), (1, .int a0), (2, .ref (ad 72)), (3, .int x3_2), (4, .int x4_3)]) C dX4_tells_30 (by decide) rfl ?_
      refine g_iload C dX4_tells_32 0 rfl ?_
      refine g_sipush (v := (20000 : Int32)) C dX4_tells_34 (by decide) ?_
      refine g_icmp_ge (tgt := 81) C dX4_tells_37 (by decide) h (fun h => ?_) (fun h => ?_)
      · refine g_iload C dX4_tells_81 0 rfl ?_
        refine g_sipush (v := (20001 : Int32)) C dX4_tells_83 (by decide) ?_
        refine g_join_ h 97 ([(0, .ref (ad k)), (1, .int a0), (2, .ref (ad 72)), (3, .int x3_2), (4, .int x4_3), (5, .int x5_6)]) ([]) ?_ ?_
        · intro h
          refine g_iload_n C dX4_tells_97 rfl 3 rfl ?_
          refine g_iconst (v := (1 : Int32)) C dX4_tells_98 (by decide) ?_
          refine g_icmp_ge (tgt := 104) C dX4_tells_99 (by decide) h (fun h => ?_) (fun h => ?_)
          · refine g_aload_n C dX4_tells_104 rfl 0 rfl ?_
            refine g_get C (T := TX4) hcl4 (tx_O hk) rfl (j := 2) (by decide) wl_284 (v := .ref (ad (k + 3))) rfl dX4_tells_105 ?_
            refine g_iload_n C dX4_tells_108 rfl 3 rfl ?_
            refine g_iconst (v := (1 : Int32)) C dX4_tells_109 (by decide) ?_
            refine g_isub C dX4_tells_110 ?_
            refine g_iload C dX4_tells_111 5 rfl ?_
            refine g_sipush (v := (20000 : Int32)) C dX4_tells_113 (by decide) ?_
            refine g_isub C dX4_tells_116 ?_
            refine g_aload_n C dX4_tells_117 rfl 0 rfl ?_
            refine g_get C (T := TX4) hcl4 (tx_O hk) rfl (j := 2) (by decide) wl_284 (v := .ref (ad (k + 3))) rfl dX4_tells_118 ?_
            refine g_iload_n C dX4_tells_121 rfl 3 rfl ?_
            refine g_iconst (v := (1 : Int32)) C dX4_tells_122 (by decide) ?_
            refine g_isub C dX4_tells_123 ?_
            refine g_iald C (tx_I3 hk) dX4_tells_124 h (fun h => ?_)
            obtain ⟨r8, hX9, h⟩ := bd1_inv h
            refine g_callS C (c_X4_ofOne l hX9) (cwSw 2 C.2.2.2.2.1 wl_631 wl_632 wl_113 wl_633 rfl rfl (by decide +kernel) ⟨Nat.le_of_ble_eq_true rfl, Nat.le_of_ble_eq_true rfl⟩) rfl rfl rfl (Nat.le_of_ble_eq_true rfl) dX4_tells_125 ?_
            refine g_iast C (tx_I3 hk) dX4_tells_128 h (fun m10 h => ?_)
            refine g_goto (tgt := 173) C dX4_tells_129 (by decide) ?_
            refine g_iinc (lv' := [(0, .ref (ad k)), (1, .int a0), (2, .ref (ad 72)), (3, .int x3_2), (5, .int x5_6)]) C dX4_tells_173 (q := 4) rfl (by decide) h rfl (fun _ => rfl) (fun x4_11 h => ?_)
            refine g_goto (tgt := 10) C dX4_tells_176 (by decide) ?_
            exact g_sub [1, 2, 3, 4, 0] rfl (ih _ _ _ h)
          · refine g_iconst (v := (0 : Int32)) C dX4_tells_102 (by decide) ?_
            obtain ⟨rfl, rfl⟩ := sp_inj h
            exact g_iret C hr hlk dX4_tells_103 rfl
        intro J7 hJ7 h
        refine g_icmp_eq (tgt := 97) C dX4_tells_86 (by decide) h (fun h => ?_) (fun h => ?_)
        · exact g_sub [1, 2, 3, 4, 5, 0] rfl (hJ7  h)
        · refine g_iload C dX4_tells_89 0 rfl ?_
          refine g_sipush (v := (20011 : Int32)) C dX4_tells_91 (by decide) ?_
          refine g_icmp_ne (tgt := 132) C dX4_tells_94 (by decide) h (fun h => ?_) (fun h => ?_)
          · exact g_sub [1, 2, 3, 4, 5, 0] rfl (hJ7  h)
          · refine g_iload_n C dX4_tells_132 rfl 4 rfl ?_
            refine g_iconst (v := (2 : Int32)) C dX4_tells_133 (by decide) ?_
            refine g_icmp_ge (tgt := 139) C dX4_tells_134 (by decide) h (fun h => ?_) (fun h => ?_)
            · refine g_iinc (lv' := [(5, .int x5_6), (0, .ref (ad k)), (1, .int a0), (2, .ref (ad 72)), (4, .int x4_3)]) C dX4_tells_139 (q := 4) rfl (by decide) h rfl (fun _ => rfl) (fun x3_12 h => ?_)
              refine g_aload_n C dX4_tells_142 rfl 2 rfl ?_
              refine g_get C (T := TX4) hcl4 (tx_O hk) rfl (j := 2) (by decide) wl_284 (v := .ref (ad (k + 3))) rfl dX4_tells_143 ?_
              refine g_iload_n C dX4_tells_146 rfl 0 rfl ?_
              refine g_iconst (v := (1 : Int32)) C dX4_tells_147 (by decide) ?_
              refine g_isub C dX4_tells_148 ?_
              refine g_iload C dX4_tells_149 1 rfl ?_
              refine g_sipush (v := (20000 : Int32)) C dX4_tells_151 (by decide) ?_
              refine g_isub C dX4_tells_154 ?_
              refine g_aload_n C dX4_tells_155 rfl 2 rfl ?_
              refine g_get C (T := TX4) hcl4 (tx_O hk) rfl (j := 2) (by decide) wl_284 (v := .ref (ad (k + 3))) rfl dX4_tells_156 ?_
              refine g_iload_n C dX4_tells_159 rfl 0 rfl ?_
              refine g_iconst (v := (1 : Int32)) C dX4_tells_160 (by decide) ?_
              refine g_isub C dX4_tells_161 ?_
              refine g_iald C (tx_I3 hk) dX4_tells_162 h (fun h => ?_)
              refine g_aload_n C dX4_tells_163 rfl 2 rfl ?_
              refine g_get C (T := TX4) hcl4 (tx_O hk) rfl (j := 2) (by decide) wl_284 (v := .ref (ad (k + 3))) rfl dX4_tells_164 ?_
              refine g_iload_n C dX4_tells_167 rfl 0 rfl ?_
              refine g_iald C (tx_I3 hk) dX4_tells_168 h (fun h => ?_)
              obtain ⟨r13, hX14, h⟩ := bd1_inv h
              refine g_callS C (c_X4_ofTwo l hX14) (cwSw 3 C.2.2.2.2.1 wl_634 wl_635 wl_113 wl_636 rfl rfl (by decide +kernel) ⟨Nat.le_of_ble_eq_true rfl, Nat.le_of_ble_eq_true rfl⟩) rfl rfl rfl (Nat.le_of_ble_eq_true rfl) dX4_tells_169 ?_
              refine g_iast C (tx_I3 hk) dX4_tells_172 h (fun m15 h => ?_)
              refine g_iinc (lv' := [(3, .int x3_12), (5, .int x5_6), (0, .ref (ad k)), (1, .int a0), (2, .ref (ad 72))]) C dX4_tells_173 (q := 5) rfl (by decide) h rfl (fun _ => rfl) (fun x4_16 h => ?_)
              refine g_goto (tgt := 10) C dX4_tells_176 (by decide) ?_
              exact g_sub [3, 4, 5, 1, 0] rfl (ih _ _ _ h)
            · refine g_iconst (v := (0 : Int32)) C dX4_tells_137 (by decide) ?_
              obtain ⟨rfl, rfl⟩ := sp_inj h
              exact g_iret C hr hlk dX4_tells_138 rfl
      · refine g_iload_n C dX4_tells_40 rfl 4 rfl ?_
        refine g_bipush (v := (40 : Int32)) C dX4_tells_41 (by decide) ?_
        refine g_icmp_lt (tgt := 48) C dX4_tells_43 (by decide) h (fun h => ?_) (fun h => ?_)
        · refine g_aload_n C dX4_tells_48 rfl 1 rfl ?_
          refine g_get C (T := TX4) hcl4 (tx_O hk) rfl (j := 2) (by decide) wl_284 (v := .ref (ad (k + 3))) rfl dX4_tells_49 ?_
          refine g_iload_n C dX4_tells_52 rfl 4 rfl ?_
          refine g_iinc (lv' := [(5, .int x5_6), (0, .ref (ad k)), (1, .int a0), (2, .ref (ad 72)), (4, .int x4_3)]) C dX4_tells_53 (q := 4) rfl (by decide) h rfl (fun _ => rfl) (fun x3_17 h => ?_)
          refine g_iload C dX4_tells_56 1 rfl ?_
          refine g_sipush (v := (10000 : Int32)) C dX4_tells_58 (by decide) ?_
          refine g_join_I h 77 (fun s18 => [(0, .ref (ad k)), (1, .int a0), (2, .ref (ad 72)), (3, .int x3_17), (4, .int x4_3)]) (fun s18 => [.int s18, .int x3_2, .ref (ad (k + 3))]) ?_ ?_
          · intro s18 h
            refine g_iast C (tx_I3 hk) dX4_tells_77 h (fun m20 h => ?_)
            refine g_goto (tgt := 173) C dX4_tells_78 (by decide) ?_
            refine g_iinc (lv' := [(0, .ref (ad k)), (1, .int a0), (2, .ref (ad 72)), (3, .int x3_17)]) C dX4_tells_173 (q := 4) rfl (by decide) h rfl (fun _ => rfl) (fun x4_21 h => ?_)
            refine g_goto (tgt := 10) C dX4_tells_176 (by decide) ?_
            exact g_sub [1, 2, 3, 4, 0] rfl (ih _ _ _ h)
          intro J19 hJ19 h
          refine g_icmp_ge (tgt := 69) C dX4_tells_61 (by decide) h (fun h => ?_) (fun h => ?_)
          · refine g_aload_n C dX4_tells_69 rfl 4 rfl ?_
            refine g_iload C dX4_tells_70 1 rfl ?_
            refine g_sipush (v := (10000 : Int32)) C dX4_tells_72 (by decide) ?_
            refine g_isub C dX4_tells_75 ?_
            refine g_iald C cI_72 dX4_tells_76 h (fun h => ?_)
            exact g_sub [2, 3, 4, 0, 5] rfl (hJ19 _ h)
          · refine g_iload C dX4_tells_64 1 rfl ?_
            refine g_goto (tgt := 77) C dX4_tells_66 (by decide) ?_
            exact g_sub [2, 3, 4, 0, 5] rfl (hJ19 _ h)
        · refine g_iconst (v := (0 : Int32)) C dX4_tells_46 (by decide) ?_
          obtain ⟨rfl, rfl⟩ := sp_inj h
          exact g_iret C hr hlk dX4_tells_47 rfl

def rmX5_bounded : Room := { frames := 1, cells := 0, slots := 0, locals := 21 }
set_option maxRecDepth 100000 in
set_option maxHeartbeats 4000000 in
theorem c_X5_bounded (l : Launch)  {a0 : Int32} {a1 : Int32}  {m : MM} {r : Int32} (h : f_X5_bounded a0 a1 m = some r) : CT l yX5_bounded cX5_bounded 2 (some .int) rmX5_bounded cfC 73 (fun ad tb => [.int a0, .int a1]) m (some (.int r)) m := by
  refine CT.of (cc := cX5_bounded) (maxL := 2) (ret := (some .int)) (by decide) ⟨rfl, rfl⟩ (fun _ _ => Nat.le_of_ble_eq_true rfl) ?_
  intro p e s mt args below meth c D cA ad tb C hr hlk
  refine g_lv (lv' := [(0, .int a0), (1, .int a1)]) rfl ?_
  unfold f_X5_bounded at h
  refine g_iconst (v := (0 : Int32)) C dX5_bounded_0 (by decide) ?_
  refine g_iload_n C dX5_bounded_1 rfl 0 rfl ?_
  refine g_iload_n C dX5_bounded_2 rfl 1 rfl ?_
  refine g_min C wl_640 wl_418 wl_119 wl_419 ⟨Nat.le_of_ble_eq_true rfl, Nat.le_of_ble_eq_true rfl⟩ (Nat.le_of_ble_eq_true rfl) dX5_bounded_3 ?_
  refine g_max C wl_641 wl_415 wl_119 wl_416 ⟨Nat.le_of_ble_eq_true rfl, Nat.le_of_ble_eq_true rfl⟩ (Nat.le_of_ble_eq_true rfl) dX5_bounded_6 ?_
  obtain rfl := so_inj h
  exact g_iret C hr hlk dX5_bounded_9 rfl

def rmX5_costs : Room := { frames := 2, cells := 0, slots := 0, locals := 47 }
set_option maxRecDepth 100000 in
set_option maxHeartbeats 4000000 in
theorem c_X5_costs (l : Launch) {F : Nat}  {a0 : Int32} {a1 : Int32} {a2 : Int32}  {m : MM} {m' : MM} {r : Int32} (h : f_X5_costs F a0 a1 a2 m = some (r, m')) : CT l yX5_costs cX5_costs 4 (some .int) rmX5_costs cfC 73 (fun ad tb => [.ref (ad 0), .int a0, .int a1, .int a2]) m (some (.int r)) m' := by
  refine CT.of (cc := cX5_costs) (maxL := 4) (ret := (some .int)) (by decide) ⟨rfl, rfl⟩ (fun _ _ => Nat.le_of_ble_eq_true rfl) ?_
  intro p e s mt args below meth c D cA ad tb C hr hlk
  refine g_lv (lv' := [(0, .ref (ad 0)), (1, .int a0), (2, .int a1), (3, .int a2)]) rfl ?_
  have hcl0 : ∀ w ∈ wsX00, w.before args s = true := fun w hw => C.2.2.2.2.1 w (inlX0 w hw)
  have hcl5 : ∀ w ∈ wsX50, w.before args s = true := fun w hw => C.2.2.2.2.1 w (inlX5 w hw)
  unfold f_X5_costs at h
  refine g_aload_n C dX5_costs_0 rfl 0 rfl ?_
  refine g_aload_n C dX5_costs_1 rfl 0 rfl ?_
  refine g_get C (T := TX5) hcl5 cO_0 rfl (j := 0) (by decide) wl_482 (v := .ref (ad 1)) rfl dX5_costs_2 ?_
  refine g_get C (T := TX0) hcl0 cO_1 rfl (j := 3) (by decide) wl_144 (v := .ref (ad 5)) rfl dX5_costs_5 ?_
  refine g_iload_n C dX5_costs_8 rfl 1 rfl ?_
  refine g_iald C cI_5 dX5_costs_9 h (fun h => ?_)
  refine g_iload_n C dX5_costs_10 rfl 2 rfl ?_
  refine g_iload_n C dX5_costs_11 rfl 3 rfl ?_
  refine g_iload_n C dX5_costs_12 rfl 1 rfl ?_
  refine g_aload_n C dX5_costs_13 rfl 0 rfl ?_
  refine g_get C (T := TX5) hcl5 cO_0 rfl (j := 0) (by decide) wl_482 (v := .ref (ad 1)) rfl dX5_costs_14 ?_
  refine g_iload_n C dX5_costs_17 rfl 3 rfl ?_
  obtain ⟨r1, hX2, h⟩ := bd1_inv h
  refine g_callV C (c_X0_wet l lot_1 hX2) (cwVw 1 C.2.2.2.2.1 wl_573 wl_574 wl_575 wl_110 wl_576 rfl rfl (by decide +kernel) ⟨Nat.le_of_ble_eq_true rfl, Nat.le_of_ble_eq_true rfl⟩) cO_1 rfl rfl rfl rfl (Nat.le_of_ble_eq_true rfl) dX5_costs_18 ?_
  obtain ⟨m4, hX3, h⟩ := bd1_inv h
  refine g_callV C (c_X5_name l hX3) (cwVw 5 C.2.2.2.2.1 wl_623 wl_625 wl_14 wl_109 wl_626 rfl rfl (by decide +kernel) ⟨Nat.le_of_ble_eq_true rfl, Nat.le_of_ble_eq_true rfl⟩) cO_0 rfl rfl rfl rfl (Nat.le_of_ble_eq_true rfl) dX5_costs_21 ?_
  refine g_aload_n C dX5_costs_24 rfl 0 rfl ?_
  refine g_get C (T := TX5) hcl5 cO_0 rfl (j := 5) (by decide) wl_487 (v := .ref (ad 38)) rfl dX5_costs_25 ?_
  refine g_aload_n C dX5_costs_28 rfl 0 rfl ?_
  refine g_get C (T := TX5) hcl5 cO_0 rfl (j := 0) (by decide) wl_482 (v := .ref (ad 1)) rfl dX5_costs_29 ?_
  refine g_get C (T := TX0) hcl0 cO_1 rfl (j := 11) (by decide) wl_163 (v := .int (rI m4 1 11)) rfl dX5_costs_32 ?_
  refine g_aald C cQ_38 (fun _ => rfl) dX5_costs_35 h (fun hb5 h => ?_)
  refine g_iconst (v := (0 : Int32)) C dX5_costs_36 (by decide) ?_
  refine g_aload_n C dX5_costs_37 rfl 0 rfl ?_
  refine g_get C (T := TX5) hcl5 cO_0 rfl (j := 7) (by decide) wl_489 (v := .ref (ad 72)) rfl dX5_costs_38 ?_
  obtain ⟨r6, m8, hX7, h⟩ := bd2_inv h
  refine g_callV C (c_X4_tells l (tx_ix hb5) hX7) (cwVw 2 C.2.2.2.2.1 wl_627 wl_628 wl_629 wl_113 wl_630 rfl rfl (by decide +kernel) ⟨Nat.le_of_ble_eq_true rfl, Nat.le_of_ble_eq_true rfl⟩) (tx_O (tx_ix hb5)) rfl rfl rfl rfl (Nat.le_of_ble_eq_true rfl) dX5_costs_41 ?_
  refine g_bipush (v := (99 : Int32)) C dX5_costs_44 (by decide) ?_
  obtain ⟨r9, hX10, h⟩ := bd1_inv h
  refine g_callS C (c_X5_bounded l hX10) (cwSw 2 C.2.2.2.2.1 wl_637 wl_638 wl_109 wl_639 rfl rfl (by decide +kernel) ⟨Nat.le_of_ble_eq_true rfl, Nat.le_of_ble_eq_true rfl⟩) rfl rfl rfl (Nat.le_of_ble_eq_true rfl) dX5_costs_46 ?_
  obtain ⟨rfl, rfl⟩ := sp_inj h
  exact g_iret C hr hlk dX5_costs_49 rfl

def rmX5_move : Room := { frames := 3, cells := 0, slots := 0, locals := 70 }
set_option maxRecDepth 100000 in
set_option maxHeartbeats 4000000 in
theorem c_X5_move (l : Launch) {F : Nat}  {a0 : Int32} {a1 : Int32}  {m : MM} {m' : MM} {r : Int32} (h : f_X5_move F a0 a1 m = some (r, m')) : CT l yX5_move cX5_move 4 (some .int) rmX5_move cfC 73 (fun ad tb => [.ref (ad 0), .int a0, .int a1]) m (some (.int r)) m' := by
  refine CT.of (cc := cX5_move) (maxL := 4) (ret := (some .int)) (by decide) ⟨rfl, rfl⟩ (fun _ _ => Nat.le_of_ble_eq_true rfl) ?_
  intro p e s mt args below meth c D cA ad tb C hr hlk
  refine g_lv (lv' := [(0, .ref (ad 0)), (1, .int a0), (2, .int a1)]) rfl ?_
  have hcl0 : ∀ w ∈ wsX00, w.before args s = true := fun w hw => C.2.2.2.2.1 w (inlX0 w hw)
  have hcl5 : ∀ w ∈ wsX50, w.before args s = true := fun w hw => C.2.2.2.2.1 w (inlX5 w hw)
  unfold f_X5_move at h
  refine g_aload_n C dX5_move_0 rfl 0 rfl ?_
  refine g_get C (T := TX5) hcl5 cO_0 rfl (j := 0) (by decide) wl_482 (v := .ref (ad 1)) rfl dX5_move_1 ?_
  refine g_iload_n C dX5_move_4 rfl 1 rfl ?_
  obtain ⟨r1, hX2, h⟩ := bd1_inv h
  refine g_callV C (c_X0_hasThing l lot_1 hX2) (cwVw 1 C.2.2.2.2.1 wl_557 wl_558 wl_559 wl_110 wl_560 rfl rfl (by decide +kernel) ⟨Nat.le_of_ble_eq_true rfl, Nat.le_of_ble_eq_true rfl⟩) cO_1 rfl rfl rfl rfl (Nat.le_of_ble_eq_true rfl) dX5_move_5 ?_
  refine g_if_eq (tgt := 22) C dX5_move_8 (by decide) h (fun h => ?_) (fun h => ?_)
  · refine g_bipush (v := (-2 : Int32)) C dX5_move_22 (by decide) ?_
    obtain ⟨rfl, rfl⟩ := sp_inj h
    exact g_iret C hr hlk dX5_move_24 rfl
  · refine g_aload_n C dX5_move_11 rfl 0 rfl ?_
    refine g_get C (T := TX5) hcl5 cO_0 rfl (j := 0) (by decide) wl_482 (v := .ref (ad 1)) rfl dX5_move_12 ?_
    refine g_iload_n C dX5_move_15 rfl 2 rfl ?_
    obtain ⟨r3, hX4, h⟩ := bd1_inv h
    refine g_callV C (c_X0_hasHold l lot_1 hX4) (cwVw 1 C.2.2.2.2.1 wl_532 wl_533 wl_534 wl_110 wl_535 rfl rfl (by decide +kernel) ⟨Nat.le_of_ble_eq_true rfl, Nat.le_of_ble_eq_true rfl⟩) cO_1 rfl rfl rfl rfl (Nat.le_of_ble_eq_true rfl) dX5_move_16 ?_
    refine g_if_ne (tgt := 25) C dX5_move_19 (by decide) h (fun h => ?_) (fun h => ?_)
    · refine g_bipush (v := (-2 : Int32)) C dX5_move_22 (by decide) ?_
      obtain ⟨rfl, rfl⟩ := sp_inj h
      exact g_iret C hr hlk dX5_move_24 rfl
    · refine g_aload_n C dX5_move_25 rfl 0 rfl ?_
      refine g_get C (T := TX5) hcl5 cO_0 rfl (j := 0) (by decide) wl_482 (v := .ref (ad 1)) rfl dX5_move_26 ?_
      refine g_iload_n C dX5_move_29 rfl 1 rfl ?_
      refine g_iload_n C dX5_move_30 rfl 2 rfl ?_
      obtain ⟨r5, hX6, h⟩ := bd1_inv h
      refine g_callV C (c_X0_refusal l lot_1 hX6) (cwVw 2 C.2.2.2.2.1 wl_537 wl_538 wl_539 wl_110 wl_540 rfl rfl (by decide +kernel) ⟨Nat.le_of_ble_eq_true rfl, Nat.le_of_ble_eq_true rfl⟩) cO_1 rfl rfl rfl rfl (Nat.le_of_ble_eq_true rfl) dX5_move_31 ?_
      refine g_if_eq (tgt := 40) C dX5_move_34 (by decide) h (fun h => ?_) (fun h => ?_)
      · refine g_aload_n C dX5_move_40 rfl 0 rfl ?_
        refine g_iload_n C dX5_move_41 rfl 1 rfl ?_
        refine g_aload_n C dX5_move_42 rfl 0 rfl ?_
        refine g_get C (T := TX5) hcl5 cO_0 rfl (j := 0) (by decide) wl_482 (v := .ref (ad 1)) rfl dX5_move_43 ?_
        refine g_get C (T := TX0) hcl0 cO_1 rfl (j := 6) (by decide) wl_151 (v := .ref (ad 8)) rfl dX5_move_46 ?_
        refine g_iload_n C dX5_move_49 rfl 1 rfl ?_
        refine g_iald C cI_8 dX5_move_50 h (fun h => ?_)
        refine g_iload_n C dX5_move_51 rfl 2 rfl ?_
        obtain ⟨r7, m9, hX8, h⟩ := bd2_inv h
        refine g_callV C (c_X5_costs l hX8) (cwVw 3 C.2.2.2.2.1 wl_619 wl_621 wl_13 wl_109 wl_622 rfl rfl (by decide +kernel) ⟨Nat.le_of_ble_eq_true rfl, Nat.le_of_ble_eq_true rfl⟩) cO_0 rfl rfl rfl rfl (Nat.le_of_ble_eq_true rfl) dX5_move_52 ?_
        refine g_istore_n (lv' := [(3, .int r7), (0, .ref (ad 0)), (1, .int a0), (2, .int a1)]) C dX5_move_55 rfl (by decide) rfl ?_
        refine g_aload_n C dX5_move_56 rfl 1 rfl ?_
        refine g_get C (T := TX5) hcl5 cO_0 rfl (j := 0) (by decide) wl_482 (v := .ref (ad 1)) rfl dX5_move_57 ?_
        refine g_get C (T := TX0) hcl0 cO_1 rfl (j := 6) (by decide) wl_151 (v := .ref (ad 8)) rfl dX5_move_60 ?_
        refine g_iload_n C dX5_move_63 rfl 2 rfl ?_
        refine g_iload_n C dX5_move_64 rfl 3 rfl ?_
        refine g_iast C cI_8 dX5_move_65 h (fun m10 h => ?_)
        refine g_iload_n C dX5_move_66 rfl 0 rfl ?_
        obtain ⟨rfl, rfl⟩ := sp_inj h
        exact g_iret C hr hlk dX5_move_67 rfl
      · refine g_bipush (v := (-3 : Int32)) C dX5_move_37 (by decide) ?_
        obtain ⟨rfl, rfl⟩ := sp_inj h
        exact g_iret C hr hlk dX5_move_39 rfl

def rmX5_why : Room := { frames := 2, cells := 0, slots := 0, locals := 42 }
set_option maxRecDepth 100000 in
set_option maxHeartbeats 4000000 in
theorem c_X5_why (l : Launch) {F : Nat}  {a0 : Int32} {a1 : Int32}  {m : MM} {r : Int32} (h : f_X5_why F a0 a1 m = some r) : CT l yX5_why cX5_why 3 (some .int) rmX5_why cfC 73 (fun ad tb => [.ref (ad 0), .int a0, .int a1]) m (some (.int r)) m := by
  refine CT.of (cc := cX5_why) (maxL := 3) (ret := (some .int)) (by decide) ⟨rfl, rfl⟩ (fun _ _ => Nat.le_of_ble_eq_true rfl) ?_
  intro p e s mt args below meth c D cA ad tb C hr hlk
  refine g_lv (lv' := [(0, .ref (ad 0)), (1, .int a0), (2, .int a1)]) rfl ?_
  have hcl5 : ∀ w ∈ wsX50, w.before args s = true := fun w hw => C.2.2.2.2.1 w (inlX5 w hw)
  unfold f_X5_why at h
  refine g_aload_n C dX5_why_0 rfl 0 rfl ?_
  refine g_get C (T := TX5) hcl5 cO_0 rfl (j := 0) (by decide) wl_482 (v := .ref (ad 1)) rfl dX5_why_1 ?_
  refine g_iload_n C dX5_why_4 rfl 1 rfl ?_
  obtain ⟨r1, hX2, h⟩ := bd1_inv h
  refine g_callV C (c_X0_hasThing l lot_1 hX2) (cwVw 1 C.2.2.2.2.1 wl_557 wl_558 wl_559 wl_110 wl_560 rfl rfl (by decide +kernel) ⟨Nat.le_of_ble_eq_true rfl, Nat.le_of_ble_eq_true rfl⟩) cO_1 rfl rfl rfl rfl (Nat.le_of_ble_eq_true rfl) dX5_why_5 ?_
  refine g_if_eq (tgt := 22) C dX5_why_8 (by decide) h (fun h => ?_) (fun h => ?_)
  · refine g_bipush (v := (-2 : Int32)) C dX5_why_22 (by decide) ?_
    obtain rfl := so_inj h
    exact g_iret C hr hlk dX5_why_24 rfl
  · refine g_aload_n C dX5_why_11 rfl 0 rfl ?_
    refine g_get C (T := TX5) hcl5 cO_0 rfl (j := 0) (by decide) wl_482 (v := .ref (ad 1)) rfl dX5_why_12 ?_
    refine g_iload_n C dX5_why_15 rfl 2 rfl ?_
    obtain ⟨r3, hX4, h⟩ := bd1_inv h
    refine g_callV C (c_X0_hasHold l lot_1 hX4) (cwVw 1 C.2.2.2.2.1 wl_532 wl_533 wl_534 wl_110 wl_535 rfl rfl (by decide +kernel) ⟨Nat.le_of_ble_eq_true rfl, Nat.le_of_ble_eq_true rfl⟩) cO_1 rfl rfl rfl rfl (Nat.le_of_ble_eq_true rfl) dX5_why_16 ?_
    refine g_if_ne (tgt := 25) C dX5_why_19 (by decide) h (fun h => ?_) (fun h => ?_)
    · refine g_bipush (v := (-2 : Int32)) C dX5_why_22 (by decide) ?_
      obtain rfl := so_inj h
      exact g_iret C hr hlk dX5_why_24 rfl
    · refine g_aload_n C dX5_why_25 rfl 0 rfl ?_
      refine g_get C (T := TX5) hcl5 cO_0 rfl (j := 0) (by decide) wl_482 (v := .ref (ad 1)) rfl dX5_why_26 ?_
      refine g_iload_n C dX5_why_29 rfl 1 rfl ?_
      refine g_iload_n C dX5_why_30 rfl 2 rfl ?_
      obtain ⟨r5, hX6, h⟩ := bd1_inv h
      refine g_callV C (c_X0_refusal l lot_1 hX6) (cwVw 2 C.2.2.2.2.1 wl_537 wl_538 wl_539 wl_110 wl_540 rfl rfl (by decide +kernel) ⟨Nat.le_of_ble_eq_true rfl, Nat.le_of_ble_eq_true rfl⟩) cO_1 rfl rfl rfl rfl (Nat.le_of_ble_eq_true rfl) dX5_why_31 ?_
      obtain rfl := so_inj h
      exact g_iret C hr hlk dX5_why_34 rfl

def rmX0_freeHands : Room := { frames := 0, cells := 0, slots := 0, locals := 0 }
set_option maxRecDepth 100000 in
set_option maxHeartbeats 4000000 in
theorem c_X0_freeHands (l : Launch) {F : Nat}  {k : Nat} (hk : isLot k) {m : MM} {r : Int32} (h : f_X0_freeHands F k m = some r) : CT l yX0_freeHands cX0_freeHands 4 (some .int) rmX0_freeHands cfC 73 (fun ad tb => [.ref (ad k)]) m (some (.int r)) m := by
  refine CT.of (cc := cX0_freeHands) (maxL := 4) (ret := (some .int)) (by decide) ⟨rfl, rfl⟩ (fun _ _ => Nat.le_of_ble_eq_true rfl) ?_
  intro p e s mt args below meth c D cA ad tb C hr hlk
  refine g_lv (lv' := [(0, .ref (ad k))]) rfl ?_
  have hcl0 : ∀ w ∈ wsX00, w.before args s = true := fun w hw => C.2.2.2.2.1 w (inlX0 w hw)
  unfold f_X0_freeHands at h
  refine g_iconst (v := (0 : Int32)) C dX0_freeHands_0 (by decide) ?_
  refine g_istore_n (lv' := [(1, .int (0 : Int32)), (0, .ref (ad k))]) C dX0_freeHands_1 rfl (by decide) rfl ?_
  refine g_iconst (v := (0 : Int32)) C dX0_freeHands_2 (by decide) ?_
  refine g_istore_n (lv' := [(2, .int (0 : Int32)), (1, .int (0 : Int32)), (0, .ref (ad k))]) C dX0_freeHands_3 rfl (by decide) rfl ?_
  refine g_sub [2, 1, 0] rfl ?_
  refine g_loop_II (L := f_X0_freeHands_L4 k m) h 4 39 (fun x1_1 x2_2 => [(0, .ref (ad k)), (1, .int x1_1), (2, .int x2_2)]) (fun x1_1 x2_2 => [(0, .ref (ad k)), (1, .int x1_1)]) (fun x1_1 x2_2 => []) (fun x1_1 x2_2 => []) ?_ ?_ (fun _ _ _ => rfl)
  · intro x1_1 x2_2 h
    refine g_iconst (v := (0 : Int32)) C dX0_freeHands_39 (by decide) ?_
    refine g_istore_n (lv' := [(2, .int (0 : Int32)), (0, .ref (ad k)), (1, .int x1_1)]) C dX0_freeHands_40 rfl (by decide) rfl ?_
    refine g_iconst (v := (0 : Int32)) C dX0_freeHands_41 (by decide) ?_
    refine g_istore_n (lv' := [(3, .int (0 : Int32)), (2, .int (0 : Int32)), (0, .ref (ad k)), (1, .int x1_1)]) C dX0_freeHands_42 rfl (by decide) rfl ?_
    refine g_sub [2, 3, 1, 0] rfl ?_
    refine g_loop_II (L := f_X0_freeHands_L43 k m x1_1) h 43 82 (fun x2_7 x3_8 => [(0, .ref (ad k)), (1, .int x1_1), (2, .int x2_7), (3, .int x3_8)]) (fun x2_7 x3_8 => [(2, .int x2_7)]) (fun x2_7 x3_8 => []) (fun x2_7 x3_8 => []) ?_ ?_ (fun _ _ _ => rfl)
    · intro x2_7 x3_8 h
      refine g_iload_n C dX0_freeHands_82 rfl 0 rfl ?_
      obtain rfl := so_inj h
      exact g_iret C hr hlk dX0_freeHands_83 rfl
    · intro K9 hK9 n ih x2_7 x3_8 h
      rw [f_X0_freeHands_L43] at h
      refine g_iload_n C dX0_freeHands_43 rfl 3 rfl ?_
      refine g_aload_n C dX0_freeHands_44 rfl 0 rfl ?_
      refine g_get C (T := TX0) hcl0 (lot_O hk) rfl (j := 7) (by decide) wl_154 (v := .int (rI m k 7)) rfl dX0_freeHands_45 ?_
      refine g_icmp_ge (tgt := 82) C dX0_freeHands_48 (by decide) h (fun h => ?_) (fun h => ?_)
      · exact g_sub [2] rfl (hK9 _ _ h)
      · refine g_getsN C 3 (by decide) (mem_i 2 rfl) dX0_freeHands_51 ?_
        refine g_aload_n C dX0_freeHands_54 rfl 0 rfl ?_
        refine g_get C (T := TX0) hcl0 (lot_O hk) rfl (j := 0) (by decide) wl_137 (v := .ref (ad (k + 1))) rfl dX0_freeHands_55 ?_
        refine g_iload_n C dX0_freeHands_58 rfl 3 rfl ?_
        refine g_iald C (lot_I1 hk) dX0_freeHands_59 h (fun h => ?_)
        refine g_sald C (q := 3) (by decide) dX0_freeHands_60 h (fun h => ?_)
        refine g_iconst (v := (1 : Int32)) C dX0_freeHands_61 (by decide) ?_
        refine g_icmp_ne (tgt := 76) C dX0_freeHands_62 (by decide) h (fun h => ?_) (fun h => ?_)
        · refine g_iload_n C dX0_freeHands_65 rfl 1 rfl ?_
          refine g_iload_n C dX0_freeHands_66 rfl 3 rfl ?_
          refine g_ishr C dX0_freeHands_67 ?_
          refine g_iconst (v := (1 : Int32)) C dX0_freeHands_68 (by decide) ?_
          refine g_iand C dX0_freeHands_69 ?_
          refine g_if_ne (tgt := 76) C dX0_freeHands_70 (by decide) h (fun h => ?_) (fun h => ?_)
          · refine g_iinc (lv' := [(0, .ref (ad k)), (1, .int x1_1), (3, .int x3_8)]) C dX0_freeHands_73 (q := 2) rfl (by decide) h rfl (fun _ => rfl) (fun x2_10 h => ?_)
            refine g_iinc (lv' := [(2, .int x2_10), (0, .ref (ad k)), (1, .int x1_1)]) C dX0_freeHands_76 (q := 3) rfl (by decide) h rfl (fun _ => rfl) (fun x3_11 h => ?_)
            refine g_goto (tgt := 43) C dX0_freeHands_79 (by decide) ?_
            exact g_sub [2, 3, 1, 0] rfl (ih _ _ h)
          · refine g_iinc (lv' := [(0, .ref (ad k)), (1, .int x1_1), (2, .int x2_7)]) C dX0_freeHands_76 (q := 3) rfl (by decide) h rfl (fun _ => rfl) (fun x3_12 h => ?_)
            refine g_goto (tgt := 43) C dX0_freeHands_79 (by decide) ?_
            exact g_sub [1, 2, 3, 0] rfl (ih _ _ h)
        · refine g_iinc (lv' := [(0, .ref (ad k)), (1, .int x1_1), (2, .int x2_7)]) C dX0_freeHands_76 (q := 3) rfl (by decide) h rfl (fun _ => rfl) (fun x3_13 h => ?_)
          refine g_goto (tgt := 43) C dX0_freeHands_79 (by decide) ?_
          exact g_sub [1, 2, 3, 0] rfl (ih _ _ h)
  · intro K3 hK3 n ih x1_1 x2_2 h
    rw [f_X0_freeHands_L4] at h
    refine g_iload_n C dX0_freeHands_4 rfl 2 rfl ?_
    refine g_aload_n C dX0_freeHands_5 rfl 0 rfl ?_
    refine g_get C (T := TX0) hcl0 (lot_O hk) rfl (j := 8) (by decide) wl_156 (v := .int (rI m k 8)) rfl dX0_freeHands_6 ?_
    refine g_icmp_ge (tgt := 39) C dX0_freeHands_9 (by decide) h (fun h => ?_) (fun h => ?_)
    · exact g_sub [0, 1] rfl (hK3 _ _ h)
    · refine g_aload_n C dX0_freeHands_12 rfl 0 rfl ?_
      refine g_get C (T := TX0) hcl0 (lot_O hk) rfl (j := 6) (by decide) wl_149 (v := .ref (ad (k + 7))) rfl dX0_freeHands_13 ?_
      refine g_iload_n C dX0_freeHands_16 rfl 2 rfl ?_
      refine g_iald C (lot_I7 hk) dX0_freeHands_17 h (fun h => ?_)
      refine g_iconst (v := (-1 : Int32)) C dX0_freeHands_18 (by decide) ?_
      refine g_icmp_eq (tgt := 33) C dX0_freeHands_19 (by decide) h (fun h => ?_) (fun h => ?_)
      · refine g_iinc (lv' := [(0, .ref (ad k)), (1, .int x1_1)]) C dX0_freeHands_33 (q := 2) rfl (by decide) h rfl (fun _ => rfl) (fun x2_4 h => ?_)
        refine g_goto (tgt := 4) C dX0_freeHands_36 (by decide) ?_
        exact g_sub [1, 2, 0] rfl (ih _ _ h)
      · refine g_iload_n C dX0_freeHands_22 rfl 1 rfl ?_
        refine g_iconst (v := (1 : Int32)) C dX0_freeHands_23 (by decide) ?_
        refine g_aload_n C dX0_freeHands_24 rfl 0 rfl ?_
        refine g_get C (T := TX0) hcl0 (lot_O hk) rfl (j := 6) (by decide) wl_149 (v := .ref (ad (k + 7))) rfl dX0_freeHands_25 ?_
        refine g_iload_n C dX0_freeHands_28 rfl 2 rfl ?_
        refine g_iald C (lot_I7 hk) dX0_freeHands_29 h (fun h => ?_)
        refine g_ishl C dX0_freeHands_30 ?_
        refine g_ior C dX0_freeHands_31 ?_
        refine nm_i h (fun x1_5 h => ?_)
        refine g_istore_n (lv' := [(1, .int x1_5), (0, .ref (ad k)), (2, .int x2_2)]) C dX0_freeHands_32 rfl (by decide) rfl ?_
        refine g_iinc (lv' := [(1, .int x1_5), (0, .ref (ad k))]) C dX0_freeHands_33 (q := 2) rfl (by decide) h rfl (fun _ => rfl) (fun x2_6 h => ?_)
        refine g_goto (tgt := 4) C dX0_freeHands_36 (by decide) ?_
        exact g_sub [2, 1, 0] rfl (ih _ _ h)

def rmX0_isOpen : Room := { frames := 1, cells := 0, slots := 0, locals := 23 }
set_option maxRecDepth 100000 in
set_option maxHeartbeats 4000000 in
theorem c_X0_isOpen (l : Launch) {F : Nat}  {k : Nat} (hk : isLot k) {m : MM} {r : Int32} (h : f_X0_isOpen F k m = some r) : CT l yX0_isOpen cX0_isOpen 1 (some .boolean) rmX0_isOpen cfC 73 (fun ad tb => [.ref (ad k)]) m (some (.int r)) m := by
  refine CT.of (cc := cX0_isOpen) (maxL := 1) (ret := (some .boolean)) (by decide) ⟨rfl, rfl⟩ (fun _ _ => Nat.le_of_ble_eq_true rfl) ?_
  intro p e s mt args below meth c D cA ad tb C hr hlk
  refine g_lv (lv' := [(0, .ref (ad k))]) rfl ?_
  have hcl0 : ∀ w ∈ wsX00, w.before args s = true := fun w hw => C.2.2.2.2.1 w (inlX0 w hw)
  unfold f_X0_isOpen at h
  refine g_aload_n C dX0_isOpen_0 rfl 0 rfl ?_
  refine g_get C (T := TX0) hcl0 (lot_O hk) rfl (j := 9) (by decide) wl_158 (v := .int (rI m k 9)) rfl dX0_isOpen_1 ?_
  refine g_iconst (v := (-1 : Int32)) C dX0_isOpen_4 (by decide) ?_
  refine g_icmp_eq (tgt := 21) C dX0_isOpen_5 (by decide) h (fun h => ?_) (fun h => ?_)
  · refine g_iconst (v := (0 : Int32)) C dX0_isOpen_21 (by decide) ?_
    obtain rfl := so_inj h
    exact g_zret C hr hlk dX0_isOpen_22 rfl rfl
  · refine g_aload_n C dX0_isOpen_8 rfl 0 rfl ?_
    refine g_get C (T := TX0) hcl0 (lot_O hk) rfl (j := 6) (by decide) wl_149 (v := .ref (ad (k + 7))) rfl dX0_isOpen_9 ?_
    refine g_aload_n C dX0_isOpen_12 rfl 0 rfl ?_
    refine g_get C (T := TX0) hcl0 (lot_O hk) rfl (j := 9) (by decide) wl_158 (v := .int (rI m k 9)) rfl dX0_isOpen_13 ?_
    refine g_iald C (lot_I7 hk) dX0_isOpen_16 h (fun h => ?_)
    refine g_iconst (v := (-1 : Int32)) C dX0_isOpen_17 (by decide) ?_
    refine g_icmp_ne (tgt := 23) C dX0_isOpen_18 (by decide) h (fun h => ?_) (fun h => ?_)
    · refine g_iconst (v := (0 : Int32)) C dX0_isOpen_21 (by decide) ?_
      obtain rfl := so_inj h
      exact g_zret C hr hlk dX0_isOpen_22 rfl rfl
    · refine g_getsN C 3 (by decide) (mem_i 2 rfl) dX0_isOpen_23 ?_
      refine g_aload_n C dX0_isOpen_26 rfl 0 rfl ?_
      refine g_get C (T := TX0) hcl0 (lot_O hk) rfl (j := 0) (by decide) wl_137 (v := .ref (ad (k + 1))) rfl dX0_isOpen_27 ?_
      refine g_aload_n C dX0_isOpen_30 rfl 0 rfl ?_
      refine g_get C (T := TX0) hcl0 (lot_O hk) rfl (j := 6) (by decide) wl_149 (v := .ref (ad (k + 7))) rfl dX0_isOpen_31 ?_
      refine g_aload_n C dX0_isOpen_34 rfl 0 rfl ?_
      refine g_get C (T := TX0) hcl0 (lot_O hk) rfl (j := 9) (by decide) wl_158 (v := .int (rI m k 9)) rfl dX0_isOpen_35 ?_
      refine g_iald C (lot_I7 hk) dX0_isOpen_38 h (fun h => ?_)
      refine g_iald C (lot_I1 hk) dX0_isOpen_39 h (fun h => ?_)
      refine g_sald C (q := 3) (by decide) dX0_isOpen_40 h (fun h => ?_)
      refine g_iconst (v := (1 : Int32)) C dX0_isOpen_41 (by decide) ?_
      refine g_icmp_ne (tgt := 60) C dX0_isOpen_42 (by decide) h (fun h => ?_) (fun h => ?_)
      · refine g_aload_n C dX0_isOpen_45 rfl 0 rfl ?_
        obtain ⟨r1, hX2, h⟩ := bd1_inv h
        refine g_callV C (c_X0_freeHands l hk hX2) (cwVw 0 C.2.2.2.2.1 wl_655 wl_656 wl_657 wl_110 wl_658 rfl rfl (by decide +kernel) ⟨Nat.le_of_ble_eq_true rfl, Nat.le_of_ble_eq_true rfl⟩) (lot_O hk) rfl rfl rfl rfl (Nat.le_of_ble_eq_true rfl) dX0_isOpen_46 ?_
        refine g_aload_n C dX0_isOpen_49 rfl 0 rfl ?_
        refine g_get C (T := TX0) hcl0 (lot_O hk) rfl (j := 10) (by decide) wl_160 (v := .int (rI m k 10)) rfl dX0_isOpen_50 ?_
        refine g_icmp_lt (tgt := 60) C dX0_isOpen_53 (by decide) h (fun h => ?_) (fun h => ?_)
        · refine g_iconst (v := (0 : Int32)) C dX0_isOpen_60 (by decide) ?_
          obtain rfl := so_inj h
          exact g_zret C hr hlk dX0_isOpen_61 rfl rfl
        · refine g_iconst (v := (1 : Int32)) C dX0_isOpen_56 (by decide) ?_
          refine g_goto (tgt := 61) C dX0_isOpen_57 (by decide) ?_
          obtain rfl := so_inj h
          exact g_zret C hr hlk dX0_isOpen_61 rfl rfl
      · refine g_iconst (v := (0 : Int32)) C dX0_isOpen_60 (by decide) ?_
        obtain rfl := so_inj h
        exact g_zret C hr hlk dX0_isOpen_61 rfl rfl

def rmX0_movesThatCanBe : Room := { frames := 1, cells := 0, slots := 0, locals := 26 }
set_option maxRecDepth 100000 in
set_option maxHeartbeats 4000000 in
theorem c_X0_movesThatCanBe (l : Launch) {F : Nat}  {k : Nat} (hk : isLot k) {m : MM} {r : Int32} (h : f_X0_movesThatCanBe F k m = some r) : CT l yX0_movesThatCanBe cX0_movesThatCanBe 4 (some .int) rmX0_movesThatCanBe cfC 73 (fun ad tb => [.ref (ad k)]) m (some (.int r)) m := by
  refine CT.of (cc := cX0_movesThatCanBe) (maxL := 4) (ret := (some .int)) (by decide) ⟨rfl, rfl⟩ (fun _ _ => Nat.le_of_ble_eq_true rfl) ?_
  intro p e s mt args below meth c D cA ad tb C hr hlk
  refine g_lv (lv' := [(0, .ref (ad k))]) rfl ?_
  have hcl0 : ∀ w ∈ wsX00, w.before args s = true := fun w hw => C.2.2.2.2.1 w (inlX0 w hw)
  unfold f_X0_movesThatCanBe at h
  refine g_iconst (v := (0 : Int32)) C dX0_movesThatCanBe_0 (by decide) ?_
  refine g_istore_n (lv' := [(1, .int (0 : Int32)), (0, .ref (ad k))]) C dX0_movesThatCanBe_1 rfl (by decide) rfl ?_
  refine g_iconst (v := (0 : Int32)) C dX0_movesThatCanBe_2 (by decide) ?_
  refine g_istore_n (lv' := [(2, .int (0 : Int32)), (1, .int (0 : Int32)), (0, .ref (ad k))]) C dX0_movesThatCanBe_3 rfl (by decide) rfl ?_
  refine g_sub [2, 1, 0] rfl ?_
  refine g_loop_II (L := f_X0_movesThatCanBe_L4 F k m) h 4 46 (fun x1_1 x2_2 => [(0, .ref (ad k)), (1, .int x1_1), (2, .int x2_2)]) (fun x1_1 x2_2 => [(1, .int x1_1)]) (fun x1_1 x2_2 => []) (fun x1_1 x2_2 => []) ?_ ?_ (fun _ _ _ => rfl)
  · intro x1_1 x2_2 h
    refine g_iload_n C dX0_movesThatCanBe_46 rfl 0 rfl ?_
    obtain rfl := so_inj h
    exact g_iret C hr hlk dX0_movesThatCanBe_47 rfl
  · intro K3 hK3 n ih x1_1 x2_2 h
    rw [f_X0_movesThatCanBe_L4] at h
    refine g_iload_n C dX0_movesThatCanBe_4 rfl 2 rfl ?_
    refine g_aload_n C dX0_movesThatCanBe_5 rfl 0 rfl ?_
    refine g_get C (T := TX0) hcl0 (lot_O hk) rfl (j := 8) (by decide) wl_156 (v := .int (rI m k 8)) rfl dX0_movesThatCanBe_6 ?_
    refine g_icmp_ge (tgt := 46) C dX0_movesThatCanBe_9 (by decide) h (fun h => ?_) (fun h => ?_)
    · exact g_sub [1] rfl (hK3 _ _ h)
    · refine g_iconst (v := (0 : Int32)) C dX0_movesThatCanBe_12 (by decide) ?_
      refine g_istore_n (lv' := [(3, .int (0 : Int32)), (0, .ref (ad k)), (1, .int x1_1), (2, .int x2_2)]) C dX0_movesThatCanBe_13 rfl (by decide) rfl ?_
      refine g_sub [1, 2, 3, 0] rfl ?_
      refine g_loop_II (L := f_X0_movesThatCanBe_L14 F k m x2_2) h 14 40 (fun x1_4 x3_5 => [(0, .ref (ad k)), (1, .int x1_4), (2, .int x2_2), (3, .int x3_5)]) (fun x1_4 x3_5 => [(0, .ref (ad k)), (1, .int x1_4), (2, .int x2_2)]) (fun x1_4 x3_5 => []) (fun x1_4 x3_5 => []) ?_ ?_ (fun _ _ _ => rfl)
      · intro x1_4 x3_5 h
        refine g_iinc (lv' := [(0, .ref (ad k)), (1, .int x1_4)]) C dX0_movesThatCanBe_40 (q := 2) rfl (by decide) h rfl (fun _ => rfl) (fun x2_12 h => ?_)
        refine g_goto (tgt := 4) C dX0_movesThatCanBe_43 (by decide) ?_
        exact g_sub [1, 2, 0] rfl (ih _ _ h)
      · intro K6 hK6 n ih x1_4 x3_5 h
        rw [f_X0_movesThatCanBe_L14] at h
        refine g_iload_n C dX0_movesThatCanBe_14 rfl 3 rfl ?_
        refine g_aload_n C dX0_movesThatCanBe_15 rfl 0 rfl ?_
        refine g_get C (T := TX0) hcl0 (lot_O hk) rfl (j := 7) (by decide) wl_154 (v := .int (rI m k 7)) rfl dX0_movesThatCanBe_16 ?_
        refine g_icmp_ge (tgt := 40) C dX0_movesThatCanBe_19 (by decide) h (fun h => ?_) (fun h => ?_)
        · exact g_sub [0, 1, 2] rfl (hK6 _ _ h)
        · refine g_aload_n C dX0_movesThatCanBe_22 rfl 0 rfl ?_
          refine g_iload_n C dX0_movesThatCanBe_23 rfl 2 rfl ?_
          refine g_iload_n C dX0_movesThatCanBe_24 rfl 3 rfl ?_
          obtain ⟨r7, hX8, h⟩ := bd1_inv h
          refine g_callV C (c_X0_refusal l hk hX8) (cwVw 2 C.2.2.2.2.1 wl_664 wl_538 wl_539 wl_110 wl_540 rfl rfl (by decide +kernel) ⟨Nat.le_of_ble_eq_true rfl, Nat.le_of_ble_eq_true rfl⟩) (lot_O hk) rfl rfl rfl rfl (Nat.le_of_ble_eq_true rfl) dX0_movesThatCanBe_25 ?_
          refine g_if_ne (tgt := 34) C dX0_movesThatCanBe_28 (by decide) h (fun h => ?_) (fun h => ?_)
          · refine g_iinc (lv' := [(0, .ref (ad k)), (2, .int x2_2), (3, .int x3_5)]) C dX0_movesThatCanBe_31 (q := 1) rfl (by decide) h rfl (fun _ => rfl) (fun x1_9 h => ?_)
            refine g_iinc (lv' := [(1, .int x1_9), (0, .ref (ad k)), (2, .int x2_2)]) C dX0_movesThatCanBe_34 (q := 3) rfl (by decide) h rfl (fun _ => rfl) (fun x3_10 h => ?_)
            refine g_goto (tgt := 14) C dX0_movesThatCanBe_37 (by decide) ?_
            exact g_sub [2, 1, 3, 0] rfl (ih _ _ h)
          · refine g_iinc (lv' := [(0, .ref (ad k)), (1, .int x1_4), (2, .int x2_2)]) C dX0_movesThatCanBe_34 (q := 3) rfl (by decide) h rfl (fun _ => rfl) (fun x3_11 h => ?_)
            refine g_goto (tgt := 14) C dX0_movesThatCanBe_37 (by decide) ?_
            exact g_sub [1, 2, 3, 0] rfl (ih _ _ h)

def rmX5_open : Room := { frames := 2, cells := 0, slots := 0, locals := 49 }
set_option maxRecDepth 100000 in
set_option maxHeartbeats 4000000 in
theorem c_X5_open (l : Launch) {F : Nat}  {a0 : Int32}  {m : MM} {r : Int32} (h : f_X5_open F a0 m = some r) : CT l yX5_open cX5_open 2 (some .int) rmX5_open cfC 73 (fun ad tb => [.ref (ad 0), .int a0]) m (some (.int r)) m := by
  refine CT.of (cc := cX5_open) (maxL := 2) (ret := (some .int)) (by decide) ⟨rfl, rfl⟩ (fun _ _ => Nat.le_of_ble_eq_true rfl) ?_
  intro p e s mt args below meth c D cA ad tb C hr hlk
  refine g_lv (lv' := [(0, .ref (ad 0)), (1, .int a0)]) rfl ?_
  have hcl5 : ∀ w ∈ wsX50, w.before args s = true := fun w hw => C.2.2.2.2.1 w (inlX5 w hw)
  unfold f_X5_open at h
  refine g_iload_n C dX5_open_0 rfl 1 rfl ?_
  by_cases q1 : a0 = (0 : Int32)
  · rw [if_pos q1] at h
    refine g_tbl (tgt := 28) C dX5_open_1 (0 : Int32) q1 (by decide) rfl (by decide) ?_
    refine g_aload_n C dX5_open_28 rfl 0 rfl ?_
    refine g_get C (T := TX5) hcl5 cO_0 rfl (j := 0) (by decide) wl_482 (v := .ref (ad 1)) rfl dX5_open_29 ?_
    obtain ⟨r2, hX3, h⟩ := bd1_inv h
    refine g_callV C (c_X0_isOpen l lot_1 hX3) (cwVw 0 C.2.2.2.2.1 wl_650 wl_651 wl_652 wl_110 wl_653 rfl rfl (by decide +kernel) ⟨Nat.le_of_ble_eq_true rfl, Nat.le_of_ble_eq_true rfl⟩) cO_1 rfl rfl rfl rfl (Nat.le_of_ble_eq_true rfl) dX5_open_32 ?_
    refine g_if_eq (tgt := 42) C dX5_open_35 (by decide) h (fun h => ?_) (fun h => ?_)
    · refine g_iconst (v := (0 : Int32)) C dX5_open_42 (by decide) ?_
      obtain rfl := so_inj h
      exact g_iret C hr hlk dX5_open_43 rfl
    · refine g_iconst (v := (1 : Int32)) C dX5_open_38 (by decide) ?_
      refine g_goto (tgt := 43) C dX5_open_39 (by decide) ?_
      obtain rfl := so_inj h
      exact g_iret C hr hlk dX5_open_43 rfl
  rw [if_neg q1] at h
  by_cases q4 : a0 = (1 : Int32)
  · rw [if_pos q4] at h
    refine g_tbl (tgt := 44) C dX5_open_1 (1 : Int32) q4 (by decide) rfl (by decide) ?_
    refine g_aload_n C dX5_open_44 rfl 0 rfl ?_
    refine g_get C (T := TX5) hcl5 cO_0 rfl (j := 0) (by decide) wl_482 (v := .ref (ad 1)) rfl dX5_open_45 ?_
    obtain ⟨r5, hX6, h⟩ := bd1_inv h
    refine g_callV C (c_X0_freeHands l lot_1 hX6) (cwVw 0 C.2.2.2.2.1 wl_659 wl_656 wl_657 wl_110 wl_658 rfl rfl (by decide +kernel) ⟨Nat.le_of_ble_eq_true rfl, Nat.le_of_ble_eq_true rfl⟩) cO_1 rfl rfl rfl rfl (Nat.le_of_ble_eq_true rfl) dX5_open_48 ?_
    obtain rfl := so_inj h
    exact g_iret C hr hlk dX5_open_51 rfl
  rw [if_neg q4] at h
  by_cases q7 : a0 = (2 : Int32)
  · rw [if_pos q7] at h
    refine g_tbl (tgt := 52) C dX5_open_1 (2 : Int32) q7 (by decide) rfl (by decide) ?_
    refine g_aload_n C dX5_open_52 rfl 0 rfl ?_
    refine g_get C (T := TX5) hcl5 cO_0 rfl (j := 0) (by decide) wl_482 (v := .ref (ad 1)) rfl dX5_open_53 ?_
    obtain ⟨r8, hX9, h⟩ := bd1_inv h
    refine g_callV C (c_X0_movesThatCanBe l lot_1 hX9) (cwVw 0 C.2.2.2.2.1 wl_660 wl_661 wl_662 wl_110 wl_663 rfl rfl (by decide +kernel) ⟨Nat.le_of_ble_eq_true rfl, Nat.le_of_ble_eq_true rfl⟩) cO_1 rfl rfl rfl rfl (Nat.le_of_ble_eq_true rfl) dX5_open_56 ?_
    obtain rfl := so_inj h
    exact g_iret C hr hlk dX5_open_59 rfl
  rw [if_neg q7] at h
  refine g_tblOut (tgt := 60) C dX5_open_1 (by have t0 := ti_ne q1 (z := 0) (by decide); have t1 := ti_ne q4 (z := 1) (by decide); have t2 := ti_ne q7 (z := 2) (by decide); omega) (by decide) ?_
  refine g_bipush (v := (-2 : Int32)) C dX5_open_60 (by decide) ?_
  obtain rfl := so_inj h
  exact g_iret C hr hlk dX5_open_62 rfl

def rmX5_bell : Room := { frames := 2, cells := 0, slots := 0, locals := 47 }
set_option maxRecDepth 100000 in
set_option maxHeartbeats 4000000 in
theorem c_X5_bell (l : Launch) {F : Nat}    {m : MM} {m' : MM} {r : Int32} (h : f_X5_bell F m = some (r, m')) : CT l yX5_bell cX5_bell 1 (some .int) rmX5_bell cfC 73 (fun ad tb => [.ref (ad 0)]) m (some (.int r)) m' := by
  refine CT.of (cc := cX5_bell) (maxL := 1) (ret := (some .int)) (by decide) ⟨rfl, rfl⟩ (fun _ _ => Nat.le_of_ble_eq_true rfl) ?_
  intro p e s mt args below meth c D cA ad tb C hr hlk
  refine g_lv (lv' := [(0, .ref (ad 0))]) rfl ?_
  have hcl0 : ∀ w ∈ wsX00, w.before args s = true := fun w hw => C.2.2.2.2.1 w (inlX0 w hw)
  have hcl5 : ∀ w ∈ wsX50, w.before args s = true := fun w hw => C.2.2.2.2.1 w (inlX5 w hw)
  unfold f_X5_bell at h
  refine g_aload_n C dX5_bell_0 rfl 0 rfl ?_
  refine g_iconst (v := (0 : Int32)) C dX5_bell_1 (by decide) ?_
  refine g_iconst (v := (0 : Int32)) C dX5_bell_2 (by decide) ?_
  refine g_iconst (v := (0 : Int32)) C dX5_bell_3 (by decide) ?_
  refine g_iconst (v := (0 : Int32)) C dX5_bell_4 (by decide) ?_
  refine g_iconst (v := (0 : Int32)) C dX5_bell_5 (by decide) ?_
  obtain ⟨m2, hX1, h⟩ := bd1_inv h
  refine g_callV C (c_X5_name l hX1) (cwVw 5 C.2.2.2.2.1 wl_623 wl_625 wl_14 wl_109 wl_626 rfl rfl (by decide +kernel) ⟨Nat.le_of_ble_eq_true rfl, Nat.le_of_ble_eq_true rfl⟩) cO_0 rfl rfl rfl rfl (Nat.le_of_ble_eq_true rfl) dX5_bell_6 ?_
  refine g_aload_n C dX5_bell_9 rfl 0 rfl ?_
  refine g_get C (T := TX5) hcl5 cO_0 rfl (j := 5) (by decide) wl_487 (v := .ref (ad 38)) rfl dX5_bell_10 ?_
  refine g_aload_n C dX5_bell_13 rfl 0 rfl ?_
  refine g_get C (T := TX5) hcl5 cO_0 rfl (j := 0) (by decide) wl_482 (v := .ref (ad 1)) rfl dX5_bell_14 ?_
  refine g_get C (T := TX0) hcl0 cO_1 rfl (j := 11) (by decide) wl_163 (v := .int (rI m2 1 11)) rfl dX5_bell_17 ?_
  refine g_aald C cQ_38 (fun _ => rfl) dX5_bell_20 h (fun hb3 h => ?_)
  refine g_iconst (v := (1 : Int32)) C dX5_bell_21 (by decide) ?_
  refine g_aload_n C dX5_bell_22 rfl 0 rfl ?_
  refine g_get C (T := TX5) hcl5 cO_0 rfl (j := 7) (by decide) wl_489 (v := .ref (ad 72)) rfl dX5_bell_23 ?_
  obtain ⟨r4, m6, hX5, h⟩ := bd2_inv h
  refine g_callV C (c_X4_tells l (tx_ix hb3) hX5) (cwVw 2 C.2.2.2.2.1 wl_627 wl_628 wl_629 wl_113 wl_630 rfl rfl (by decide +kernel) ⟨Nat.le_of_ble_eq_true rfl, Nat.le_of_ble_eq_true rfl⟩) (tx_O (tx_ix hb3)) rfl rfl rfl rfl (Nat.le_of_ble_eq_true rfl) dX5_bell_26 ?_
  refine g_sipush (v := (9999 : Int32)) C dX5_bell_29 (by decide) ?_
  obtain ⟨r7, hX8, h⟩ := bd1_inv h
  refine g_callS C (c_X5_bounded l hX8) (cwSw 2 C.2.2.2.2.1 wl_637 wl_638 wl_109 wl_639 rfl rfl (by decide +kernel) ⟨Nat.le_of_ble_eq_true rfl, Nat.le_of_ble_eq_true rfl⟩) rfl rfl rfl (Nat.le_of_ble_eq_true rfl) dX5_bell_32 ?_
  obtain ⟨rfl, rfl⟩ := sp_inj h
  exact g_iret C hr hlk dX5_bell_35 rfl

def rmX5_worth : Room := { frames := 2, cells := 0, slots := 0, locals := 47 }
set_option maxRecDepth 100000 in
set_option maxHeartbeats 4000000 in
theorem c_X5_worth (l : Launch) {F : Nat}  {a0 : Int32}  {m : MM} {m' : MM} {r : Int32} (h : f_X5_worth F a0 m = some (r, m')) : CT l yX5_worth cX5_worth 2 (some .int) rmX5_worth cfC 73 (fun ad tb => [.ref (ad 0), .int a0]) m (some (.int r)) m' := by
  refine CT.of (cc := cX5_worth) (maxL := 2) (ret := (some .int)) (by decide) ⟨rfl, rfl⟩ (fun _ _ => Nat.le_of_ble_eq_true rfl) ?_
  intro p e s mt args below meth c D cA ad tb C hr hlk
  refine g_lv (lv' := [(0, .ref (ad 0)), (1, .int a0)]) rfl ?_
  have hcl0 : ∀ w ∈ wsX00, w.before args s = true := fun w hw => C.2.2.2.2.1 w (inlX0 w hw)
  have hcl5 : ∀ w ∈ wsX50, w.before args s = true := fun w hw => C.2.2.2.2.1 w (inlX5 w hw)
  unfold f_X5_worth at h
  refine g_aload_n C dX5_worth_0 rfl 0 rfl ?_
  refine g_aload_n C dX5_worth_1 rfl 0 rfl ?_
  refine g_get C (T := TX5) hcl5 cO_0 rfl (j := 0) (by decide) wl_482 (v := .ref (ad 1)) rfl dX5_worth_2 ?_
  refine g_get C (T := TX0) hcl0 cO_1 rfl (j := 3) (by decide) wl_144 (v := .ref (ad 5)) rfl dX5_worth_5 ?_
  refine g_iload_n C dX5_worth_8 rfl 1 rfl ?_
  refine g_iald C cI_5 dX5_worth_9 h (fun h => ?_)
  refine g_aload_n C dX5_worth_10 rfl 0 rfl ?_
  refine g_get C (T := TX5) hcl5 cO_0 rfl (j := 0) (by decide) wl_482 (v := .ref (ad 1)) rfl dX5_worth_11 ?_
  refine g_get C (T := TX0) hcl0 cO_1 rfl (j := 6) (by decide) wl_151 (v := .ref (ad 8)) rfl dX5_worth_14 ?_
  refine g_iload_n C dX5_worth_17 rfl 1 rfl ?_
  refine g_iald C cI_8 dX5_worth_18 h (fun h => ?_)
  refine g_iconst (v := (0 : Int32)) C dX5_worth_19 (by decide) ?_
  refine g_iload_n C dX5_worth_20 rfl 1 rfl ?_
  refine g_iconst (v := (0 : Int32)) C dX5_worth_21 (by decide) ?_
  obtain ⟨m2, hX1, h⟩ := bd1_inv h
  refine g_callV C (c_X5_name l hX1) (cwVw 5 C.2.2.2.2.1 wl_623 wl_625 wl_14 wl_109 wl_626 rfl rfl (by decide +kernel) ⟨Nat.le_of_ble_eq_true rfl, Nat.le_of_ble_eq_true rfl⟩) cO_0 rfl rfl rfl rfl (Nat.le_of_ble_eq_true rfl) dX5_worth_22 ?_
  refine g_aload_n C dX5_worth_25 rfl 0 rfl ?_
  refine g_get C (T := TX5) hcl5 cO_0 rfl (j := 5) (by decide) wl_487 (v := .ref (ad 38)) rfl dX5_worth_26 ?_
  refine g_aload_n C dX5_worth_29 rfl 0 rfl ?_
  refine g_get C (T := TX5) hcl5 cO_0 rfl (j := 0) (by decide) wl_482 (v := .ref (ad 1)) rfl dX5_worth_30 ?_
  refine g_get C (T := TX0) hcl0 cO_1 rfl (j := 11) (by decide) wl_163 (v := .int (rI m2 1 11)) rfl dX5_worth_33 ?_
  refine g_aald C cQ_38 (fun _ => rfl) dX5_worth_36 h (fun hb3 h => ?_)
  refine g_iconst (v := (2 : Int32)) C dX5_worth_37 (by decide) ?_
  refine g_aload_n C dX5_worth_38 rfl 0 rfl ?_
  refine g_get C (T := TX5) hcl5 cO_0 rfl (j := 7) (by decide) wl_489 (v := .ref (ad 72)) rfl dX5_worth_39 ?_
  obtain ⟨r4, m6, hX5, h⟩ := bd2_inv h
  refine g_callV C (c_X4_tells l (tx_ix hb3) hX5) (cwVw 2 C.2.2.2.2.1 wl_627 wl_628 wl_629 wl_113 wl_630 rfl rfl (by decide +kernel) ⟨Nat.le_of_ble_eq_true rfl, Nat.le_of_ble_eq_true rfl⟩) (tx_O (tx_ix hb3)) rfl rfl rfl rfl (Nat.le_of_ble_eq_true rfl) dX5_worth_42 ?_
  refine g_sipush (v := (999 : Int32)) C dX5_worth_45 (by decide) ?_
  obtain ⟨r7, hX8, h⟩ := bd1_inv h
  refine g_callS C (c_X5_bounded l hX8) (cwSw 2 C.2.2.2.2.1 wl_637 wl_638 wl_109 wl_639 rfl rfl (by decide +kernel) ⟨Nat.le_of_ble_eq_true rfl, Nat.le_of_ble_eq_true rfl⟩) rfl rfl rfl (Nat.le_of_ble_eq_true rfl) dX5_worth_48 ?_
  obtain ⟨rfl, rfl⟩ := sp_inj h
  exact g_iret C hr hlk dX5_worth_51 rfl

def rmX5_asks : Room := { frames := 3, cells := 0, slots := 0, locals := 70 }
set_option maxRecDepth 100000 in
set_option maxHeartbeats 4000000 in
theorem c_X5_asks (l : Launch) {F : Nat}  {a0 : Int32} {a1 : Int32} {a2 : Int32}  {m : MM} {m' : MM} {r : Int32} (h : f_X5_asks F a0 a1 a2 m = some (r, m')) : CT l yX5_asks cX5_asks 4 (some .int) rmX5_asks cfC 73 (fun ad tb => [.ref (ad 0), .int a0, .int a1, .int a2]) m (some (.int r)) m' := by
  refine CT.of (cc := cX5_asks) (maxL := 4) (ret := (some .int)) (by decide) ⟨rfl, rfl⟩ (fun _ _ => Nat.le_of_ble_eq_true rfl) ?_
  intro p e s mt args below meth c D cA ad tb C hr hlk
  refine g_lv (lv' := [(0, .ref (ad 0)), (1, .int a0), (2, .int a1), (3, .int a2)]) rfl ?_
  have hcl0 : ∀ w ∈ wsX00, w.before args s = true := fun w hw => C.2.2.2.2.1 w (inlX0 w hw)
  have hcl5 : ∀ w ∈ wsX50, w.before args s = true := fun w hw => C.2.2.2.2.1 w (inlX5 w hw)
  unfold f_X5_asks at h
  refine g_iload_n C dX5_asks_0 rfl 1 rfl ?_
  refine g_join_ h 42 ([(0, .ref (ad 0)), (1, .int a0), (2, .int a1)]) ([]) ?_ ?_
  · intro h
    refine g_iload_n C dX5_asks_42 rfl 1 rfl ?_
    refine g_iconst (v := (1 : Int32)) C dX5_asks_43 (by decide) ?_
    refine g_icmp_ne (tgt := 52) C dX5_asks_44 (by decide) h (fun h => ?_) (fun h => ?_)
    · refine g_aload_n C dX5_asks_47 rfl 0 rfl ?_
      obtain ⟨r2, m4, hX3, h⟩ := bd2_inv h
      refine g_callV C (c_X5_bell l hX3) (cwVw 0 C.2.2.2.2.1 wl_669 wl_671 wl_15 wl_109 wl_672 rfl rfl (by decide +kernel) ⟨Nat.le_of_ble_eq_true rfl, Nat.le_of_ble_eq_true rfl⟩) cO_0 rfl rfl rfl rfl (Nat.le_of_ble_eq_true rfl) dX5_asks_48 ?_
      obtain ⟨rfl, rfl⟩ := sp_inj h
      exact g_iret C hr hlk dX5_asks_51 rfl
    · refine g_iload_n C dX5_asks_52 rfl 1 rfl ?_
      refine g_iconst (v := (2 : Int32)) C dX5_asks_53 (by decide) ?_
      refine g_icmp_ne (tgt := 74) C dX5_asks_54 (by decide) h (fun h => ?_) (fun h => ?_)
      · refine g_aload_n C dX5_asks_57 rfl 0 rfl ?_
        refine g_get C (T := TX5) hcl5 cO_0 rfl (j := 0) (by decide) wl_482 (v := .ref (ad 1)) rfl dX5_asks_58 ?_
        refine g_iload_n C dX5_asks_61 rfl 2 rfl ?_
        obtain ⟨r5, hX6, h⟩ := bd1_inv h
        refine g_callV C (c_X0_hasThing l lot_1 hX6) (cwVw 1 C.2.2.2.2.1 wl_557 wl_558 wl_559 wl_110 wl_560 rfl rfl (by decide +kernel) ⟨Nat.le_of_ble_eq_true rfl, Nat.le_of_ble_eq_true rfl⟩) cO_1 rfl rfl rfl rfl (Nat.le_of_ble_eq_true rfl) dX5_asks_62 ?_
        refine g_if_eq (tgt := 74) C dX5_asks_65 (by decide) h (fun h => ?_) (fun h => ?_)
        · refine g_iconst (v := (-1 : Int32)) C dX5_asks_74 (by decide) ?_
          obtain ⟨rfl, rfl⟩ := sp_inj h
          exact g_iret C hr hlk dX5_asks_75 rfl
        · refine g_aload_n C dX5_asks_68 rfl 0 rfl ?_
          refine g_iload_n C dX5_asks_69 rfl 2 rfl ?_
          obtain ⟨r7, m9, hX8, h⟩ := bd2_inv h
          refine g_callV C (c_X5_worth l hX8) (cwVw 1 C.2.2.2.2.1 wl_673 wl_675 wl_16 wl_109 wl_676 rfl rfl (by decide +kernel) ⟨Nat.le_of_ble_eq_true rfl, Nat.le_of_ble_eq_true rfl⟩) cO_0 rfl rfl rfl rfl (Nat.le_of_ble_eq_true rfl) dX5_asks_70 ?_
          obtain ⟨rfl, rfl⟩ := sp_inj h
          exact g_iret C hr hlk dX5_asks_73 rfl
      · refine g_iconst (v := (-1 : Int32)) C dX5_asks_74 (by decide) ?_
        obtain ⟨rfl, rfl⟩ := sp_inj h
        exact g_iret C hr hlk dX5_asks_75 rfl
  intro J1 hJ1 h
  refine g_if_ne (tgt := 42) C dX5_asks_1 (by decide) h (fun h => ?_) (fun h => ?_)
  · refine g_aload_n C dX5_asks_4 rfl 0 rfl ?_
    refine g_get C (T := TX5) hcl5 cO_0 rfl (j := 0) (by decide) wl_482 (v := .ref (ad 1)) rfl dX5_asks_5 ?_
    refine g_iload_n C dX5_asks_8 rfl 2 rfl ?_
    obtain ⟨r10, hX11, h⟩ := bd1_inv h
    refine g_callV C (c_X0_hasThing l lot_1 hX11) (cwVw 1 C.2.2.2.2.1 wl_557 wl_558 wl_559 wl_110 wl_560 rfl rfl (by decide +kernel) ⟨Nat.le_of_ble_eq_true rfl, Nat.le_of_ble_eq_true rfl⟩) cO_1 rfl rfl rfl rfl (Nat.le_of_ble_eq_true rfl) dX5_asks_9 ?_
    refine g_if_eq (tgt := 42) C dX5_asks_12 (by decide) h (fun h => ?_) (fun h => ?_)
    · exact g_sub [0, 1, 2] rfl (hJ1  h)
    · refine g_aload_n C dX5_asks_15 rfl 0 rfl ?_
      refine g_get C (T := TX5) hcl5 cO_0 rfl (j := 0) (by decide) wl_482 (v := .ref (ad 1)) rfl dX5_asks_16 ?_
      refine g_iload_n C dX5_asks_19 rfl 3 rfl ?_
      obtain ⟨r12, hX13, h⟩ := bd1_inv h
      refine g_callV C (c_X0_hasHold l lot_1 hX13) (cwVw 1 C.2.2.2.2.1 wl_532 wl_533 wl_534 wl_110 wl_535 rfl rfl (by decide +kernel) ⟨Nat.le_of_ble_eq_true rfl, Nat.le_of_ble_eq_true rfl⟩) cO_1 rfl rfl rfl rfl (Nat.le_of_ble_eq_true rfl) dX5_asks_20 ?_
      refine g_if_eq (tgt := 42) C dX5_asks_23 (by decide) h (fun h => ?_) (fun h => ?_)
      · exact g_sub [0, 1, 2] rfl (hJ1  h)
      · refine g_aload_n C dX5_asks_26 rfl 0 rfl ?_
        refine g_iload_n C dX5_asks_27 rfl 2 rfl ?_
        refine g_aload_n C dX5_asks_28 rfl 0 rfl ?_
        refine g_get C (T := TX5) hcl5 cO_0 rfl (j := 0) (by decide) wl_482 (v := .ref (ad 1)) rfl dX5_asks_29 ?_
        refine g_get C (T := TX0) hcl0 cO_1 rfl (j := 6) (by decide) wl_151 (v := .ref (ad 8)) rfl dX5_asks_32 ?_
        refine g_iload_n C dX5_asks_35 rfl 2 rfl ?_
        refine g_iald C cI_8 dX5_asks_36 h (fun h => ?_)
        refine g_iload_n C dX5_asks_37 rfl 3 rfl ?_
        obtain ⟨r14, m16, hX15, h⟩ := bd2_inv h
        refine g_callV C (c_X5_costs l hX15) (cwVw 3 C.2.2.2.2.1 wl_619 wl_621 wl_13 wl_109 wl_622 rfl rfl (by decide +kernel) ⟨Nat.le_of_ble_eq_true rfl, Nat.le_of_ble_eq_true rfl⟩) cO_0 rfl rfl rfl rfl (Nat.le_of_ble_eq_true rfl) dX5_asks_38 ?_
        obtain ⟨rfl, rfl⟩ := sp_inj h
        exact g_iret C hr hlk dX5_asks_41 rfl
  · exact g_sub [0, 1, 2] rfl (hJ1  h)

def rmX0_become : Room := { frames := 1, cells := 0, slots := 0, locals := 60 }
set_option maxRecDepth 100000 in
set_option maxHeartbeats 4000000 in
theorem c_X0_become (l : Launch)  {k : Nat} {k2 : Nat} (hk : isLot k) (hk2 : isLot k2) {m : MM} {m' : MM} (h : f_X0_become k k2 m = some m') : CT l yX0_become cX0_become 2 none rmX0_become cfC 73 (fun ad tb => [.ref (ad k), .ref (ad k2)]) m none m' := by
  refine CT.of (cc := cX0_become) (maxL := 2) (ret := none) (by decide) ⟨rfl, rfl⟩ (fun _ _ => Nat.le_of_ble_eq_true rfl) ?_
  intro p e s mt args below meth c D cA ad tb C hr hlk
  refine g_lv (lv' := [(0, .ref (ad k)), (1, .ref (ad k2))]) rfl ?_
  have hcl0 : ∀ w ∈ wsX00, w.before args s = true := fun w hw => C.2.2.2.2.1 w (inlX0 w hw)
  unfold f_X0_become at h
  refine g_aload_n C dX0_become_0 rfl 1 rfl ?_
  refine g_get C (T := TX0) hcl0 (lot_O hk2) rfl (j := 0) (by decide) wl_137 (v := .ref (ad (k2 + 1))) rfl dX0_become_1 ?_
  refine g_iconst (v := (0 : Int32)) C dX0_become_4 (by decide) ?_
  refine g_aload_n C dX0_become_5 rfl 0 rfl ?_
  refine g_get C (T := TX0) hcl0 (lot_O hk) rfl (j := 0) (by decide) wl_137 (v := .ref (ad (k + 1))) rfl dX0_become_6 ?_
  refine g_iconst (v := (0 : Int32)) C dX0_become_9 (by decide) ?_
  refine g_iconst (v := (5 : Int32)) C dX0_become_10 (by decide) ?_
  refine g_copy C (lot_I1 hk2) (lot_I1 hk) wl_693 wl_695 wl_694 wl_122 ⟨Nat.le_of_ble_eq_true rfl, Nat.le_of_ble_eq_true rfl⟩ (Nat.le_of_ble_eq_true rfl) dX0_become_11 h (fun m1 h => ?_)
  refine g_aload_n C dX0_become_14 rfl 1 rfl ?_
  refine g_get C (T := TX0) hcl0 (lot_O hk2) rfl (j := 1) (by decide) wl_139 (v := .ref (ad (k2 + 2))) rfl dX0_become_15 ?_
  refine g_iconst (v := (0 : Int32)) C dX0_become_18 (by decide) ?_
  refine g_aload_n C dX0_become_19 rfl 0 rfl ?_
  refine g_get C (T := TX0) hcl0 (lot_O hk) rfl (j := 1) (by decide) wl_139 (v := .ref (ad (k + 2))) rfl dX0_become_20 ?_
  refine g_iconst (v := (0 : Int32)) C dX0_become_23 (by decide) ?_
  refine g_iconst (v := (5 : Int32)) C dX0_become_24 (by decide) ?_
  refine g_copy C (lot_I2 hk2) (lot_I2 hk) wl_693 wl_695 wl_694 wl_122 ⟨Nat.le_of_ble_eq_true rfl, Nat.le_of_ble_eq_true rfl⟩ (Nat.le_of_ble_eq_true rfl) dX0_become_25 h (fun m2 h => ?_)
  refine g_aload_n C dX0_become_28 rfl 1 rfl ?_
  refine g_get C (T := TX0) hcl0 (lot_O hk2) rfl (j := 2) (by decide) wl_141 (v := .ref (ad (k2 + 3))) rfl dX0_become_29 ?_
  refine g_iconst (v := (0 : Int32)) C dX0_become_32 (by decide) ?_
  refine g_aload_n C dX0_become_33 rfl 0 rfl ?_
  refine g_get C (T := TX0) hcl0 (lot_O hk) rfl (j := 2) (by decide) wl_141 (v := .ref (ad (k + 3))) rfl dX0_become_34 ?_
  refine g_iconst (v := (0 : Int32)) C dX0_become_37 (by decide) ?_
  refine g_iconst (v := (5 : Int32)) C dX0_become_38 (by decide) ?_
  refine g_copy C (lot_I3 hk2) (lot_I3 hk) wl_693 wl_695 wl_694 wl_122 ⟨Nat.le_of_ble_eq_true rfl, Nat.le_of_ble_eq_true rfl⟩ (Nat.le_of_ble_eq_true rfl) dX0_become_39 h (fun m3 h => ?_)
  refine g_aload_n C dX0_become_42 rfl 1 rfl ?_
  refine g_get C (T := TX0) hcl0 (lot_O hk2) rfl (j := 3) (by decide) wl_143 (v := .ref (ad (k2 + 4))) rfl dX0_become_43 ?_
  refine g_iconst (v := (0 : Int32)) C dX0_become_46 (by decide) ?_
  refine g_aload_n C dX0_become_47 rfl 0 rfl ?_
  refine g_get C (T := TX0) hcl0 (lot_O hk) rfl (j := 3) (by decide) wl_143 (v := .ref (ad (k + 4))) rfl dX0_become_48 ?_
  refine g_iconst (v := (0 : Int32)) C dX0_become_51 (by decide) ?_
  refine g_iconst (v := (5 : Int32)) C dX0_become_52 (by decide) ?_
  refine g_copy C (lot_I4 hk2) (lot_I4 hk) wl_693 wl_695 wl_694 wl_122 ⟨Nat.le_of_ble_eq_true rfl, Nat.le_of_ble_eq_true rfl⟩ (Nat.le_of_ble_eq_true rfl) dX0_become_53 h (fun m4 h => ?_)
  refine g_aload_n C dX0_become_56 rfl 1 rfl ?_
  refine g_get C (T := TX0) hcl0 (lot_O hk2) rfl (j := 4) (by decide) wl_145 (v := .ref (ad (k2 + 5))) rfl dX0_become_57 ?_
  refine g_iconst (v := (0 : Int32)) C dX0_become_60 (by decide) ?_
  refine g_aload_n C dX0_become_61 rfl 0 rfl ?_
  refine g_get C (T := TX0) hcl0 (lot_O hk) rfl (j := 4) (by decide) wl_145 (v := .ref (ad (k + 5))) rfl dX0_become_62 ?_
  refine g_iconst (v := (0 : Int32)) C dX0_become_65 (by decide) ?_
  refine g_iconst (v := (5 : Int32)) C dX0_become_66 (by decide) ?_
  refine g_copy C (lot_I5 hk2) (lot_I5 hk) wl_693 wl_695 wl_694 wl_122 ⟨Nat.le_of_ble_eq_true rfl, Nat.le_of_ble_eq_true rfl⟩ (Nat.le_of_ble_eq_true rfl) dX0_become_67 h (fun m5 h => ?_)
  refine g_aload_n C dX0_become_70 rfl 1 rfl ?_
  refine g_get C (T := TX0) hcl0 (lot_O hk2) rfl (j := 5) (by decide) wl_147 (v := .ref (ad (k2 + 6))) rfl dX0_become_71 ?_
  refine g_iconst (v := (0 : Int32)) C dX0_become_74 (by decide) ?_
  refine g_aload_n C dX0_become_75 rfl 0 rfl ?_
  refine g_get C (T := TX0) hcl0 (lot_O hk) rfl (j := 5) (by decide) wl_147 (v := .ref (ad (k + 6))) rfl dX0_become_76 ?_
  refine g_iconst (v := (0 : Int32)) C dX0_become_79 (by decide) ?_
  refine g_iconst (v := (5 : Int32)) C dX0_become_80 (by decide) ?_
  refine g_copy C (lot_I6 hk2) (lot_I6 hk) wl_693 wl_695 wl_694 wl_122 ⟨Nat.le_of_ble_eq_true rfl, Nat.le_of_ble_eq_true rfl⟩ (Nat.le_of_ble_eq_true rfl) dX0_become_81 h (fun m6 h => ?_)
  refine g_aload_n C dX0_become_84 rfl 1 rfl ?_
  refine g_get C (T := TX0) hcl0 (lot_O hk2) rfl (j := 6) (by decide) wl_149 (v := .ref (ad (k2 + 7))) rfl dX0_become_85 ?_
  refine g_iconst (v := (0 : Int32)) C dX0_become_88 (by decide) ?_
  refine g_aload_n C dX0_become_89 rfl 0 rfl ?_
  refine g_get C (T := TX0) hcl0 (lot_O hk) rfl (j := 6) (by decide) wl_149 (v := .ref (ad (k + 7))) rfl dX0_become_90 ?_
  refine g_iconst (v := (0 : Int32)) C dX0_become_93 (by decide) ?_
  refine g_iconst (v := (5 : Int32)) C dX0_become_94 (by decide) ?_
  refine g_copy C (lot_I7 hk2) (lot_I7 hk) wl_693 wl_695 wl_694 wl_122 ⟨Nat.le_of_ble_eq_true rfl, Nat.le_of_ble_eq_true rfl⟩ (Nat.le_of_ble_eq_true rfl) dX0_become_95 h (fun m7 h => ?_)
  refine g_aload_n C dX0_become_98 rfl 0 rfl ?_
  refine g_aload_n C dX0_become_99 rfl 1 rfl ?_
  refine g_get C (T := TX0) hcl0 (lot_O hk2) rfl (j := 7) (by decide) wl_154 (v := .int (rI m7 k2 7)) rfl dX0_become_100 ?_
  refine g_putI C (T := TX0) hcl0 (lot_O hk) rfl (j := 7) (by decide) wl_154 tyX0 tyX0_ok nmX0 rfl rfl pfX0_7 (plX0 7 (by decide)) dX0_become_103 h (fun m8 h => ?_)
  refine g_aload_n C dX0_become_106 rfl 0 rfl ?_
  refine g_aload_n C dX0_become_107 rfl 1 rfl ?_
  refine g_get C (T := TX0) hcl0 (lot_O hk2) rfl (j := 8) (by decide) wl_156 (v := .int (rI m8 k2 8)) rfl dX0_become_108 ?_
  refine g_putI C (T := TX0) hcl0 (lot_O hk) rfl (j := 8) (by decide) wl_156 tyX0 tyX0_ok nmX0 rfl rfl pfX0_8 (plX0 8 (by decide)) dX0_become_111 h (fun m9 h => ?_)
  refine g_aload_n C dX0_become_114 rfl 0 rfl ?_
  refine g_aload_n C dX0_become_115 rfl 1 rfl ?_
  refine g_get C (T := TX0) hcl0 (lot_O hk2) rfl (j := 9) (by decide) wl_158 (v := .int (rI m9 k2 9)) rfl dX0_become_116 ?_
  refine g_putI C (T := TX0) hcl0 (lot_O hk) rfl (j := 9) (by decide) wl_158 tyX0 tyX0_ok nmX0 rfl rfl pfX0_9 (plX0 9 (by decide)) dX0_become_119 h (fun m10 h => ?_)
  refine g_aload_n C dX0_become_122 rfl 0 rfl ?_
  refine g_aload_n C dX0_become_123 rfl 1 rfl ?_
  refine g_get C (T := TX0) hcl0 (lot_O hk2) rfl (j := 10) (by decide) wl_160 (v := .int (rI m10 k2 10)) rfl dX0_become_124 ?_
  refine g_putI C (T := TX0) hcl0 (lot_O hk) rfl (j := 10) (by decide) wl_160 tyX0 tyX0_ok nmX0 rfl rfl pfX0_10 (plX0 10 (by decide)) dX0_become_127 h (fun m11 h => ?_)
  refine g_aload_n C dX0_become_130 rfl 0 rfl ?_
  refine g_aload_n C dX0_become_131 rfl 1 rfl ?_
  refine g_get C (T := TX0) hcl0 (lot_O hk2) rfl (j := 11) (by decide) wl_162 (v := .int (rI m11 k2 11)) rfl dX0_become_132 ?_
  refine g_putI C (T := TX0) hcl0 (lot_O hk) rfl (j := 11) (by decide) wl_162 tyX0 tyX0_ok nmX0 rfl rfl pfX0_11 (plX0 11 (by decide)) dX0_become_135 h (fun m12 h => ?_)
  refine g_aload_n C dX0_become_138 rfl 0 rfl ?_
  refine g_iconst (v := (-1 : Int32)) C dX0_become_139 (by decide) ?_
  refine g_putI C (T := TX0) hcl0 (lot_O hk) rfl (j := 12) (by decide) wl_164 tyX0 tyX0_ok nmX0 rfl rfl pfX0_12 (plX0 12 (by decide)) dX0_become_140 h (fun m13 h => ?_)
  obtain rfl := so_inj h
  exact g_vret C hr hlk dX0_become_143 rfl

def rmX1_lay (d : Nat) : Room := { frames := 2 + d, cells := 0, slots := 0, locals := 43 + 23 * d }
set_option maxRecDepth 100000 in
set_option maxHeartbeats 4000000 in
theorem cb_X1_lay (l : Launch) {F : Nat}  {d : Nat} {rec0 : Int32 → Int32 → MM → Option MM} (hrec0 : ∀ {a0 a1 : Int32} {m m' : MM} (_ : rec0 a0 a1 m = some m'), CT l yX1_lay cX1_lay 4 none (rmX1_lay d) cfC 73 (fun ad tb => [.ref (ad 25), .int a0, .int a1]) m none m') {a0 : Int32} {a1 : Int32}  {m : MM} {m' : MM} (h : fb_X1_lay F rec0 a0 a1 m = some m') : CT l yX1_lay cX1_lay 4 none (rmX1_lay (d + 1)) cfC 73 (fun ad tb => [.ref (ad 25), .int a0, .int a1]) m none m' := by
  refine CT.of (cc := cX1_lay) (maxL := 4) (ret := none) (by decide) ⟨rfl, rfl⟩ (fun _ _ => Nat.le_of_ble_eq_true rfl) ?_
  intro p e s mt args below meth c D cA ad tb C hr hlk
  refine g_lv (lv' := [(0, .ref (ad 25)), (1, .int a0), (2, .int a1)]) rfl ?_
  have hcl0 : ∀ w ∈ wsX00, w.before args s = true := fun w hw => C.2.2.2.2.1 w (inlX0 w hw)
  have hcl1 : ∀ w ∈ wsX10, w.before args s = true := fun w hw => C.2.2.2.2.1 w (inlX1 w hw)
  unfold fb_X1_lay at h
  refine g_iload_n C dX1_lay_0 rfl 1 rfl ?_
  refine g_aload_n C dX1_lay_1 rfl 0 rfl ?_
  refine g_getLot C hcl1 wl_211 dX1_lay_2 h (fun h => ?_)
  refine g_get C (T := TX0) hcl0 cO_17 rfl (j := 8) (by decide) wl_155 (v := .int (rI m 17 8)) rfl dX1_lay_5 ?_
  refine g_icmp_lt (tgt := 33) C dX1_lay_8 (by decide) h (fun h => ?_) (fun h => ?_)
  · refine g_iload_n C dX1_lay_33 rfl 1 rfl ?_
    refine g_aload_n C dX1_lay_34 rfl 0 rfl ?_
    refine g_getLot C hcl1 wl_211 dX1_lay_35 h (fun h => ?_)
    refine g_get C (T := TX0) hcl0 cO_17 rfl (j := 12) (by decide) wl_165 (v := .int (rI m 17 12)) rfl dX1_lay_38 ?_
    refine g_icmp_ne (tgt := 53) C dX1_lay_41 (by decide) h (fun h => ?_) (fun h => ?_)
    · refine g_aload_n C dX1_lay_44 rfl 0 rfl ?_
      refine g_iload_n C dX1_lay_45 rfl 1 rfl ?_
      refine g_iconst (v := (1 : Int32)) C dX1_lay_46 (by decide) ?_
      refine g_iadd C dX1_lay_47 ?_
      refine g_iload_n C dX1_lay_48 rfl 2 rfl ?_
      obtain ⟨m2, hX1, h⟩ := bd1_inv h
      refine g_callV C (hrec0 hX1) (cwVw 2 C.2.2.2.2.1 wl_700 wl_702 wl_19 wl_111 wl_703 rfl rfl (by decide +kernel) ⟨by simp only [rmX1_lay, rmX1_lay]; omega, by simp only [rmX1_lay, rmX1_lay]; omega⟩) cO_25 rfl rfl rfl rfl (Nat.le_of_ble_eq_true rfl) dX1_lay_49 ?_
      obtain rfl := so_inj h
      exact g_vret C hr hlk dX1_lay_52 rfl
    · refine g_iconst (v := (0 : Int32)) C dX1_lay_53 (by decide) ?_
      refine g_istore_n (lv' := [(3, .int (0 : Int32)), (0, .ref (ad 25)), (1, .int a0), (2, .int a1)]) C dX1_lay_54 rfl (by decide) rfl ?_
      refine g_sub [1, 2, 3, 0] rfl ?_
      refine g_loop_IM (L := f_X1_lay_L55 F a0 a1 rec0) h 55 121 (fun x3_3 m4 => [(0, .ref (ad 25)), (1, .int a0), (2, .int a1), (3, .int x3_3)]) (fun x3_3 m4 => []) (fun x3_3 m4 => []) (fun x3_3 m4 => []) ?_ ?_ (fun _ _ _ => rfl)
      · intro x3_3 m4 h
        obtain rfl := so_inj h
        exact g_vret C hr hlk dX1_lay_121 rfl
      · intro K5 hK5 n ih x3_3 m4 h
        rw [f_X1_lay_L55] at h
        refine g_iload_n C dX1_lay_55 rfl 3 rfl ?_
        refine g_aload_n C dX1_lay_56 rfl 0 rfl ?_
        refine g_getLot C hcl1 wl_211 dX1_lay_57 h (fun h => ?_)
        refine g_get C (T := TX0) hcl0 cO_17 rfl (j := 7) (by decide) wl_153 (v := .int (rI m4 17 7)) rfl dX1_lay_60 ?_
        refine g_icmp_ge (tgt := 121) C dX1_lay_63 (by decide) h (fun h => ?_) (fun h => ?_)
        · exact g_sub [] rfl (hK5 _ _ h)
        · refine g_aload_n C dX1_lay_66 rfl 0 rfl ?_
          refine g_getLot C hcl1 wl_211 dX1_lay_67 h (fun h => ?_)
          refine g_iload_n C dX1_lay_70 rfl 1 rfl ?_
          refine g_iload_n C dX1_lay_71 rfl 3 rfl ?_
          obtain ⟨r6, hX7, h⟩ := bd1_inv h
          refine g_callV C (c_X0_refusal l lot_17 hX7) (cwVw 2 C.2.2.2.2.1 wl_705 wl_538 wl_539 wl_110 wl_540 rfl rfl (by decide +kernel) ⟨by simp only [rmX1_lay, rmX0_refusal]; omega, by simp only [rmX1_lay, rmX0_refusal]; omega⟩) cO_17 rfl rfl rfl rfl (Nat.le_of_ble_eq_true rfl) dX1_lay_72 ?_
          refine g_if_ne (tgt := 115) C dX1_lay_75 (by decide) h (fun h => ?_) (fun h => ?_)
          · refine g_aload_n C dX1_lay_78 rfl 0 rfl ?_
            refine g_getLot C hcl1 wl_211 dX1_lay_79 h (fun h => ?_)
            refine g_get C (T := TX0) hcl0 cO_17 rfl (j := 6) (by decide) wl_150 (v := .ref (ad 24)) rfl dX1_lay_82 ?_
            refine g_iload_n C dX1_lay_85 rfl 1 rfl ?_
            refine g_iload_n C dX1_lay_86 rfl 3 rfl ?_
            refine g_iast C cI_24 dX1_lay_87 h (fun m8 h => ?_)
            refine g_aload_n C dX1_lay_88 rfl 0 rfl ?_
            refine g_iload_n C dX1_lay_89 rfl 1 rfl ?_
            refine g_iconst (v := (1 : Int32)) C dX1_lay_90 (by decide) ?_
            refine g_iadd C dX1_lay_91 ?_
            refine g_iload_n C dX1_lay_92 rfl 2 rfl ?_
            refine g_iload_n C dX1_lay_93 rfl 3 rfl ?_
            refine g_aload_n C dX1_lay_94 rfl 0 rfl ?_
            refine g_get C (T := TX1) hcl1 cO_25 rfl (j := 6) (by decide) wl_207 (v := .ref (ad 32)) rfl dX1_lay_95 ?_
            refine g_iload_n C dX1_lay_98 rfl 1 rfl ?_
            refine g_iald C cI_32 dX1_lay_99 h (fun h => ?_)
            refine g_imul C dX1_lay_100 ?_
            refine g_iadd C dX1_lay_101 ?_
            obtain ⟨m10, hX9, h⟩ := bd1_inv h
            refine g_callV C (hrec0 hX9) (cwVw 2 C.2.2.2.2.1 wl_700 wl_702 wl_19 wl_111 wl_703 rfl rfl (by decide +kernel) ⟨by simp only [rmX1_lay, rmX1_lay]; omega, by simp only [rmX1_lay, rmX1_lay]; omega⟩) cO_25 rfl rfl rfl rfl (Nat.le_of_ble_eq_true rfl) dX1_lay_102 ?_
            refine g_aload_n C dX1_lay_105 rfl 0 rfl ?_
            refine g_getLot C hcl1 wl_211 dX1_lay_106 h (fun h => ?_)
            refine g_get C (T := TX0) hcl0 cO_17 rfl (j := 6) (by decide) wl_150 (v := .ref (ad 24)) rfl dX1_lay_109 ?_
            refine g_iload_n C dX1_lay_112 rfl 1 rfl ?_
            refine g_iconst (v := (-1 : Int32)) C dX1_lay_113 (by decide) ?_
            refine g_iast C cI_24 dX1_lay_114 h (fun m11 h => ?_)
            refine g_iinc (lv' := [(0, .ref (ad 25)), (1, .int a0), (2, .int a1)]) C dX1_lay_115 (q := 3) rfl (by decide) h rfl (fun _ => rfl) (fun x3_12 h => ?_)
            refine g_goto (tgt := 55) C dX1_lay_118 (by decide) ?_
            exact g_sub [1, 2, 3, 0] rfl (ih _ _ h)
          · refine g_iinc (lv' := [(0, .ref (ad 25)), (1, .int a0), (2, .int a1)]) C dX1_lay_115 (q := 3) rfl (by decide) h rfl (fun _ => rfl) (fun x3_13 h => ?_)
            refine g_goto (tgt := 55) C dX1_lay_118 (by decide) ?_
            exact g_sub [1, 2, 3, 0] rfl (ih _ _ h)
  · refine g_aload_n C dX1_lay_11 rfl 0 rfl ?_
    refine g_get C (T := TX1) hcl1 cO_25 rfl (j := 0) (by decide) wl_201 (v := .ref (ad 26)) rfl dX1_lay_12 ?_
    refine g_iload_n C dX1_lay_15 rfl 2 rfl ?_
    refine g_aload_n C dX1_lay_16 rfl 0 rfl ?_
    refine g_getLot C hcl1 wl_211 dX1_lay_17 h (fun h => ?_)
    obtain ⟨r14, hX15, h⟩ := bd1_inv h
    refine g_callV C (c_X0_isOpen l lot_17 hX15) (cwVw 0 C.2.2.2.2.1 wl_704 wl_651 wl_652 wl_110 wl_653 rfl rfl (by decide +kernel) ⟨by simp only [rmX1_lay, rmX0_isOpen]; omega, by simp only [rmX1_lay, rmX0_isOpen]; omega⟩) cO_17 rfl rfl rfl rfl (Nat.le_of_ble_eq_true rfl) dX1_lay_20 ?_
    refine g_join_I h 31 (fun s16 => []) (fun s16 => [.int s16, .int a1, .ref (ad 26)]) ?_ ?_
    · intro s16 h
      refine g_iast C cI_26 dX1_lay_31 h (fun m18 h => ?_)
      obtain rfl := so_inj h
      exact g_vret C hr hlk dX1_lay_32 rfl
    intro J17 hJ17 h
    refine g_if_eq (tgt := 30) C dX1_lay_23 (by decide) h (fun h => ?_) (fun h => ?_)
    · refine g_iconst (v := (1 : Int32)) C dX1_lay_30 (by decide) ?_
      exact g_sub [] rfl (hJ17 _ h)
    · refine g_iconst (v := (2 : Int32)) C dX1_lay_26 (by decide) ?_
      refine g_goto (tgt := 31) C dX1_lay_27 (by decide) ?_
      exact g_sub [] rfl (hJ17 _ h)
theorem c_X1_layD (l : Launch) {F : Nat} : ∀ (d : Nat) {a0 a1 : Int32} {m m' : MM} (_ : f_X1_layD F d a0 a1 m = some m'), CT l yX1_lay cX1_lay 4 none (rmX1_lay d) cfC 73 (fun ad tb => [.ref (ad 25), .int a0, .int a1]) m none m' := by
  intro d
  induction d with
  | zero => intro a0 a1 m m' h; cases h
  | succ d ih => intro a0 a1 m m' h; exact cb_X1_lay l ih h
def rmX1_layC : Room := rmX1_lay 8
theorem c_X1_lay (l : Launch) {F : Nat} {a0 a1 : Int32} {m m' : MM} (h : f_X1_lay F a0 a1 m = some m') : CT l yX1_lay cX1_lay 4 none rmX1_layC cfC 73 (fun ad tb => [.ref (ad 25), .int a0, .int a1]) m none m' := c_X1_layD l 8 h

def rmX1_split : Room := { frames := 0, cells := 0, slots := 0, locals := 0 }
set_option maxRecDepth 100000 in
set_option maxHeartbeats 4000000 in
theorem c_X1_split (l : Launch) {F : Nat}  {a0 : Int32}  {m : MM} {m' : MM} (h : f_X1_split F a0 m = some m') : CT l yX1_split cX1_split 4 none rmX1_split cfC 73 (fun ad tb => [.ref (ad 25), .int a0]) m none m' := by
  refine CT.of (cc := cX1_split) (maxL := 4) (ret := none) (by decide) ⟨rfl, rfl⟩ (fun _ _ => Nat.le_of_ble_eq_true rfl) ?_
  intro p e s mt args below meth c D cA ad tb C hr hlk
  refine g_lv (lv' := [(0, .ref (ad 25)), (1, .int a0)]) rfl ?_
  have hcl0 : ∀ w ∈ wsX00, w.before args s = true := fun w hw => C.2.2.2.2.1 w (inlX0 w hw)
  have hcl1 : ∀ w ∈ wsX10, w.before args s = true := fun w hw => C.2.2.2.2.1 w (inlX1 w hw)
  unfold f_X1_split at h
  refine g_iload_n C dX1_split_0 rfl 1 rfl ?_
  refine g_istore_n (lv' := [(2, .int a0), (0, .ref (ad 25)), (1, .int a0)]) C dX1_split_1 rfl (by decide) rfl ?_
  refine g_iconst (v := (0 : Int32)) C dX1_split_2 (by decide) ?_
  refine g_istore_n (lv' := [(3, .int (0 : Int32)), (2, .int a0), (0, .ref (ad 25)), (1, .int a0)]) C dX1_split_3 rfl (by decide) rfl ?_
  refine g_sub [2, 1, 0] rfl ?_
  refine g_loop_IIM (L := f_X1_split_L4) h 4 56 (fun x2_1 x3_2 m3 => [(0, .ref (ad 25)), (2, .int x2_1), (3, .int x3_2)]) (fun x2_1 x3_2 m3 => []) (fun x2_1 x3_2 m3 => []) (fun x2_1 x3_2 m3 => []) ?_ ?_ (fun _ _ _ _ => rfl)
  · intro x2_1 x3_2 m3 h
    obtain rfl := so_inj h
    exact g_vret C hr hlk dX1_split_56 rfl
  · intro K4 hK4 n ih x2_1 x3_2 m3 h
    rw [f_X1_split_L4] at h
    refine g_iload_n C dX1_split_4 rfl 2 rfl ?_
    refine g_aload_n C dX1_split_5 rfl 0 rfl ?_
    refine g_getLot C hcl1 wl_211 dX1_split_6 h (fun h => ?_)
    refine g_get C (T := TX0) hcl0 cO_17 rfl (j := 8) (by decide) wl_155 (v := .int (rI m3 17 8)) rfl dX1_split_9 ?_
    refine g_icmp_ge (tgt := 56) C dX1_split_12 (by decide) h (fun h => ?_) (fun h => ?_)
    · exact g_sub [] rfl (hK4 _ _ _ h)
    · refine g_aload_n C dX1_split_15 rfl 0 rfl ?_
      refine g_getLot C hcl1 wl_211 dX1_split_16 h (fun h => ?_)
      refine g_get C (T := TX0) hcl0 cO_17 rfl (j := 7) (by decide) wl_153 (v := .int (rI m3 17 7)) rfl dX1_split_19 ?_
      refine g_if_le (tgt := 56) C dX1_split_22 (by decide) h (fun h => ?_) (fun h => ?_)
      · exact g_sub [] rfl (hK4 _ _ _ h)
      · refine g_aload_n C dX1_split_25 rfl 0 rfl ?_
        refine g_get C (T := TX1) hcl1 cO_25 rfl (j := 7) (by decide) wl_208 (v := .ref (ad 33)) rfl dX1_split_26 ?_
        refine g_iload_n C dX1_split_29 rfl 2 rfl ?_
        refine g_iload_n C dX1_split_30 rfl 1 rfl ?_
        refine g_aload_n C dX1_split_31 rfl 0 rfl ?_
        refine g_getLot C hcl1 wl_211 dX1_split_32 h (fun h => ?_)
        refine g_get C (T := TX0) hcl0 cO_17 rfl (j := 7) (by decide) wl_153 (v := .int (rI m3 17 7)) rfl dX1_split_35 ?_
        refine g_irem C dX1_split_38 h (fun h => ?_)
        refine g_iast C cI_33 dX1_split_39 h (fun m5 h => ?_)
        refine g_iload_n C dX1_split_40 rfl 1 rfl ?_
        refine g_aload_n C dX1_split_41 rfl 0 rfl ?_
        refine g_getLot C hcl1 wl_211 dX1_split_42 h (fun h => ?_)
        refine g_get C (T := TX0) hcl0 cO_17 rfl (j := 7) (by decide) wl_153 (v := .int (rI m5 17 7)) rfl dX1_split_45 ?_
        refine g_idiv C dX1_split_48 h (fun h => ?_)
        refine nm_i h (fun x2_6 h => ?_)
        refine g_istore_n (lv' := [(2, .int x2_6), (0, .ref (ad 25)), (3, .int x3_2)]) C dX1_split_49 rfl (by decide) rfl ?_
        refine g_iinc (lv' := [(2, .int x2_6), (0, .ref (ad 25))]) C dX1_split_50 (q := 2) rfl (by decide) h rfl (fun _ => rfl) (fun x3_7 h => ?_)
        refine g_goto (tgt := 4) C dX1_split_53 (by decide) ?_
        exact g_sub [2, 1, 0] rfl (ih _ _ _ h)
