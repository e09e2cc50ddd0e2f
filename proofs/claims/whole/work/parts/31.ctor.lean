/-! constructors of Lot, Search, Sheet, Tape, Text -/
theorem wl_35 : (Cond.selects RX6 yX6_spell yX6_spell : Cond) ∈ WL := WL_of 35 (by decide +kernel) rfl
theorem wl_128 : (Cond.methodLink RX5 1 objectInit : Cond) ∈ WL := WL_of 128 (by decide +kernel) rfl
theorem wl_129 : (Cond.instanceMethod objectInit : Cond) ∈ WL := WL_of 129 (by decide +kernel) rfl
theorem wl_130 : (Cond.code objectInit ⟨#[0xb1]⟩ 1 none : Cond) ∈ WL := WL_of 130 (by decide +kernel) rfl
theorem wl_131 : (Cond.classLink RX5 7 RX0 : Cond) ∈ WL := WL_of 131 (by decide +kernel) rfl
theorem wl_132 : (Cond.instantiable RX0 13 : Cond) ∈ WL := WL_of 132 (by decide +kernel) rfl
theorem wl_134 : (Cond.instanceMethod yX0_init : Cond) ∈ WL := WL_of 134 (by decide +kernel) rfl
theorem wl_135 : (Cond.code yX0_init cX0_init 1 none : Cond) ∈ WL := WL_of 135 (by decide +kernel) rfl
theorem wl_136 : (Cond.methodLink RX0 3 objectInit : Cond) ∈ WL := WL_of 136 (by decide +kernel) rfl
theorem wl_194 : (Cond.arrayClass .int : Cond) ∈ WL := WL_of 194 (by decide +kernel) rfl
theorem wl_195 : (Cond.classLink RX5 22 RX1 : Cond) ∈ WL := WL_of 195 (by decide +kernel) rfl
theorem wl_196 : (Cond.instantiable RX1 14 : Cond) ∈ WL := WL_of 196 (by decide +kernel) rfl
theorem wl_198 : (Cond.instanceMethod yX1_init : Cond) ∈ WL := WL_of 198 (by decide +kernel) rfl
theorem wl_199 : (Cond.code yX1_init cX1_init 1 none : Cond) ∈ WL := WL_of 199 (by decide +kernel) rfl
theorem wl_200 : (Cond.methodLink RX1 5 objectInit : Cond) ∈ WL := WL_of 200 (by decide +kernel) rfl
theorem wl_244 : (Cond.classLink RX5 29 RX3 : Cond) ∈ WL := WL_of 244 (by decide +kernel) rfl
theorem wl_245 : (Cond.instantiable RX3 7 : Cond) ∈ WL := WL_of 245 (by decide +kernel) rfl
theorem wl_247 : (Cond.instanceMethod yX3_init : Cond) ∈ WL := WL_of 247 (by decide +kernel) rfl
theorem wl_248 : (Cond.code yX3_init cX3_init 1 none : Cond) ∈ WL := WL_of 248 (by decide +kernel) rfl
theorem wl_249 : (Cond.methodLink RX3 3 objectInit : Cond) ∈ WL := WL_of 249 (by decide +kernel) rfl
theorem wl_273 : (Cond.classLink RX5 36 RX4 : Cond) ∈ WL := WL_of 273 (by decide +kernel) rfl
theorem wl_275 : (Cond.classLink RX5 42 RX2 : Cond) ∈ WL := WL_of 275 (by decide +kernel) rfl
theorem wl_277 : (Cond.instantiable RX4 4 : Cond) ∈ WL := WL_of 277 (by decide +kernel) rfl
theorem wl_279 : (Cond.instanceMethod yX4_init : Cond) ∈ WL := WL_of 279 (by decide +kernel) rfl
theorem wl_280 : (Cond.code yX4_init cX4_init 1 none : Cond) ∈ WL := WL_of 280 (by decide +kernel) rfl
theorem wl_281 : (Cond.methodLink RX4 3 objectInit : Cond) ∈ WL := WL_of 281 (by decide +kernel) rfl
theorem wl_295 : (Cond.instantiable RX2 3 : Cond) ∈ WL := WL_of 295 (by decide +kernel) rfl
theorem wl_297 : (Cond.instanceMethod yX2_init : Cond) ∈ WL := WL_of 297 (by decide +kernel) rfl
theorem wl_298 : (Cond.code yX2_init cX2_init 1 none : Cond) ∈ WL := WL_of 298 (by decide +kernel) rfl
theorem wl_299 : (Cond.methodLink RX2 3 objectInit : Cond) ∈ WL := WL_of 299 (by decide +kernel) rfl
theorem wl_314 : (Cond.methodLink RX5 56 yJ0_length_8abf5 : Cond) ∈ WL := WL_of 314 (by decide +kernel) rfl
theorem wl_324 : (Cond.methodLink RX5 62 yJ0_charAt_5068e : Cond) ∈ WL := WL_of 324 (by decide +kernel) rfl
theorem wl_915 : (Cond.methodLink RX6 7 objectInit : Cond) ∈ WL := WL_of 915 (by decide +kernel) rfl
theorem wl_916 : (Cond.methodLink RX6 97 yX6_spell : Cond) ∈ WL := WL_of 916 (by decide +kernel) rfl
theorem wl_918 : (Cond.instanceMethod yX6_spell : Cond) ∈ WL := WL_of 918 (by decide +kernel) rfl
theorem wl_919 : (Cond.code yX6_spell cX6_spell 10 none : Cond) ∈ WL := WL_of 919 (by decide +kernel) rfl
theorem wl_1082 : (Cond.arrayClass .long : Cond) ∈ WL := WL_of 1082 (by decide +kernel) rfl
theorem wl_1083 : (Cond.arrayClass .boolean : Cond) ∈ WL := WL_of 1083 (by decide +kernel) rfl
def nwX0 (cA : Nat → ClassId) (h0 : Nat) (q : Nat → Nat) : va_W := [(h0, .inr (0, [.ref (q 0), .ref (q 1), .ref (q 2), .ref (q 3), .ref (q 4), .ref (q 5), .ref (q 6), .int 0, .int 0, .int (-1 : Int32), .int (1 : Int32), .int 0, .int (-1 : Int32)])), (q 0, .inl (cA 0, 5, .inl (fun _ => 0))), (q 1, .inl (cA 0, 5, .inl (fun _ => 0))), (q 2, .inl (cA 0, 5, .inl (fun _ => 0))), (q 3, .inl (cA 0, 5, .inl (fun _ => 0))), (q 4, .inl (cA 0, 5, .inl (fun _ => 0))), (q 5, .inl (cA 0, 5, .inl (fun _ => 0))), (q 6, .inl (cA 0, 5, .inl (fun _ => 0)))]
def rmX0_init : Room := { frames := 1, cells := 7, slots := 35, locals := 20 }
set_option maxRecDepth 100000 in
set_option maxHeartbeats 4000000 in
theorem i_X0_init (l : Launch) : CI l yX0_init cX0_init 1 rmX0_init 0 [.null, .null, .null, .null, .null, .null, .null, .int 0, .int 0, .int 0, .int 0, .int 0, .int 0] nwX0 7 35 := by
  refine CI.of (by decide) rfl (by decide) ?_
  intro p e s mt args below meth c D cA h0 A C hr hlk hin
  have hcl : ∀ w ∈ wsX00, w.before args s = true := fun w hw => C.2.2.2.2.1 w (inlX0 w hw)
  refine e_aload_n C dX0_init_0 rfl 0 rfl ?_
  refine e_obj C wl_136 wl_129 wl_130 ⟨Nat.le_of_ble_eq_true rfl, Nat.le_of_ble_eq_true rfl⟩ (Nat.le_of_ble_eq_true rfl) dX0_init_1 ?_
  refine e_aload_n C dX0_init_4 rfl 0 rfl ?_
  refine e_iconst (v := (5 : Int32)) C dX0_init_5 (by decide) ?_
  refine e_newa (atype := .int) (ty := .int) (a0 := (5, .inl (fun _ => 0))) (N := 5) C 0 rfl rfl rfl wl_194 (fun _ => rfl) (by decide) (by decide) (by decide) (Nat.le_of_ble_eq_true rfl) (Nat.le_of_ble_eq_true rfl) dX0_init_6 (fun q0 => ?_)
  refine e_ws (ws' := [(h0, .inr (0, [.null, .null, .null, .null, .null, .null, .null, .int 0, .int 0, .int 0, .int 0, .int 0, .int 0])), (q0, .inl (cA 0, 5, .inl (fun _ => 0)))]) rfl ?_
  refine e_putF C (T := TX0) hcl 0 rfl rfl (j := 0) (by decide) wl_137 tyX0 tyX0_ok nmX0 rfl hin rfl rfl rfl (Nat.le_of_ble_eq_true rfl) dX0_init_8 (ws' := [(h0, .inr (0, [.ref q0, .null, .null, .null, .null, .null, .null, .int 0, .int 0, .int 0, .int 0, .int 0, .int 0])), (q0, .inl (cA 0, 5, .inl (fun _ => 0)))]) rfl ?_
  refine e_aload_n C dX0_init_11 rfl 0 rfl ?_
  refine e_iconst (v := (5 : Int32)) C dX0_init_12 (by decide) ?_
  refine e_newa (atype := .int) (ty := .int) (a0 := (5, .inl (fun _ => 0))) (N := 5) C 0 rfl rfl rfl wl_194 (fun _ => rfl) (by decide) (by decide) (by decide) (Nat.le_of_ble_eq_true rfl) (Nat.le_of_ble_eq_true rfl) dX0_init_13 (fun q1 => ?_)
  refine e_ws (ws' := [(h0, .inr (0, [.ref q0, .null, .null, .null, .null, .null, .null, .int 0, .int 0, .int 0, .int 0, .int 0, .int 0])), (q0, .inl (cA 0, 5, .inl (fun _ => 0))), (q1, .inl (cA 0, 5, .inl (fun _ => 0)))]) rfl ?_
  refine e_putF C (T := TX0) hcl 0 rfl rfl (j := 1) (by decide) wl_139 tyX0 tyX0_ok nmX0 rfl hin rfl rfl rfl (Nat.le_of_ble_eq_true rfl) dX0_init_15 (ws' := [(h0, .inr (0, [.ref q0, .ref q1, .null, .null, .null, .null, .null, .int 0, .int 0, .int 0, .int 0, .int 0, .int 0])), (q0, .inl (cA 0, 5, .inl (fun _ => 0))), (q1, .inl (cA 0, 5, .inl (fun _ => 0)))]) rfl ?_
  refine e_aload_n C dX0_init_18 rfl 0 rfl ?_
  refine e_iconst (v := (5 : Int32)) C dX0_init_19 (by decide) ?_
  refine e_newa (atype := .int) (ty := .int) (a0 := (5, .inl (fun _ => 0))) (N := 5) C 0 rfl rfl rfl wl_194 (fun _ => rfl) (by decide) (by decide) (by decide) (Nat.le_of_ble_eq_true rfl) (Nat.le_of_ble_eq_true rfl) dX0_init_20 (fun q2 => ?_)
  refine e_ws (ws' := [(h0, .inr (0, [.ref q0, .ref q1, .null, .null, .null, .null, .null, .int 0, .int 0, .int 0, .int 0, .int 0, .int 0])), (q0, .inl (cA 0, 5, .inl (fun _ => 0))), (q1, .inl (cA 0, 5, .inl (fun _ => 0))), (q2, .inl (cA 0, 5, .inl (fun _ => 0)))]) rfl ?_
  refine e_putF C (T := TX0) hcl 0 rfl rfl (j := 2) (by decide) wl_141 tyX0 tyX0_ok nmX0 rfl hin rfl rfl rfl (Nat.le_of_ble_eq_true rfl) dX0_init_22 (ws' := [(h0, .inr (0, [.ref q0, .ref q1, .ref q2, .null, .null, .null, .null, .int 0, .int 0, .int 0, .int 0, .int 0, .int 0])), (q0, .inl (cA 0, 5, .inl (fun _ => 0))), (q1, .inl (cA 0, 5, .inl (fun _ => 0))), (q2, .inl (cA 0, 5, .inl (fun _ => 0)))]) rfl ?_
  refine e_aload_n C dX0_init_25 rfl 0 rfl ?_
  refine e_iconst (v := (5 : Int32)) C dX0_init_26 (by decide) ?_
  refine e_newa (atype := .int) (ty := .int) (a0 := (5, .inl (fun _ => 0))) (N := 5) C 0 rfl rfl rfl wl_194 (fun _ => rfl) (by decide) (by decide) (by decide) (Nat.le_of_ble_eq_true rfl) (Nat.le_of_ble_eq_true rfl) dX0_init_27 (fun q3 => ?_)
  refine e_ws (ws' := [(h0, .inr (0, [.ref q0, .ref q1, .ref q2, .null, .null, .null, .null, .int 0, .int 0, .int 0, .int 0, .int 0, .int 0])), (q0, .inl (cA 0, 5, .inl (fun _ => 0))), (q1, .inl (cA 0, 5, .inl (fun _ => 0))), (q2, .inl (cA 0, 5, .inl (fun _ => 0))), (q3, .inl (cA 0, 5, .inl (fun _ => 0)))]) rfl ?_
  refine e_putF C (T := TX0) hcl 0 rfl rfl (j := 3) (by decide) wl_143 tyX0 tyX0_ok nmX0 rfl hin rfl rfl rfl (Nat.le_of_ble_eq_true rfl) dX0_init_29 (ws' := [(h0, .inr (0, [.ref q0, .ref q1, .ref q2, .ref q3, .null, .null, .null, .int 0, .int 0, .int 0, .int 0, .int 0, .int 0])), (q0, .inl (cA 0, 5, .inl (fun _ => 0))), (q1, .inl (cA 0, 5, .inl (fun _ => 0))), (q2, .inl (cA 0, 5, .inl (fun _ => 0))), (q3, .inl (cA 0, 5, .inl (fun _ => 0)))]) rfl ?_
  refine e_aload_n C dX0_init_32 rfl 0 rfl ?_
  refine e_iconst (v := (5 : Int32)) C dX0_init_33 (by decide) ?_
  refine e_newa (atype := .int) (ty := .int) (a0 := (5, .inl (fun _ => 0))) (N := 5) C 0 rfl rfl rfl wl_194 (fun _ => rfl) (by decide) (by decide) (by decide) (Nat.le_of_ble_eq_true rfl) (Nat.le_of_ble_eq_true rfl) dX0_init_34 (fun q4 => ?_)
  refine e_ws (ws' := [(h0, .inr (0, [.ref q0, .ref q1, .ref q2, .ref q3, .null, .null, .null, .int 0, .int 0, .int 0, .int 0, .int 0, .int 0])), (q0, .inl (cA 0, 5, .inl (fun _ => 0))), (q1, .inl (cA 0, 5, .inl (fun _ => 0))), (q2, .inl (cA 0, 5, .inl (fun _ => 0))), (q3, .inl (cA 0, 5, .inl (fun _ => 0))), (q4, .inl (cA 0, 5, .inl (fun _ => 0)))]) rfl ?_
  refine e_putF C (T := TX0) hcl 0 rfl rfl (j := 4) (by decide) wl_145 tyX0 tyX0_ok nmX0 rfl hin rfl rfl rfl (Nat.le_of_ble_eq_true rfl) dX0_init_36 (ws' := [(h0, .inr (0, [.ref q0, .ref q1, .ref q2, .ref q3, .ref q4, .null, .null, .int 0, .int 0, .int 0, .int 0, .int 0, .int 0])), (q0, .inl (cA 0, 5, .inl (fun _ => 0))), (q1, .inl (cA 0, 5, .inl (fun _ => 0))), (q2, .inl (cA 0, 5, .inl (fun _ => 0))), (q3, .inl (cA 0, 5, .inl (fun _ => 0))), (q4, .inl (cA 0, 5, .inl (fun _ => 0)))]) rfl ?_
  refine e_aload_n C dX0_init_39 rfl 0 rfl ?_
  refine e_iconst (v := (5 : Int32)) C dX0_init_40 (by decide) ?_
  refine e_newa (atype := .int) (ty := .int) (a0 := (5, .inl (fun _ => 0))) (N := 5) C 0 rfl rfl rfl wl_194 (fun _ => rfl) (by decide) (by decide) (by decide) (Nat.le_of_ble_eq_true rfl) (Nat.le_of_ble_eq_true rfl) dX0_init_41 (fun q5 => ?_)
  refine e_ws (ws' := [(h0, .inr (0, [.ref q0, .ref q1, .ref q2, .ref q3, .ref q4, .null, .null, .int 0, .int 0, .int 0, .int 0, .int 0, .int 0])), (q0, .inl (cA 0, 5, .inl (fun _ => 0))), (q1, .inl (cA 0, 5, .inl (fun _ => 0))), (q2, .inl (cA 0, 5, .inl (fun _ => 0))), (q3, .inl (cA 0, 5, .inl (fun _ => 0))), (q4, .inl (cA 0, 5, .inl (fun _ => 0))), (q5, .inl (cA 0, 5, .inl (fun _ => 0)))]) rfl ?_
  refine e_putF C (T := TX0) hcl 0 rfl rfl (j := 5) (by decide) wl_147 tyX0 tyX0_ok nmX0 rfl hin rfl rfl rfl (Nat.le_of_ble_eq_true rfl) dX0_init_43 (ws' := [(h0, .inr (0, [.ref q0, .ref q1, .ref q2, .ref q3, .ref q4, .ref q5, .null, .int 0, .int 0, .int 0, .int 0, .int 0, .int 0])), (q0, .inl (cA 0, 5, .inl (fun _ => 0))), (q1, .inl (cA 0, 5, .inl (fun _ => 0))), (q2, .inl (cA 0, 5, .inl (fun _ => 0))), (q3, .inl (cA 0, 5, .inl (fun _ => 0))), (q4, .inl (cA 0, 5, .inl (fun _ => 0))), (q5, .inl (cA 0, 5, .inl (fun _ => 0)))]) rfl ?_
  refine e_aload_n C dX0_init_46 rfl 0 rfl ?_
  refine e_iconst (v := (5 : Int32)) C dX0_init_47 (by decide) ?_
  refine e_newa (atype := .int) (ty := .int) (a0 := (5, .inl (fun _ => 0))) (N := 5) C 0 rfl rfl rfl wl_194 (fun _ => rfl) (by decide) (by decide) (by decide) (Nat.le_of_ble_eq_true rfl) (Nat.le_of_ble_eq_true rfl) dX0_init_48 (fun q6 => ?_)
  refine e_ws (ws' := [(h0, .inr (0, [.ref q0, .ref q1, .ref q2, .ref q3, .ref q4, .ref q5, .null, .int 0, .int 0, .int 0, .int 0, .int 0, .int 0])), (q0, .inl (cA 0, 5, .inl (fun _ => 0))), (q1, .inl (cA 0, 5, .inl (fun _ => 0))), (q2, .inl (cA 0, 5, .inl (fun _ => 0))), (q3, .inl (cA 0, 5, .inl (fun _ => 0))), (q4, .inl (cA 0, 5, .inl (fun _ => 0))), (q5, .inl (cA 0, 5, .inl (fun _ => 0))), (q6, .inl (cA 0, 5, .inl (fun _ => 0)))]) rfl ?_
  refine e_putF C (T := TX0) hcl 0 rfl rfl (j := 6) (by decide) wl_149 tyX0 tyX0_ok nmX0 rfl hin rfl rfl rfl (Nat.le_of_ble_eq_true rfl) dX0_init_50 (ws' := [(h0, .inr (0, [.ref q0, .ref q1, .ref q2, .ref q3, .ref q4, .ref q5, .ref q6, .int 0, .int 0, .int 0, .int 0, .int 0, .int 0])), (q0, .inl (cA 0, 5, .inl (fun _ => 0))), (q1, .inl (cA 0, 5, .inl (fun _ => 0))), (q2, .inl (cA 0, 5, .inl (fun _ => 0))), (q3, .inl (cA 0, 5, .inl (fun _ => 0))), (q4, .inl (cA 0, 5, .inl (fun _ => 0))), (q5, .inl (cA 0, 5, .inl (fun _ => 0))), (q6, .inl (cA 0, 5, .inl (fun _ => 0)))]) rfl ?_
  refine e_aload_n C dX0_init_53 rfl 0 rfl ?_
  refine e_iconst (v := (-1 : Int32)) C dX0_init_54 (by decide) ?_
  refine e_put C (T := TX0) hcl 0 rfl rfl (j := 9) (by decide) wl_158 tyX0 tyX0_ok nmX0 rfl rfl rfl (Nat.le_of_ble_eq_true rfl) dX0_init_55 (ws' := [(h0, .inr (0, [.ref q0, .ref q1, .ref q2, .ref q3, .ref q4, .ref q5, .ref q6, .int 0, .int 0, .int (-1 : Int32), .int 0, .int 0, .int 0])), (q0, .inl (cA 0, 5, .inl (fun _ => 0))), (q1, .inl (cA 0, 5, .inl (fun _ => 0))), (q2, .inl (cA 0, 5, .inl (fun _ => 0))), (q3, .inl (cA 0, 5, .inl (fun _ => 0))), (q4, .inl (cA 0, 5, .inl (fun _ => 0))), (q5, .inl (cA 0, 5, .inl (fun _ => 0))), (q6, .inl (cA 0, 5, .inl (fun _ => 0)))]) rfl ?_
  refine e_aload_n C dX0_init_58 rfl 0 rfl ?_
  refine e_iconst (v := (1 : Int32)) C dX0_init_59 (by decide) ?_
  refine e_put C (T := TX0) hcl 0 rfl rfl (j := 10) (by decide) wl_160 tyX0 tyX0_ok nmX0 rfl rfl rfl (Nat.le_of_ble_eq_true rfl) dX0_init_60 (ws' := [(h0, .inr (0, [.ref q0, .ref q1, .ref q2, .ref q3, .ref q4, .ref q5, .ref q6, .int 0, .int 0, .int (-1 : Int32), .int (1 : Int32), .int 0, .int 0])), (q0, .inl (cA 0, 5, .inl (fun _ => 0))), (q1, .inl (cA 0, 5, .inl (fun _ => 0))), (q2, .inl (cA 0, 5, .inl (fun _ => 0))), (q3, .inl (cA 0, 5, .inl (fun _ => 0))), (q4, .inl (cA 0, 5, .inl (fun _ => 0))), (q5, .inl (cA 0, 5, .inl (fun _ => 0))), (q6, .inl (cA 0, 5, .inl (fun _ => 0)))]) rfl ?_
  refine e_aload_n C dX0_init_63 rfl 0 rfl ?_
  refine e_iconst (v := (-1 : Int32)) C dX0_init_64 (by decide) ?_
  refine e_put C (T := TX0) hcl 0 rfl rfl (j := 12) (by decide) wl_164 tyX0 tyX0_ok nmX0 rfl rfl rfl (Nat.le_of_ble_eq_true rfl) dX0_init_65 (ws' := [(h0, .inr (0, [.ref q0, .ref q1, .ref q2, .ref q3, .ref q4, .ref q5, .ref q6, .int 0, .int 0, .int (-1 : Int32), .int (1 : Int32), .int 0, .int (-1 : Int32)])), (q0, .inl (cA 0, 5, .inl (fun _ => 0))), (q1, .inl (cA 0, 5, .inl (fun _ => 0))), (q2, .inl (cA 0, 5, .inl (fun _ => 0))), (q3, .inl (cA 0, 5, .inl (fun _ => 0))), (q4, .inl (cA 0, 5, .inl (fun _ => 0))), (q5, .inl (cA 0, 5, .inl (fun _ => 0))), (q6, .inl (cA 0, 5, .inl (fun _ => 0)))]) rfl ?_
  refine e_vret C hr hlk (fun i => [q0, q1, q2, q3, q4, q5, q6].getD i 0) trivial (fun H t hP hD ht hW => ⟨by rw [ht]; exact hP, hD⟩) dX0_init_68

def nwX1 (cA : Nat → ClassId) (h0 : Nat) (q : Nat → Nat) : va_W := [(h0, .inr (1, [.ref (q 0), .ref (q 1), .ref (q 2), .ref (q 3), .ref (q 4), .ref (q 5), .ref (q 6), .ref (q 7), .ref (q 8), .ref (q 9), .null, .int 0, .int 0, .int 0])), (q 0, .inl (cA 0, 3125, .inl (fun _ => 0))), (q 1, .inl (cA 0, 3125, .inl (fun _ => 0))), (q 2, .inl (cA 0, 3125, .inl (fun _ => 0))), (q 3, .inl (cA 0, 3125, .inl (fun _ => 0))), (q 4, .inl (cA 0, 100, .inl (fun _ => 0))), (q 5, .inl (cA 0, 125, .inl (fun _ => 0))), (q 6, .inl (cA 0, 5, .inl (fun _ => 0))), (q 7, .inl (cA 0, 5, .inl (fun _ => 0))), (q 8, .inl (cA 0, 25, .inl (fun _ => 0))), (q 9, .inl (cA 0, 25, .inl (fun _ => 0)))]
def rmX1_init : Room := { frames := 1, cells := 10, slots := 12785, locals := 20 }
set_option maxRecDepth 100000 in
set_option maxHeartbeats 4000000 in
theorem i_X1_init (l : Launch) : CI l yX1_init cX1_init 1 rmX1_init 1 [.null, .null, .null, .null, .null, .null, .null, .null, .null, .null, .null, .int 0, .int 0, .int 0] nwX1 10 12785 := by
  refine CI.of (by decide) rfl (by decide) ?_
  intro p e s mt args below meth c D cA h0 A C hr hlk hin
  have hcl : ∀ w ∈ wsX10, w.before args s = true := fun w hw => C.2.2.2.2.1 w (inlX1 w hw)
  refine e_aload_n C dX1_init_0 rfl 0 rfl ?_
  refine e_obj C wl_200 wl_129 wl_130 ⟨Nat.le_of_ble_eq_true rfl, Nat.le_of_ble_eq_true rfl⟩ (Nat.le_of_ble_eq_true rfl) dX1_init_1 ?_
  refine e_aload_n C dX1_init_4 rfl 0 rfl ?_
  refine e_sipush (v := (3125 : Int32)) C dX1_init_5 (by decide) ?_
  refine e_newa (atype := .int) (ty := .int) (a0 := (3125, .inl (fun _ => 0))) (N := 3125) C 0 rfl rfl rfl wl_194 (fun _ => rfl) (by decide) (by decide) (by decide) (Nat.le_of_ble_eq_true rfl) (Nat.le_of_ble_eq_true rfl) dX1_init_8 (fun q0 => ?_)
  refine e_ws (ws' := [(h0, .inr (1, [.null, .null, .null, .null, .null, .null, .null, .null, .null, .null, .null, .int 0, .int 0, .int 0])), (q0, .inl (cA 0, 3125, .inl (fun _ => 0)))]) rfl ?_
  refine e_putF C (T := TX1) hcl 0 rfl rfl (j := 0) (by decide) wl_201 tyX1 tyX1_ok nmX1 rfl hin rfl rfl rfl (Nat.le_of_ble_eq_true rfl) dX1_init_10 (ws' := [(h0, .inr (1, [.ref q0, .null, .null, .null, .null, .null, .null, .null, .null, .null, .null, .int 0, .int 0, .int 0])), (q0, .inl (cA 0, 3125, .inl (fun _ => 0)))]) rfl ?_
  refine e_aload_n C dX1_init_13 rfl 0 rfl ?_
  refine e_sipush (v := (3125 : Int32)) C dX1_init_14 (by decide) ?_
  refine e_newa (atype := .int) (ty := .int) (a0 := (3125, .inl (fun _ => 0))) (N := 3125) C 0 rfl rfl rfl wl_194 (fun _ => rfl) (by decide) (by decide) (by decide) (Nat.le_of_ble_eq_true rfl) (Nat.le_of_ble_eq_true rfl) dX1_init_17 (fun q1 => ?_)
  refine e_ws (ws' := [(h0, .inr (1, [.ref q0, .null, .null, .null, .null, .null, .null, .null, .null, .null, .null, .int 0, .int 0, .int 0])), (q0, .inl (cA 0, 3125, .inl (fun _ => 0))), (q1, .inl (cA 0, 3125, .inl (fun _ => 0)))]) rfl ?_
  refine e_putF C (T := TX1) hcl 0 rfl rfl (j := 1) (by decide) wl_202 tyX1 tyX1_ok nmX1 rfl hin rfl rfl rfl (Nat.le_of_ble_eq_true rfl) dX1_init_19 (ws' := [(h0, .inr (1, [.ref q0, .ref q1, .null, .null, .null, .null, .null, .null, .null, .null, .null, .int 0, .int 0, .int 0])), (q0, .inl (cA 0, 3125, .inl (fun _ => 0))), (q1, .inl (cA 0, 3125, .inl (fun _ => 0)))]) rfl ?_
  refine e_aload_n C dX1_init_22 rfl 0 rfl ?_
  refine e_sipush (v := (3125 : Int32)) C dX1_init_23 (by decide) ?_
  refine e_newa (atype := .int) (ty := .int) (a0 := (3125, .inl (fun _ => 0))) (N := 3125) C 0 rfl rfl rfl wl_194 (fun _ => rfl) (by decide) (by decide) (by decide) (Nat.le_of_ble_eq_true rfl) (Nat.le_of_ble_eq_true rfl) dX1_init_26 (fun q2 => ?_)
  refine e_ws (ws' := [(h0, .inr (1, [.ref q0, .ref q1, .null, .null, .null, .null, .null, .null, .null, .null, .null, .int 0, .int 0, .int 0])), (q0, .inl (cA 0, 3125, .inl (fun _ => 0))), (q1, .inl (cA 0, 3125, .inl (fun _ => 0))), (q2, .inl (cA 0, 3125, .inl (fun _ => 0)))]) rfl ?_
  refine e_putF C (T := TX1) hcl 0 rfl rfl (j := 2) (by decide) wl_203 tyX1 tyX1_ok nmX1 rfl hin rfl rfl rfl (Nat.le_of_ble_eq_true rfl) dX1_init_28 (ws' := [(h0, .inr (1, [.ref q0, .ref q1, .ref q2, .null, .null, .null, .null, .null, .null, .null, .null, .int 0, .int 0, .int 0])), (q0, .inl (cA 0, 3125, .inl (fun _ => 0))), (q1, .inl (cA 0, 3125, .inl (fun _ => 0))), (q2, .inl (cA 0, 3125, .inl (fun _ => 0)))]) rfl ?_
  refine e_aload_n C dX1_init_31 rfl 0 rfl ?_
  refine e_sipush (v := (3125 : Int32)) C dX1_init_32 (by decide) ?_
  refine e_newa (atype := .int) (ty := .int) (a0 := (3125, .inl (fun _ => 0))) (N := 3125) C 0 rfl rfl rfl wl_194 (fun _ => rfl) (by decide) (by decide) (by decide) (Nat.le_of_ble_eq_true rfl) (Nat.le_of_ble_eq_true rfl) dX1_init_35 (fun q3 => ?_)
  refine e_ws (ws' := [(h0, .inr (1, [.ref q0, .ref q1, .ref q2, .null, .null, .null, .null, .null, .null, .null, .null, .int 0, .int 0, .int 0])), (q0, .inl (cA 0, 3125, .inl (fun _ => 0))), (q1, .inl (cA 0, 3125, .inl (fun _ => 0))), (q2, .inl (cA 0, 3125, .inl (fun _ => 0))), (q3, .inl (cA 0, 3125, .inl (fun _ => 0)))]) rfl ?_
  refine e_putF C (T := TX1) hcl 0 rfl rfl (j := 3) (by decide) wl_204 tyX1 tyX1_ok nmX1 rfl hin rfl rfl rfl (Nat.le_of_ble_eq_true rfl) dX1_init_37 (ws' := [(h0, .inr (1, [.ref q0, .ref q1, .ref q2, .ref q3, .null, .null, .null, .null, .null, .null, .null, .int 0, .int 0, .int 0])), (q0, .inl (cA 0, 3125, .inl (fun _ => 0))), (q1, .inl (cA 0, 3125, .inl (fun _ => 0))), (q2, .inl (cA 0, 3125, .inl (fun _ => 0))), (q3, .inl (cA 0, 3125, .inl (fun _ => 0)))]) rfl ?_
  refine e_aload_n C dX1_init_40 rfl 0 rfl ?_
  refine e_bipush (v := (100 : Int32)) C dX1_init_41 (by decide) ?_
  refine e_newa (atype := .int) (ty := .int) (a0 := (100, .inl (fun _ => 0))) (N := 100) C 0 rfl rfl rfl wl_194 (fun _ => rfl) (by decide) (by decide) (by decide) (Nat.le_of_ble_eq_true rfl) (Nat.le_of_ble_eq_true rfl) dX1_init_43 (fun q4 => ?_)
  refine e_ws (ws' := [(h0, .inr (1, [.ref q0, .ref q1, .ref q2, .ref q3, .null, .null, .null, .null, .null, .null, .null, .int 0, .int 0, .int 0])), (q0, .inl (cA 0, 3125, .inl (fun _ => 0))), (q1, .inl (cA 0, 3125, .inl (fun _ => 0))), (q2, .inl (cA 0, 3125, .inl (fun _ => 0))), (q3, .inl (cA 0, 3125, .inl (fun _ => 0))), (q4, .inl (cA 0, 100, .inl (fun _ => 0)))]) rfl ?_
  refine e_putF C (T := TX1) hcl 0 rfl rfl (j := 4) (by decide) wl_205 tyX1 tyX1_ok nmX1 rfl hin rfl rfl rfl (Nat.le_of_ble_eq_true rfl) dX1_init_45 (ws' := [(h0, .inr (1, [.ref q0, .ref q1, .ref q2, .ref q3, .ref q4, .null, .null, .null, .null, .null, .null, .int 0, .int 0, .int 0])), (q0, .inl (cA 0, 3125, .inl (fun _ => 0))), (q1, .inl (cA 0, 3125, .inl (fun _ => 0))), (q2, .inl (cA 0, 3125, .inl (fun _ => 0))), (q3, .inl (cA 0, 3125, .inl (fun _ => 0))), (q4, .inl (cA 0, 100, .inl (fun _ => 0)))]) rfl ?_
  refine e_aload_n C dX1_init_48 rfl 0 rfl ?_
  refine e_bipush (v := (125 : Int32)) C dX1_init_49 (by decide) ?_
  refine e_newa (atype := .int) (ty := .int) (a0 := (125, .inl (fun _ => 0))) (N := 125) C 0 rfl rfl rfl wl_194 (fun _ => rfl) (by decide) (by decide) (by decide) (Nat.le_of_ble_eq_true rfl) (Nat.le_of_ble_eq_true rfl) dX1_init_51 (fun q5 => ?_)
  refine e_ws (ws' := [(h0, .inr (1, [.ref q0, .ref q1, .ref q2, .ref q3, .ref q4, .null, .null, .null, .null, .null, .null, .int 0, .int 0, .int 0])), (q0, .inl (cA 0, 3125, .inl (fun _ => 0))), (q1, .inl (cA 0, 3125, .inl (fun _ => 0))), (q2, .inl (cA 0, 3125, .inl (fun _ => 0))), (q3, .inl (cA 0, 3125, .inl (fun _ => 0))), (q4, .inl (cA 0, 100, .inl (fun _ => 0))), (q5, .inl (cA 0, 125, .inl (fun _ => 0)))]) rfl ?_
  refine e_putF C (T := TX1) hcl 0 rfl rfl (j := 5) (by decide) wl_206 tyX1 tyX1_ok nmX1 rfl hin rfl rfl rfl (Nat.le_of_ble_eq_true rfl) dX1_init_53 (ws' := [(h0, .inr (1, [.ref q0, .ref q1, .ref q2, .ref q3, .ref q4, .ref q5, .null, .null, .null, .null, .null, .int 0, .int 0, .int 0])), (q0, .inl (cA 0, 3125, .inl (fun _ => 0))), (q1, .inl (cA 0, 3125, .inl (fun _ => 0))), (q2, .inl (cA 0, 3125, .inl (fun _ => 0))), (q3, .inl (cA 0, 3125, .inl (fun _ => 0))), (q4, .inl (cA 0, 100, .inl (fun _ => 0))), (q5, .inl (cA 0, 125, .inl (fun _ => 0)))]) rfl ?_
  refine e_aload_n C dX1_init_56 rfl 0 rfl ?_
  refine e_iconst (v := (5 : Int32)) C dX1_init_57 (by decide) ?_
  refine e_newa (atype := .int) (ty := .int) (a0 := (5, .inl (fun _ => 0))) (N := 5) C 0 rfl rfl rfl wl_194 (fun _ => rfl) (by decide) (by decide) (by decide) (Nat.le_of_ble_eq_true rfl) (Nat.le_of_ble_eq_true rfl) dX1_init_58 (fun q6 => ?_)
  refine e_ws (ws' := [(h0, .inr (1, [.ref q0, .ref q1, .ref q2, .ref q3, .ref q4, .ref q5, .null, .null, .null, .null, .null, .int 0, .int 0, .int 0])), (q0, .inl (cA 0, 3125, .inl (fun _ => 0))), (q1, .inl (cA 0, 3125, .inl (fun _ => 0))), (q2, .inl (cA 0, 3125, .inl (fun _ => 0))), (q3, .inl (cA 0, 3125, .inl (fun _ => 0))), (q4, .inl (cA 0, 100, .inl (fun _ => 0))), (q5, .inl (cA 0, 125, .inl (fun _ => 0))), (q6, .inl (cA 0, 5, .inl (fun _ => 0)))]) rfl ?_
  refine e_putF C (T := TX1) hcl 0 rfl rfl (j := 6) (by decide) wl_207 tyX1 tyX1_ok nmX1 rfl hin rfl rfl rfl (Nat.le_of_ble_eq_true rfl) dX1_init_60 (ws' := [(h0, .inr (1, [.ref q0, .ref q1, .ref q2, .ref q3, .ref q4, .ref q5, .ref q6, .null, .null, .null, .null, .int 0, .int 0, .int 0])), (q0, .inl (cA 0, 3125, .inl (fun _ => 0))), (q1, .inl (cA 0, 3125, .inl (fun _ => 0))), (q2, .inl (cA 0, 3125, .inl (fun _ => 0))), (q3, .inl (cA 0, 3125, .inl (fun _ => 0))), (q4, .inl (cA 0, 100, .inl (fun _ => 0))), (q5, .inl (cA 0, 125, .inl (fun _ => 0))), (q6, .inl (cA 0, 5, .inl (fun _ => 0)))]) rfl ?_
  refine e_aload_n C dX1_init_63 rfl 0 rfl ?_
  refine e_iconst (v := (5 : Int32)) C dX1_init_64 (by decide) ?_
  refine e_newa (atype := .int) (ty := .int) (a0 := (5, .inl (fun _ => 0))) (N := 5) C 0 rfl rfl rfl wl_194 (fun _ => rfl) (by decide) (by decide) (by decide) (Nat.le_of_ble_eq_true rfl) (Nat.le_of_ble_eq_true rfl) dX1_init_65 (fun q7 => ?_)
  refine e_ws (ws' := [(h0, .inr (1, [.ref q0, .ref q1, .ref q2, .ref q3, .ref q4, .ref q5, .ref q6, .null, .null, .null, .null, .int 0, .int 0, .int 0])), (q0, .inl (cA 0, 3125, .inl (fun _ => 0))), (q1, .inl (cA 0, 3125, .inl (fun _ => 0))), (q2, .inl (cA 0, 3125, .inl (fun _ => 0))), (q3, .inl (cA 0, 3125, .inl (fun _ => 0))), (q4, .inl (cA 0, 100, .inl (fun _ => 0))), (q5, .inl (cA 0, 125, .inl (fun _ => 0))), (q6, .inl (cA 0, 5, .inl (fun _ => 0))), (q7, .inl (cA 0, 5, .inl (fun _ => 0)))]) rfl ?_
  refine e_putF C (T := TX1) hcl 0 rfl rfl (j := 7) (by decide) wl_208 tyX1 tyX1_ok nmX1 rfl hin rfl rfl rfl (Nat.le_of_ble_eq_true rfl) dX1_init_67 (ws' := [(h0, .inr (1, [.ref q0, .ref q1, .ref q2, .ref q3, .ref q4, .ref q5, .ref q6, .ref q7, .null, .null, .null, .int 0, .int 0, .int 0])), (q0, .inl (cA 0, 3125, .inl (fun _ => 0))), (q1, .inl (cA 0, 3125, .inl (fun _ => 0))), (q2, .inl (cA 0, 3125, .inl (fun _ => 0))), (q3, .inl (cA 0, 3125, .inl (fun _ => 0))), (q4, .inl (cA 0, 100, .inl (fun _ => 0))), (q5, .inl (cA 0, 125, .inl (fun _ => 0))), (q6, .inl (cA 0, 5, .inl (fun _ => 0))), (q7, .inl (cA 0, 5, .inl (fun _ => 0)))]) rfl ?_
  refine e_aload_n C dX1_init_70 rfl 0 rfl ?_
  refine e_bipush (v := (25 : Int32)) C dX1_init_71 (by decide) ?_
  refine e_newa (atype := .int) (ty := .int) (a0 := (25, .inl (fun _ => 0))) (N := 25) C 0 rfl rfl rfl wl_194 (fun _ => rfl) (by decide) (by decide) (by decide) (Nat.le_of_ble_eq_true rfl) (Nat.le_of_ble_eq_true rfl) dX1_init_73 (fun q8 => ?_)
  refine e_ws (ws' := [(h0, .inr (1, [.ref q0, .ref q1, .ref q2, .ref q3, .ref q4, .ref q5, .ref q6, .ref q7, .null, .null, .null, .int 0, .int 0, .int 0])), (q0, .inl (cA 0, 3125, .inl (fun _ => 0))), (q1, .inl (cA 0, 3125, .inl (fun _ => 0))), (q2, .inl (cA 0, 3125, .inl (fun _ => 0))), (q3, .inl (cA 0, 3125, .inl (fun _ => 0))), (q4, .inl (cA 0, 100, .inl (fun _ => 0))), (q5, .inl (cA 0, 125, .inl (fun _ => 0))), (q6, .inl (cA 0, 5, .inl (fun _ => 0))), (q7, .inl (cA 0, 5, .inl (fun _ => 0))), (q8, .inl (cA 0, 25, .inl (fun _ => 0)))]) rfl ?_
  refine e_putF C (T := TX1) hcl 0 rfl rfl (j := 8) (by decide) wl_209 tyX1 tyX1_ok nmX1 rfl hin rfl rfl rfl (Nat.le_of_ble_eq_true rfl) dX1_init_75 (ws' := [(h0, .inr (1, [.ref q0, .ref q1, .ref q2, .ref q3, .ref q4, .ref q5, .ref q6, .ref q7, .ref q8, .null, .null, .int 0, .int 0, .int 0])), (q0, .inl (cA 0, 3125, .inl (fun _ => 0))), (q1, .inl (cA 0, 3125, .inl (fun _ => 0))), (q2, .inl (cA 0, 3125, .inl (fun _ => 0))), (q3, .inl (cA 0, 3125, .inl (fun _ => 0))), (q4, .inl (cA 0, 100, .inl (fun _ => 0))), (q5, .inl (cA 0, 125, .inl (fun _ => 0))), (q6, .inl (cA 0, 5, .inl (fun _ => 0))), (q7, .inl (cA 0, 5, .inl (fun _ => 0))), (q8, .inl (cA 0, 25, .inl (fun _ => 0)))]) rfl ?_
  refine e_aload_n C dX1_init_78 rfl 0 rfl ?_
  refine e_bipush (v := (25 : Int32)) C dX1_init_79 (by decide) ?_
  refine e_newa (atype := .int) (ty := .int) (a0 := (25, .inl (fun _ => 0))) (N := 25) C 0 rfl rfl rfl wl_194 (fun _ => rfl) (by decide) (by decide) (by decide) (Nat.le_of_ble_eq_true rfl) (Nat.le_of_ble_eq_true rfl) dX1_init_81 (fun q9 => ?_)
  refine e_ws (ws' := [(h0, .inr (1, [.ref q0, .ref q1, .ref q2, .ref q3, .ref q4, .ref q5, .ref q6, .ref q7, .ref q8, .null, .null, .int 0, .int 0, .int 0])), (q0, .inl (cA 0, 3125, .inl (fun _ => 0))), (q1, .inl (cA 0, 3125, .inl (fun _ => 0))), (q2, .inl (cA 0, 3125, .inl (fun _ => 0))), (q3, .inl (cA 0, 3125, .inl (fun _ => 0))), (q4, .inl (cA 0, 100, .inl (fun _ => 0))), (q5, .inl (cA 0, 125, .inl (fun _ => 0))), (q6, .inl (cA 0, 5, .inl (fun _ => 0))), (q7, .inl (cA 0, 5, .inl (fun _ => 0))), (q8, .inl (cA 0, 25, .inl (fun _ => 0))), (q9, .inl (cA 0, 25, .inl (fun _ => 0)))]) rfl ?_
  refine e_putF C (T := TX1) hcl 0 rfl rfl (j := 9) (by decide) wl_210 tyX1 tyX1_ok nmX1 rfl hin rfl rfl rfl (Nat.le_of_ble_eq_true rfl) dX1_init_83 (ws' := [(h0, .inr (1, [.ref q0, .ref q1, .ref q2, .ref q3, .ref q4, .ref q5, .ref q6, .ref q7, .ref q8, .ref q9, .null, .int 0, .int 0, .int 0])), (q0, .inl (cA 0, 3125, .inl (fun _ => 0))), (q1, .inl (cA 0, 3125, .inl (fun _ => 0))), (q2, .inl (cA 0, 3125, .inl (fun _ => 0))), (q3, .inl (cA 0, 3125, .inl (fun _ => 0))), (q4, .inl (cA 0, 100, .inl (fun _ => 0))), (q5, .inl (cA 0, 125, .inl (fun _ => 0))), (q6, .inl (cA 0, 5, .inl (fun _ => 0))), (q7, .inl (cA 0, 5, .inl (fun _ => 0))), (q8, .inl (cA 0, 25, .inl (fun _ => 0))), (q9, .inl (cA 0, 25, .inl (fun _ => 0)))]) rfl ?_
  refine e_vret C hr hlk (fun i => [q0, q1, q2, q3, q4, q5, q6, q7, q8, q9].getD i 0) trivial (fun H t hP hD ht hW => ⟨by rw [ht]; exact hP, hD⟩) dX1_init_86

def nwX2 (cA : Nat → ClassId) (h0 : Nat) (q : Nat → Nat) : va_W := [(h0, .inr (2, [.ref (q 0), .int (-1 : Int32), .int 0])), (q 0, .inl (cA 0, 40, .inl (fun _ => 0)))]
def rmX2_init : Room := { frames := 1, cells := 1, slots := 40, locals := 20 }
set_option maxRecDepth 100000 in
set_option maxHeartbeats 4000000 in
theorem i_X2_init (l : Launch) : CI l yX2_init cX2_init 1 rmX2_init 2 [.null, .int 0, .int 0] nwX2 1 40 := by
  refine CI.of (by decide) rfl (by decide) ?_
  intro p e s mt args below meth c D cA h0 A C hr hlk hin
  have hcl : ∀ w ∈ wsX20, w.before args s = true := fun w hw => C.2.2.2.2.1 w (inlX2 w hw)
  refine e_aload_n C dX2_init_0 rfl 0 rfl ?_
  refine e_obj C wl_299 wl_129 wl_130 ⟨Nat.le_of_ble_eq_true rfl, Nat.le_of_ble_eq_true rfl⟩ (Nat.le_of_ble_eq_true rfl) dX2_init_1 ?_
  refine e_aload_n C dX2_init_4 rfl 0 rfl ?_
  refine e_bipush (v := (40 : Int32)) C dX2_init_5 (by decide) ?_
  refine e_newa (atype := .int) (ty := .int) (a0 := (40, .inl (fun _ => 0))) (N := 40) C 0 rfl rfl rfl wl_194 (fun _ => rfl) (by decide) (by decide) (by decide) (Nat.le_of_ble_eq_true rfl) (Nat.le_of_ble_eq_true rfl) dX2_init_7 (fun q0 => ?_)
  refine e_ws (ws' := [(h0, .inr (2, [.null, .int 0, .int 0])), (q0, .inl (cA 0, 40, .inl (fun _ => 0)))]) rfl ?_
  refine e_putF C (T := TX2) hcl 0 rfl rfl (j := 0) (by decide) wl_300 tyX2 tyX2_ok nmX2 rfl hin rfl rfl rfl (Nat.le_of_ble_eq_true rfl) dX2_init_9 (ws' := [(h0, .inr (2, [.ref q0, .int 0, .int 0])), (q0, .inl (cA 0, 40, .inl (fun _ => 0)))]) rfl ?_
  refine e_aload_n C dX2_init_12 rfl 0 rfl ?_
  refine e_iconst (v := (-1 : Int32)) C dX2_init_13 (by decide) ?_
  refine e_put C (T := TX2) hcl 0 rfl rfl (j := 1) (by decide) wl_302 tyX2 tyX2_ok nmX2 rfl rfl rfl (Nat.le_of_ble_eq_true rfl) dX2_init_14 (ws' := [(h0, .inr (2, [.ref q0, .int (-1 : Int32), .int 0])), (q0, .inl (cA 0, 40, .inl (fun _ => 0)))]) rfl ?_
  refine e_vret C hr hlk (fun i => [q0].getD i 0) trivial (fun H t hP hD ht hW => ⟨by rw [ht]; exact hP, hD⟩) dX2_init_17

def nwX3 (cA : Nat → ClassId) (h0 : Nat) (q : Nat → Nat) : va_W := [(h0, .inr (3, [.ref (q 0), .int 0, .int 0, .int 0, .int 0, .int 0, .null])), (q 0, .inl (cA 0, 160, .inl (fun _ => 0)))]
def rmX3_init : Room := { frames := 1, cells := 1, slots := 160, locals := 20 }
set_option maxRecDepth 100000 in
set_option maxHeartbeats 4000000 in
theorem i_X3_init (l : Launch) : CI l yX3_init cX3_init 1 rmX3_init 3 [.null, .int 0, .int 0, .int 0, .int 0, .int 0, .null] nwX3 1 160 := by
  refine CI.of (by decide) rfl (by decide) ?_
  intro p e s mt args below meth c D cA h0 A C hr hlk hin
  have hcl : ∀ w ∈ wsX30, w.before args s = true := fun w hw => C.2.2.2.2.1 w (inlX3 w hw)
  refine e_aload_n C dX3_init_0 rfl 0 rfl ?_
  refine e_obj C wl_249 wl_129 wl_130 ⟨Nat.le_of_ble_eq_true rfl, Nat.le_of_ble_eq_true rfl⟩ (Nat.le_of_ble_eq_true rfl) dX3_init_1 ?_
  refine e_aload_n C dX3_init_4 rfl 0 rfl ?_
  refine e_sipush (v := (160 : Int32)) C dX3_init_5 (by decide) ?_
  refine e_newa (atype := .int) (ty := .int) (a0 := (160, .inl (fun _ => 0))) (N := 160) C 0 rfl rfl rfl wl_194 (fun _ => rfl) (by decide) (by decide) (by decide) (Nat.le_of_ble_eq_true rfl) (Nat.le_of_ble_eq_true rfl) dX3_init_8 (fun q0 => ?_)
  refine e_ws (ws' := [(h0, .inr (3, [.null, .int 0, .int 0, .int 0, .int 0, .int 0, .null])), (q0, .inl (cA 0, 160, .inl (fun _ => 0)))]) rfl ?_
  refine e_putF C (T := TX3) hcl 0 rfl rfl (j := 0) (by decide) wl_250 tyX3 tyX3_ok nmX3 rfl hin rfl rfl rfl (Nat.le_of_ble_eq_true rfl) dX3_init_10 (ws' := [(h0, .inr (3, [.ref q0, .int 0, .int 0, .int 0, .int 0, .int 0, .null])), (q0, .inl (cA 0, 160, .inl (fun _ => 0)))]) rfl ?_
  refine e_vret C hr hlk (fun i => [q0].getD i 0) trivial (fun H t hP hD ht hW => ⟨by rw [ht]; exact hP, hD⟩) dX3_init_13

def nwX4 (cA : Nat → ClassId) (h0 : Nat) (q : Nat → Nat) : va_W := [(h0, .inr (4, [.ref (q 0), .ref (q 1), .ref (q 2), .int 0])), (q 0, .inl (cA 0, 160, .inl (fun _ => 0))), (q 1, .inl (cA 0, 4, .inl (fun _ => 0))), (q 2, .inl (cA 0, 40, .inl (fun _ => 0)))]
def rmX4_init : Room := { frames := 1, cells := 3, slots := 204, locals := 20 }
set_option maxRecDepth 100000 in
set_option maxHeartbeats 4000000 in
theorem i_X4_init (l : Launch) : CI l yX4_init cX4_init 1 rmX4_init 4 [.null, .null, .null, .int 0] nwX4 3 204 := by
  refine CI.of (by decide) rfl (by decide) ?_
  intro p e s mt args below meth c D cA h0 A C hr hlk hin
  have hcl : ∀ w ∈ wsX40, w.before args s = true := fun w hw => C.2.2.2.2.1 w (inlX4 w hw)
  refine e_aload_n C dX4_init_0 rfl 0 rfl ?_
  refine e_obj C wl_281 wl_129 wl_130 ⟨Nat.le_of_ble_eq_true rfl, Nat.le_of_ble_eq_true rfl⟩ (Nat.le_of_ble_eq_true rfl) dX4_init_1 ?_
  refine e_aload_n C dX4_init_4 rfl 0 rfl ?_
  refine e_sipush (v := (160 : Int32)) C dX4_init_5 (by decide) ?_
  refine e_newa (atype := .int) (ty := .int) (a0 := (160, .inl (fun _ => 0))) (N := 160) C 0 rfl rfl rfl wl_194 (fun _ => rfl) (by decide) (by decide) (by decide) (Nat.le_of_ble_eq_true rfl) (Nat.le_of_ble_eq_true rfl) dX4_init_8 (fun q0 => ?_)
  refine e_ws (ws' := [(h0, .inr (4, [.null, .null, .null, .int 0])), (q0, .inl (cA 0, 160, .inl (fun _ => 0)))]) rfl ?_
  refine e_putF C (T := TX4) hcl 0 rfl rfl (j := 0) (by decide) wl_282 tyX4 tyX4_ok nmX4 rfl hin rfl rfl rfl (Nat.le_of_ble_eq_true rfl) dX4_init_10 (ws' := [(h0, .inr (4, [.ref q0, .null, .null, .int 0])), (q0, .inl (cA 0, 160, .inl (fun _ => 0)))]) rfl ?_
  refine e_aload_n C dX4_init_13 rfl 0 rfl ?_
  refine e_iconst (v := (4 : Int32)) C dX4_init_14 (by decide) ?_
  refine e_newa (atype := .int) (ty := .int) (a0 := (4, .inl (fun _ => 0))) (N := 4) C 0 rfl rfl rfl wl_194 (fun _ => rfl) (by decide) (by decide) (by decide) (Nat.le_of_ble_eq_true rfl) (Nat.le_of_ble_eq_true rfl) dX4_init_15 (fun q1 => ?_)
  refine e_ws (ws' := [(h0, .inr (4, [.ref q0, .null, .null, .int 0])), (q0, .inl (cA 0, 160, .inl (fun _ => 0))), (q1, .inl (cA 0, 4, .inl (fun _ => 0)))]) rfl ?_
  refine e_putF C (T := TX4) hcl 0 rfl rfl (j := 1) (by decide) wl_283 tyX4 tyX4_ok nmX4 rfl hin rfl rfl rfl (Nat.le_of_ble_eq_true rfl) dX4_init_17 (ws' := [(h0, .inr (4, [.ref q0, .ref q1, .null, .int 0])), (q0, .inl (cA 0, 160, .inl (fun _ => 0))), (q1, .inl (cA 0, 4, .inl (fun _ => 0)))]) rfl ?_
  refine e_aload_n C dX4_init_20 rfl 0 rfl ?_
  refine e_bipush (v := (40 : Int32)) C dX4_init_21 (by decide) ?_
  refine e_newa (atype := .int) (ty := .int) (a0 := (40, .inl (fun _ => 0))) (N := 40) C 0 rfl rfl rfl wl_194 (fun _ => rfl) (by decide) (by decide) (by decide) (Nat.le_of_ble_eq_true rfl) (Nat.le_of_ble_eq_true rfl) dX4_init_23 (fun q2 => ?_)
  refine e_ws (ws' := [(h0, .inr (4, [.ref q0, .ref q1, .null, .int 0])), (q0, .inl (cA 0, 160, .inl (fun _ => 0))), (q1, .inl (cA 0, 4, .inl (fun _ => 0))), (q2, .inl (cA 0, 40, .inl (fun _ => 0)))]) rfl ?_
  refine e_putF C (T := TX4) hcl 0 rfl rfl (j := 2) (by decide) wl_284 tyX4 tyX4_ok nmX4 rfl hin rfl rfl rfl (Nat.le_of_ble_eq_true rfl) dX4_init_25 (ws' := [(h0, .inr (4, [.ref q0, .ref q1, .ref q2, .int 0])), (q0, .inl (cA 0, 160, .inl (fun _ => 0))), (q1, .inl (cA 0, 4, .inl (fun _ => 0))), (q2, .inl (cA 0, 40, .inl (fun _ => 0)))]) rfl ?_
  refine e_vret C hr hlk (fun i => [q0, q1, q2].getD i 0) trivial (fun H t hP hD ht hW => ⟨by rw [ht]; exact hP, hD⟩) dX4_init_28
