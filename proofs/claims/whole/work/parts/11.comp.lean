/-! contracts: X4_clear X3_isLetter J0_isLatin1_aae02 J3_checkIndex_8e157 J0_checkIndex_df160 J1_charAt_3b067 J0_charAt_5068e X3_isWord X3_takeWord X3_isDigit X3_takeNumber J0_coder_7d493 J0_length_8abf5 J1_canEncode_9a6ad J1_indexOfChar_4cfef J1_indexOf_4cfef J0_indexOf_7cf53 J0_indexOf_0f7a4 X3_advance X4_begin X4_add X3_one X3_joins X3_joined X3_read -/
def rmX4_clear : Room := { frames := 0, cells := 0, slots := 0, locals := 0 }
set_option maxRecDepth 100000 in
set_option maxHeartbeats 4000000 in
theorem c_X4_clear (l : Launch)  {k : Nat} (hk : isTx k) {m : MM} {m' : MM} (h : f_X4_clear k m = some m') : CT l yX4_clear cX4_clear 1 none rmX4_clear cfC 73 (fun ad tb => [.ref (ad k)]) m none m' := by
  refine CT.of (cc := cX4_clear) (maxL := 1) (ret := none) (by decide) ⟨rfl, rfl⟩ (fun _ _ => Nat.le_of_ble_eq_true rfl) ?_
  intro p e s mt args below meth c D cA ad tb C hr hlk
  refine g_lv (lv' := [(0, .ref (ad k))]) rfl ?_
  have hcl4 : ∀ w ∈ wsX40, w.before args s = true := fun w hw => C.2.2.2.2.1 w (inlX4 w hw)
  unfold f_X4_clear at h
  refine g_aload_n C dX4_clear_0 rfl 0 rfl ?_
  refine g_iconst (v := (0 : Int32)) C dX4_clear_1 (by decide) ?_
  refine g_putI C (T := TX4) hcl4 (tx_O hk) rfl (j := 3) (by decide) wl_285 tyX4 tyX4_ok nmX4 rfl rfl pfX4_3 (plX4 3 (by decide)) dX4_clear_2 h (fun m1 h => ?_)
  obtain rfl := so_inj h
  exact g_vret C hr hlk dX4_clear_5 rfl

def rmX3_isLetter : Room := { frames := 0, cells := 0, slots := 0, locals := 0 }
set_option maxRecDepth 100000 in
set_option maxHeartbeats 4000000 in
theorem c_X3_isLetter (l : Launch)  {a0 : Int32}  {m : MM} {r : Int32} (h : f_X3_isLetter a0 m = some r) : CT l yX3_isLetter cX3_isLetter 1 (some .boolean) rmX3_isLetter cfC 73 (fun ad tb => [.int a0]) m (some (.int r)) m := by
  refine CT.of (cc := cX3_isLetter) (maxL := 1) (ret := (some .boolean)) (by decide) ⟨rfl, rfl⟩ (fun _ _ => Nat.le_of_ble_eq_true rfl) ?_
  intro p e s mt args below meth c D cA ad tb C hr hlk
  refine g_lv (lv' := [(0, .int a0)]) rfl ?_
  unfold f_X3_isLetter at h
  refine g_iload_n C dX3_isLetter_0 rfl 0 rfl ?_
  refine g_bipush (v := (97 : Int32)) C dX3_isLetter_1 (by decide) ?_
  refine g_icmp_lt (tgt := 16) C dX3_isLetter_3 (by decide) h (fun h => ?_) (fun h => ?_)
  · refine g_iconst (v := (0 : Int32)) C dX3_isLetter_16 (by decide) ?_
    obtain rfl := so_inj h
    exact g_zret C hr hlk dX3_isLetter_17 rfl rfl
  · refine g_iload_n C dX3_isLetter_6 rfl 0 rfl ?_
    refine g_bipush (v := (122 : Int32)) C dX3_isLetter_7 (by decide) ?_
    refine g_icmp_gt (tgt := 16) C dX3_isLetter_9 (by decide) h (fun h => ?_) (fun h => ?_)
    · refine g_iconst (v := (0 : Int32)) C dX3_isLetter_16 (by decide) ?_
      obtain rfl := so_inj h
      exact g_zret C hr hlk dX3_isLetter_17 rfl rfl
    · refine g_iconst (v := (1 : Int32)) C dX3_isLetter_12 (by decide) ?_
      refine g_goto (tgt := 17) C dX3_isLetter_13 (by decide) ?_
      obtain rfl := so_inj h
      exact g_zret C hr hlk dX3_isLetter_17 rfl rfl

def rmJ0_isLatin1_aae02 : Room := { frames := 0, cells := 0, slots := 0, locals := 0 }
set_option maxRecDepth 100000 in
set_option maxHeartbeats 4000000 in
theorem c_J0_isLatin1_aae02 (l : Launch)  {q : Nat} (hq : q < 3) {m : MM} {r : Int32} (h : f_J0_isLatin1_aae02 q m = some r) : CT l yJ0_isLatin1_aae02 cJ0_isLatin1_aae02 1 (some .boolean) rmJ0_isLatin1_aae02 cfC 73 (fun ad tb => [.ref (tb (4 + q))]) m (some (.int r)) m := by
  refine CT.of (cc := cJ0_isLatin1_aae02) (maxL := 1) (ret := (some .boolean)) (by decide) ⟨rfl, rfl⟩ (fun _ _ => Nat.le_of_ble_eq_true rfl) ?_
  intro p e s mt args below meth c D cA ad tb C hr hlk
  refine g_lv (lv' := [(0, .ref (tb (4 + q)))]) rfl ?_
  unfold f_J0_isLatin1_aae02 at h
  refine g_scmp C wl_322 dJ0_isLatin1_aae02_0 ?_
  refine g_if_eq (tgt := 17) C dJ0_isLatin1_aae02_3 (by decide) h (fun h => ?_) (fun h => ?_)
  · refine g_iconst (v := (0 : Int32)) C dJ0_isLatin1_aae02_17 (by decide) ?_
    obtain rfl := so_inj h
    exact g_zret C hr hlk dJ0_isLatin1_aae02_18 rfl rfl
  · refine g_aload_n C dJ0_isLatin1_aae02_6 rfl 0 rfl ?_
    refine g_scod C hq wl_1538 dJ0_isLatin1_aae02_7 ?_
    refine g_if_ne (tgt := 17) C dJ0_isLatin1_aae02_10 (by decide) h (fun h => ?_) (fun h => ?_)
    · refine g_iconst (v := (1 : Int32)) C dJ0_isLatin1_aae02_13 (by decide) ?_
      refine g_goto (tgt := 18) C dJ0_isLatin1_aae02_14 (by decide) ?_
      obtain rfl := so_inj h
      exact g_zret C hr hlk dJ0_isLatin1_aae02_18 rfl rfl
    · refine g_iconst (v := (0 : Int32)) C dJ0_isLatin1_aae02_17 (by decide) ?_
      obtain rfl := so_inj h
      exact g_zret C hr hlk dJ0_isLatin1_aae02_18 rfl rfl

def rmJ3_checkIndex_8e157 : Room := { frames := 0, cells := 0, slots := 0, locals := 0 }
set_option maxRecDepth 100000 in
set_option maxHeartbeats 4000000 in
theorem c_J3_checkIndex_8e157 (l : Launch)  {a0 : Int32} {a1 : Int32} {o : Option Nat}  {m : MM} {r : Int32} (h : f_J3_checkIndex_8e157 a0 a1 m = some r) : CT l yJ3_checkIndex_8e157 cJ3_checkIndex_8e157 3 (some .int) rmJ3_checkIndex_8e157 cfC 73 (fun ad tb => [.int a0, .int a1, va_rf o]) m (some (.int r)) m := by
  refine CT.of (cc := cJ3_checkIndex_8e157) (maxL := 3) (ret := (some .int)) (by decide) ⟨rfl, rfl⟩ (fun _ _ => by cases o <;> exact Nat.le_of_ble_eq_true rfl) ?_
  intro p e s mt args below meth c D cA ad tb C hr hlk
  refine g_lv (lv' := [(0, .int a0), (1, .int a1), (2, va_rf o)]) (by cases o <;> rfl) ?_
  unfold f_J3_checkIndex_8e157 at h
  refine g_iload_n C dJ3_checkIndex_8e157_0 rfl 0 rfl ?_
  refine g_join_ h 9 ([(0, .int a0), (1, .int a1), (2, va_rf o)]) ([]) ?_ ?_
  · intro h
    cases h
  intro J1 hJ1 h
  refine g_if_lt (tgt := 9) C dJ3_checkIndex_8e157_1 (by decide) h (fun h => ?_) (fun h => ?_)
  · exact g_sub [0, 1, 2] rfl (hJ1  h)
  · refine g_iload_n C dJ3_checkIndex_8e157_4 rfl 0 rfl ?_
    refine g_iload_n C dJ3_checkIndex_8e157_5 rfl 1 rfl ?_
    refine g_icmp_lt (tgt := 16) C dJ3_checkIndex_8e157_6 (by decide) h (fun h => ?_) (fun h => ?_)
    · refine g_iload_n C dJ3_checkIndex_8e157_16 rfl 0 rfl ?_
      obtain rfl := so_inj h
      exact g_iret C hr hlk dJ3_checkIndex_8e157_17 rfl
    · exact g_sub [0, 1, 2] rfl (hJ1  h)

def rmJ0_checkIndex_df160 : Room := { frames := 1, cells := 0, slots := 0, locals := 22 }
set_option maxRecDepth 100000 in
set_option maxHeartbeats 4000000 in
theorem c_J0_checkIndex_df160 (l : Launch)  {a0 : Int32} {a1 : Int32}  {m : MM} (h : f_J0_checkIndex_df160 a0 a1 m = some ()) : CT l yJ0_checkIndex_df160 cJ0_checkIndex_df160 2 none rmJ0_checkIndex_df160 cfC 73 (fun ad tb => [.int a0, .int a1]) m none m := by
  refine CT.of (cc := cJ0_checkIndex_df160) (maxL := 2) (ret := none) (by decide) ⟨rfl, rfl⟩ (fun _ _ => Nat.le_of_ble_eq_true rfl) ?_
  intro p e s mt args below meth c D cA ad tb C hr hlk
  refine g_lv (lv' := [(0, .int a0), (1, .int a1)]) rfl ?_
  unfold f_J0_checkIndex_df160 at h
  refine g_iload_n C dJ0_checkIndex_df160_0 rfl 0 rfl ?_
  refine g_iload_n C dJ0_checkIndex_df160_1 rfl 1 rfl ?_
  refine g_ssio C wl_338 dJ0_checkIndex_df160_2 (fun o1 => ?_)
  obtain ⟨r2, hX3, h⟩ := bd1_inv h
  refine g_callS C (c_J3_checkIndex_8e157 l (o := o1) hX3) (cwSw 3 C.2.2.2.2.1 wl_340 wl_341 wl_117 wl_342 rfl rfl (by decide +kernel) ⟨Nat.le_of_ble_eq_true rfl, Nat.le_of_ble_eq_true rfl⟩) rfl rfl rfl (Nat.le_of_ble_eq_true rfl) dJ0_checkIndex_df160_5 ?_
  refine g_pop C dJ0_checkIndex_df160_8 rfl ?_
  cases h
  exact g_vret C hr hlk dJ0_checkIndex_df160_9 rfl

def rmJ1_charAt_3b067 : Room := { frames := 2, cells := 0, slots := 0, locals := 43 }
set_option maxRecDepth 100000 in
set_option maxHeartbeats 4000000 in
theorem c_J1_charAt_3b067 (l : Launch)  {q : Nat} {a1 : Int32} (hq : q < 3) {m : MM} {r : Int32} (h : f_J1_charAt_3b067 q a1 m = some r) : CT l yJ1_charAt_3b067 cJ1_charAt_3b067 2 (some .char) rmJ1_charAt_3b067 cfC 73 (fun ad tb => [.ref (tb (7 + q)), .int a1]) m (some (.int r)) m := by
  refine CT.of (cc := cJ1_charAt_3b067) (maxL := 2) (ret := (some .char)) (by decide) ⟨rfl, rfl⟩ (fun _ _ => Nat.le_of_ble_eq_true rfl) ?_
  intro p e s mt args below meth c D cA ad tb C hr hlk
  refine g_lv (lv' := [(0, .ref (tb (7 + q))), (1, .int a1)]) rfl ?_
  unfold f_J1_charAt_3b067 at h
  refine g_iload_n C dJ1_charAt_3b067_0 rfl 1 rfl ?_
  refine g_aload_n C dJ1_charAt_3b067_1 rfl 0 rfl ?_
  refine g_vlen C hq dJ1_charAt_3b067_2 ?_
  obtain ⟨u_, hX1, h⟩ := bd1_inv h
  refine g_callS C (c_J0_checkIndex_df160 l hX1) (cwSw 2 C.2.2.2.2.1 wl_335 wl_336 wl_115 wl_337 rfl rfl (by decide +kernel) ⟨Nat.le_of_ble_eq_true rfl, Nat.le_of_ble_eq_true rfl⟩) rfl rfl rfl (Nat.le_of_ble_eq_true rfl) dJ1_charAt_3b067_3 ?_
  refine g_aload_n C dJ1_charAt_3b067_6 rfl 0 rfl ?_
  refine g_iload_n C dJ1_charAt_3b067_7 rfl 1 rfl ?_
  refine g_vald C hq dJ1_charAt_3b067_8 h (fun h => ?_)
  refine g_sipush (v := (255 : Int32)) C dJ1_charAt_3b067_9 (by decide) ?_
  refine g_iand C dJ1_charAt_3b067_12 ?_
  refine g_i2c C dJ1_charAt_3b067_13 ?_
  obtain ⟨hz, h⟩ := Gu_inv h
  obtain rfl := so_inj h
  exact g_nret C hr hlk dJ1_charAt_3b067_14 (ch16_nar hz) rfl

def rmJ0_charAt_5068e : Room := { frames := 3, cells := 0, slots := 0, locals := 64 }
set_option maxRecDepth 100000 in
set_option maxHeartbeats 4000000 in
theorem c_J0_charAt_5068e (l : Launch)  {q : Nat} {a0 : Int32} (hq : q < 3) {m : MM} {r : Int32} (h : f_J0_charAt_5068e q a0 m = some r) : CT l yJ0_charAt_5068e cJ0_charAt_5068e 2 (some .char) rmJ0_charAt_5068e cfC 73 (fun ad tb => [.ref (tb (4 + q)), .int a0]) m (some (.int r)) m := by
  refine CT.of (cc := cJ0_charAt_5068e) (maxL := 2) (ret := (some .char)) (by decide) ⟨rfl, rfl⟩ (fun _ _ => Nat.le_of_ble_eq_true rfl) ?_
  intro p e s mt args below meth c D cA ad tb C hr hlk
  refine g_lv (lv' := [(0, .ref (tb (4 + q))), (1, .int a0)]) rfl ?_
  unfold f_J0_charAt_5068e at h
  refine g_aload_n C dJ0_charAt_5068e_0 rfl 0 rfl ?_
  obtain ⟨r1, hX2, h⟩ := bd1_inv h
  refine g_callT C (c_J0_isLatin1_aae02 l hq hX2) (cwVw 0 C.2.2.2.2.1 wl_328 wl_329 wl_330 wl_115 wl_331 rfl rfl (by decide +kernel) ⟨Nat.le_of_ble_eq_true rfl, Nat.le_of_ble_eq_true rfl⟩) hq rfl rfl rfl (Nat.le_of_ble_eq_true rfl) dJ0_charAt_5068e_1 ?_
  refine g_if_eq (tgt := 16) C dJ0_charAt_5068e_4 (by decide) h (fun h => ?_) (fun h => ?_)
  · cases h
  · refine g_aload_n C dJ0_charAt_5068e_7 rfl 0 rfl ?_
    refine g_sval C hq wl_1537 dJ0_charAt_5068e_8 ?_
    refine g_iload_n C dJ0_charAt_5068e_11 rfl 1 rfl ?_
    obtain ⟨r3, hX4, h⟩ := bd1_inv h
    refine g_callS C (c_J1_charAt_3b067 l hq hX4) (cwSw 2 C.2.2.2.2.1 wl_332 wl_333 wl_116 wl_334 rfl rfl (by decide +kernel) ⟨Nat.le_of_ble_eq_true rfl, Nat.le_of_ble_eq_true rfl⟩) rfl rfl rfl (Nat.le_of_ble_eq_true rfl) dJ0_charAt_5068e_12 ?_
    obtain ⟨hz, h⟩ := Gu_inv h
    obtain rfl := so_inj h
    exact g_nret C hr hlk dJ0_charAt_5068e_15 (ch16_nar hz) rfl

def rmX3_isWord : Room := { frames := 4, cells := 0, slots := 0, locals := 85 }
set_option maxRecDepth 100000 in
set_option maxHeartbeats 4000000 in
theorem c_X3_isWord (l : Launch) {F : Nat}  {a0 : Int32}  {m : MM} {r : Int32} (h : f_X3_isWord F a0 m = some r) : CT l yX3_isWord cX3_isWord 4 (some .boolean) rmX3_isWord cfC 73 (fun ad tb => [.ref (ad 36), .int a0]) m (some (.int r)) m := by
  refine CT.of (cc := cX3_isWord) (maxL := 4) (ret := (some .boolean)) (by decide) ⟨rfl, rfl⟩ (fun _ _ => Nat.le_of_ble_eq_true rfl) ?_
  intro p e s mt args below meth c D cA ad tb C hr hlk
  refine g_lv (lv' := [(0, .ref (ad 36)), (1, .int a0)]) rfl ?_
  have hcl3 : ∀ w ∈ wsX30, w.before args s = true := fun w hw => C.2.2.2.2.1 w (inlX3 w hw)
  unfold f_X3_isWord at h
  refine g_aload_n C dX3_isWord_0 rfl 0 rfl ?_
  refine g_get C (T := TX3) hcl3 cO_36 rfl (j := 2) (by decide) wl_253 (v := .int (rI m 36 2)) rfl dX3_isWord_1 ?_
  refine g_aload_n C dX3_isWord_4 rfl 0 rfl ?_
  refine g_get C (T := TX3) hcl3 cO_36 rfl (j := 4) (by decide) wl_255 (v := .int (rI m 36 4)) rfl dX3_isWord_5 ?_
  refine g_isub C dX3_isWord_8 ?_
  refine nm_i h (fun x2_1 h => ?_)
  refine g_istore_n (lv' := [(2, .int x2_1), (0, .ref (ad 36)), (1, .int a0)]) C dX3_isWord_9 rfl (by decide) rfl ?_
  refine g_iload_n C dX3_isWord_10 rfl 0 rfl ?_
  refine g_bipush (v := (6 : Int32)) C dX3_isWord_11 (by decide) ?_
  refine g_icmp_ge (tgt := 32) C dX3_isWord_13 (by decide) h (fun h => ?_) (fun h => ?_)
  · refine g_iconst (v := (0 : Int32)) C dX3_isWord_32 (by decide) ?_
    obtain rfl := so_inj h
    exact g_zret C hr hlk dX3_isWord_33 rfl rfl
  · refine g_ldcS2 C dX3_isWord_16 ?_
    refine g_iload_n C dX3_isWord_18 rfl 2 rfl ?_
    refine g_bipush (v := (6 : Int32)) C dX3_isWord_19 (by decide) ?_
    refine g_imul C dX3_isWord_21 ?_
    refine g_iload_n C dX3_isWord_22 rfl 0 rfl ?_
    refine g_iadd C dX3_isWord_23 ?_
    obtain ⟨r2, hX3, h⟩ := bd1_inv h
    refine g_callT C (c_J0_charAt_5068e l st_lt2 hX3) (cwVw 1 C.2.2.2.2.1 wl_390 wl_325 wl_326 wl_115 wl_327 rfl rfl (by decide +kernel) ⟨Nat.le_of_ble_eq_true rfl, Nat.le_of_ble_eq_true rfl⟩) st_lt2 rfl rfl rfl (Nat.le_of_ble_eq_true rfl) dX3_isWord_24 ?_
    refine g_bipush (v := (32 : Int32)) C dX3_isWord_27 (by decide) ?_
    refine g_icmp_eq (tgt := 34) C dX3_isWord_29 (by decide) h (fun h => ?_) (fun h => ?_)
    · refine g_iconst (v := (0 : Int32)) C dX3_isWord_34 (by decide) ?_
      refine g_istore_n (lv' := [(3, .int (0 : Int32)), (2, .int x2_1), (0, .ref (ad 36)), (1, .int a0)]) C dX3_isWord_35 rfl (by decide) rfl ?_
      refine g_sub [2, 3, 1, 0] rfl ?_
      refine g_loop_I (L := f_X3_isWord_L36 a0 m x2_1) h 36 74 (fun x3_4 => [(0, .ref (ad 36)), (1, .int a0), (2, .int x2_1), (3, .int x3_4)]) (fun x3_4 => []) (fun x3_4 => []) (fun x3_4 => []) ?_ ?_ (fun _ _ => rfl)
      · intro x3_4 h
        refine g_iconst (v := (1 : Int32)) C dX3_isWord_74 (by decide) ?_
        obtain rfl := so_inj h
        exact g_zret C hr hlk dX3_isWord_75 rfl rfl
      · intro K5 hK5 n ih x3_4 h
        rw [f_X3_isWord_L36] at h
        refine g_iload_n C dX3_isWord_36 rfl 3 rfl ?_
        refine g_iload_n C dX3_isWord_37 rfl 2 rfl ?_
        refine g_icmp_ge (tgt := 74) C dX3_isWord_38 (by decide) h (fun h => ?_) (fun h => ?_)
        · exact g_sub [] rfl (hK5 _ h)
        · refine g_ldcS2 C dX3_isWord_41 ?_
          refine g_iload_n C dX3_isWord_43 rfl 1 rfl ?_
          refine g_bipush (v := (6 : Int32)) C dX3_isWord_44 (by decide) ?_
          refine g_imul C dX3_isWord_46 ?_
          refine g_iload_n C dX3_isWord_47 rfl 3 rfl ?_
          refine g_iadd C dX3_isWord_48 ?_
          obtain ⟨r6, hX7, h⟩ := bd1_inv h
          refine g_callT C (c_J0_charAt_5068e l st_lt2 hX7) (cwVw 1 C.2.2.2.2.1 wl_390 wl_325 wl_326 wl_115 wl_327 rfl rfl (by decide +kernel) ⟨Nat.le_of_ble_eq_true rfl, Nat.le_of_ble_eq_true rfl⟩) st_lt2 rfl rfl rfl (Nat.le_of_ble_eq_true rfl) dX3_isWord_49 ?_
          refine g_aload_n C dX3_isWord_52 rfl 0 rfl ?_
          refine g_get C (T := TX3) hcl3 cO_36 rfl (j := 0) (by decide) wl_250 (v := .ref (ad 37)) rfl dX3_isWord_53 ?_
          refine g_aload_n C dX3_isWord_56 rfl 0 rfl ?_
          refine g_get C (T := TX3) hcl3 cO_36 rfl (j := 4) (by decide) wl_255 (v := .int (rI m 36 4)) rfl dX3_isWord_57 ?_
          refine g_iload_n C dX3_isWord_60 rfl 3 rfl ?_
          refine g_iadd C dX3_isWord_61 ?_
          refine g_iald C cI_37 dX3_isWord_62 h (fun h => ?_)
          refine g_icmp_eq (tgt := 68) C dX3_isWord_63 (by decide) h (fun h => ?_) (fun h => ?_)
          · refine g_iinc (lv' := [(0, .ref (ad 36)), (1, .int a0), (2, .int x2_1)]) C dX3_isWord_68 (q := 3) rfl (by decide) h rfl (fun _ => rfl) (fun x3_8 h => ?_)
            refine g_goto (tgt := 36) C dX3_isWord_71 (by decide) ?_
            exact g_sub [1, 2, 3, 0] rfl (ih _ h)
          · refine g_iconst (v := (0 : Int32)) C dX3_isWord_66 (by decide) ?_
            obtain rfl := so_inj h
            exact g_zret C hr hlk dX3_isWord_67 rfl rfl
    · refine g_iconst (v := (0 : Int32)) C dX3_isWord_32 (by decide) ?_
      obtain rfl := so_inj h
      exact g_zret C hr hlk dX3_isWord_33 rfl rfl

def rmX3_takeWord : Room := { frames := 5, cells := 0, slots := 0, locals := 108 }
set_option maxRecDepth 100000 in
set_option maxHeartbeats 4000000 in
theorem c_X3_takeWord (l : Launch) {F : Nat}    {m : MM} {m' : MM} (h : f_X3_takeWord F m = some m') : CT l yX3_takeWord cX3_takeWord 2 none rmX3_takeWord cfC 73 (fun ad tb => [.ref (ad 36)]) m none m' := by
  refine CT.of (cc := cX3_takeWord) (maxL := 2) (ret := none) (by decide) ⟨rfl, rfl⟩ (fun _ _ => Nat.le_of_ble_eq_true rfl) ?_
  intro p e s mt args below meth c D cA ad tb C hr hlk
  refine g_lv (lv' := [(0, .ref (ad 36))]) rfl ?_
  have hcl3 : ∀ w ∈ wsX30, w.before args s = true := fun w hw => C.2.2.2.2.1 w (inlX3 w hw)
  unfold f_X3_takeWord at h
  refine g_sub [0] rfl ?_
  refine g_loop_M (L := f_X3_takeWord_L0) h 0 39 (fun m1 => [(0, .ref (ad 36))]) (fun m1 => [(0, .ref (ad 36))]) (fun m1 => []) (fun m1 => []) ?_ ?_ (fun _ _ => rfl)
  · intro m1 h
    refine g_aload_n C dX3_takeWord_39 rfl 0 rfl ?_
    refine g_iconst (v := (3 : Int32)) C dX3_takeWord_40 (by decide) ?_
    refine g_putI C (T := TX3) hcl3 cO_36 rfl (j := 3) (by decide) wl_254 tyX3 tyX3_ok nmX3 rfl rfl pfX3_3 (plX3 3 (by decide)) dX3_takeWord_41 h (fun m6 h => ?_)
    refine g_iconst (v := (0 : Int32)) C dX3_takeWord_44 (by decide) ?_
    refine g_istore_n (lv' := [(1, .int (0 : Int32)), (0, .ref (ad 36))]) C dX3_takeWord_45 rfl (by decide) rfl ?_
    refine g_sub [1, 0] rfl ?_
    refine g_loop_I (L := f_X3_takeWord_L46 F m6) h 46 93 (fun x1_7 => [(0, .ref (ad 36)), (1, .int x1_7)]) (fun x1_7 => []) (fun x1_7 => []) (fun x1_7 => []) ?_ ?_ (fun _ _ => rfl)
    · intro x1_7 h
      obtain rfl := so_inj h
      exact g_vret C hr hlk dX3_takeWord_93 rfl
    · intro K8 hK8 n ih x1_7 h
      rw [f_X3_takeWord_L46] at h
      refine g_iload_n C dX3_takeWord_46 rfl 1 rfl ?_
      refine g_bipush (v := (12 : Int32)) C dX3_takeWord_47 (by decide) ?_
      refine g_icmp_ge (tgt := 93) C dX3_takeWord_49 (by decide) h (fun h => ?_) (fun h => ?_)
      · exact g_sub [] rfl (hK8 _ h)
      · refine g_aload_n C dX3_takeWord_52 rfl 0 rfl ?_
        refine g_iload_n C dX3_takeWord_53 rfl 1 rfl ?_
        obtain ⟨r9, hX10, h⟩ := bd1_inv h
        refine g_callV C (c_X3_isWord l hX10) (cwVw 1 C.2.2.2.2.1 wl_385 wl_387 wl_2 wl_112 wl_388 rfl rfl (by decide +kernel) ⟨Nat.le_of_ble_eq_true rfl, Nat.le_of_ble_eq_true rfl⟩) cO_36 rfl rfl rfl rfl (Nat.le_of_ble_eq_true rfl) dX3_takeWord_54 ?_
        refine g_if_eq (tgt := 87) C dX3_takeWord_57 (by decide) h (fun h => ?_) (fun h => ?_)
        · refine g_iinc (lv' := [(0, .ref (ad 36))]) C dX3_takeWord_87 (q := 1) rfl (by decide) h rfl (fun _ => rfl) (fun x1_11 h => ?_)
          refine g_goto (tgt := 46) C dX3_takeWord_90 (by decide) ?_
          exact g_sub [1, 0] rfl (ih _ h)
        · refine g_aload_n C dX3_takeWord_60 rfl 0 rfl ?_
          refine g_iload_n C dX3_takeWord_61 rfl 1 rfl ?_
          refine g_bipush (v := (6 : Int32)) C dX3_takeWord_62 (by decide) ?_
          refine g_join_I h 78 (fun s12 => [(0, .ref (ad 36)), (1, .int x1_7)]) (fun s12 => [.int s12, .ref (ad 36)]) ?_ ?_
          · intro s12 h
            refine g_putI C (T := TX3) hcl3 cO_36 rfl (j := 3) (by decide) wl_254 tyX3 tyX3_ok nmX3 rfl rfl pfX3_3 (plX3 3 (by decide)) dX3_takeWord_78 h (fun m14 h => ?_)
            refine g_aload_n C dX3_takeWord_81 rfl 0 rfl ?_
            refine g_iload_n C dX3_takeWord_82 rfl 1 rfl ?_
            refine g_putI C (T := TX3) hcl3 cO_36 rfl (j := 5) (by decide) wl_256 tyX3 tyX3_ok nmX3 rfl rfl pfX3_5 (plX3 5 (by decide)) dX3_takeWord_83 h (fun m15 h => ?_)
            obtain rfl := so_inj h
            exact g_vret C hr hlk dX3_takeWord_86 rfl
          intro J13 hJ13 h
          refine g_icmp_ge (tgt := 71) C dX3_takeWord_64 (by decide) h (fun h => ?_) (fun h => ?_)
          · refine g_bipush (v := (6 : Int32)) C dX3_takeWord_71 (by decide) ?_
            refine g_iload_n C dX3_takeWord_73 rfl 1 rfl ?_
            refine g_iadd C dX3_takeWord_74 ?_
            refine g_bipush (v := (6 : Int32)) C dX3_takeWord_75 (by decide) ?_
            refine g_isub C dX3_takeWord_77 ?_
            exact g_sub [0, 1] rfl (hJ13 _ h)
          · refine g_iconst (v := (5 : Int32)) C dX3_takeWord_67 (by decide) ?_
            refine g_goto (tgt := 78) C dX3_takeWord_68 (by decide) ?_
            exact g_sub [0, 1] rfl (hJ13 _ h)
  · intro K2 hK2 n ih m1 h
    rw [f_X3_takeWord_L0] at h
    refine g_aload_n C dX3_takeWord_0 rfl 0 rfl ?_
    refine g_get C (T := TX3) hcl3 cO_36 rfl (j := 2) (by decide) wl_253 (v := .int (rI m1 36 2)) rfl dX3_takeWord_1 ?_
    refine g_aload_n C dX3_takeWord_4 rfl 0 rfl ?_
    refine g_get C (T := TX3) hcl3 cO_36 rfl (j := 1) (by decide) wl_251 (v := .int (rI m1 36 1)) rfl dX3_takeWord_5 ?_
    refine g_icmp_ge (tgt := 39) C dX3_takeWord_8 (by decide) h (fun h => ?_) (fun h => ?_)
    · exact g_sub [0] rfl (hK2 _ h)
    · refine g_aload_n C dX3_takeWord_11 rfl 0 rfl ?_
      refine g_get C (T := TX3) hcl3 cO_36 rfl (j := 0) (by decide) wl_250 (v := .ref (ad 37)) rfl dX3_takeWord_12 ?_
      refine g_aload_n C dX3_takeWord_15 rfl 0 rfl ?_
      refine g_get C (T := TX3) hcl3 cO_36 rfl (j := 2) (by decide) wl_253 (v := .int (rI m1 36 2)) rfl dX3_takeWord_16 ?_
      refine g_iald C cI_37 dX3_takeWord_19 h (fun h => ?_)
      obtain ⟨r3, hX4, h⟩ := bd1_inv h
      refine g_callS C (c_X3_isLetter l hX4) (cwSw 1 C.2.2.2.2.1 wl_378 wl_379 wl_112 wl_380 rfl rfl (by decide +kernel) ⟨Nat.le_of_ble_eq_true rfl, Nat.le_of_ble_eq_true rfl⟩) rfl rfl rfl (Nat.le_of_ble_eq_true rfl) dX3_takeWord_20 ?_
      refine g_if_eq (tgt := 39) C dX3_takeWord_23 (by decide) h (fun h => ?_) (fun h => ?_)
      · exact g_sub [0] rfl (hK2 _ h)
      · refine g_aload_n C dX3_takeWord_26 rfl 0 rfl ?_
        refine g_dup C dX3_takeWord_27 rfl ?_
        refine g_get C (T := TX3) hcl3 cO_36 rfl (j := 2) (by decide) wl_253 (v := .int (rI m1 36 2)) rfl dX3_takeWord_28 ?_
        refine g_iconst (v := (1 : Int32)) C dX3_takeWord_31 (by decide) ?_
        refine g_iadd C dX3_takeWord_32 ?_
        refine g_putI C (T := TX3) hcl3 cO_36 rfl (j := 2) (by decide) wl_253 tyX3 tyX3_ok nmX3 rfl rfl pfX3_2 (plX3 2 (by decide)) dX3_takeWord_33 h (fun m5 h => ?_)
        refine g_goto (tgt := 0) C dX3_takeWord_36 (by decide) ?_
        exact g_sub [0] rfl (ih _ h)

def rmX3_isDigit : Room := { frames := 0, cells := 0, slots := 0, locals := 0 }
set_option maxRecDepth 100000 in
set_option maxHeartbeats 4000000 in
theorem c_X3_isDigit (l : Launch)  {a0 : Int32}  {m : MM} {r : Int32} (h : f_X3_isDigit a0 m = some r) : CT l yX3_isDigit cX3_isDigit 1 (some .boolean) rmX3_isDigit cfC 73 (fun ad tb => [.int a0]) m (some (.int r)) m := by
  refine CT.of (cc := cX3_isDigit) (maxL := 1) (ret := (some .boolean)) (by decide) ⟨rfl, rfl⟩ (fun _ _ => Nat.le_of_ble_eq_true rfl) ?_
  intro p e s mt args below meth c D cA ad tb C hr hlk
  refine g_lv (lv' := [(0, .int a0)]) rfl ?_
  unfold f_X3_isDigit at h
  refine g_iload_n C dX3_isDigit_0 rfl 0 rfl ?_
  refine g_bipush (v := (48 : Int32)) C dX3_isDigit_1 (by decide) ?_
  refine g_icmp_lt (tgt := 16) C dX3_isDigit_3 (by decide) h (fun h => ?_) (fun h => ?_)
  · refine g_iconst (v := (0 : Int32)) C dX3_isDigit_16 (by decide) ?_
    obtain rfl := so_inj h
    exact g_zret C hr hlk dX3_isDigit_17 rfl rfl
  · refine g_iload_n C dX3_isDigit_6 rfl 0 rfl ?_
    refine g_bipush (v := (57 : Int32)) C dX3_isDigit_7 (by decide) ?_
    refine g_icmp_gt (tgt := 16) C dX3_isDigit_9 (by decide) h (fun h => ?_) (fun h => ?_)
    · refine g_iconst (v := (0 : Int32)) C dX3_isDigit_16 (by decide) ?_
      obtain rfl := so_inj h
      exact g_zret C hr hlk dX3_isDigit_17 rfl rfl
    · refine g_iconst (v := (1 : Int32)) C dX3_isDigit_12 (by decide) ?_
      refine g_goto (tgt := 17) C dX3_isDigit_13 (by decide) ?_
      obtain rfl := so_inj h
      exact g_zret C hr hlk dX3_isDigit_17 rfl rfl

def rmX3_takeNumber : Room := { frames := 1, cells := 0, slots := 0, locals := 20 }
set_option maxRecDepth 100000 in
set_option maxHeartbeats 4000000 in
theorem c_X3_takeNumber (l : Launch) {F : Nat}    {m : MM} {m' : MM} (h : f_X3_takeNumber F m = some m') : CT l yX3_takeNumber cX3_takeNumber 1 none rmX3_takeNumber cfC 73 (fun ad tb => [.ref (ad 36)]) m none m' := by
  refine CT.of (cc := cX3_takeNumber) (maxL := 1) (ret := none) (by decide) ⟨rfl, rfl⟩ (fun _ _ => Nat.le_of_ble_eq_true rfl) ?_
  intro p e s mt args below meth c D cA ad tb C hr hlk
  refine g_lv (lv' := [(0, .ref (ad 36))]) rfl ?_
  have hcl3 : ∀ w ∈ wsX30, w.before args s = true := fun w hw => C.2.2.2.2.1 w (inlX3 w hw)
  unfold f_X3_takeNumber at h
  refine g_aload_n C dX3_takeNumber_0 rfl 0 rfl ?_
  refine g_iconst (v := (0 : Int32)) C dX3_takeNumber_1 (by decide) ?_
  refine g_putI C (T := TX3) hcl3 cO_36 rfl (j := 5) (by decide) wl_256 tyX3 tyX3_ok nmX3 rfl rfl pfX3_5 (plX3 5 (by decide)) dX3_takeNumber_2 h (fun m1 h => ?_)
  refine g_sub [0] rfl ?_
  refine g_loop_M (L := f_X3_takeNumber_L5) h 5 68 (fun m2 => [(0, .ref (ad 36))]) (fun m2 => [(0, .ref (ad 36))]) (fun m2 => []) (fun m2 => []) ?_ ?_ (fun _ _ => rfl)
  · intro m2 h
    refine g_aload_n C dX3_takeNumber_68 rfl 0 rfl ?_
    refine g_aload_n C dX3_takeNumber_69 rfl 0 rfl ?_
    refine g_get C (T := TX3) hcl3 cO_36 rfl (j := 2) (by decide) wl_253 (v := .int (rI m2 36 2)) rfl dX3_takeNumber_70 ?_
    refine g_aload_n C dX3_takeNumber_73 rfl 0 rfl ?_
    refine g_get C (T := TX3) hcl3 cO_36 rfl (j := 4) (by decide) wl_255 (v := .int (rI m2 36 4)) rfl dX3_takeNumber_74 ?_
    refine g_isub C dX3_takeNumber_77 ?_
    refine g_iconst (v := (4 : Int32)) C dX3_takeNumber_78 (by decide) ?_
    refine g_join_I h 87 (fun s8 => []) (fun s8 => [.int s8, .ref (ad 36)]) ?_ ?_
    · intro s8 h
      refine g_putI C (T := TX3) hcl3 cO_36 rfl (j := 3) (by decide) wl_254 tyX3 tyX3_ok nmX3 rfl rfl pfX3_3 (plX3 3 (by decide)) dX3_takeNumber_87 h (fun m10 h => ?_)
      obtain rfl := so_inj h
      exact g_vret C hr hlk dX3_takeNumber_90 rfl
    intro J9 hJ9 h
    refine g_icmp_gt (tgt := 86) C dX3_takeNumber_79 (by decide) h (fun h => ?_) (fun h => ?_)
    · refine g_iconst (v := (3 : Int32)) C dX3_takeNumber_86 (by decide) ?_
      exact g_sub [] rfl (hJ9 _ h)
    · refine g_iconst (v := (4 : Int32)) C dX3_takeNumber_82 (by decide) ?_
      refine g_goto (tgt := 87) C dX3_takeNumber_83 (by decide) ?_
      exact g_sub [] rfl (hJ9 _ h)
  · intro K3 hK3 n ih m2 h
    rw [f_X3_takeNumber_L5] at h
    refine g_aload_n C dX3_takeNumber_5 rfl 0 rfl ?_
    refine g_get C (T := TX3) hcl3 cO_36 rfl (j := 2) (by decide) wl_253 (v := .int (rI m2 36 2)) rfl dX3_takeNumber_6 ?_
    refine g_aload_n C dX3_takeNumber_9 rfl 0 rfl ?_
    refine g_get C (T := TX3) hcl3 cO_36 rfl (j := 1) (by decide) wl_251 (v := .int (rI m2 36 1)) rfl dX3_takeNumber_10 ?_
    refine g_icmp_ge (tgt := 68) C dX3_takeNumber_13 (by decide) h (fun h => ?_) (fun h => ?_)
    · exact g_sub [0] rfl (hK3 _ h)
    · refine g_aload_n C dX3_takeNumber_16 rfl 0 rfl ?_
      refine g_get C (T := TX3) hcl3 cO_36 rfl (j := 0) (by decide) wl_250 (v := .ref (ad 37)) rfl dX3_takeNumber_17 ?_
      refine g_aload_n C dX3_takeNumber_20 rfl 0 rfl ?_
      refine g_get C (T := TX3) hcl3 cO_36 rfl (j := 2) (by decide) wl_253 (v := .int (rI m2 36 2)) rfl dX3_takeNumber_21 ?_
      refine g_iald C cI_37 dX3_takeNumber_24 h (fun h => ?_)
      obtain ⟨r4, hX5, h⟩ := bd1_inv h
      refine g_callS C (c_X3_isDigit l hX5) (cwSw 1 C.2.2.2.2.1 wl_391 wl_392 wl_112 wl_393 rfl rfl (by decide +kernel) ⟨Nat.le_of_ble_eq_true rfl, Nat.le_of_ble_eq_true rfl⟩) rfl rfl rfl (Nat.le_of_ble_eq_true rfl) dX3_takeNumber_25 ?_
      refine g_if_eq (tgt := 68) C dX3_takeNumber_28 (by decide) h (fun h => ?_) (fun h => ?_)
      · exact g_sub [0] rfl (hK3 _ h)
      · refine g_aload_n C dX3_takeNumber_31 rfl 0 rfl ?_
        refine g_aload_n C dX3_takeNumber_32 rfl 0 rfl ?_
        refine g_get C (T := TX3) hcl3 cO_36 rfl (j := 5) (by decide) wl_256 (v := .int (rI m2 36 5)) rfl dX3_takeNumber_33 ?_
        refine g_bipush (v := (10 : Int32)) C dX3_takeNumber_36 (by decide) ?_
        refine g_imul C dX3_takeNumber_38 ?_
        refine g_aload_n C dX3_takeNumber_39 rfl 0 rfl ?_
        refine g_get C (T := TX3) hcl3 cO_36 rfl (j := 0) (by decide) wl_250 (v := .ref (ad 37)) rfl dX3_takeNumber_40 ?_
        refine g_aload_n C dX3_takeNumber_43 rfl 0 rfl ?_
        refine g_get C (T := TX3) hcl3 cO_36 rfl (j := 2) (by decide) wl_253 (v := .int (rI m2 36 2)) rfl dX3_takeNumber_44 ?_
        refine g_iald C cI_37 dX3_takeNumber_47 h (fun h => ?_)
        refine g_iadd C dX3_takeNumber_48 ?_
        refine g_bipush (v := (48 : Int32)) C dX3_takeNumber_49 (by decide) ?_
        refine g_isub C dX3_takeNumber_51 ?_
        refine g_putI C (T := TX3) hcl3 cO_36 rfl (j := 5) (by decide) wl_256 tyX3 tyX3_ok nmX3 rfl rfl pfX3_5 (plX3 5 (by decide)) dX3_takeNumber_52 h (fun m6 h => ?_)
        refine g_aload_n C dX3_takeNumber_55 rfl 0 rfl ?_
        refine g_dup C dX3_takeNumber_56 rfl ?_
        refine g_get C (T := TX3) hcl3 cO_36 rfl (j := 2) (by decide) wl_253 (v := .int (rI m6 36 2)) rfl dX3_takeNumber_57 ?_
        refine g_iconst (v := (1 : Int32)) C dX3_takeNumber_60 (by decide) ?_
        refine g_iadd C dX3_takeNumber_61 ?_
        refine g_putI C (T := TX3) hcl3 cO_36 rfl (j := 2) (by decide) wl_253 tyX3 tyX3_ok nmX3 rfl rfl pfX3_2 (plX3 2 (by decide)) dX3_takeNumber_62 h (fun m7 h => ?_)
        refine g_goto (tgt := 5) C dX3_takeNumber_65 (by decide) ?_
        exact g_sub [0] rfl (ih _ h)

def rmJ0_coder_7d493 : Room := { frames := 0, cells := 0, slots := 0, locals := 0 }
set_option maxRecDepth 100000 in
set_option maxHeartbeats 4000000 in
theorem c_J0_coder_7d493 (l : Launch)  {q : Nat} (hq : q < 3) {m : MM} {r : Int32} (h : f_J0_coder_7d493 q m = some r) : CT l yJ0_coder_7d493 cJ0_coder_7d493 1 (some .byte) rmJ0_coder_7d493 cfC 73 (fun ad tb => [.ref (tb (4 + q))]) m (some (.int r)) m := by
  refine CT.of (cc := cJ0_coder_7d493) (maxL := 1) (ret := (some .byte)) (by decide) ⟨rfl, rfl⟩ (fun _ _ => Nat.le_of_ble_eq_true rfl) ?_
  intro p e s mt args below meth c D cA ad tb C hr hlk
  refine g_lv (lv' := [(0, .ref (tb (4 + q)))]) rfl ?_
  unfold f_J0_coder_7d493 at h
  refine g_scmp C wl_322 dJ0_coder_7d493_0 ?_
  refine g_if_eq (tgt := 13) C dJ0_coder_7d493_3 (by decide) h (fun h => ?_) (fun h => ?_)
  · refine g_iconst (v := (1 : Int32)) C dJ0_coder_7d493_13 (by decide) ?_
    obtain ⟨hz, h⟩ := Gu_inv h
    obtain rfl := so_inj h
    exact g_nret C hr hlk dJ0_coder_7d493_14 (by8_nar hz) rfl
  · refine g_aload_n C dJ0_coder_7d493_6 rfl 0 rfl ?_
    refine g_scod C hq wl_1538 dJ0_coder_7d493_7 ?_
    refine g_goto (tgt := 14) C dJ0_coder_7d493_10 (by decide) ?_
    obtain ⟨hz, h⟩ := Gu_inv h
    obtain rfl := so_inj h
    exact g_nret C hr hlk dJ0_coder_7d493_14 (by8_nar hz) rfl

def rmJ0_length_8abf5 : Room := { frames := 1, cells := 0, slots := 0, locals := 20 }
set_option maxRecDepth 100000 in
set_option maxHeartbeats 4000000 in
theorem c_J0_length_8abf5 (l : Launch)  {q : Nat} (hq : q < 3) {m : MM} {r : Int32} (h : f_J0_length_8abf5 q m = some r) : CT l yJ0_length_8abf5 cJ0_length_8abf5 1 (some .int) rmJ0_length_8abf5 cfC 73 (fun ad tb => [.ref (tb (4 + q))]) m (some (.int r)) m := by
  refine CT.of (cc := cJ0_length_8abf5) (maxL := 1) (ret := (some .int)) (by decide) ⟨rfl, rfl⟩ (fun _ _ => Nat.le_of_ble_eq_true rfl) ?_
  intro p e s mt args below meth c D cA ad tb C hr hlk
  refine g_lv (lv' := [(0, .ref (tb (4 + q)))]) rfl ?_
  unfold f_J0_length_8abf5 at h
  refine g_aload_n C dJ0_length_8abf5_0 rfl 0 rfl ?_
  refine g_sval C hq wl_1537 dJ0_length_8abf5_1 ?_
  refine g_vlen C hq dJ0_length_8abf5_4 ?_
  refine g_aload_n C dJ0_length_8abf5_5 rfl 0 rfl ?_
  obtain ⟨r1, hX2, h⟩ := bd1_inv h
  refine g_callT C (c_J0_coder_7d493 l hq hX2) (cwVw 0 C.2.2.2.2.1 wl_318 wl_319 wl_320 wl_115 wl_321 rfl rfl (by decide +kernel) ⟨Nat.le_of_ble_eq_true rfl, Nat.le_of_ble_eq_true rfl⟩) hq rfl rfl rfl (Nat.le_of_ble_eq_true rfl) dJ0_length_8abf5_6 ?_
  refine g_ishr C dJ0_length_8abf5_9 ?_
  obtain rfl := so_inj h
  exact g_iret C hr hlk dJ0_length_8abf5_10 rfl

def rmJ1_canEncode_9a6ad : Room := { frames := 0, cells := 0, slots := 0, locals := 0 }
set_option maxRecDepth 100000 in
set_option maxHeartbeats 4000000 in
theorem c_J1_canEncode_9a6ad (l : Launch)  {a0 : Int32}  {m : MM} {r : Int32} (h : f_J1_canEncode_9a6ad a0 m = some r) : CT l yJ1_canEncode_9a6ad cJ1_canEncode_9a6ad 1 (some .boolean) rmJ1_canEncode_9a6ad cfC 73 (fun ad tb => [.int a0]) m (some (.int r)) m := by
  refine CT.of (cc := cJ1_canEncode_9a6ad) (maxL := 1) (ret := (some .boolean)) (by decide) ⟨rfl, rfl⟩ (fun _ _ => Nat.le_of_ble_eq_true rfl) ?_
  intro p e s mt args below meth c D cA ad tb C hr hlk
  refine g_lv (lv' := [(0, .int a0)]) rfl ?_
  unfold f_J1_canEncode_9a6ad at h
  refine g_iload_n C dJ1_canEncode_9a6ad_0 rfl 0 rfl ?_
  refine g_if_lt (tgt := 15) C dJ1_canEncode_9a6ad_1 (by decide) h (fun h => ?_) (fun h => ?_)
  · refine g_iconst (v := (0 : Int32)) C dJ1_canEncode_9a6ad_15 (by decide) ?_
    obtain rfl := so_inj h
    exact g_zret C hr hlk dJ1_canEncode_9a6ad_16 rfl rfl
  · refine g_iload_n C dJ1_canEncode_9a6ad_4 rfl 0 rfl ?_
    refine g_sipush (v := (255 : Int32)) C dJ1_canEncode_9a6ad_5 (by decide) ?_
    refine g_icmp_gt (tgt := 15) C dJ1_canEncode_9a6ad_8 (by decide) h (fun h => ?_) (fun h => ?_)
    · refine g_iconst (v := (0 : Int32)) C dJ1_canEncode_9a6ad_15 (by decide) ?_
      obtain rfl := so_inj h
      exact g_zret C hr hlk dJ1_canEncode_9a6ad_16 rfl rfl
    · refine g_iconst (v := (1 : Int32)) C dJ1_canEncode_9a6ad_11 (by decide) ?_
      refine g_goto (tgt := 16) C dJ1_canEncode_9a6ad_12 (by decide) ?_
      obtain rfl := so_inj h
      exact g_zret C hr hlk dJ1_canEncode_9a6ad_16 rfl rfl

def rmJ1_indexOfChar_4cfef : Room := { frames := 0, cells := 0, slots := 0, locals := 0 }
set_option maxRecDepth 100000 in
set_option maxHeartbeats 4000000 in
theorem c_J1_indexOfChar_4cfef (l : Launch) {F : Nat}  {q : Nat} {a1 : Int32} {a2 : Int32} {a3 : Int32} (hq : q < 3) {m : MM} {r : Int32} (h : f_J1_indexOfChar_4cfef F q a1 a2 a3 m = some r) : CT l yJ1_indexOfChar_4cfef cJ1_indexOfChar_4cfef 6 (some .int) rmJ1_indexOfChar_4cfef cfC 73 (fun ad tb => [.ref (tb (7 + q)), .int a1, .int a2, .int a3]) m (some (.int r)) m := by
  refine CT.of (cc := cJ1_indexOfChar_4cfef) (maxL := 6) (ret := (some .int)) (by decide) ⟨rfl, rfl⟩ (fun _ _ => Nat.le_of_ble_eq_true rfl) ?_
  intro p e s mt args below meth c D cA ad tb C hr hlk
  refine g_lv (lv' := [(0, .ref (tb (7 + q))), (1, .int a1), (2, .int a2), (3, .int a3)]) rfl ?_
  unfold f_J1_indexOfChar_4cfef at h
  refine g_iload_n C dJ1_indexOfChar_4cfef_0 rfl 1 rfl ?_
  refine g_i2b C dJ1_indexOfChar_4cfef_1 ?_
  refine nm_i h (fun x4_1 h => ?_)
  refine g_istore (lv' := [(4, .int x4_1), (0, .ref (tb (7 + q))), (1, .int a1), (2, .int a2), (3, .int a3)]) C dJ1_indexOfChar_4cfef_2 (by decide) rfl ?_
  refine g_iload_n C dJ1_indexOfChar_4cfef_4 rfl 3 rfl ?_
  refine g_istore (lv' := [(5, .int a2), (4, .int x4_1), (0, .ref (tb (7 + q))), (1, .int a1), (2, .int a2), (3, .int a3)]) C dJ1_indexOfChar_4cfef_5 (by decide) rfl ?_
  refine g_sub [2, 5, 1, 0] rfl ?_
  refine g_loop_I (L := f_J1_indexOfChar_4cfef_L7 q a3 x4_1) h 7 31 (fun x5_2 => [(0, .ref (tb (7 + q))), (3, .int a3), (4, .int x4_1), (5, .int x5_2)]) (fun x5_2 => []) (fun x5_2 => []) (fun x5_2 => []) ?_ ?_ (fun _ _ => rfl)
  · intro x5_2 h
    refine g_iconst (v := (-1 : Int32)) C dJ1_indexOfChar_4cfef_31 (by decide) ?_
    obtain rfl := so_inj h
    exact g_iret C hr hlk dJ1_indexOfChar_4cfef_32 rfl
  · intro K3 hK3 n ih x5_2 h
    rw [f_J1_indexOfChar_4cfef_L7] at h
    refine g_iload C dJ1_indexOfChar_4cfef_7 3 rfl ?_
    refine g_iload_n C dJ1_indexOfChar_4cfef_9 rfl 1 rfl ?_
    refine g_icmp_ge (tgt := 31) C dJ1_indexOfChar_4cfef_10 (by decide) h (fun h => ?_) (fun h => ?_)
    · exact g_sub [] rfl (hK3 _ h)
    · refine g_aload_n C dJ1_indexOfChar_4cfef_13 rfl 0 rfl ?_
      refine g_iload C dJ1_indexOfChar_4cfef_14 3 rfl ?_
      refine g_vald C hq dJ1_indexOfChar_4cfef_16 h (fun h => ?_)
      refine g_iload C dJ1_indexOfChar_4cfef_17 2 rfl ?_
      refine g_icmp_ne (tgt := 25) C dJ1_indexOfChar_4cfef_19 (by decide) h (fun h => ?_) (fun h => ?_)
      · refine g_iload C dJ1_indexOfChar_4cfef_22 3 rfl ?_
        obtain rfl := so_inj h
        exact g_iret C hr hlk dJ1_indexOfChar_4cfef_24 rfl
      · refine g_iinc (lv' := [(0, .ref (tb (7 + q))), (3, .int a3), (4, .int x4_1)]) C dJ1_indexOfChar_4cfef_25 (q := 3) rfl (by decide) h rfl (fun _ => rfl) (fun x5_4 h => ?_)
        refine g_goto (tgt := 7) C dJ1_indexOfChar_4cfef_28 (by decide) ?_
        exact g_sub [1, 2, 3, 0] rfl (ih _ h)

def rmJ1_indexOf_4cfef : Room := { frames := 1, cells := 0, slots := 0, locals := 25 }
set_option maxRecDepth 100000 in
set_option maxHeartbeats 4000000 in
theorem c_J1_indexOf_4cfef (l : Launch) {F : Nat}  {q : Nat} {a1 : Int32} {a2 : Int32} {a3 : Int32} (hq : q < 3) {m : MM} {r : Int32} (h : f_J1_indexOf_4cfef F q a1 a2 a3 m = some r) : CT l yJ1_indexOf_4cfef cJ1_indexOf_4cfef 4 (some .int) rmJ1_indexOf_4cfef cfC 73 (fun ad tb => [.ref (tb (7 + q)), .int a1, .int a2, .int a3]) m (some (.int r)) m := by
  refine CT.of (cc := cJ1_indexOf_4cfef) (maxL := 4) (ret := (some .int)) (by decide) ⟨rfl, rfl⟩ (fun _ _ => Nat.le_of_ble_eq_true rfl) ?_
  intro p e s mt args below meth c D cA ad tb C hr hlk
  refine g_lv (lv' := [(0, .ref (tb (7 + q))), (1, .int a1), (2, .int a2), (3, .int a3)]) rfl ?_
  unfold f_J1_indexOf_4cfef at h
  refine g_iload_n C dJ1_indexOf_4cfef_0 rfl 1 rfl ?_
  obtain ⟨r1, hX2, h⟩ := bd1_inv h
  refine g_callS C (c_J1_canEncode_9a6ad l hX2) (cwSw 1 C.2.2.2.2.1 wl_411 wl_412 wl_116 wl_413 rfl rfl (by decide +kernel) ⟨Nat.le_of_ble_eq_true rfl, Nat.le_of_ble_eq_true rfl⟩) rfl rfl rfl (Nat.le_of_ble_eq_true rfl) dJ1_indexOf_4cfef_1 ?_
  refine g_if_ne (tgt := 9) C dJ1_indexOf_4cfef_4 (by decide) h (fun h => ?_) (fun h => ?_)
  · refine g_iconst (v := (-1 : Int32)) C dJ1_indexOf_4cfef_7 (by decide) ?_
    obtain rfl := so_inj h
    exact g_iret C hr hlk dJ1_indexOf_4cfef_8 rfl
  · refine g_iload_n C dJ1_indexOf_4cfef_9 rfl 2 rfl ?_
    refine g_iconst (v := (0 : Int32)) C dJ1_indexOf_4cfef_10 (by decide) ?_
    refine g_max C wl_414 wl_415 wl_119 wl_416 ⟨Nat.le_of_ble_eq_true rfl, Nat.le_of_ble_eq_true rfl⟩ (Nat.le_of_ble_eq_true rfl) dJ1_indexOf_4cfef_11 ?_
    refine nm_i h (fun x2_3 h => ?_)
    refine g_istore_n (lv' := [(2, .int x2_3), (0, .ref (tb (7 + q))), (1, .int a1), (3, .int a3)]) C dJ1_indexOf_4cfef_14 rfl (by decide) rfl ?_
    refine g_iload_n C dJ1_indexOf_4cfef_15 rfl 3 rfl ?_
    refine g_aload_n C dJ1_indexOf_4cfef_16 rfl 1 rfl ?_
    refine g_vlen C hq dJ1_indexOf_4cfef_17 ?_
    refine g_min C wl_417 wl_418 wl_119 wl_419 ⟨Nat.le_of_ble_eq_true rfl, Nat.le_of_ble_eq_true rfl⟩ (Nat.le_of_ble_eq_true rfl) dJ1_indexOf_4cfef_18 ?_
    refine nm_i h (fun x3_4 h => ?_)
    refine g_istore_n (lv' := [(3, .int x3_4), (2, .int x2_3), (0, .ref (tb (7 + q))), (1, .int a1)]) C dJ1_indexOf_4cfef_21 rfl (by decide) rfl ?_
    refine g_iload_n C dJ1_indexOf_4cfef_22 rfl 1 rfl ?_
    refine g_iload_n C dJ1_indexOf_4cfef_23 rfl 0 rfl ?_
    refine g_icmp_lt (tgt := 29) C dJ1_indexOf_4cfef_24 (by decide) h (fun h => ?_) (fun h => ?_)
    · refine g_aload_n C dJ1_indexOf_4cfef_29 rfl 2 rfl ?_
      refine g_iload_n C dJ1_indexOf_4cfef_30 rfl 3 rfl ?_
      refine g_iload_n C dJ1_indexOf_4cfef_31 rfl 1 rfl ?_
      refine g_iload_n C dJ1_indexOf_4cfef_32 rfl 0 rfl ?_
      obtain ⟨r5, hX6, h⟩ := bd1_inv h
      refine g_callS C (c_J1_indexOfChar_4cfef l hq hX6) (cwSw 4 C.2.2.2.2.1 wl_420 wl_421 wl_116 wl_422 rfl rfl (by decide +kernel) ⟨Nat.le_of_ble_eq_true rfl, Nat.le_of_ble_eq_true rfl⟩) rfl rfl rfl (Nat.le_of_ble_eq_true rfl) dJ1_indexOf_4cfef_33 ?_
      obtain rfl := so_inj h
      exact g_iret C hr hlk dJ1_indexOf_4cfef_36 rfl
    · refine g_iconst (v := (-1 : Int32)) C dJ1_indexOf_4cfef_27 (by decide) ?_
      obtain rfl := so_inj h
      exact g_iret C hr hlk dJ1_indexOf_4cfef_28 rfl

def rmJ0_indexOf_7cf53 : Room := { frames := 2, cells := 0, slots := 0, locals := 48 }
set_option maxRecDepth 100000 in
set_option maxHeartbeats 4000000 in
theorem c_J0_indexOf_7cf53 (l : Launch) {F : Nat}  {q : Nat} {a0 : Int32} {a1 : Int32} (hq : q < 3) {m : MM} {r : Int32} (h : f_J0_indexOf_7cf53 F q a0 a1 m = some r) : CT l yJ0_indexOf_7cf53 cJ0_indexOf_7cf53 3 (some .int) rmJ0_indexOf_7cf53 cfC 73 (fun ad tb => [.ref (tb (4 + q)), .int a0, .int a1]) m (some (.int r)) m := by
  refine CT.of (cc := cJ0_indexOf_7cf53) (maxL := 3) (ret := (some .int)) (by decide) ⟨rfl, rfl⟩ (fun _ _ => Nat.le_of_ble_eq_true rfl) ?_
  intro p e s mt args below meth c D cA ad tb C hr hlk
  refine g_lv (lv' := [(0, .ref (tb (4 + q))), (1, .int a0), (2, .int a1)]) rfl ?_
  unfold f_J0_indexOf_7cf53 at h
  refine g_aload_n C dJ0_indexOf_7cf53_0 rfl 0 rfl ?_
  obtain ⟨r1, hX2, h⟩ := bd1_inv h
  refine g_callT C (c_J0_isLatin1_aae02 l hq hX2) (cwVw 0 C.2.2.2.2.1 wl_328 wl_329 wl_330 wl_115 wl_331 rfl rfl (by decide +kernel) ⟨Nat.le_of_ble_eq_true rfl, Nat.le_of_ble_eq_true rfl⟩) hq rfl rfl rfl (Nat.le_of_ble_eq_true rfl) dJ0_indexOf_7cf53_1 ?_
  refine g_if_eq (tgt := 23) C dJ0_indexOf_7cf53_4 (by decide) h (fun h => ?_) (fun h => ?_)
  · cases h
  · refine g_aload_n C dJ0_indexOf_7cf53_7 rfl 0 rfl ?_
    refine g_sval C hq wl_1537 dJ0_indexOf_7cf53_8 ?_
    refine g_iload_n C dJ0_indexOf_7cf53_11 rfl 1 rfl ?_
    refine g_iload_n C dJ0_indexOf_7cf53_12 rfl 2 rfl ?_
    refine g_aload_n C dJ0_indexOf_7cf53_13 rfl 0 rfl ?_
    obtain ⟨r3, hX4, h⟩ := bd1_inv h
    refine g_callT C (c_J0_length_8abf5 l hq hX4) (cwVw 0 C.2.2.2.2.1 wl_407 wl_315 wl_316 wl_115 wl_317 rfl rfl (by decide +kernel) ⟨Nat.le_of_ble_eq_true rfl, Nat.le_of_ble_eq_true rfl⟩) hq rfl rfl rfl (Nat.le_of_ble_eq_true rfl) dJ0_indexOf_7cf53_14 ?_
    obtain ⟨r5, hX6, h⟩ := bd1_inv h
    refine g_callS C (c_J1_indexOf_4cfef l hq hX6) (cwSw 4 C.2.2.2.2.1 wl_408 wl_409 wl_116 wl_410 rfl rfl (by decide +kernel) ⟨Nat.le_of_ble_eq_true rfl, Nat.le_of_ble_eq_true rfl⟩) rfl rfl rfl (Nat.le_of_ble_eq_true rfl) dJ0_indexOf_7cf53_17 ?_
    refine g_goto (tgt := 36) C dJ0_indexOf_7cf53_20 (by decide) ?_
    obtain rfl := so_inj h
    exact g_iret C hr hlk dJ0_indexOf_7cf53_36 rfl

def rmJ0_indexOf_0f7a4 : Room := { frames := 3, cells := 0, slots := 0, locals := 70 }
set_option maxRecDepth 100000 in
set_option maxHeartbeats 4000000 in
theorem c_J0_indexOf_0f7a4 (l : Launch) {F : Nat}  {q : Nat} {a0 : Int32} (hq : q < 3) {m : MM} {r : Int32} (h : f_J0_indexOf_0f7a4 F q a0 m = some r) : CT l yJ0_indexOf_0f7a4 cJ0_indexOf_0f7a4 2 (some .int) rmJ0_indexOf_0f7a4 cfC 73 (fun ad tb => [.ref (tb (4 + q)), .int a0]) m (some (.int r)) m := by
  refine CT.of (cc := cJ0_indexOf_0f7a4) (maxL := 2) (ret := (some .int)) (by decide) ⟨rfl, rfl⟩ (fun _ _ => Nat.le_of_ble_eq_true rfl) ?_
  intro p e s mt args below meth c D cA ad tb C hr hlk
  refine g_lv (lv' := [(0, .ref (tb (4 + q))), (1, .int a0)]) rfl ?_
  unfold f_J0_indexOf_0f7a4 at h
  refine g_aload_n C dJ0_indexOf_0f7a4_0 rfl 0 rfl ?_
  refine g_iload_n C dJ0_indexOf_0f7a4_1 rfl 1 rfl ?_
  refine g_iconst (v := (0 : Int32)) C dJ0_indexOf_0f7a4_2 (by decide) ?_
  obtain ⟨r1, hX2, h⟩ := bd1_inv h
  refine g_callT C (c_J0_indexOf_7cf53 l hq hX2) (cwVw 2 C.2.2.2.2.1 wl_403 wl_404 wl_405 wl_115 wl_406 rfl rfl (by decide +kernel) ⟨Nat.le_of_ble_eq_true rfl, Nat.le_of_ble_eq_true rfl⟩) hq rfl rfl rfl (Nat.le_of_ble_eq_true rfl) dJ0_indexOf_0f7a4_3 ?_
  obtain rfl := so_inj h
  exact g_iret C hr hlk dJ0_indexOf_0f7a4_6 rfl

def rmX3_advance : Room := { frames := 6, cells := 0, slots := 0, locals := 129 }
set_option maxRecDepth 100000 in
set_option maxHeartbeats 4000000 in
theorem c_X3_advance (l : Launch) {F : Nat}    {m : MM} {m' : MM} (h : f_X3_advance F m = some m') : CT l yX3_advance cX3_advance 1 none rmX3_advance cfC 73 (fun ad tb => [.ref (ad 36)]) m none m' := by
  refine CT.of (cc := cX3_advance) (maxL := 1) (ret := none) (by decide) ⟨rfl, rfl⟩ (fun _ _ => Nat.le_of_ble_eq_true rfl) ?_
  intro p e s mt args below meth c D cA ad tb C hr hlk
  refine g_lv (lv' := [(0, .ref (ad 36))]) rfl ?_
  have hcl3 : ∀ w ∈ wsX30, w.before args s = true := fun w hw => C.2.2.2.2.1 w (inlX3 w hw)
  unfold f_X3_advance at h
  refine g_sub [0] rfl ?_
  refine g_loop_M (L := f_X3_advance_L0) h 0 52 (fun m1 => [(0, .ref (ad 36))]) (fun m1 => [(0, .ref (ad 36))]) (fun m1 => []) (fun m1 => []) ?_ ?_ (fun _ _ => rfl)
  · intro m1 h
    refine g_aload_n C dX3_advance_52 rfl 0 rfl ?_
    refine g_aload_n C dX3_advance_53 rfl 0 rfl ?_
    refine g_get C (T := TX3) hcl3 cO_36 rfl (j := 2) (by decide) wl_253 (v := .int (rI m1 36 2)) rfl dX3_advance_54 ?_
    refine g_putI C (T := TX3) hcl3 cO_36 rfl (j := 4) (by decide) wl_255 tyX3 tyX3_ok nmX3 rfl rfl pfX3_4 (plX3 4 (by decide)) dX3_advance_57 h (fun m5 h => ?_)
    refine g_aload_n C dX3_advance_60 rfl 0 rfl ?_
    refine g_get C (T := TX3) hcl3 cO_36 rfl (j := 2) (by decide) wl_253 (v := .int (rI m5 36 2)) rfl dX3_advance_61 ?_
    refine g_aload_n C dX3_advance_64 rfl 0 rfl ?_
    refine g_get C (T := TX3) hcl3 cO_36 rfl (j := 1) (by decide) wl_251 (v := .int (rI m5 36 1)) rfl dX3_advance_65 ?_
    refine g_icmp_lt (tgt := 79) C dX3_advance_68 (by decide) h (fun h => ?_) (fun h => ?_)
    · refine g_aload_n C dX3_advance_79 rfl 0 rfl ?_
      refine g_get C (T := TX3) hcl3 cO_36 rfl (j := 0) (by decide) wl_250 (v := .ref (ad 37)) rfl dX3_advance_80 ?_
      refine g_aload_n C dX3_advance_83 rfl 0 rfl ?_
      refine g_get C (T := TX3) hcl3 cO_36 rfl (j := 2) (by decide) wl_253 (v := .int (rI m5 36 2)) rfl dX3_advance_84 ?_
      refine g_iald C cI_37 dX3_advance_87 h (fun h => ?_)
      obtain ⟨r6, hX7, h⟩ := bd1_inv h
      refine g_callS C (c_X3_isLetter l hX7) (cwSw 1 C.2.2.2.2.1 wl_378 wl_379 wl_112 wl_380 rfl rfl (by decide +kernel) ⟨Nat.le_of_ble_eq_true rfl, Nat.le_of_ble_eq_true rfl⟩) rfl rfl rfl (Nat.le_of_ble_eq_true rfl) dX3_advance_88 ?_
      refine g_if_eq (tgt := 101) C dX3_advance_91 (by decide) h (fun h => ?_) (fun h => ?_)
      · refine g_aload_n C dX3_advance_101 rfl 0 rfl ?_
        refine g_get C (T := TX3) hcl3 cO_36 rfl (j := 0) (by decide) wl_250 (v := .ref (ad 37)) rfl dX3_advance_102 ?_
        refine g_aload_n C dX3_advance_105 rfl 0 rfl ?_
        refine g_get C (T := TX3) hcl3 cO_36 rfl (j := 2) (by decide) wl_253 (v := .int (rI m5 36 2)) rfl dX3_advance_106 ?_
        refine g_iald C cI_37 dX3_advance_109 h (fun h => ?_)
        obtain ⟨r8, hX9, h⟩ := bd1_inv h
        refine g_callS C (c_X3_isDigit l hX9) (cwSw 1 C.2.2.2.2.1 wl_391 wl_392 wl_112 wl_393 rfl rfl (by decide +kernel) ⟨Nat.le_of_ble_eq_true rfl, Nat.le_of_ble_eq_true rfl⟩) rfl rfl rfl (Nat.le_of_ble_eq_true rfl) dX3_advance_110 ?_
        refine g_if_eq (tgt := 123) C dX3_advance_113 (by decide) h (fun h => ?_) (fun h => ?_)
        · refine g_aload_n C dX3_advance_123 rfl 0 rfl ?_
          refine g_ldcS1 C dX3_advance_124 ?_
          refine g_aload_n C dX3_advance_126 rfl 0 rfl ?_
          refine g_get C (T := TX3) hcl3 cO_36 rfl (j := 0) (by decide) wl_250 (v := .ref (ad 37)) rfl dX3_advance_127 ?_
          refine g_aload_n C dX3_advance_130 rfl 0 rfl ?_
          refine g_get C (T := TX3) hcl3 cO_36 rfl (j := 2) (by decide) wl_253 (v := .int (rI m5 36 2)) rfl dX3_advance_131 ?_
          refine g_iald C cI_37 dX3_advance_134 h (fun h => ?_)
          refine g_i2c C dX3_advance_135 ?_
          obtain ⟨r10, hX11, h⟩ := bd1_inv h
          refine g_callT C (c_J0_indexOf_0f7a4 l st_lt1 hX11) (cwVw 1 C.2.2.2.2.1 wl_399 wl_400 wl_401 wl_115 wl_402 rfl rfl (by decide +kernel) ⟨Nat.le_of_ble_eq_true rfl, Nat.le_of_ble_eq_true rfl⟩) st_lt1 rfl rfl rfl (Nat.le_of_ble_eq_true rfl) dX3_advance_136 ?_
          refine g_join_I h 155 (fun s12 => [(0, .ref (ad 36))]) (fun s12 => [.int s12, .ref (ad 36)]) ?_ ?_
          · intro s12 h
            refine g_putI C (T := TX3) hcl3 cO_36 rfl (j := 3) (by decide) wl_254 tyX3 tyX3_ok nmX3 rfl rfl pfX3_3 (plX3 3 (by decide)) dX3_advance_155 h (fun m14 h => ?_)
            refine g_aload_n C dX3_advance_158 rfl 0 rfl ?_
            refine g_dup C dX3_advance_159 rfl ?_
            refine g_get C (T := TX3) hcl3 cO_36 rfl (j := 2) (by decide) wl_253 (v := .int (rI m14 36 2)) rfl dX3_advance_160 ?_
            refine g_iconst (v := (1 : Int32)) C dX3_advance_163 (by decide) ?_
            refine g_iadd C dX3_advance_164 ?_
            refine g_putI C (T := TX3) hcl3 cO_36 rfl (j := 2) (by decide) wl_253 tyX3 tyX3_ok nmX3 rfl rfl pfX3_2 (plX3 2 (by decide)) dX3_advance_165 h (fun m15 h => ?_)
            obtain rfl := so_inj h
            exact g_vret C hr hlk dX3_advance_168 rfl
          intro J13 hJ13 h
          refine g_if_lt (tgt := 154) C dX3_advance_139 (by decide) h (fun h => ?_) (fun h => ?_)
          · refine g_iconst (v := (3 : Int32)) C dX3_advance_154 (by decide) ?_
            exact g_sub [0] rfl (hJ13 _ h)
          · refine g_aload_n C dX3_advance_142 rfl 0 rfl ?_
            refine g_get C (T := TX3) hcl3 cO_36 rfl (j := 0) (by decide) wl_250 (v := .ref (ad 37)) rfl dX3_advance_143 ?_
            refine g_aload_n C dX3_advance_146 rfl 0 rfl ?_
            refine g_get C (T := TX3) hcl3 cO_36 rfl (j := 2) (by decide) wl_253 (v := .int (rI m5 36 2)) rfl dX3_advance_147 ?_
            refine g_iald C cI_37 dX3_advance_150 h (fun h => ?_)
            refine g_goto (tgt := 155) C dX3_advance_151 (by decide) ?_
            exact g_sub [0] rfl (hJ13 _ h)
        · refine g_aload_n C dX3_advance_116 rfl 0 rfl ?_
          obtain ⟨m17, hX16, h⟩ := bd1_inv h
          refine g_callV C (c_X3_takeNumber l hX16) (cwVw 0 C.2.2.2.2.1 wl_394 wl_396 wl_3 wl_112 wl_397 rfl rfl (by decide +kernel) ⟨Nat.le_of_ble_eq_true rfl, Nat.le_of_ble_eq_true rfl⟩) cO_36 rfl rfl rfl rfl (Nat.le_of_ble_eq_true rfl) dX3_advance_117 ?_
          refine g_goto (tgt := 168) C dX3_advance_120 (by decide) ?_
          obtain rfl := so_inj h
          exact g_vret C hr hlk dX3_advance_168 rfl
      · refine g_aload_n C dX3_advance_94 rfl 0 rfl ?_
        obtain ⟨m19, hX18, h⟩ := bd1_inv h
        refine g_callV C (c_X3_takeWord l hX18) (cwVw 0 C.2.2.2.2.1 wl_381 wl_383 wl_1 wl_112 wl_384 rfl rfl (by decide +kernel) ⟨Nat.le_of_ble_eq_true rfl, Nat.le_of_ble_eq_true rfl⟩) cO_36 rfl rfl rfl rfl (Nat.le_of_ble_eq_true rfl) dX3_advance_95 ?_
        refine g_goto (tgt := 168) C dX3_advance_98 (by decide) ?_
        obtain rfl := so_inj h
        exact g_vret C hr hlk dX3_advance_168 rfl
    · refine g_aload_n C dX3_advance_71 rfl 0 rfl ?_
      refine g_iconst (v := (2 : Int32)) C dX3_advance_72 (by decide) ?_
      refine g_putI C (T := TX3) hcl3 cO_36 rfl (j := 3) (by decide) wl_254 tyX3 tyX3_ok nmX3 rfl rfl pfX3_3 (plX3 3 (by decide)) dX3_advance_73 h (fun m20 h => ?_)
      refine g_goto (tgt := 168) C dX3_advance_76 (by decide) ?_
      obtain rfl := so_inj h
      exact g_vret C hr hlk dX3_advance_168 rfl
  · intro K2 hK2 n ih m1 h
    rw [f_X3_advance_L0] at h
    refine g_aload_n C dX3_advance_0 rfl 0 rfl ?_
    refine g_get C (T := TX3) hcl3 cO_36 rfl (j := 2) (by decide) wl_253 (v := .int (rI m1 36 2)) rfl dX3_advance_1 ?_
    refine g_aload_n C dX3_advance_4 rfl 0 rfl ?_
    refine g_get C (T := TX3) hcl3 cO_36 rfl (j := 1) (by decide) wl_251 (v := .int (rI m1 36 1)) rfl dX3_advance_5 ?_
    refine g_icmp_ge (tgt := 52) C dX3_advance_8 (by decide) h (fun h => ?_) (fun h => ?_)
    · exact g_sub [0] rfl (hK2 _ h)
    · refine g_aload_n C dX3_advance_11 rfl 0 rfl ?_
      refine g_get C (T := TX3) hcl3 cO_36 rfl (j := 0) (by decide) wl_250 (v := .ref (ad 37)) rfl dX3_advance_12 ?_
      refine g_aload_n C dX3_advance_15 rfl 0 rfl ?_
      refine g_get C (T := TX3) hcl3 cO_36 rfl (j := 2) (by decide) wl_253 (v := .int (rI m1 36 2)) rfl dX3_advance_16 ?_
      refine g_iald C cI_37 dX3_advance_19 h (fun h => ?_)
      refine g_bipush (v := (32 : Int32)) C dX3_advance_20 (by decide) ?_
      refine g_join_ h 39 ([(0, .ref (ad 36))]) ([]) ?_ ?_
      · intro h
        refine g_aload_n C dX3_advance_39 rfl 0 rfl ?_
        refine g_dup C dX3_advance_40 rfl ?_
        refine g_get C (T := TX3) hcl3 cO_36 rfl (j := 2) (by decide) wl_253 (v := .int (rI m1 36 2)) rfl dX3_advance_41 ?_
        refine g_iconst (v := (1 : Int32)) C dX3_advance_44 (by decide) ?_
        refine g_iadd C dX3_advance_45 ?_
        refine g_putI C (T := TX3) hcl3 cO_36 rfl (j := 2) (by decide) wl_253 tyX3 tyX3_ok nmX3 rfl rfl pfX3_2 (plX3 2 (by decide)) dX3_advance_46 h (fun m4 h => ?_)
        refine g_goto (tgt := 0) C dX3_advance_49 (by decide) ?_
        exact g_sub [0] rfl (ih _ h)
      intro J3 hJ3 h
      refine g_icmp_eq (tgt := 39) C dX3_advance_22 (by decide) h (fun h => ?_) (fun h => ?_)
      · exact g_sub [0] rfl (hJ3  h)
      · refine g_aload_n C dX3_advance_25 rfl 0 rfl ?_
        refine g_get C (T := TX3) hcl3 cO_36 rfl (j := 0) (by decide) wl_250 (v := .ref (ad 37)) rfl dX3_advance_26 ?_
        refine g_aload_n C dX3_advance_29 rfl 0 rfl ?_
        refine g_get C (T := TX3) hcl3 cO_36 rfl (j := 2) (by decide) wl_253 (v := .int (rI m1 36 2)) rfl dX3_advance_30 ?_
        refine g_iald C cI_37 dX3_advance_33 h (fun h => ?_)
        refine g_bipush (v := (10 : Int32)) C dX3_advance_34 (by decide) ?_
        refine g_icmp_ne (tgt := 52) C dX3_advance_36 (by decide) h (fun h => ?_) (fun h => ?_)
        · exact g_sub [0] rfl (hJ3  h)
        · exact g_sub [0] rfl (hK2 _ h)

def rmX4_begin : Room := { frames := 0, cells := 0, slots := 0, locals := 0 }
set_option maxRecDepth 100000 in
set_option maxHeartbeats 4000000 in
theorem c_X4_begin (l : Launch)  {k : Nat} {a0 : Int32} (hk : isTx k) {m : MM} {m' : MM} (h : f_X4_begin k a0 m = some m') : CT l yX4_begin cX4_begin 2 none rmX4_begin cfC 73 (fun ad tb => [.ref (ad k), .int a0]) m none m' := by
  refine CT.of (cc := cX4_begin) (maxL := 2) (ret := none) (by decide) ⟨rfl, rfl⟩ (fun _ _ => Nat.le_of_ble_eq_true rfl) ?_
  intro p e s mt args below meth c D cA ad tb C hr hlk
  refine g_lv (lv' := [(0, .ref (ad k)), (1, .int a0)]) rfl ?_
  have hcl4 : ∀ w ∈ wsX40, w.before args s = true := fun w hw => C.2.2.2.2.1 w (inlX4 w hw)
  unfold f_X4_begin at h
  refine g_aload_n C dX4_begin_0 rfl 0 rfl ?_
  refine g_get C (T := TX4) hcl4 (tx_O hk) rfl (j := 1) (by decide) wl_283 (v := .ref (ad (k + 2))) rfl dX4_begin_1 ?_
  refine g_iload_n C dX4_begin_4 rfl 1 rfl ?_
  refine g_aload_n C dX4_begin_5 rfl 0 rfl ?_
  refine g_get C (T := TX4) hcl4 (tx_O hk) rfl (j := 3) (by decide) wl_285 (v := .int (rI m k 3)) rfl dX4_begin_6 ?_
  refine g_iast C (tx_I2 hk) dX4_begin_9 h (fun m1 h => ?_)
  obtain rfl := so_inj h
  exact g_vret C hr hlk dX4_begin_10 rfl

def rmX4_add : Room := { frames := 0, cells := 0, slots := 0, locals := 0 }
set_option maxRecDepth 100000 in
set_option maxHeartbeats 4000000 in
theorem c_X4_add (l : Launch)  {k : Nat} {a0 : Int32} (hk : isTx k) {m : MM} {m' : MM} (h : f_X4_add k a0 m = some m') : CT l yX4_add cX4_add 2 none rmX4_add cfC 73 (fun ad tb => [.ref (ad k), .int a0]) m none m' := by
  refine CT.of (cc := cX4_add) (maxL := 2) (ret := none) (by decide) ⟨rfl, rfl⟩ (fun _ _ => Nat.le_of_ble_eq_true rfl) ?_
  intro p e s mt args below meth c D cA ad tb C hr hlk
  refine g_lv (lv' := [(0, .ref (ad k)), (1, .int a0)]) rfl ?_
  have hcl4 : ∀ w ∈ wsX40, w.before args s = true := fun w hw => C.2.2.2.2.1 w (inlX4 w hw)
  unfold f_X4_add at h
  refine g_aload_n C dX4_add_0 rfl 0 rfl ?_
  refine g_get C (T := TX4) hcl4 (tx_O hk) rfl (j := 3) (by decide) wl_285 (v := .int (rI m k 3)) rfl dX4_add_1 ?_
  refine g_sipush (v := (160 : Int32)) C dX4_add_4 (by decide) ?_
  refine g_icmp_ge (tgt := 27) C dX4_add_7 (by decide) h (fun h => ?_) (fun h => ?_)
  · obtain rfl := so_inj h
    exact g_vret C hr hlk dX4_add_27 rfl
  · refine g_aload_n C dX4_add_10 rfl 0 rfl ?_
    refine g_get C (T := TX4) hcl4 (tx_O hk) rfl (j := 0) (by decide) wl_282 (v := .ref (ad (k + 1))) rfl dX4_add_11 ?_
    refine g_aload_n C dX4_add_14 rfl 0 rfl ?_
    refine g_dup C dX4_add_15 rfl ?_
    refine g_get C (T := TX4) hcl4 (tx_O hk) rfl (j := 3) (by decide) wl_285 (v := .int (rI m k 3)) rfl dX4_add_16 ?_
    refine g_dup_x1 C dX4_add_19 rfl rfl ?_
    refine g_iconst (v := (1 : Int32)) C dX4_add_20 (by decide) ?_
    refine g_iadd C dX4_add_21 ?_
    refine g_putI C (T := TX4) hcl4 (tx_O hk) rfl (j := 3) (by decide) wl_285 tyX4 tyX4_ok nmX4 rfl rfl pfX4_3 (plX4 3 (by decide)) dX4_add_22 h (fun m1 h => ?_)
    refine g_iload_n C dX4_add_25 rfl 1 rfl ?_
    refine g_iast C (tx_I1 hk) dX4_add_26 h (fun m2 h => ?_)
    obtain rfl := so_inj h
    exact g_vret C hr hlk dX4_add_27 rfl

def rmX3_jo (d : Nat) : Room := { frames := 7 + d, cells := 0, slots := 0, locals := 149 + 25 * d }
set_option maxRecDepth 100000 in
set_option maxHeartbeats 4000000 in
theorem cb_X3_one (l : Launch) {F : Nat}  {d : Nat} {rec0 : Int32 → Int32 → MM → Option (Int32 × MM)} (hrec0 : ∀ {a0 a1 : Int32} {m m' : MM} {r : Int32} (_ : rec0 a0 a1 m = some (r, m')), CT l yX3_joined cX3_joined 6 (some .boolean) (rmX3_jo d) cfC 73 (fun ad tb => [.ref (ad 36), .int a0, .int a1]) m (some (.int r)) m') {rec1 : Int32 → MM → Option (Int32 × MM)} (hrec1 : ∀ {a0 : Int32} {m m' : MM} {r : Int32} (_ : rec1 a0 m = some (r, m')), CT l yX3_one cX3_one 3 (some .boolean) (rmX3_jo d) cfC 73 (fun ad tb => [.ref (ad 36), .int a0]) m (some (.int r)) m') {a0 : Int32}  {m : MM} {m' : MM} {r : Int32} (h : fb_X3_one F rec0 rec1 a0 m = some (r, m')) : CT l yX3_one cX3_one 3 (some .boolean) (rmX3_jo (d + 1)) cfC 73 (fun ad tb => [.ref (ad 36), .int a0]) m (some (.int r)) m' := by
  refine CT.of (cc := cX3_one) (maxL := 3) (ret := (some .boolean)) (by decide) ⟨rfl, rfl⟩ (fun _ _ => Nat.le_of_ble_eq_true rfl) ?_
  intro p e s mt args below meth c D cA ad tb C hr hlk
  refine g_lv (lv' := [(0, .ref (ad 36)), (1, .int a0)]) rfl ?_
  have hcl3 : ∀ w ∈ wsX30, w.before args s = true := fun w hw => C.2.2.2.2.1 w (inlX3 w hw)
  unfold fb_X3_one at h
  refine g_aload_n C dX3_one_0 rfl 0 rfl ?_
  refine g_get C (T := TX3) hcl3 cO_36 rfl (j := 3) (by decide) wl_254 (v := .int (rI m 36 3)) rfl dX3_one_1 ?_
  refine g_iconst (v := (4 : Int32)) C dX3_one_4 (by decide) ?_
  refine g_join_ h 16 ([(0, .ref (ad 36))]) ([]) ?_ ?_
  · intro h
    refine g_aload_n C dX3_one_16 rfl 0 rfl ?_
    refine g_getInto C hcl3 wl_257 dX3_one_17 h (fun hi2 h => ?_)
    refine g_aload_n C dX3_one_20 rfl 0 rfl ?_
    refine g_get C (T := TX3) hcl3 cO_36 rfl (j := 3) (by decide) wl_254 (v := .int (rI m 36 3)) rfl dX3_one_21 ?_
    refine g_iconst (v := (4 : Int32)) C dX3_one_24 (by decide) ?_
    refine g_join_I h 43 (fun s3 => [(0, .ref (ad 36))]) (fun s3 => [.int s3, .ref (ad (ix (rI m 36 6)))]) ?_ ?_
    · intro s3 h
      obtain ⟨m6, hX5, h⟩ := bd1_inv h
      refine g_callV C (c_X4_add l (tx_into hi2) hX5) (cwVw 1 C.2.2.2.2.1 wl_470 wl_471 wl_472 wl_113 wl_473 rfl rfl (by decide +kernel) ⟨by simp only [rmX3_jo, rmX4_add]; omega, by simp only [rmX3_jo, rmX4_add]; omega⟩) (tx_O (tx_into hi2)) rfl rfl rfl rfl (Nat.le_of_ble_eq_true rfl) dX3_one_43 ?_
      refine g_aload_n C dX3_one_46 rfl 0 rfl ?_
      obtain ⟨m8, hX7, h⟩ := bd1_inv h
      refine g_callV C (c_X3_advance l hX7) (cwVw 0 C.2.2.2.2.1 wl_374 wl_376 wl_0 wl_112 wl_377 rfl rfl (by decide +kernel) ⟨by simp only [rmX3_jo, rmX3_advance]; omega, by simp only [rmX3_jo, rmX3_advance]; omega⟩) cO_36 rfl rfl rfl rfl (Nat.le_of_ble_eq_true rfl) dX3_one_47 ?_
      refine g_iconst (v := (1 : Int32)) C dX3_one_50 (by decide) ?_
      obtain ⟨rfl, rfl⟩ := sp_inj h
      exact g_zret C hr hlk dX3_one_51 rfl rfl
    intro J4 hJ4 h
    refine g_icmp_ne (tgt := 35) C dX3_one_25 (by decide) h (fun h => ?_) (fun h => ?_)
    · refine g_aload_n C dX3_one_28 rfl 0 rfl ?_
      refine g_get C (T := TX3) hcl3 cO_36 rfl (j := 5) (by decide) wl_256 (v := .int (rI m 36 5)) rfl dX3_one_29 ?_
      refine g_goto (tgt := 43) C dX3_one_32 (by decide) ?_
      exact g_sub [0] rfl (hJ4 _ h)
    · refine g_sipush (v := (10000 : Int32)) C dX3_one_35 (by decide) ?_
      refine g_aload_n C dX3_one_38 rfl 0 rfl ?_
      refine g_get C (T := TX3) hcl3 cO_36 rfl (j := 5) (by decide) wl_256 (v := .int (rI m 36 5)) rfl dX3_one_39 ?_
      refine g_iadd C dX3_one_42 ?_
      exact g_sub [0] rfl (hJ4 _ h)
  intro J1 hJ1 h
  refine g_icmp_eq (tgt := 16) C dX3_one_5 (by decide) h (fun h => ?_) (fun h => ?_)
  · exact g_sub [0] rfl (hJ1  h)
  · refine g_aload_n C dX3_one_8 rfl 0 rfl ?_
    refine g_get C (T := TX3) hcl3 cO_36 rfl (j := 3) (by decide) wl_254 (v := .int (rI m 36 3)) rfl dX3_one_9 ?_
    refine g_iconst (v := (5 : Int32)) C dX3_one_12 (by decide) ?_
    refine g_icmp_ne (tgt := 52) C dX3_one_13 (by decide) h (fun h => ?_) (fun h => ?_)
    · exact g_sub [0] rfl (hJ1  h)
    · refine g_aload_n C dX3_one_52 rfl 0 rfl ?_
      refine g_get C (T := TX3) hcl3 cO_36 rfl (j := 3) (by decide) wl_254 (v := .int (rI m 36 3)) rfl dX3_one_53 ?_
      refine g_bipush (v := (45 : Int32)) C dX3_one_56 (by decide) ?_
      refine g_join_ h 70 ([(0, .ref (ad 36)), (1, .int a0)]) ([]) ?_ ?_
      · intro h
        refine g_iload_n C dX3_one_70 rfl 1 rfl ?_
        refine g_iconst (v := (5 : Int32)) C dX3_one_71 (by decide) ?_
        refine g_icmp_lt (tgt := 77) C dX3_one_72 (by decide) h (fun h => ?_) (fun h => ?_)
        · refine g_aload_n C dX3_one_77 rfl 0 rfl ?_
          refine g_get C (T := TX3) hcl3 cO_36 rfl (j := 3) (by decide) wl_254 (v := .int (rI m 36 3)) rfl dX3_one_78 ?_
          refine g_bipush (v := (45 : Int32)) C dX3_one_81 (by decide) ?_
          refine g_join_I h 91 (fun s10 => [(0, .ref (ad 36)), (1, .int a0)]) (fun s10 => [.int s10]) ?_ ?_
          · intro s10 h
            refine g_istore_n (lv' := [(2, .int s10), (0, .ref (ad 36)), (1, .int a0)]) C dX3_one_91 rfl (by decide) rfl ?_
            refine g_aload_n C dX3_one_92 rfl 1 rfl ?_
            obtain ⟨m13, hX12, h⟩ := bd1_inv h
            refine g_callV C (c_X3_advance l hX12) (cwVw 0 C.2.2.2.2.1 wl_374 wl_376 wl_0 wl_112 wl_377 rfl rfl (by decide +kernel) ⟨by simp only [rmX3_jo, rmX3_advance]; omega, by simp only [rmX3_jo, rmX3_advance]; omega⟩) cO_36 rfl rfl rfl rfl (Nat.le_of_ble_eq_true rfl) dX3_one_93 ?_
            refine g_iload_n C dX3_one_96 rfl 0 rfl ?_
            refine g_if_eq (tgt := 124) C dX3_one_97 (by decide) h (fun h => ?_) (fun h => ?_)
            · refine g_aload_n C dX3_one_124 rfl 1 rfl ?_
              refine g_iconst (v := (0 : Int32)) C dX3_one_125 (by decide) ?_
              refine g_iload_n C dX3_one_126 rfl 2 rfl ?_
              refine g_iconst (v := (1 : Int32)) C dX3_one_127 (by decide) ?_
              refine g_iadd C dX3_one_128 ?_
              obtain ⟨r14, m16, hX15, h⟩ := bd2_inv h
              refine g_callV C (hrec0 hX15) (cwVw 2 C.2.2.2.2.1 wl_462 wl_464 wl_4 wl_112 wl_465 rfl rfl (by decide +kernel) ⟨by simp only [rmX3_jo, rmX3_jo]; omega, by simp only [rmX3_jo, rmX3_jo]; omega⟩) cO_36 rfl rfl rfl rfl (Nat.le_of_ble_eq_true rfl) dX3_one_129 ?_
              refine g_if_eq (tgt := 144) C dX3_one_132 (by decide) h (fun h => ?_) (fun h => ?_)
              · refine g_iconst (v := (0 : Int32)) C dX3_one_144 (by decide) ?_
                obtain ⟨rfl, rfl⟩ := sp_inj h
                exact g_zret C hr hlk dX3_one_145 rfl rfl
              · refine g_aload_n C dX3_one_135 rfl 1 rfl ?_
                refine g_get C (T := TX3) hcl3 cO_36 rfl (j := 3) (by decide) wl_254 (v := .int (rI m16 36 3)) rfl dX3_one_136 ?_
                refine g_bipush (v := (41 : Int32)) C dX3_one_139 (by decide) ?_
                refine g_icmp_eq (tgt := 146) C dX3_one_141 (by decide) h (fun h => ?_) (fun h => ?_)
                · refine g_aload_n C dX3_one_146 rfl 1 rfl ?_
                  obtain ⟨m18, hX17, h⟩ := bd1_inv h
                  refine g_callV C (c_X3_advance l hX17) (cwVw 0 C.2.2.2.2.1 wl_374 wl_376 wl_0 wl_112 wl_377 rfl rfl (by decide +kernel) ⟨by simp only [rmX3_jo, rmX3_advance]; omega, by simp only [rmX3_jo, rmX3_advance]; omega⟩) cO_36 rfl rfl rfl rfl (Nat.le_of_ble_eq_true rfl) dX3_one_147 ?_
                  refine g_iconst (v := (1 : Int32)) C dX3_one_150 (by decide) ?_
                  obtain ⟨rfl, rfl⟩ := sp_inj h
                  exact g_zret C hr hlk dX3_one_151 rfl rfl
                · refine g_iconst (v := (0 : Int32)) C dX3_one_144 (by decide) ?_
                  obtain ⟨rfl, rfl⟩ := sp_inj h
                  exact g_zret C hr hlk dX3_one_145 rfl rfl
            · refine g_aload_n C dX3_one_100 rfl 1 rfl ?_
              refine g_iload_n C dX3_one_101 rfl 2 rfl ?_
              refine g_iconst (v := (1 : Int32)) C dX3_one_102 (by decide) ?_
              refine g_iadd C dX3_one_103 ?_
              obtain ⟨r19, m21, hX20, h⟩ := bd2_inv h
              refine g_callV C (hrec1 hX20) (cwVw 1 C.2.2.2.2.1 wl_466 wl_468 wl_5 wl_112 wl_469 rfl rfl (by decide +kernel) ⟨by simp only [rmX3_jo, rmX3_jo]; omega, by simp only [rmX3_jo, rmX3_jo]; omega⟩) cO_36 rfl rfl rfl rfl (Nat.le_of_ble_eq_true rfl) dX3_one_104 ?_
              refine g_if_ne (tgt := 112) C dX3_one_107 (by decide) h (fun h => ?_) (fun h => ?_)
              · refine g_iconst (v := (0 : Int32)) C dX3_one_110 (by decide) ?_
                obtain ⟨rfl, rfl⟩ := sp_inj h
                exact g_zret C hr hlk dX3_one_111 rfl rfl
              · refine g_aload_n C dX3_one_112 rfl 1 rfl ?_
                refine g_getInto C hcl3 wl_257 dX3_one_113 h (fun hi22 h => ?_)
                refine g_sipush (v := (20001 : Int32)) C dX3_one_116 (by decide) ?_
                obtain ⟨m24, hX23, h⟩ := bd1_inv h
                refine g_callV C (c_X4_add l (tx_into hi22) hX23) (cwVw 1 C.2.2.2.2.1 wl_470 wl_471 wl_472 wl_113 wl_473 rfl rfl (by decide +kernel) ⟨by simp only [rmX3_jo, rmX4_add]; omega, by simp only [rmX3_jo, rmX4_add]; omega⟩) (tx_O (tx_into hi22)) rfl rfl rfl rfl (Nat.le_of_ble_eq_true rfl) dX3_one_119 ?_
                refine g_iconst (v := (1 : Int32)) C dX3_one_122 (by decide) ?_
                obtain ⟨rfl, rfl⟩ := sp_inj h
                exact g_zret C hr hlk dX3_one_123 rfl rfl
          intro J11 hJ11 h
          refine g_icmp_ne (tgt := 90) C dX3_one_83 (by decide) h (fun h => ?_) (fun h => ?_)
          · refine g_iconst (v := (1 : Int32)) C dX3_one_86 (by decide) ?_
            refine g_goto (tgt := 91) C dX3_one_87 (by decide) ?_
            exact g_sub [0, 1] rfl (hJ11 _ h)
          · refine g_iconst (v := (0 : Int32)) C dX3_one_90 (by decide) ?_
            exact g_sub [0, 1] rfl (hJ11 _ h)
        · refine g_iconst (v := (0 : Int32)) C dX3_one_75 (by decide) ?_
          obtain ⟨rfl, rfl⟩ := sp_inj h
          exact g_zret C hr hlk dX3_one_76 rfl rfl
      intro J9 hJ9 h
      refine g_icmp_eq (tgt := 70) C dX3_one_58 (by decide) h (fun h => ?_) (fun h => ?_)
      · exact g_sub [0, 1] rfl (hJ9  h)
      · refine g_aload_n C dX3_one_61 rfl 0 rfl ?_
        refine g_get C (T := TX3) hcl3 cO_36 rfl (j := 3) (by decide) wl_254 (v := .int (rI m 36 3)) rfl dX3_one_62 ?_
        refine g_bipush (v := (40 : Int32)) C dX3_one_65 (by decide) ?_
        refine g_icmp_ne (tgt := 75) C dX3_one_67 (by decide) h (fun h => ?_) (fun h => ?_)
        · exact g_sub [0, 1] rfl (hJ9  h)
        · refine g_iconst (v := (0 : Int32)) C dX3_one_75 (by decide) ?_
          obtain ⟨rfl, rfl⟩ := sp_inj h
          exact g_zret C hr hlk dX3_one_76 rfl rfl

def rmX3_joins : Room := { frames := 0, cells := 0, slots := 0, locals := 0 }
set_option maxRecDepth 100000 in
set_option maxHeartbeats 4000000 in
theorem c_X3_joins (l : Launch)  {a0 : Int32}  {m : MM} {r : Int32} (h : f_X3_joins a0 m = some r) : CT l yX3_joins cX3_joins 2 (some .boolean) rmX3_joins cfC 73 (fun ad tb => [.ref (ad 36), .int a0]) m (some (.int r)) m := by
  refine CT.of (cc := cX3_joins) (maxL := 2) (ret := (some .boolean)) (by decide) ⟨rfl, rfl⟩ (fun _ _ => Nat.le_of_ble_eq_true rfl) ?_
  intro p e s mt args below meth c D cA ad tb C hr hlk
  refine g_lv (lv' := [(0, .ref (ad 36)), (1, .int a0)]) rfl ?_
  have hcl3 : ∀ w ∈ wsX30, w.before args s = true := fun w hw => C.2.2.2.2.1 w (inlX3 w hw)
  unfold f_X3_joins at h
  refine g_iload_n C dX3_joins_0 rfl 1 rfl ?_
  by_cases q1 : a0 = (0 : Int32)
  · rw [if_pos q1] at h
    refine g_tbl (tgt := 36) C dX3_joins_1 (0 : Int32) q1 (by decide) rfl (by decide) ?_
    refine g_aload_n C dX3_joins_36 rfl 0 rfl ?_
    refine g_get C (T := TX3) hcl3 cO_36 rfl (j := 3) (by decide) wl_254 (v := .int (rI m 36 3)) rfl dX3_joins_37 ?_
    refine g_bipush (v := (9 : Int32)) C dX3_joins_40 (by decide) ?_
    refine g_icmp_ne (tgt := 49) C dX3_joins_42 (by decide) h (fun h => ?_) (fun h => ?_)
    · refine g_iconst (v := (1 : Int32)) C dX3_joins_45 (by decide) ?_
      refine g_goto (tgt := 50) C dX3_joins_46 (by decide) ?_
      obtain rfl := so_inj h
      exact g_zret C hr hlk dX3_joins_50 rfl rfl
    · refine g_iconst (v := (0 : Int32)) C dX3_joins_49 (by decide) ?_
      obtain rfl := so_inj h
      exact g_zret C hr hlk dX3_joins_50 rfl rfl
  rw [if_neg q1] at h
  by_cases q2 : a0 = (1 : Int32)
  · rw [if_pos q2] at h
    refine g_tbl (tgt := 51) C dX3_joins_1 (1 : Int32) q2 (by decide) rfl (by decide) ?_
    refine g_aload_n C dX3_joins_51 rfl 0 rfl ?_
    refine g_get C (T := TX3) hcl3 cO_36 rfl (j := 3) (by decide) wl_254 (v := .int (rI m 36 3)) rfl dX3_joins_52 ?_
    refine g_bipush (v := (10 : Int32)) C dX3_joins_55 (by decide) ?_
    refine g_icmp_ne (tgt := 64) C dX3_joins_57 (by decide) h (fun h => ?_) (fun h => ?_)
    · refine g_iconst (v := (1 : Int32)) C dX3_joins_60 (by decide) ?_
      refine g_goto (tgt := 65) C dX3_joins_61 (by decide) ?_
      obtain rfl := so_inj h
      exact g_zret C hr hlk dX3_joins_65 rfl rfl
    · refine g_iconst (v := (0 : Int32)) C dX3_joins_64 (by decide) ?_
      obtain rfl := so_inj h
      exact g_zret C hr hlk dX3_joins_65 rfl rfl
  rw [if_neg q2] at h
  by_cases q3 : a0 = (2 : Int32)
  · rw [if_pos q3] at h
    refine g_tbl (tgt := 66) C dX3_joins_1 (2 : Int32) q3 (by decide) rfl (by decide) ?_
    refine g_aload_n C dX3_joins_66 rfl 0 rfl ?_
    refine g_get C (T := TX3) hcl3 cO_36 rfl (j := 3) (by decide) wl_254 (v := .int (rI m 36 3)) rfl dX3_joins_67 ?_
    refine g_bipush (v := (60 : Int32)) C dX3_joins_70 (by decide) ?_
    refine g_icmp_eq (tgt := 84) C dX3_joins_72 (by decide) h (fun h => ?_) (fun h => ?_)
    · refine g_iconst (v := (1 : Int32)) C dX3_joins_84 (by decide) ?_
      refine g_goto (tgt := 89) C dX3_joins_85 (by decide) ?_
      obtain rfl := so_inj h
      exact g_zret C hr hlk dX3_joins_89 rfl rfl
    · refine g_aload_n C dX3_joins_75 rfl 0 rfl ?_
      refine g_get C (T := TX3) hcl3 cO_36 rfl (j := 3) (by decide) wl_254 (v := .int (rI m 36 3)) rfl dX3_joins_76 ?_
      refine g_bipush (v := (61 : Int32)) C dX3_joins_79 (by decide) ?_
      refine g_icmp_ne (tgt := 88) C dX3_joins_81 (by decide) h (fun h => ?_) (fun h => ?_)
      · refine g_iconst (v := (1 : Int32)) C dX3_joins_84 (by decide) ?_
        refine g_goto (tgt := 89) C dX3_joins_85 (by decide) ?_
        obtain rfl := so_inj h
        exact g_zret C hr hlk dX3_joins_89 rfl rfl
      · refine g_iconst (v := (0 : Int32)) C dX3_joins_88 (by decide) ?_
        obtain rfl := so_inj h
        exact g_zret C hr hlk dX3_joins_89 rfl rfl
  rw [if_neg q3] at h
  by_cases q4 : a0 = (3 : Int32)
  · rw [if_pos q4] at h
    refine g_tbl (tgt := 90) C dX3_joins_1 (3 : Int32) q4 (by decide) rfl (by decide) ?_
    refine g_aload_n C dX3_joins_90 rfl 0 rfl ?_
    refine g_get C (T := TX3) hcl3 cO_36 rfl (j := 3) (by decide) wl_254 (v := .int (rI m 36 3)) rfl dX3_joins_91 ?_
    refine g_bipush (v := (43 : Int32)) C dX3_joins_94 (by decide) ?_
    refine g_icmp_eq (tgt := 108) C dX3_joins_96 (by decide) h (fun h => ?_) (fun h => ?_)
    · refine g_iconst (v := (1 : Int32)) C dX3_joins_108 (by decide) ?_
      refine g_goto (tgt := 113) C dX3_joins_109 (by decide) ?_
      obtain rfl := so_inj h
      exact g_zret C hr hlk dX3_joins_113 rfl rfl
    · refine g_aload_n C dX3_joins_99 rfl 0 rfl ?_
      refine g_get C (T := TX3) hcl3 cO_36 rfl (j := 3) (by decide) wl_254 (v := .int (rI m 36 3)) rfl dX3_joins_100 ?_
      refine g_bipush (v := (45 : Int32)) C dX3_joins_103 (by decide) ?_
      refine g_icmp_ne (tgt := 112) C dX3_joins_105 (by decide) h (fun h => ?_) (fun h => ?_)
      · refine g_iconst (v := (1 : Int32)) C dX3_joins_108 (by decide) ?_
        refine g_goto (tgt := 113) C dX3_joins_109 (by decide) ?_
        obtain rfl := so_inj h
        exact g_zret C hr hlk dX3_joins_113 rfl rfl
      · refine g_iconst (v := (0 : Int32)) C dX3_joins_112 (by decide) ?_
        obtain rfl := so_inj h
        exact g_zret C hr hlk dX3_joins_113 rfl rfl
  rw [if_neg q4] at h
  by_cases q5 : a0 = (4 : Int32)
  · rw [if_pos q5] at h
    refine g_tbl (tgt := 114) C dX3_joins_1 (4 : Int32) q5 (by decide) rfl (by decide) ?_
    refine g_aload_n C dX3_joins_114 rfl 0 rfl ?_
    refine g_get C (T := TX3) hcl3 cO_36 rfl (j := 3) (by decide) wl_254 (v := .int (rI m 36 3)) rfl dX3_joins_115 ?_
    refine g_bipush (v := (42 : Int32)) C dX3_joins_118 (by decide) ?_
    refine g_icmp_ne (tgt := 127) C dX3_joins_120 (by decide) h (fun h => ?_) (fun h => ?_)
    · refine g_iconst (v := (1 : Int32)) C dX3_joins_123 (by decide) ?_
      refine g_goto (tgt := 128) C dX3_joins_124 (by decide) ?_
      obtain rfl := so_inj h
      exact g_zret C hr hlk dX3_joins_128 rfl rfl
    · refine g_iconst (v := (0 : Int32)) C dX3_joins_127 (by decide) ?_
      obtain rfl := so_inj h
      exact g_zret C hr hlk dX3_joins_128 rfl rfl
  rw [if_neg q5] at h
  refine g_tblOut (tgt := 129) C dX3_joins_1 (by have t0 := ti_ne q1 (z := 0) (by decide); have t1 := ti_ne q2 (z := 1) (by decide); have t2 := ti_ne q3 (z := 2) (by decide); have t3 := ti_ne q4 (z := 3) (by decide); have t4 := ti_ne q5 (z := 4) (by decide); omega) (by decide) ?_
  refine g_iconst (v := (0 : Int32)) C dX3_joins_129 (by decide) ?_
  obtain rfl := so_inj h
  exact g_zret C hr hlk dX3_joins_130 rfl rfl

set_option maxRecDepth 100000 in
set_option maxHeartbeats 4000000 in
theorem cb_X3_joined (l : Launch) {F : Nat}  {d : Nat} {rec0 : Int32 → Int32 → MM → Option (Int32 × MM)} (hrec0 : ∀ {a0 a1 : Int32} {m m' : MM} {r : Int32} (_ : rec0 a0 a1 m = some (r, m')), CT l yX3_joined cX3_joined 6 (some .boolean) (rmX3_jo d) cfC 73 (fun ad tb => [.ref (ad 36), .int a0, .int a1]) m (some (.int r)) m') {rec1 : Int32 → MM → Option (Int32 × MM)} (hrec1 : ∀ {a0 : Int32} {m m' : MM} {r : Int32} (_ : rec1 a0 m = some (r, m')), CT l yX3_one cX3_one 3 (some .boolean) (rmX3_jo d) cfC 73 (fun ad tb => [.ref (ad 36), .int a0]) m (some (.int r)) m') {a0 : Int32} {a1 : Int32}  {m : MM} {m' : MM} {r : Int32} (h : fb_X3_joined F rec0 rec1 a0 a1 m = some (r, m')) : CT l yX3_joined cX3_joined 6 (some .boolean) (rmX3_jo (d + 1)) cfC 73 (fun ad tb => [.ref (ad 36), .int a0, .int a1]) m (some (.int r)) m' := by
  refine CT.of (cc := cX3_joined) (maxL := 6) (ret := (some .boolean)) (by decide) ⟨rfl, rfl⟩ (fun _ _ => Nat.le_of_ble_eq_true rfl) ?_
  intro p e s mt args below meth c D cA ad tb C hr hlk
  refine g_lv (lv' := [(0, .ref (ad 36)), (1, .int a0), (2, .int a1)]) rfl ?_
  have hcl3 : ∀ w ∈ wsX30, w.before args s = true := fun w hw => C.2.2.2.2.1 w (inlX3 w hw)
  unfold fb_X3_joined at h
  refine g_iload_n C dX3_joined_0 rfl 1 rfl ?_
  refine g_iconst (v := (5 : Int32)) C dX3_joined_1 (by decide) ?_
  refine g_icmp_lt (tgt := 11) C dX3_joined_2 (by decide) h (fun h => ?_) (fun h => ?_)
  · refine g_iload_n C dX3_joined_11 rfl 1 rfl ?_
    refine g_iconst (v := (2 : Int32)) C dX3_joined_12 (by decide) ?_
    refine g_join_ h 61 ([(0, .ref (ad 36)), (1, .int a0), (2, .int a1)]) ([]) ?_ ?_
    · intro h
      refine g_aload_n C dX3_joined_61 rfl 0 rfl ?_
      refine g_iload_n C dX3_joined_62 rfl 1 rfl ?_
      refine g_iconst (v := (1 : Int32)) C dX3_joined_63 (by decide) ?_
      refine g_iadd C dX3_joined_64 ?_
      refine g_iload_n C dX3_joined_65 rfl 2 rfl ?_
      obtain ⟨r2, m4, hX3, h⟩ := bd2_inv h
      refine g_callV C (hrec0 hX3) (cwVw 2 C.2.2.2.2.1 wl_462 wl_464 wl_4 wl_112 wl_465 rfl rfl (by decide +kernel) ⟨by simp only [rmX3_jo, rmX3_jo]; omega, by simp only [rmX3_jo, rmX3_jo]; omega⟩) cO_36 rfl rfl rfl rfl (Nat.le_of_ble_eq_true rfl) dX3_joined_66 ?_
      refine g_if_ne (tgt := 74) C dX3_joined_69 (by decide) h (fun h => ?_) (fun h => ?_)
      · refine g_iconst (v := (0 : Int32)) C dX3_joined_72 (by decide) ?_
        obtain ⟨rfl, rfl⟩ := sp_inj h
        exact g_zret C hr hlk dX3_joined_73 rfl rfl
      · refine g_iload_n C dX3_joined_74 rfl 1 rfl ?_
        refine g_iconst (v := (2 : Int32)) C dX3_joined_75 (by decide) ?_
        refine g_join_I h 86 (fun s5 => [(0, .ref (ad 36)), (1, .int a0), (2, .int a1)]) (fun s5 => [.int s5]) ?_ ?_
        · intro s5 h
          refine g_istore_n (lv' := [(3, .int s5), (0, .ref (ad 36)), (1, .int a0), (2, .int a1)]) C dX3_joined_86 rfl (by decide) rfl ?_
          refine g_iconst (v := (0 : Int32)) C dX3_joined_87 (by decide) ?_
          refine g_istore (lv' := [(4, .int (0 : Int32)), (3, .int s5), (0, .ref (ad 36)), (1, .int a0), (2, .int a1)]) C dX3_joined_88 (by decide) rfl ?_
          refine g_sub [2, 3, 4, 1, 0] rfl ?_
          refine g_loop_IM (L := f_X3_joined_L90 F a0 a1 rec0 s5) h 90 146 (fun x4_7 m8 => [(0, .ref (ad 36)), (1, .int a0), (2, .int a1), (3, .int s5), (4, .int x4_7)]) (fun x4_7 m8 => []) (fun x4_7 m8 => []) (fun x4_7 m8 => []) ?_ ?_ (fun _ _ _ => rfl)
          · intro x4_7 m8 h
            refine g_iconst (v := (1 : Int32)) C dX3_joined_146 (by decide) ?_
            obtain ⟨rfl, rfl⟩ := sp_inj h
            exact g_zret C hr hlk dX3_joined_147 rfl rfl
          · intro K9 hK9 n ih x4_7 m8 h
            rw [f_X3_joined_L90] at h
            refine g_iload C dX3_joined_90 4 rfl ?_
            refine g_iload_n C dX3_joined_92 rfl 3 rfl ?_
            refine g_icmp_ge (tgt := 146) C dX3_joined_93 (by decide) h (fun h => ?_) (fun h => ?_)
            · exact g_sub [] rfl (hK9 _ _ h)
            · refine g_aload_n C dX3_joined_96 rfl 0 rfl ?_
              refine g_iload_n C dX3_joined_97 rfl 1 rfl ?_
              obtain ⟨r10, hX11, h⟩ := bd1_inv h
              refine g_callV C (c_X3_joins l hX11) (cwVw 1 C.2.2.2.2.1 wl_474 wl_476 wl_6 wl_112 wl_477 rfl rfl (by decide +kernel) ⟨by simp only [rmX3_jo, rmX3_joins]; omega, by simp only [rmX3_jo, rmX3_joins]; omega⟩) cO_36 rfl rfl rfl rfl (Nat.le_of_ble_eq_true rfl) dX3_joined_98 ?_
              refine g_if_eq (tgt := 146) C dX3_joined_101 (by decide) h (fun h => ?_) (fun h => ?_)
              · exact g_sub [] rfl (hK9 _ _ h)
              · refine g_aload_n C dX3_joined_104 rfl 0 rfl ?_
                refine g_get C (T := TX3) hcl3 cO_36 rfl (j := 3) (by decide) wl_254 (v := .int (rI m8 36 3)) rfl dX3_joined_105 ?_
                refine nm_i h (fun x5_12 h => ?_)
                refine g_istore (lv' := [(5, .int x5_12), (0, .ref (ad 36)), (1, .int a0), (2, .int a1), (3, .int s5), (4, .int x4_7)]) C dX3_joined_108 (by decide) rfl ?_
                refine g_aload_n C dX3_joined_110 rfl 1 rfl ?_
                obtain ⟨m14, hX13, h⟩ := bd1_inv h
                refine g_callV C (c_X3_advance l hX13) (cwVw 0 C.2.2.2.2.1 wl_374 wl_376 wl_0 wl_112 wl_377 rfl rfl (by decide +kernel) ⟨by simp only [rmX3_jo, rmX3_advance]; omega, by simp only [rmX3_jo, rmX3_advance]; omega⟩) cO_36 rfl rfl rfl rfl (Nat.le_of_ble_eq_true rfl) dX3_joined_111 ?_
                refine g_aload_n C dX3_joined_114 rfl 1 rfl ?_
                refine g_iload_n C dX3_joined_115 rfl 2 rfl ?_
                refine g_iconst (v := (1 : Int32)) C dX3_joined_116 (by decide) ?_
                refine g_iadd C dX3_joined_117 ?_
                refine g_iload_n C dX3_joined_118 rfl 3 rfl ?_
                obtain ⟨r15, m17, hX16, h⟩ := bd2_inv h
                refine g_callV C (hrec0 hX16) (cwVw 2 C.2.2.2.2.1 wl_462 wl_464 wl_4 wl_112 wl_465 rfl rfl (by decide +kernel) ⟨by simp only [rmX3_jo, rmX3_jo]; omega, by simp only [rmX3_jo, rmX3_jo]; omega⟩) cO_36 rfl rfl rfl rfl (Nat.le_of_ble_eq_true rfl) dX3_joined_119 ?_
                refine g_if_ne (tgt := 127) C dX3_joined_122 (by decide) h (fun h => ?_) (fun h => ?_)
                · refine g_iconst (v := (0 : Int32)) C dX3_joined_125 (by decide) ?_
                  obtain ⟨rfl, rfl⟩ := sp_inj h
                  exact g_zret C hr hlk dX3_joined_126 rfl rfl
                · refine g_aload_n C dX3_joined_127 rfl 1 rfl ?_
                  refine g_getInto C hcl3 wl_257 dX3_joined_128 h (fun hi18 h => ?_)
                  refine g_sipush (v := (20000 : Int32)) C dX3_joined_131 (by decide) ?_
                  refine g_iload C dX3_joined_134 0 rfl ?_
                  refine g_iadd C dX3_joined_136 ?_
                  obtain ⟨m20, hX19, h⟩ := bd1_inv h
                  refine g_callV C (c_X4_add l (tx_into hi18) hX19) (cwVw 1 C.2.2.2.2.1 wl_470 wl_471 wl_472 wl_113 wl_473 rfl rfl (by decide +kernel) ⟨by simp only [rmX3_jo, rmX4_add]; omega, by simp only [rmX3_jo, rmX4_add]; omega⟩) (tx_O (tx_into hi18)) rfl rfl rfl rfl (Nat.le_of_ble_eq_true rfl) dX3_joined_137 ?_
                  refine g_iinc (lv' := [(5, .int x5_12), (0, .ref (ad 36)), (1, .int a0), (2, .int a1), (3, .int s5)]) C dX3_joined_140 (q := 5) rfl (by decide) h rfl (fun _ => rfl) (fun x4_21 h => ?_)
                  refine g_goto (tgt := 90) C dX3_joined_143 (by decide) ?_
                  exact g_sub [2, 3, 4, 5, 0] rfl (ih _ _ h)
        intro J6 hJ6 h
        refine g_icmp_ne (tgt := 83) C dX3_joined_76 (by decide) h (fun h => ?_) (fun h => ?_)
        · refine g_iconst (v := (1 : Int32)) C dX3_joined_79 (by decide) ?_
          refine g_goto (tgt := 86) C dX3_joined_80 (by decide) ?_
          exact g_sub [0, 1, 2] rfl (hJ6 _ h)
        · refine g_sipush (v := (160 : Int32)) C dX3_joined_83 (by decide) ?_
          exact g_sub [0, 1, 2] rfl (hJ6 _ h)
    intro J1 hJ1 h
    refine g_icmp_ne (tgt := 61) C dX3_joined_13 (by decide) h (fun h => ?_) (fun h => ?_)
    · refine g_aload_n C dX3_joined_16 rfl 0 rfl ?_
      refine g_get C (T := TX3) hcl3 cO_36 rfl (j := 3) (by decide) wl_254 (v := .int (rI m 36 3)) rfl dX3_joined_17 ?_
      refine g_bipush (v := (11 : Int32)) C dX3_joined_20 (by decide) ?_
      refine g_icmp_ne (tgt := 61) C dX3_joined_22 (by decide) h (fun h => ?_) (fun h => ?_)
      · refine g_iload_n C dX3_joined_25 rfl 2 rfl ?_
        refine g_iconst (v := (5 : Int32)) C dX3_joined_26 (by decide) ?_
        refine g_icmp_lt (tgt := 32) C dX3_joined_27 (by decide) h (fun h => ?_) (fun h => ?_)
        · refine g_aload_n C dX3_joined_32 rfl 0 rfl ?_
          obtain ⟨m23, hX22, h⟩ := bd1_inv h
          refine g_callV C (c_X3_advance l hX22) (cwVw 0 C.2.2.2.2.1 wl_374 wl_376 wl_0 wl_112 wl_377 rfl rfl (by decide +kernel) ⟨by simp only [rmX3_jo, rmX3_advance]; omega, by simp only [rmX3_jo, rmX3_advance]; omega⟩) cO_36 rfl rfl rfl rfl (Nat.le_of_ble_eq_true rfl) dX3_joined_33 ?_
          refine g_aload_n C dX3_joined_36 rfl 0 rfl ?_
          refine g_iconst (v := (2 : Int32)) C dX3_joined_37 (by decide) ?_
          refine g_iload_n C dX3_joined_38 rfl 2 rfl ?_
          refine g_iconst (v := (1 : Int32)) C dX3_joined_39 (by decide) ?_
          refine g_iadd C dX3_joined_40 ?_
          obtain ⟨r24, m26, hX25, h⟩ := bd2_inv h
          refine g_callV C (hrec0 hX25) (cwVw 2 C.2.2.2.2.1 wl_462 wl_464 wl_4 wl_112 wl_465 rfl rfl (by decide +kernel) ⟨by simp only [rmX3_jo, rmX3_jo]; omega, by simp only [rmX3_jo, rmX3_jo]; omega⟩) cO_36 rfl rfl rfl rfl (Nat.le_of_ble_eq_true rfl) dX3_joined_41 ?_
          refine g_if_ne (tgt := 49) C dX3_joined_44 (by decide) h (fun h => ?_) (fun h => ?_)
          · refine g_iconst (v := (0 : Int32)) C dX3_joined_47 (by decide) ?_
            obtain ⟨rfl, rfl⟩ := sp_inj h
            exact g_zret C hr hlk dX3_joined_48 rfl rfl
          · refine g_aload_n C dX3_joined_49 rfl 0 rfl ?_
            refine g_getInto C hcl3 wl_257 dX3_joined_50 h (fun hi27 h => ?_)
            refine g_sipush (v := (20011 : Int32)) C dX3_joined_53 (by decide) ?_
            obtain ⟨m29, hX28, h⟩ := bd1_inv h
            refine g_callV C (c_X4_add l (tx_into hi27) hX28) (cwVw 1 C.2.2.2.2.1 wl_470 wl_471 wl_472 wl_113 wl_473 rfl rfl (by decide +kernel) ⟨by simp only [rmX3_jo, rmX4_add]; omega, by simp only [rmX3_jo, rmX4_add]; omega⟩) (tx_O (tx_into hi27)) rfl rfl rfl rfl (Nat.le_of_ble_eq_true rfl) dX3_joined_56 ?_
            refine g_iconst (v := (1 : Int32)) C dX3_joined_59 (by decide) ?_
            obtain ⟨rfl, rfl⟩ := sp_inj h
            exact g_zret C hr hlk dX3_joined_60 rfl rfl
        · refine g_iconst (v := (0 : Int32)) C dX3_joined_30 (by decide) ?_
          obtain ⟨rfl, rfl⟩ := sp_inj h
          exact g_zret C hr hlk dX3_joined_31 rfl rfl
      · exact g_sub [0, 1, 2] rfl (hJ1  h)
    · exact g_sub [0, 1, 2] rfl (hJ1  h)
  · refine g_aload_n C dX3_joined_5 rfl 0 rfl ?_
    refine g_iload_n C dX3_joined_6 rfl 2 rfl ?_
    obtain ⟨r30, m32, hX31, h⟩ := bd2_inv h
    refine g_callV C (hrec1 hX31) (cwVw 1 C.2.2.2.2.1 wl_466 wl_468 wl_5 wl_112 wl_469 rfl rfl (by decide +kernel) ⟨by simp only [rmX3_jo, rmX3_jo]; omega, by simp only [rmX3_jo, rmX3_jo]; omega⟩) cO_36 rfl rfl rfl rfl (Nat.le_of_ble_eq_true rfl) dX3_joined_7 ?_
    obtain ⟨hz, h⟩ := Gu_inv h
    obtain ⟨rfl, rfl⟩ := sp_inj h
    exact g_zret C hr hlk dX3_joined_10 hz rfl
theorem c_X3_joD (l : Launch) {F : Nat} : ∀ (d : Nat), (∀ {a0 a1 : Int32} {m m' : MM} {r : Int32} (_ : f_X3_joD F d true a0 a1 m = some (r, m')), CT l yX3_joined cX3_joined 6 (some .boolean) (rmX3_jo d) cfC 73 (fun ad tb => [.ref (ad 36), .int a0, .int a1]) m (some (.int r)) m') ∧ (∀ {a0 : Int32} {m m' : MM} {r : Int32} (_ : f_X3_joD F d false 0 a0 m = some (r, m')), CT l yX3_one cX3_one 3 (some .boolean) (rmX3_jo d) cfC 73 (fun ad tb => [.ref (ad 36), .int a0]) m (some (.int r)) m') := by
  intro d
  induction d with
  | zero => exact ⟨fun h => (by cases h), fun h => (by cases h)⟩
  | succ d ih => exact ⟨fun h => cb_X3_joined l ih.1 ih.2 h, fun h => cb_X3_one l ih.1 ih.2 h⟩
def rmX3_joined : Room := rmX3_jo 48
theorem c_X3_joined (l : Launch) {F : Nat} {a0 a1 : Int32} {m m' : MM} {r : Int32} (h : f_X3_joined F a0 a1 m = some (r, m')) : CT l yX3_joined cX3_joined 6 (some .boolean) rmX3_joined cfC 73 (fun ad tb => [.ref (ad 36), .int a0, .int a1]) m (some (.int r)) m' := (c_X3_joD l 48).1 h

def rmX3_read : Room := { frames := 56, cells := 0, slots := 0, locals := 1374 }
set_option maxRecDepth 100000 in
set_option maxHeartbeats 4000000 in
theorem c_X3_read (l : Launch) {F : Nat}  {k : Nat} (hk : isTx k) {m : MM} {m' : MM} {r : Int32} (h : f_X3_read F k m = some (r, m')) : CT l yX3_read cX3_read 3 (some .int) rmX3_read cfC 73 (fun ad tb => [.ref (ad 36), .ref (ad k)]) m (some (.int r)) m' := by
  refine CT.of (cc := cX3_read) (maxL := 3) (ret := (some .int)) (by decide) ⟨rfl, rfl⟩ (fun _ _ => Nat.le_of_ble_eq_true rfl) ?_
  intro p e s mt args below meth c D cA ad tb C hr hlk
  refine g_lv (lv' := [(0, .ref (ad 36)), (1, .ref (ad k))]) rfl ?_
  have hcl3 : ∀ w ∈ wsX30, w.before args s = true := fun w hw => C.2.2.2.2.1 w (inlX3 w hw)
  unfold f_X3_read at h
  refine g_aload_n C dX3_read_0 rfl 0 rfl ?_
  refine g_aload_n C dX3_read_1 rfl 1 rfl ?_
  refine g_putInto C hk hcl3 wl_257 dX3_read_2 h (fun m1 h => ?_)
  refine g_aload_n C dX3_read_5 rfl 0 rfl ?_
  refine g_getInto C hcl3 wl_257 dX3_read_6 h (fun hi2 h => ?_)
  obtain ⟨m4, hX3, h⟩ := bd1_inv h
  refine g_callV C (c_X4_clear l (tx_into hi2) hX3) (cwVw 0 C.2.2.2.2.1 wl_370 wl_371 wl_372 wl_113 wl_373 rfl rfl (by decide +kernel) ⟨Nat.le_of_ble_eq_true rfl, Nat.le_of_ble_eq_true rfl⟩) (tx_O (tx_into hi2)) rfl rfl rfl rfl (Nat.le_of_ble_eq_true rfl) dX3_read_9 ?_
  refine g_aload_n C dX3_read_12 rfl 0 rfl ?_
  refine g_iconst (v := (0 : Int32)) C dX3_read_13 (by decide) ?_
  refine g_putI C (T := TX3) hcl3 cO_36 rfl (j := 2) (by decide) wl_253 tyX3 tyX3_ok nmX3 rfl rfl pfX3_2 (plX3 2 (by decide)) dX3_read_14 h (fun m5 h => ?_)
  refine g_aload_n C dX3_read_17 rfl 0 rfl ?_
  obtain ⟨m7, hX6, h⟩ := bd1_inv h
  refine g_callV C (c_X3_advance l hX6) (cwVw 0 C.2.2.2.2.1 wl_374 wl_376 wl_0 wl_112 wl_377 rfl rfl (by decide +kernel) ⟨Nat.le_of_ble_eq_true rfl, Nat.le_of_ble_eq_true rfl⟩) cO_36 rfl rfl rfl rfl (Nat.le_of_ble_eq_true rfl) dX3_read_18 ?_
  refine g_iconst (v := (0 : Int32)) C dX3_read_21 (by decide) ?_
  refine g_istore_n (lv' := [(2, .int (0 : Int32)), (0, .ref (ad 36)), (1, .ref (ad k))]) C dX3_read_22 rfl (by decide) rfl ?_
  refine g_sub [1, 0] rfl ?_
  refine g_loop_IM (L := f_X3_read_L23 F) h 23 89 (fun x2_8 m9 => [(0, .ref (ad 36)), (2, .int x2_8)]) (fun x2_8 m9 => [(0, .ref (ad 36))]) (fun x2_8 m9 => []) (fun x2_8 m9 => []) ?_ ?_ (fun _ _ _ => rfl)
  · intro x2_8 m9 h
    refine g_aload_n C dX3_read_89 rfl 0 rfl ?_
    refine g_getInto C hcl3 wl_257 dX3_read_90 h (fun hi22 h => ?_)
    refine g_iconst (v := (3 : Int32)) C dX3_read_93 (by decide) ?_
    obtain ⟨m24, hX23, h⟩ := bd1_inv h
    refine g_callV C (c_X4_begin l (tx_into hi22) hX23) (cwVw 1 C.2.2.2.2.1 wl_458 wl_459 wl_460 wl_113 wl_461 rfl rfl (by decide +kernel) ⟨Nat.le_of_ble_eq_true rfl, Nat.le_of_ble_eq_true rfl⟩) (tx_O (tx_into hi22)) rfl rfl rfl rfl (Nat.le_of_ble_eq_true rfl) dX3_read_94 ?_
    refine g_aload_n C dX3_read_97 rfl 0 rfl ?_
    refine g_get C (T := TX3) hcl3 cO_36 rfl (j := 3) (by decide) wl_254 (v := .int (rI m24 36 3)) rfl dX3_read_98 ?_
    refine g_iconst (v := (2 : Int32)) C dX3_read_101 (by decide) ?_
    refine g_icmp_ne (tgt := 109) C dX3_read_102 (by decide) h (fun h => ?_) (fun h => ?_)
    · refine g_iconst (v := (-1 : Int32)) C dX3_read_105 (by decide) ?_
      refine g_goto (tgt := 113) C dX3_read_106 (by decide) ?_
      obtain ⟨rfl, rfl⟩ := sp_inj h
      exact g_iret C hr hlk dX3_read_113 rfl
    · refine g_aload_n C dX3_read_109 rfl 0 rfl ?_
      refine g_get C (T := TX3) hcl3 cO_36 rfl (j := 4) (by decide) wl_255 (v := .int (rI m24 36 4)) rfl dX3_read_110 ?_
      obtain ⟨rfl, rfl⟩ := sp_inj h
      exact g_iret C hr hlk dX3_read_113 rfl
  · intro K10 hK10 n ih x2_8 m9 h
    rw [f_X3_read_L23] at h
    refine g_iload_n C dX3_read_23 rfl 1 rfl ?_
    refine g_iconst (v := (3 : Int32)) C dX3_read_24 (by decide) ?_
    refine g_icmp_ge (tgt := 89) C dX3_read_25 (by decide) h (fun h => ?_) (fun h => ?_)
    · exact g_sub [0] rfl (hK10 _ _ h)
    · refine g_aload_n C dX3_read_28 rfl 0 rfl ?_
      refine g_get C (T := TX3) hcl3 cO_36 rfl (j := 3) (by decide) wl_254 (v := .int (rI m9 36 3)) rfl dX3_read_29 ?_
      refine g_bipush (v := (6 : Int32)) C dX3_read_32 (by decide) ?_
      refine g_iload_n C dX3_read_34 rfl 1 rfl ?_
      refine g_iadd C dX3_read_35 ?_
      refine g_icmp_eq (tgt := 44) C dX3_read_36 (by decide) h (fun h => ?_) (fun h => ?_)
      · refine g_aload_n C dX3_read_44 rfl 0 rfl ?_
        refine g_getInto C hcl3 wl_257 dX3_read_45 h (fun hi11 h => ?_)
        refine g_iload_n C dX3_read_48 rfl 1 rfl ?_
        obtain ⟨m13, hX12, h⟩ := bd1_inv h
        refine g_callV C (c_X4_begin l (tx_into hi11) hX12) (cwVw 1 C.2.2.2.2.1 wl_458 wl_459 wl_460 wl_113 wl_461 rfl rfl (by decide +kernel) ⟨Nat.le_of_ble_eq_true rfl, Nat.le_of_ble_eq_true rfl⟩) (tx_O (tx_into hi11)) rfl rfl rfl rfl (Nat.le_of_ble_eq_true rfl) dX3_read_49 ?_
        refine g_aload_n C dX3_read_52 rfl 0 rfl ?_
        obtain ⟨m15, hX14, h⟩ := bd1_inv h
        refine g_callV C (c_X3_advance l hX14) (cwVw 0 C.2.2.2.2.1 wl_374 wl_376 wl_0 wl_112 wl_377 rfl rfl (by decide +kernel) ⟨Nat.le_of_ble_eq_true rfl, Nat.le_of_ble_eq_true rfl⟩) cO_36 rfl rfl rfl rfl (Nat.le_of_ble_eq_true rfl) dX3_read_53 ?_
        refine g_aload_n C dX3_read_56 rfl 0 rfl ?_
        refine g_iconst (v := (0 : Int32)) C dX3_read_57 (by decide) ?_
        refine g_iconst (v := (0 : Int32)) C dX3_read_58 (by decide) ?_
        obtain ⟨r16, m18, hX17, h⟩ := bd2_inv h
        refine g_callV C (c_X3_joined l hX17) (cwVw 2 C.2.2.2.2.1 wl_462 wl_464 wl_4 wl_112 wl_465 rfl rfl (by decide +kernel) ⟨Nat.le_of_ble_eq_true rfl, Nat.le_of_ble_eq_true rfl⟩) cO_36 rfl rfl rfl rfl (Nat.le_of_ble_eq_true rfl) dX3_read_59 ?_
        refine g_if_eq (tgt := 74) C dX3_read_62 (by decide) h (fun h => ?_) (fun h => ?_)
        · refine g_aload_n C dX3_read_74 rfl 0 rfl ?_
          refine g_get C (T := TX3) hcl3 cO_36 rfl (j := 4) (by decide) wl_255 (v := .int (rI m18 36 4)) rfl dX3_read_75 ?_
          obtain ⟨rfl, rfl⟩ := sp_inj h
          exact g_iret C hr hlk dX3_read_78 rfl
        · refine g_aload_n C dX3_read_65 rfl 0 rfl ?_
          refine g_get C (T := TX3) hcl3 cO_36 rfl (j := 3) (by decide) wl_254 (v := .int (rI m18 36 3)) rfl dX3_read_66 ?_
          refine g_bipush (v := (59 : Int32)) C dX3_read_69 (by decide) ?_
          refine g_icmp_eq (tgt := 79) C dX3_read_71 (by decide) h (fun h => ?_) (fun h => ?_)
          · refine g_aload_n C dX3_read_79 rfl 0 rfl ?_
            obtain ⟨m20, hX19, h⟩ := bd1_inv h
            refine g_callV C (c_X3_advance l hX19) (cwVw 0 C.2.2.2.2.1 wl_374 wl_376 wl_0 wl_112 wl_377 rfl rfl (by decide +kernel) ⟨Nat.le_of_ble_eq_true rfl, Nat.le_of_ble_eq_true rfl⟩) cO_36 rfl rfl rfl rfl (Nat.le_of_ble_eq_true rfl) dX3_read_80 ?_
            refine g_iinc (lv' := [(0, .ref (ad 36))]) C dX3_read_83 (q := 1) rfl (by decide) h rfl (fun _ => rfl) (fun x2_21 h => ?_)
            refine g_goto (tgt := 23) C dX3_read_86 (by decide) ?_
            exact g_sub [1, 0] rfl (ih _ _ h)
          · refine g_aload_n C dX3_read_74 rfl 0 rfl ?_
            refine g_get C (T := TX3) hcl3 cO_36 rfl (j := 4) (by decide) wl_255 (v := .int (rI m18 36 4)) rfl dX3_read_75 ?_
            obtain ⟨rfl, rfl⟩ := sp_inj h
            exact g_iret C hr hlk dX3_read_78 rfl
      · refine g_aload_n C dX3_read_39 rfl 0 rfl ?_
        refine g_get C (T := TX3) hcl3 cO_36 rfl (j := 4) (by decide) wl_255 (v := .int (rI m9 36 4)) rfl dX3_read_40 ?_
        obtain ⟨rfl, rfl⟩ := sp_inj h
        exact g_iret C hr hlk dX3_read_43 rfl
