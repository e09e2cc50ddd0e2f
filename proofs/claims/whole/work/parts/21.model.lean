/-! contracts: X6_isLetter X6_isWord X6_fail X6_opens X6_isSign X6_name X6_atom5 X6_term5 X6_added5 X6_not5 X6_both5 X6_either5 X6_atom4 X6_term4 X6_added4 X6_not4 X6_both4 -/
def rmX6_isLetter : Room := { frames := 1, cells := 0, slots := 0, locals := 21 }
set_option maxRecDepth 100000 in
set_option maxHeartbeats 4000000 in
theorem c_X6_isLetter (l : Launch)  {a0 : Int32} {a1 : Int32}  {m : MM} {r : Int32} (h : f_X6_isLetter a0 a1 m = some r) : CT l yX6_isLetter cX6_isLetter 3 (some .boolean) rmX6_isLetter cfM 23 (fun ad tb => [.ref (ad 0), .int a0, .int a1]) m (some (.int r)) m := by
  refine CT.of (cc := cX6_isLetter) (maxL := 3) (ret := (some .boolean)) (by decide) ⟨rfl, rfl⟩ (fun _ _ => Nat.le_of_ble_eq_true rfl) ?_
  intro p e s mt args below meth c D cA ad tb C hr hlk
  refine g_lv (lv' := [(0, .ref (ad 0)), (1, .int a0), (2, .int a1)]) rfl ?_
  have hcl6 : ∀ w ∈ wsX60, w.before args s = true := fun w hw => C.2.2.2.2.1 w (inlX6 w hw)
  unfold f_X6_isLetter at h
  refine g_aload_n C dX6_isLetter_0 rfl 0 rfl ?_
  refine g_get C (T := TX6) hcl6 mO_0 rfl (j := 29) (by decide) wl_948 (v := .int (rI m 0 29)) rfl dX6_isLetter_1 ?_
  refine g_iload_n C dX6_isLetter_4 rfl 1 rfl ?_
  refine g_iadd C dX6_isLetter_5 ?_
  refine g_aload_n C dX6_isLetter_6 rfl 0 rfl ?_
  refine g_get C (T := TX6) hcl6 mO_0 rfl (j := 27) (by decide) wl_946 (v := .int (rI m 0 27)) rfl dX6_isLetter_7 ?_
  refine g_icmp_ge (tgt := 35) C dX6_isLetter_10 (by decide) h (fun h => ?_) (fun h => ?_)
  · refine g_iload_n C dX6_isLetter_35 rfl 2 rfl ?_
    refine g_if_ne (tgt := 43) C dX6_isLetter_36 (by decide) h (fun h => ?_) (fun h => ?_)
    · refine g_iconst (v := (1 : Int32)) C dX6_isLetter_39 (by decide) ?_
      refine g_goto (tgt := 44) C dX6_isLetter_40 (by decide) ?_
      obtain rfl := so_inj h
      exact g_zret C hr hlk dX6_isLetter_44 rfl rfl
    · refine g_iconst (v := (0 : Int32)) C dX6_isLetter_43 (by decide) ?_
      obtain rfl := so_inj h
      exact g_zret C hr hlk dX6_isLetter_44 rfl rfl
  · refine g_aload_n C dX6_isLetter_13 rfl 0 rfl ?_
    refine g_aload_n C dX6_isLetter_14 rfl 0 rfl ?_
    refine g_get C (T := TX6) hcl6 mO_0 rfl (j := 29) (by decide) wl_948 (v := .int (rI m 0 29)) rfl dX6_isLetter_15 ?_
    refine g_iload_n C dX6_isLetter_18 rfl 1 rfl ?_
    refine g_iadd C dX6_isLetter_19 ?_
    obtain ⟨r1, hX2, h⟩ := bd1_inv h
    refine g_callV C (c_X6_byteAt l hX2) (cwVw 1 C.2.2.2.2.1 wl_1169 wl_1171 wl_47 wl_121 wl_1172 rfl rfl (by decide +kernel) ⟨Nat.le_of_ble_eq_true rfl, Nat.le_of_ble_eq_true rfl⟩) mO_0 rfl rfl rfl rfl (Nat.le_of_ble_eq_true rfl) dX6_isLetter_20 ?_
    refine g_iload_n C dX6_isLetter_23 rfl 2 rfl ?_
    refine g_icmp_ne (tgt := 31) C dX6_isLetter_24 (by decide) h (fun h => ?_) (fun h => ?_)
    · refine g_iconst (v := (1 : Int32)) C dX6_isLetter_27 (by decide) ?_
      refine g_goto (tgt := 44) C dX6_isLetter_28 (by decide) ?_
      obtain rfl := so_inj h
      exact g_zret C hr hlk dX6_isLetter_44 rfl rfl
    · refine g_iconst (v := (0 : Int32)) C dX6_isLetter_31 (by decide) ?_
      refine g_goto (tgt := 44) C dX6_isLetter_32 (by decide) ?_
      obtain rfl := so_inj h
      exact g_zret C hr hlk dX6_isLetter_44 rfl rfl

def rmX6_isWord : Room := { frames := 2, cells := 0, slots := 0, locals := 43 }
set_option maxRecDepth 100000 in
set_option maxHeartbeats 4000000 in
theorem c_X6_isWord (l : Launch)  {a0 : Int32} {a1 : Int32} {a2 : Int32} {a3 : Int32} {a4 : Int32} {a5 : Int32} {a6 : Int32} {a7 : Int32}  {m : MM} {r : Int32} (h : f_X6_isWord a0 a1 a2 a3 a4 a5 a6 a7 m = some r) : CT l yX6_isWord cX6_isWord 9 (some .boolean) rmX6_isWord cfM 23 (fun ad tb => [.ref (ad 0), .int a0, .int a1, .int a2, .int a3, .int a4, .int a5, .int a6, .int a7]) m (some (.int r)) m := by
  refine CT.of (cc := cX6_isWord) (maxL := 9) (ret := (some .boolean)) (by decide) ⟨rfl, rfl⟩ (fun _ _ => Nat.le_of_ble_eq_true rfl) ?_
  intro p e s mt args below meth c D cA ad tb C hr hlk
  refine g_lv (lv' := [(0, .ref (ad 0)), (1, .int a0), (2, .int a1), (3, .int a2), (4, .int a3), (5, .int a4), (6, .int a5), (7, .int a6), (8, .int a7)]) rfl ?_
  have hcl6 : ∀ w ∈ wsX60, w.before args s = true := fun w hw => C.2.2.2.2.1 w (inlX6 w hw)
  unfold f_X6_isWord at h
  refine g_aload_n C dX6_isWord_0 rfl 0 rfl ?_
  refine g_get C (T := TX6) hcl6 mO_0 rfl (j := 32) (by decide) wl_951 (v := .int (rI m 0 32)) rfl dX6_isWord_1 ?_
  refine g_if_ne (tgt := 112) C dX6_isWord_4 (by decide) h (fun h => ?_) (fun h => ?_)
  · refine g_aload_n C dX6_isWord_7 rfl 0 rfl ?_
    refine g_get C (T := TX6) hcl6 mO_0 rfl (j := 28) (by decide) wl_947 (v := .int (rI m 0 28)) rfl dX6_isWord_8 ?_
    refine g_iconst (v := (1 : Int32)) C dX6_isWord_11 (by decide) ?_
    refine g_icmp_ne (tgt := 112) C dX6_isWord_12 (by decide) h (fun h => ?_) (fun h => ?_)
    · refine g_aload_n C dX6_isWord_15 rfl 0 rfl ?_
      refine g_get C (T := TX6) hcl6 mO_0 rfl (j := 27) (by decide) wl_946 (v := .int (rI m 0 27)) rfl dX6_isWord_16 ?_
      refine g_aload_n C dX6_isWord_19 rfl 0 rfl ?_
      refine g_get C (T := TX6) hcl6 mO_0 rfl (j := 29) (by decide) wl_948 (v := .int (rI m 0 29)) rfl dX6_isWord_20 ?_
      refine g_bipush (v := (8 : Int32)) C dX6_isWord_23 (by decide) ?_
      refine g_iadd C dX6_isWord_25 ?_
      refine g_icmp_gt (tgt := 112) C dX6_isWord_26 (by decide) h (fun h => ?_) (fun h => ?_)
      · refine g_iconst (v := (0 : Int32)) C dX6_isWord_112 (by decide) ?_
        obtain rfl := so_inj h
        exact g_zret C hr hlk dX6_isWord_113 rfl rfl
      · refine g_aload_n C dX6_isWord_29 rfl 0 rfl ?_
        refine g_iconst (v := (0 : Int32)) C dX6_isWord_30 (by decide) ?_
        refine g_iload_n C dX6_isWord_31 rfl 1 rfl ?_
        obtain ⟨r1, hX2, h⟩ := bd1_inv h
        refine g_callV C (c_X6_isLetter l hX2) (cwVw 2 C.2.2.2.2.1 wl_1181 wl_1183 wl_49 wl_121 wl_1184 rfl rfl (by decide +kernel) ⟨Nat.le_of_ble_eq_true rfl, Nat.le_of_ble_eq_true rfl⟩) mO_0 rfl rfl rfl rfl (Nat.le_of_ble_eq_true rfl) dX6_isWord_32 ?_
        refine g_if_eq (tgt := 112) C dX6_isWord_35 (by decide) h (fun h => ?_) (fun h => ?_)
        · refine g_iconst (v := (0 : Int32)) C dX6_isWord_112 (by decide) ?_
          obtain rfl := so_inj h
          exact g_zret C hr hlk dX6_isWord_113 rfl rfl
        · refine g_aload_n C dX6_isWord_38 rfl 0 rfl ?_
          refine g_iconst (v := (1 : Int32)) C dX6_isWord_39 (by decide) ?_
          refine g_iload_n C dX6_isWord_40 rfl 2 rfl ?_
          obtain ⟨r3, hX4, h⟩ := bd1_inv h
          refine g_callV C (c_X6_isLetter l hX4) (cwVw 2 C.2.2.2.2.1 wl_1181 wl_1183 wl_49 wl_121 wl_1184 rfl rfl (by decide +kernel) ⟨Nat.le_of_ble_eq_true rfl, Nat.le_of_ble_eq_true rfl⟩) mO_0 rfl rfl rfl rfl (Nat.le_of_ble_eq_true rfl) dX6_isWord_41 ?_
          refine g_if_eq (tgt := 112) C dX6_isWord_44 (by decide) h (fun h => ?_) (fun h => ?_)
          · refine g_iconst (v := (0 : Int32)) C dX6_isWord_112 (by decide) ?_
            obtain rfl := so_inj h
            exact g_zret C hr hlk dX6_isWord_113 rfl rfl
          · refine g_aload_n C dX6_isWord_47 rfl 0 rfl ?_
            refine g_iconst (v := (2 : Int32)) C dX6_isWord_48 (by decide) ?_
            refine g_iload_n C dX6_isWord_49 rfl 3 rfl ?_
            obtain ⟨r5, hX6, h⟩ := bd1_inv h
            refine g_callV C (c_X6_isLetter l hX6) (cwVw 2 C.2.2.2.2.1 wl_1181 wl_1183 wl_49 wl_121 wl_1184 rfl rfl (by decide +kernel) ⟨Nat.le_of_ble_eq_true rfl, Nat.le_of_ble_eq_true rfl⟩) mO_0 rfl rfl rfl rfl (Nat.le_of_ble_eq_true rfl) dX6_isWord_50 ?_
            refine g_if_eq (tgt := 112) C dX6_isWord_53 (by decide) h (fun h => ?_) (fun h => ?_)
            · refine g_iconst (v := (0 : Int32)) C dX6_isWord_112 (by decide) ?_
              obtain rfl := so_inj h
              exact g_zret C hr hlk dX6_isWord_113 rfl rfl
            · refine g_aload_n C dX6_isWord_56 rfl 0 rfl ?_
              refine g_iconst (v := (3 : Int32)) C dX6_isWord_57 (by decide) ?_
              refine g_iload C dX6_isWord_58 4 rfl ?_
              obtain ⟨r7, hX8, h⟩ := bd1_inv h
              refine g_callV C (c_X6_isLetter l hX8) (cwVw 2 C.2.2.2.2.1 wl_1181 wl_1183 wl_49 wl_121 wl_1184 rfl rfl (by decide +kernel) ⟨Nat.le_of_ble_eq_true rfl, Nat.le_of_ble_eq_true rfl⟩) mO_0 rfl rfl rfl rfl (Nat.le_of_ble_eq_true rfl) dX6_isWord_60 ?_
              refine g_if_eq (tgt := 112) C dX6_isWord_63 (by decide) h (fun h => ?_) (fun h => ?_)
              · refine g_iconst (v := (0 : Int32)) C dX6_isWord_112 (by decide) ?_
                obtain rfl := so_inj h
                exact g_zret C hr hlk dX6_isWord_113 rfl rfl
              · refine g_aload_n C dX6_isWord_66 rfl 0 rfl ?_
                refine g_iconst (v := (4 : Int32)) C dX6_isWord_67 (by decide) ?_
                refine g_iload C dX6_isWord_68 5 rfl ?_
                obtain ⟨r9, hX10, h⟩ := bd1_inv h
                refine g_callV C (c_X6_isLetter l hX10) (cwVw 2 C.2.2.2.2.1 wl_1181 wl_1183 wl_49 wl_121 wl_1184 rfl rfl (by decide +kernel) ⟨Nat.le_of_ble_eq_true rfl, Nat.le_of_ble_eq_true rfl⟩) mO_0 rfl rfl rfl rfl (Nat.le_of_ble_eq_true rfl) dX6_isWord_70 ?_
                refine g_if_eq (tgt := 112) C dX6_isWord_73 (by decide) h (fun h => ?_) (fun h => ?_)
                · refine g_iconst (v := (0 : Int32)) C dX6_isWord_112 (by decide) ?_
                  obtain rfl := so_inj h
                  exact g_zret C hr hlk dX6_isWord_113 rfl rfl
                · refine g_aload_n C dX6_isWord_76 rfl 0 rfl ?_
                  refine g_iconst (v := (5 : Int32)) C dX6_isWord_77 (by decide) ?_
                  refine g_iload C dX6_isWord_78 6 rfl ?_
                  obtain ⟨r11, hX12, h⟩ := bd1_inv h
                  refine g_callV C (c_X6_isLetter l hX12) (cwVw 2 C.2.2.2.2.1 wl_1181 wl_1183 wl_49 wl_121 wl_1184 rfl rfl (by decide +kernel) ⟨Nat.le_of_ble_eq_true rfl, Nat.le_of_ble_eq_true rfl⟩) mO_0 rfl rfl rfl rfl (Nat.le_of_ble_eq_true rfl) dX6_isWord_80 ?_
                  refine g_if_eq (tgt := 112) C dX6_isWord_83 (by decide) h (fun h => ?_) (fun h => ?_)
                  · refine g_iconst (v := (0 : Int32)) C dX6_isWord_112 (by decide) ?_
                    obtain rfl := so_inj h
                    exact g_zret C hr hlk dX6_isWord_113 rfl rfl
                  · refine g_aload_n C dX6_isWord_86 rfl 0 rfl ?_
                    refine g_bipush (v := (6 : Int32)) C dX6_isWord_87 (by decide) ?_
                    refine g_iload C dX6_isWord_89 7 rfl ?_
                    obtain ⟨r13, hX14, h⟩ := bd1_inv h
                    refine g_callV C (c_X6_isLetter l hX14) (cwVw 2 C.2.2.2.2.1 wl_1181 wl_1183 wl_49 wl_121 wl_1184 rfl rfl (by decide +kernel) ⟨Nat.le_of_ble_eq_true rfl, Nat.le_of_ble_eq_true rfl⟩) mO_0 rfl rfl rfl rfl (Nat.le_of_ble_eq_true rfl) dX6_isWord_91 ?_
                    refine g_if_eq (tgt := 112) C dX6_isWord_94 (by decide) h (fun h => ?_) (fun h => ?_)
                    · refine g_iconst (v := (0 : Int32)) C dX6_isWord_112 (by decide) ?_
                      obtain rfl := so_inj h
                      exact g_zret C hr hlk dX6_isWord_113 rfl rfl
                    · refine g_aload_n C dX6_isWord_97 rfl 0 rfl ?_
                      refine g_bipush (v := (7 : Int32)) C dX6_isWord_98 (by decide) ?_
                      refine g_iload C dX6_isWord_100 8 rfl ?_
                      obtain ⟨r15, hX16, h⟩ := bd1_inv h
                      refine g_callV C (c_X6_isLetter l hX16) (cwVw 2 C.2.2.2.2.1 wl_1181 wl_1183 wl_49 wl_121 wl_1184 rfl rfl (by decide +kernel) ⟨Nat.le_of_ble_eq_true rfl, Nat.le_of_ble_eq_true rfl⟩) mO_0 rfl rfl rfl rfl (Nat.le_of_ble_eq_true rfl) dX6_isWord_102 ?_
                      refine g_if_eq (tgt := 112) C dX6_isWord_105 (by decide) h (fun h => ?_) (fun h => ?_)
                      · refine g_iconst (v := (0 : Int32)) C dX6_isWord_112 (by decide) ?_
                        obtain rfl := so_inj h
                        exact g_zret C hr hlk dX6_isWord_113 rfl rfl
                      · refine g_iconst (v := (1 : Int32)) C dX6_isWord_108 (by decide) ?_
                        refine g_goto (tgt := 113) C dX6_isWord_109 (by decide) ?_
                        obtain rfl := so_inj h
                        exact g_zret C hr hlk dX6_isWord_113 rfl rfl
    · refine g_iconst (v := (0 : Int32)) C dX6_isWord_112 (by decide) ?_
      obtain rfl := so_inj h
      exact g_zret C hr hlk dX6_isWord_113 rfl rfl
  · refine g_iconst (v := (0 : Int32)) C dX6_isWord_112 (by decide) ?_
    obtain rfl := so_inj h
    exact g_zret C hr hlk dX6_isWord_113 rfl rfl

def rmX6_fail : Room := { frames := 0, cells := 0, slots := 0, locals := 0 }
set_option maxRecDepth 100000 in
set_option maxHeartbeats 4000000 in
theorem c_X6_fail (l : Launch)    {m : MM} {m' : MM} (h : f_X6_fail m = some m') : CT l yX6_fail cX6_fail 1 none rmX6_fail cfM 23 (fun ad tb => [.ref (ad 0)]) m none m' := by
  refine CT.of (cc := cX6_fail) (maxL := 1) (ret := none) (by decide) ⟨rfl, rfl⟩ (fun _ _ => Nat.le_of_ble_eq_true rfl) ?_
  intro p e s mt args below meth c D cA ad tb C hr hlk
  refine g_lv (lv' := [(0, .ref (ad 0))]) rfl ?_
  have hcl6 : ∀ w ∈ wsX60, w.before args s = true := fun w hw => C.2.2.2.2.1 w (inlX6 w hw)
  unfold f_X6_fail at h
  refine g_aload_n C dX6_fail_0 rfl 0 rfl ?_
  refine g_get C (T := TX6) hcl6 mO_0 rfl (j := 32) (by decide) wl_951 (v := .int (rI m 0 32)) rfl dX6_fail_1 ?_
  refine g_if_ne (tgt := 20) C dX6_fail_4 (by decide) h (fun h => ?_) (fun h => ?_)
  · refine g_aload_n C dX6_fail_7 rfl 0 rfl ?_
    refine g_iconst (v := (1 : Int32)) C dX6_fail_8 (by decide) ?_
    refine g_putZ C (T := TX6) hcl6 mO_0 rfl (j := 32) (by decide) wl_951 tyX6 tyX6_ok nmX6 rfl rfl pfX6_32 (plX6 32 (by decide)) dX6_fail_9 h (fun m1 h => ?_)
    refine g_aload_n C dX6_fail_12 rfl 0 rfl ?_
    refine g_aload_n C dX6_fail_13 rfl 0 rfl ?_
    refine g_get C (T := TX6) hcl6 mO_0 rfl (j := 29) (by decide) wl_948 (v := .int (rI m1 0 29)) rfl dX6_fail_14 ?_
    refine g_putI C (T := TX6) hcl6 mO_0 rfl (j := 33) (by decide) wl_952 tyX6 tyX6_ok nmX6 rfl rfl pfX6_33 (plX6 33 (by decide)) dX6_fail_17 h (fun m2 h => ?_)
    obtain rfl := so_inj h
    exact g_vret C hr hlk dX6_fail_20 rfl
  · obtain rfl := so_inj h
    exact g_vret C hr hlk dX6_fail_20 rfl

def rmX6_opens : Room := { frames := 2, cells := 0, slots := 0, locals := 47 }
set_option maxRecDepth 100000 in
set_option maxHeartbeats 4000000 in
theorem c_X6_opens (l : Launch) {F : Nat}    {m : MM} {m' : MM} {r : Int32} (h : f_X6_opens F m = some (r, m')) : CT l yX6_opens cX6_opens 1 (some .boolean) rmX6_opens cfM 23 (fun ad tb => [.ref (ad 0)]) m (some (.int r)) m' := by
  refine CT.of (cc := cX6_opens) (maxL := 1) (ret := (some .boolean)) (by decide) ⟨rfl, rfl⟩ (fun _ _ => Nat.le_of_ble_eq_true rfl) ?_
  intro p e s mt args below meth c D cA ad tb C hr hlk
  refine g_lv (lv' := [(0, .ref (ad 0))]) rfl ?_
  have hcl6 : ∀ w ∈ wsX60, w.before args s = true := fun w hw => C.2.2.2.2.1 w (inlX6 w hw)
  unfold f_X6_opens at h
  refine g_aload_n C dX6_opens_0 rfl 0 rfl ?_
  refine g_get C (T := TX6) hcl6 mO_0 rfl (j := 31) (by decide) wl_950 (v := .int (rI m 0 31)) rfl dX6_opens_1 ?_
  refine g_iconst (v := (5 : Int32)) C dX6_opens_4 (by decide) ?_
  refine g_icmp_ne (tgt := 14) C dX6_opens_5 (by decide) h (fun h => ?_) (fun h => ?_)
  · refine g_aload_n C dX6_opens_8 rfl 0 rfl ?_
    obtain ⟨m2, hX1, h⟩ := bd1_inv h
    refine g_callV C (c_X6_fail l hX1) (cwVw 0 C.2.2.2.2.1 wl_1189 wl_1191 wl_51 wl_121 wl_1192 rfl rfl (by decide +kernel) ⟨Nat.le_of_ble_eq_true rfl, Nat.le_of_ble_eq_true rfl⟩) mO_0 rfl rfl rfl rfl (Nat.le_of_ble_eq_true rfl) dX6_opens_9 ?_
    refine g_iconst (v := (0 : Int32)) C dX6_opens_12 (by decide) ?_
    obtain ⟨rfl, rfl⟩ := sp_inj h
    exact g_zret C hr hlk dX6_opens_13 rfl rfl
  · refine g_aload_n C dX6_opens_14 rfl 0 rfl ?_
    refine g_dup C dX6_opens_15 rfl ?_
    refine g_get C (T := TX6) hcl6 mO_0 rfl (j := 31) (by decide) wl_950 (v := .int (rI m 0 31)) rfl dX6_opens_16 ?_
    refine g_iconst (v := (1 : Int32)) C dX6_opens_19 (by decide) ?_
    refine g_iadd C dX6_opens_20 ?_
    refine g_putI C (T := TX6) hcl6 mO_0 rfl (j := 31) (by decide) wl_950 tyX6 tyX6_ok nmX6 rfl rfl pfX6_31 (plX6 31 (by decide)) dX6_opens_21 h (fun m3 h => ?_)
    refine g_aload_n C dX6_opens_24 rfl 0 rfl ?_
    obtain ⟨m5, hX4, h⟩ := bd1_inv h
    refine g_callV C (c_X6_next l hX4) (cwVw 0 C.2.2.2.2.1 wl_1165 wl_1167 wl_46 wl_121 wl_1168 rfl rfl (by decide +kernel) ⟨Nat.le_of_ble_eq_true rfl, Nat.le_of_ble_eq_true rfl⟩) mO_0 rfl rfl rfl rfl (Nat.le_of_ble_eq_true rfl) dX6_opens_25 ?_
    refine g_iconst (v := (1 : Int32)) C dX6_opens_28 (by decide) ?_
    obtain ⟨rfl, rfl⟩ := sp_inj h
    exact g_zret C hr hlk dX6_opens_29 rfl rfl

def rmX6_isSign : Room := { frames := 0, cells := 0, slots := 0, locals := 0 }
set_option maxRecDepth 100000 in
set_option maxHeartbeats 4000000 in
theorem c_X6_isSign (l : Launch)  {a0 : Int32}  {m : MM} {r : Int32} (h : f_X6_isSign a0 m = some r) : CT l yX6_isSign cX6_isSign 2 (some .boolean) rmX6_isSign cfM 23 (fun ad tb => [.ref (ad 0), .int a0]) m (some (.int r)) m := by
  refine CT.of (cc := cX6_isSign) (maxL := 2) (ret := (some .boolean)) (by decide) ⟨rfl, rfl⟩ (fun _ _ => Nat.le_of_ble_eq_true rfl) ?_
  intro p e s mt args below meth c D cA ad tb C hr hlk
  refine g_lv (lv' := [(0, .ref (ad 0)), (1, .int a0)]) rfl ?_
  have hcl6 : ∀ w ∈ wsX60, w.before args s = true := fun w hw => C.2.2.2.2.1 w (inlX6 w hw)
  unfold f_X6_isSign at h
  refine g_aload_n C dX6_isSign_0 rfl 0 rfl ?_
  refine g_get C (T := TX6) hcl6 mO_0 rfl (j := 32) (by decide) wl_951 (v := .int (rI m 0 32)) rfl dX6_isSign_1 ?_
  refine g_if_ne (tgt := 29) C dX6_isSign_4 (by decide) h (fun h => ?_) (fun h => ?_)
  · refine g_aload_n C dX6_isSign_7 rfl 0 rfl ?_
    refine g_get C (T := TX6) hcl6 mO_0 rfl (j := 28) (by decide) wl_947 (v := .int (rI m 0 28)) rfl dX6_isSign_8 ?_
    refine g_iconst (v := (3 : Int32)) C dX6_isSign_11 (by decide) ?_
    refine g_icmp_ne (tgt := 29) C dX6_isSign_12 (by decide) h (fun h => ?_) (fun h => ?_)
    · refine g_aload_n C dX6_isSign_15 rfl 0 rfl ?_
      refine g_get C (T := TX6) hcl6 mO_0 rfl (j := 30) (by decide) wl_949 (v := .long (rL m 0 30)) rfl dX6_isSign_16 ?_
      refine g_iload_n C dX6_isSign_19 rfl 1 rfl ?_
      refine g_i2l C dX6_isSign_20 ?_
      refine g_lcmp C dX6_isSign_21 ?_
      refine g_if_ne (tgt := 29) C dX6_isSign_22 (by decide) h (fun h => ?_) (fun h => ?_)
      · refine g_iconst (v := (1 : Int32)) C dX6_isSign_25 (by decide) ?_
        refine g_goto (tgt := 30) C dX6_isSign_26 (by decide) ?_
        obtain rfl := so_inj h
        exact g_zret C hr hlk dX6_isSign_30 rfl rfl
      · refine g_iconst (v := (0 : Int32)) C dX6_isSign_29 (by decide) ?_
        obtain rfl := so_inj h
        exact g_zret C hr hlk dX6_isSign_30 rfl rfl
    · refine g_iconst (v := (0 : Int32)) C dX6_isSign_29 (by decide) ?_
      obtain rfl := so_inj h
      exact g_zret C hr hlk dX6_isSign_30 rfl rfl
  · refine g_iconst (v := (0 : Int32)) C dX6_isSign_29 (by decide) ?_
    obtain rfl := so_inj h
    exact g_zret C hr hlk dX6_isSign_30 rfl rfl

def rmX6_name : Room := { frames := 3, cells := 0, slots := 0, locals := 71 }
set_option maxRecDepth 100000 in
set_option maxHeartbeats 4000000 in
theorem c_X6_name (l : Launch)    {m : MM} {m' : MM} {r : Int32} (h : f_X6_name m = some (r, m')) : CT l yX6_name cX6_name 1 (some .int) rmX6_name cfM 23 (fun ad tb => [.ref (ad 0)]) m (some (.int r)) m' := by
  refine CT.of (cc := cX6_name) (maxL := 1) (ret := (some .int)) (by decide) ⟨rfl, rfl⟩ (fun _ _ => Nat.le_of_ble_eq_true rfl) ?_
  intro p e s mt args below meth c D cA ad tb C hr hlk
  refine g_lv (lv' := [(0, .ref (ad 0))]) rfl ?_
  have hcl6 : ∀ w ∈ wsX60, w.before args s = true := fun w hw => C.2.2.2.2.1 w (inlX6 w hw)
  unfold f_X6_name at h
  refine g_aload_n C dX6_name_0 rfl 0 rfl ?_
  refine g_bipush (v := (115 : Int32)) C dX6_name_1 (by decide) ?_
  refine g_bipush (v := (105 : Int32)) C dX6_name_3 (by decide) ?_
  refine g_bipush (v := (122 : Int32)) C dX6_name_5 (by decide) ?_
  refine g_bipush (v := (101 : Int32)) C dX6_name_7 (by decide) ?_
  refine g_iconst (v := (0 : Int32)) C dX6_name_9 (by decide) ?_
  refine g_iconst (v := (0 : Int32)) C dX6_name_10 (by decide) ?_
  refine g_iconst (v := (0 : Int32)) C dX6_name_11 (by decide) ?_
  refine g_iconst (v := (0 : Int32)) C dX6_name_12 (by decide) ?_
  obtain ⟨r1, hX2, h⟩ := bd1_inv h
  refine g_callV C (c_X6_isWord l hX2) (cwVw 8 C.2.2.2.2.1 wl_1177 wl_1179 wl_48 wl_121 wl_1180 rfl rfl (by decide +kernel) ⟨Nat.le_of_ble_eq_true rfl, Nat.le_of_ble_eq_true rfl⟩) mO_0 rfl rfl rfl rfl (Nat.le_of_ble_eq_true rfl) dX6_name_13 ?_
  refine g_if_eq (tgt := 24) C dX6_name_16 (by decide) h (fun h => ?_) (fun h => ?_)
  · refine g_aload_n C dX6_name_24 rfl 0 rfl ?_
    refine g_bipush (v := (102 : Int32)) C dX6_name_25 (by decide) ?_
    refine g_bipush (v := (114 : Int32)) C dX6_name_27 (by decide) ?_
    refine g_bipush (v := (111 : Int32)) C dX6_name_29 (by decide) ?_
    refine g_bipush (v := (109 : Int32)) C dX6_name_31 (by decide) ?_
    refine g_iconst (v := (0 : Int32)) C dX6_name_33 (by decide) ?_
    refine g_iconst (v := (0 : Int32)) C dX6_name_34 (by decide) ?_
    refine g_iconst (v := (0 : Int32)) C dX6_name_35 (by decide) ?_
    refine g_iconst (v := (0 : Int32)) C dX6_name_36 (by decide) ?_
    obtain ⟨r3, hX4, h⟩ := bd1_inv h
    refine g_callV C (c_X6_isWord l hX4) (cwVw 8 C.2.2.2.2.1 wl_1177 wl_1179 wl_48 wl_121 wl_1180 rfl rfl (by decide +kernel) ⟨Nat.le_of_ble_eq_true rfl, Nat.le_of_ble_eq_true rfl⟩) mO_0 rfl rfl rfl rfl (Nat.le_of_ble_eq_true rfl) dX6_name_37 ?_
    refine g_if_eq (tgt := 48) C dX6_name_40 (by decide) h (fun h => ?_) (fun h => ?_)
    · refine g_aload_n C dX6_name_48 rfl 0 rfl ?_
      refine g_bipush (v := (116 : Int32)) C dX6_name_49 (by decide) ?_
      refine g_bipush (v := (111 : Int32)) C dX6_name_51 (by decide) ?_
      refine g_iconst (v := (0 : Int32)) C dX6_name_53 (by decide) ?_
      refine g_iconst (v := (0 : Int32)) C dX6_name_54 (by decide) ?_
      refine g_iconst (v := (0 : Int32)) C dX6_name_55 (by decide) ?_
      refine g_iconst (v := (0 : Int32)) C dX6_name_56 (by decide) ?_
      refine g_iconst (v := (0 : Int32)) C dX6_name_57 (by decide) ?_
      refine g_iconst (v := (0 : Int32)) C dX6_name_58 (by decide) ?_
      obtain ⟨r5, hX6, h⟩ := bd1_inv h
      refine g_callV C (c_X6_isWord l hX6) (cwVw 8 C.2.2.2.2.1 wl_1177 wl_1179 wl_48 wl_121 wl_1180 rfl rfl (by decide +kernel) ⟨Nat.le_of_ble_eq_true rfl, Nat.le_of_ble_eq_true rfl⟩) mO_0 rfl rfl rfl rfl (Nat.le_of_ble_eq_true rfl) dX6_name_59 ?_
      refine g_if_eq (tgt := 70) C dX6_name_62 (by decide) h (fun h => ?_) (fun h => ?_)
      · refine g_aload_n C dX6_name_70 rfl 0 rfl ?_
        refine g_bipush (v := (116 : Int32)) C dX6_name_71 (by decide) ?_
        refine g_bipush (v := (104 : Int32)) C dX6_name_73 (by decide) ?_
        refine g_bipush (v := (105 : Int32)) C dX6_name_75 (by decide) ?_
        refine g_bipush (v := (110 : Int32)) C dX6_name_77 (by decide) ?_
        refine g_bipush (v := (103 : Int32)) C dX6_name_79 (by decide) ?_
        refine g_iconst (v := (0 : Int32)) C dX6_name_81 (by decide) ?_
        refine g_iconst (v := (0 : Int32)) C dX6_name_82 (by decide) ?_
        refine g_iconst (v := (0 : Int32)) C dX6_name_83 (by decide) ?_
        obtain ⟨r7, hX8, h⟩ := bd1_inv h
        refine g_callV C (c_X6_isWord l hX8) (cwVw 8 C.2.2.2.2.1 wl_1177 wl_1179 wl_48 wl_121 wl_1180 rfl rfl (by decide +kernel) ⟨Nat.le_of_ble_eq_true rfl, Nat.le_of_ble_eq_true rfl⟩) mO_0 rfl rfl rfl rfl (Nat.le_of_ble_eq_true rfl) dX6_name_84 ?_
        refine g_if_eq (tgt := 95) C dX6_name_87 (by decide) h (fun h => ?_) (fun h => ?_)
        · refine g_aload_n C dX6_name_95 rfl 0 rfl ?_
          refine g_bipush (v := (109 : Int32)) C dX6_name_96 (by decide) ?_
          refine g_bipush (v := (97 : Int32)) C dX6_name_98 (by decide) ?_
          refine g_bipush (v := (110 : Int32)) C dX6_name_100 (by decide) ?_
          refine g_bipush (v := (121 : Int32)) C dX6_name_102 (by decide) ?_
          refine g_iconst (v := (0 : Int32)) C dX6_name_104 (by decide) ?_
          refine g_iconst (v := (0 : Int32)) C dX6_name_105 (by decide) ?_
          refine g_iconst (v := (0 : Int32)) C dX6_name_106 (by decide) ?_
          refine g_iconst (v := (0 : Int32)) C dX6_name_107 (by decide) ?_
          obtain ⟨r9, hX10, h⟩ := bd1_inv h
          refine g_callV C (c_X6_isWord l hX10) (cwVw 8 C.2.2.2.2.1 wl_1177 wl_1179 wl_48 wl_121 wl_1180 rfl rfl (by decide +kernel) ⟨Nat.le_of_ble_eq_true rfl, Nat.le_of_ble_eq_true rfl⟩) mO_0 rfl rfl rfl rfl (Nat.le_of_ble_eq_true rfl) dX6_name_108 ?_
          refine g_if_eq (tgt := 119) C dX6_name_111 (by decide) h (fun h => ?_) (fun h => ?_)
          · refine g_aload_n C dX6_name_119 rfl 0 rfl ?_
            refine g_bipush (v := (119 : Int32)) C dX6_name_120 (by decide) ?_
            refine g_bipush (v := (101 : Int32)) C dX6_name_122 (by decide) ?_
            refine g_bipush (v := (116 : Int32)) C dX6_name_124 (by decide) ?_
            refine g_iconst (v := (0 : Int32)) C dX6_name_126 (by decide) ?_
            refine g_iconst (v := (0 : Int32)) C dX6_name_127 (by decide) ?_
            refine g_iconst (v := (0 : Int32)) C dX6_name_128 (by decide) ?_
            refine g_iconst (v := (0 : Int32)) C dX6_name_129 (by decide) ?_
            refine g_iconst (v := (0 : Int32)) C dX6_name_130 (by decide) ?_
            obtain ⟨r11, hX12, h⟩ := bd1_inv h
            refine g_callV C (c_X6_isWord l hX12) (cwVw 8 C.2.2.2.2.1 wl_1177 wl_1179 wl_48 wl_121 wl_1180 rfl rfl (by decide +kernel) ⟨Nat.le_of_ble_eq_true rfl, Nat.le_of_ble_eq_true rfl⟩) mO_0 rfl rfl rfl rfl (Nat.le_of_ble_eq_true rfl) dX6_name_131 ?_
            refine g_if_eq (tgt := 142) C dX6_name_134 (by decide) h (fun h => ?_) (fun h => ?_)
            · refine g_aload_n C dX6_name_142 rfl 0 rfl ?_
              obtain ⟨m14, hX13, h⟩ := bd1_inv h
              refine g_callV C (c_X6_fail l hX13) (cwVw 0 C.2.2.2.2.1 wl_1189 wl_1191 wl_51 wl_121 wl_1192 rfl rfl (by decide +kernel) ⟨Nat.le_of_ble_eq_true rfl, Nat.le_of_ble_eq_true rfl⟩) mO_0 rfl rfl rfl rfl (Nat.le_of_ble_eq_true rfl) dX6_name_143 ?_
              refine g_iconst (v := (0 : Int32)) C dX6_name_146 (by decide) ?_
              obtain ⟨rfl, rfl⟩ := sp_inj h
              exact g_iret C hr hlk dX6_name_147 rfl
            · refine g_aload_n C dX6_name_137 rfl 0 rfl ?_
              refine g_get C (T := TX6) hcl6 mO_0 rfl (j := 24) (by decide) wl_943 (v := .int (rI m 0 24)) rfl dX6_name_138 ?_
              obtain ⟨rfl, rfl⟩ := sp_inj h
              exact g_iret C hr hlk dX6_name_141 rfl
          · refine g_aload_n C dX6_name_114 rfl 0 rfl ?_
            refine g_get C (T := TX6) hcl6 mO_0 rfl (j := 23) (by decide) wl_942 (v := .int (rI m 0 23)) rfl dX6_name_115 ?_
            obtain ⟨rfl, rfl⟩ := sp_inj h
            exact g_iret C hr hlk dX6_name_118 rfl
        · refine g_aload_n C dX6_name_90 rfl 0 rfl ?_
          refine g_get C (T := TX6) hcl6 mO_0 rfl (j := 22) (by decide) wl_941 (v := .int (rI m 0 22)) rfl dX6_name_91 ?_
          obtain ⟨rfl, rfl⟩ := sp_inj h
          exact g_iret C hr hlk dX6_name_94 rfl
      · refine g_aload_n C dX6_name_65 rfl 0 rfl ?_
        refine g_get C (T := TX6) hcl6 mO_0 rfl (j := 21) (by decide) wl_940 (v := .int (rI m 0 21)) rfl dX6_name_66 ?_
        obtain ⟨rfl, rfl⟩ := sp_inj h
        exact g_iret C hr hlk dX6_name_69 rfl
    · refine g_aload_n C dX6_name_43 rfl 0 rfl ?_
      refine g_get C (T := TX6) hcl6 mO_0 rfl (j := 20) (by decide) wl_939 (v := .int (rI m 0 20)) rfl dX6_name_44 ?_
      obtain ⟨rfl, rfl⟩ := sp_inj h
      exact g_iret C hr hlk dX6_name_47 rfl
  · refine g_aload_n C dX6_name_19 rfl 0 rfl ?_
    refine g_get C (T := TX6) hcl6 mO_0 rfl (j := 19) (by decide) wl_938 (v := .int (rI m 0 19)) rfl dX6_name_20 ?_
    obtain ⟨rfl, rfl⟩ := sp_inj h
    exact g_iret C hr hlk dX6_name_23 rfl

def rmX6_atom5 : Room := { frames := 4, cells := 0, slots := 0, locals := 91 }
set_option maxRecDepth 100000 in
set_option maxHeartbeats 4000000 in
theorem c_X6_atom5 (l : Launch) {F : Nat}    {m : MM} {m' : MM} {r : Int32} (h : f_X6_atom5 F m = some (r, m')) : CT l yX6_atom5 cX6_atom5 2 (some .int) rmX6_atom5 cfM 23 (fun ad tb => [.ref (ad 0)]) m (some (.int r)) m' := by
  refine CT.of (cc := cX6_atom5) (maxL := 2) (ret := (some .int)) (by decide) ⟨rfl, rfl⟩ (fun _ _ => Nat.le_of_ble_eq_true rfl) ?_
  intro p e s mt args below meth c D cA ad tb C hr hlk
  refine g_lv (lv' := [(0, .ref (ad 0))]) rfl ?_
  have hcl6 : ∀ w ∈ wsX60, w.before args s = true := fun w hw => C.2.2.2.2.1 w (inlX6 w hw)
  unfold f_X6_atom5 at h
  refine g_iconst (v := (0 : Int32)) C dX6_atom5_0 (by decide) ?_
  refine g_istore_n (lv' := [(1, .int (0 : Int32)), (0, .ref (ad 0))]) C dX6_atom5_1 rfl (by decide) rfl ?_
  refine g_aload_n C dX6_atom5_2 rfl 1 rfl ?_
  refine g_bipush (v := (45 : Int32)) C dX6_atom5_3 (by decide) ?_
  obtain ⟨r1, hX2, h⟩ := bd1_inv h
  refine g_callV C (c_X6_isSign l hX2) (cwVw 1 C.2.2.2.2.1 wl_1241 wl_1243 wl_64 wl_121 wl_1244 rfl rfl (by decide +kernel) ⟨Nat.le_of_ble_eq_true rfl, Nat.le_of_ble_eq_true rfl⟩) mO_0 rfl rfl rfl rfl (Nat.le_of_ble_eq_true rfl) dX6_atom5_5 ?_
  refine g_if_eq (tgt := 19) C dX6_atom5_8 (by decide) h (fun h => ?_) (fun h => ?_)
  · refine g_aload_n C dX6_atom5_19 rfl 1 rfl ?_
    refine g_bipush (v := (40 : Int32)) C dX6_atom5_20 (by decide) ?_
    obtain ⟨r3, hX4, h⟩ := bd1_inv h
    refine g_callV C (c_X6_isSign l hX4) (cwVw 1 C.2.2.2.2.1 wl_1241 wl_1243 wl_64 wl_121 wl_1244 rfl rfl (by decide +kernel) ⟨Nat.le_of_ble_eq_true rfl, Nat.le_of_ble_eq_true rfl⟩) mO_0 rfl rfl rfl rfl (Nat.le_of_ble_eq_true rfl) dX6_atom5_22 ?_
    refine g_if_eq (tgt := 36) C dX6_atom5_25 (by decide) h (fun h => ?_) (fun h => ?_)
    · refine g_aload_n C dX6_atom5_36 rfl 1 rfl ?_
      refine g_get C (T := TX6) hcl6 mO_0 rfl (j := 32) (by decide) wl_951 (v := .int (rI m 0 32)) rfl dX6_atom5_37 ?_
      refine g_join_ h 64 ([(0, .ref (ad 0)), (1, .int (0 : Int32))]) ([]) ?_ ?_
      · intro h
        refine g_aload_n C dX6_atom5_64 rfl 0 rfl ?_
        refine g_get C (T := TX6) hcl6 mO_0 rfl (j := 32) (by decide) wl_951 (v := .int (rI m 0 32)) rfl dX6_atom5_65 ?_
        refine g_join_ h 98 ([(0, .ref (ad 0)), (1, .int (0 : Int32))]) ([]) ?_ ?_
        · intro h
          refine g_aload_n C dX6_atom5_98 rfl 0 rfl ?_
          obtain ⟨m8, hX7, h⟩ := bd1_inv h
          refine g_callV C (c_X6_fail l hX7) (cwVw 0 C.2.2.2.2.1 wl_1189 wl_1191 wl_51 wl_121 wl_1192 rfl rfl (by decide +kernel) ⟨Nat.le_of_ble_eq_true rfl, Nat.le_of_ble_eq_true rfl⟩) mO_0 rfl rfl rfl rfl (Nat.le_of_ble_eq_true rfl) dX6_atom5_99 ?_
          refine g_iload_n C dX6_atom5_102 rfl 1 rfl ?_
          obtain ⟨rfl, rfl⟩ := sp_inj h
          exact g_iret C hr hlk dX6_atom5_103 rfl
        intro J6 hJ6 h
        refine g_if_ne (tgt := 98) C dX6_atom5_68 (by decide) h (fun h => ?_) (fun h => ?_)
        · refine g_aload_n C dX6_atom5_71 rfl 0 rfl ?_
          refine g_get C (T := TX6) hcl6 mO_0 rfl (j := 28) (by decide) wl_947 (v := .int (rI m 0 28)) rfl dX6_atom5_72 ?_
          refine g_iconst (v := (1 : Int32)) C dX6_atom5_75 (by decide) ?_
          refine g_icmp_ne (tgt := 98) C dX6_atom5_76 (by decide) h (fun h => ?_) (fun h => ?_)
          · refine g_aload_n C dX6_atom5_79 rfl 0 rfl ?_
            obtain ⟨r9, m11, hX10, h⟩ := bd2_inv h
            refine g_callV C (c_X6_name l hX10) (cwVw 0 C.2.2.2.2.1 wl_1245 wl_1247 wl_65 wl_121 wl_1248 rfl rfl (by decide +kernel) ⟨Nat.le_of_ble_eq_true rfl, Nat.le_of_ble_eq_true rfl⟩) mO_0 rfl rfl rfl rfl (Nat.le_of_ble_eq_true rfl) dX6_atom5_80 ?_
            refine g_istore_n (lv' := [(1, .int r9), (0, .ref (ad 0))]) C dX6_atom5_83 rfl (by decide) rfl ?_
            refine g_aload_n C dX6_atom5_84 rfl 1 rfl ?_
            refine g_get C (T := TX6) hcl6 mO_0 rfl (j := 32) (by decide) wl_951 (v := .int (rI m11 0 32)) rfl dX6_atom5_85 ?_
            refine g_if_ne (tgt := 102) C dX6_atom5_88 (by decide) h (fun h => ?_) (fun h => ?_)
            · refine g_aload_n C dX6_atom5_91 rfl 1 rfl ?_
              obtain ⟨m13, hX12, h⟩ := bd1_inv h
              refine g_callV C (c_X6_next l hX12) (cwVw 0 C.2.2.2.2.1 wl_1165 wl_1167 wl_46 wl_121 wl_1168 rfl rfl (by decide +kernel) ⟨Nat.le_of_ble_eq_true rfl, Nat.le_of_ble_eq_true rfl⟩) mO_0 rfl rfl rfl rfl (Nat.le_of_ble_eq_true rfl) dX6_atom5_92 ?_
              refine g_goto (tgt := 102) C dX6_atom5_95 (by decide) ?_
              refine g_iload_n C dX6_atom5_102 rfl 0 rfl ?_
              obtain ⟨rfl, rfl⟩ := sp_inj h
              exact g_iret C hr hlk dX6_atom5_103 rfl
            · refine g_iload_n C dX6_atom5_102 rfl 0 rfl ?_
              obtain ⟨rfl, rfl⟩ := sp_inj h
              exact g_iret C hr hlk dX6_atom5_103 rfl
          · exact g_sub [0, 1] rfl (hJ6  h)
        · exact g_sub [0, 1] rfl (hJ6  h)
      intro J5 hJ5 h
      refine g_if_ne (tgt := 64) C dX6_atom5_40 (by decide) h (fun h => ?_) (fun h => ?_)
      · refine g_aload_n C dX6_atom5_43 rfl 1 rfl ?_
        refine g_get C (T := TX6) hcl6 mO_0 rfl (j := 28) (by decide) wl_947 (v := .int (rI m 0 28)) rfl dX6_atom5_44 ?_
        refine g_iconst (v := (2 : Int32)) C dX6_atom5_47 (by decide) ?_
        refine g_icmp_ne (tgt := 64) C dX6_atom5_48 (by decide) h (fun h => ?_) (fun h => ?_)
        · refine g_aload_n C dX6_atom5_51 rfl 1 rfl ?_
          refine g_get C (T := TX6) hcl6 mO_0 rfl (j := 30) (by decide) wl_949 (v := .long (rL m 0 30)) rfl dX6_atom5_52 ?_
          refine g_l2i C dX6_atom5_55 ?_
          refine nm_i h (fun x1_14 h => ?_)
          refine g_istore_n (lv' := [(1, .int x1_14), (0, .ref (ad 0))]) C dX6_atom5_56 rfl (by decide) rfl ?_
          refine g_aload_n C dX6_atom5_57 rfl 1 rfl ?_
          obtain ⟨m16, hX15, h⟩ := bd1_inv h
          refine g_callV C (c_X6_next l hX15) (cwVw 0 C.2.2.2.2.1 wl_1165 wl_1167 wl_46 wl_121 wl_1168 rfl rfl (by decide +kernel) ⟨Nat.le_of_ble_eq_true rfl, Nat.le_of_ble_eq_true rfl⟩) mO_0 rfl rfl rfl rfl (Nat.le_of_ble_eq_true rfl) dX6_atom5_58 ?_
          refine g_goto (tgt := 102) C dX6_atom5_61 (by decide) ?_
          refine g_iload_n C dX6_atom5_102 rfl 0 rfl ?_
          obtain ⟨rfl, rfl⟩ := sp_inj h
          exact g_iret C hr hlk dX6_atom5_103 rfl
        · exact g_sub [1, 0] rfl (hJ5  h)
      · exact g_sub [1, 0] rfl (hJ5  h)
    · refine g_aload_n C dX6_atom5_28 rfl 1 rfl ?_
      obtain ⟨r17, m19, hX18, h⟩ := bd2_inv h
      refine g_callV C (c_X6_opens l hX18) (cwVw 0 C.2.2.2.2.1 wl_1205 wl_1207 wl_55 wl_121 wl_1208 rfl rfl (by decide +kernel) ⟨Nat.le_of_ble_eq_true rfl, Nat.le_of_ble_eq_true rfl⟩) mO_0 rfl rfl rfl rfl (Nat.le_of_ble_eq_true rfl) dX6_atom5_29 ?_
      refine g_pop C dX6_atom5_32 rfl ?_
      refine g_goto (tgt := 102) C dX6_atom5_33 (by decide) ?_
      refine g_iload_n C dX6_atom5_102 rfl 0 rfl ?_
      obtain ⟨rfl, rfl⟩ := sp_inj h
      exact g_iret C hr hlk dX6_atom5_103 rfl
  · refine g_aload_n C dX6_atom5_11 rfl 1 rfl ?_
    obtain ⟨r20, m22, hX21, h⟩ := bd2_inv h
    refine g_callV C (c_X6_opens l hX21) (cwVw 0 C.2.2.2.2.1 wl_1205 wl_1207 wl_55 wl_121 wl_1208 rfl rfl (by decide +kernel) ⟨Nat.le_of_ble_eq_true rfl, Nat.le_of_ble_eq_true rfl⟩) mO_0 rfl rfl rfl rfl (Nat.le_of_ble_eq_true rfl) dX6_atom5_12 ?_
    refine g_pop C dX6_atom5_15 rfl ?_
    refine g_goto (tgt := 102) C dX6_atom5_16 (by decide) ?_
    refine g_iload_n C dX6_atom5_102 rfl 0 rfl ?_
    obtain ⟨rfl, rfl⟩ := sp_inj h
    exact g_iret C hr hlk dX6_atom5_103 rfl

def rmX6_term5 : Room := { frames := 5, cells := 0, slots := 0, locals := 112 }
set_option maxRecDepth 100000 in
set_option maxHeartbeats 4000000 in
theorem c_X6_term5 (l : Launch) {F : Nat}    {m : MM} {m' : MM} {r : Int32} (h : f_X6_term5 F m = some (r, m')) : CT l yX6_term5 cX6_term5 2 (some .int) rmX6_term5 cfM 23 (fun ad tb => [.ref (ad 0)]) m (some (.int r)) m' := by
  refine CT.of (cc := cX6_term5) (maxL := 2) (ret := (some .int)) (by decide) ⟨rfl, rfl⟩ (fun _ _ => Nat.le_of_ble_eq_true rfl) ?_
  intro p e s mt args below meth c D cA ad tb C hr hlk
  refine g_lv (lv' := [(0, .ref (ad 0))]) rfl ?_
  unfold f_X6_term5 at h
  refine g_aload_n C dX6_term5_0 rfl 0 rfl ?_
  obtain ⟨r1, m3, hX2, h⟩ := bd2_inv h
  refine g_callV C (c_X6_atom5 l hX2) (cwVw 0 C.2.2.2.2.1 wl_1237 wl_1239 wl_63 wl_121 wl_1240 rfl rfl (by decide +kernel) ⟨Nat.le_of_ble_eq_true rfl, Nat.le_of_ble_eq_true rfl⟩) mO_0 rfl rfl rfl rfl (Nat.le_of_ble_eq_true rfl) dX6_term5_1 ?_
  refine g_istore_n (lv' := [(1, .int r1), (0, .ref (ad 0))]) C dX6_term5_4 rfl (by decide) rfl ?_
  refine g_sub [1, 0] rfl ?_
  refine g_loop_IM (L := f_X6_term5_L5 F) h 5 28 (fun x1_4 m5 => [(0, .ref (ad 0)), (1, .int x1_4)]) (fun x1_4 m5 => [(1, .int x1_4)]) (fun x1_4 m5 => []) (fun x1_4 m5 => []) ?_ ?_ (fun _ _ _ => rfl)
  · intro x1_4 m5 h
    refine g_iload_n C dX6_term5_28 rfl 0 rfl ?_
    obtain ⟨rfl, rfl⟩ := sp_inj h
    exact g_iret C hr hlk dX6_term5_29 rfl
  · intro K6 hK6 n ih x1_4 m5 h
    rw [f_X6_term5_L5] at h
    refine g_aload_n C dX6_term5_5 rfl 0 rfl ?_
    refine g_bipush (v := (42 : Int32)) C dX6_term5_6 (by decide) ?_
    obtain ⟨r7, hX8, h⟩ := bd1_inv h
    refine g_callV C (c_X6_isSign l hX8) (cwVw 1 C.2.2.2.2.1 wl_1241 wl_1243 wl_64 wl_121 wl_1244 rfl rfl (by decide +kernel) ⟨Nat.le_of_ble_eq_true rfl, Nat.le_of_ble_eq_true rfl⟩) mO_0 rfl rfl rfl rfl (Nat.le_of_ble_eq_true rfl) dX6_term5_8 ?_
    refine g_if_eq (tgt := 28) C dX6_term5_11 (by decide) h (fun h => ?_) (fun h => ?_)
    · exact g_sub [1] rfl (hK6 _ _ h)
    · refine g_aload_n C dX6_term5_14 rfl 0 rfl ?_
      obtain ⟨m10, hX9, h⟩ := bd1_inv h
      refine g_callV C (c_X6_next l hX9) (cwVw 0 C.2.2.2.2.1 wl_1165 wl_1167 wl_46 wl_121 wl_1168 rfl rfl (by decide +kernel) ⟨Nat.le_of_ble_eq_true rfl, Nat.le_of_ble_eq_true rfl⟩) mO_0 rfl rfl rfl rfl (Nat.le_of_ble_eq_true rfl) dX6_term5_15 ?_
      refine g_iload_n C dX6_term5_18 rfl 1 rfl ?_
      refine g_aload_n C dX6_term5_19 rfl 0 rfl ?_
      obtain ⟨r11, m13, hX12, h⟩ := bd2_inv h
      refine g_callV C (c_X6_atom5 l hX12) (cwVw 0 C.2.2.2.2.1 wl_1237 wl_1239 wl_63 wl_121 wl_1240 rfl rfl (by decide +kernel) ⟨Nat.le_of_ble_eq_true rfl, Nat.le_of_ble_eq_true rfl⟩) mO_0 rfl rfl rfl rfl (Nat.le_of_ble_eq_true rfl) dX6_term5_20 ?_
      refine g_imul C dX6_term5_23 ?_
      refine nm_i h (fun x1_14 h => ?_)
      refine g_istore_n (lv' := [(1, .int x1_14), (0, .ref (ad 0))]) C dX6_term5_24 rfl (by decide) rfl ?_
      refine g_goto (tgt := 5) C dX6_term5_25 (by decide) ?_
      exact g_sub [1, 0] rfl (ih _ _ h)

def rmX6_added5 : Room := { frames := 6, cells := 0, slots := 0, locals := 133 }
set_option maxRecDepth 100000 in
set_option maxHeartbeats 4000000 in
theorem c_X6_added5 (l : Launch) {F : Nat}    {m : MM} {m' : MM} {r : Int32} (h : f_X6_added5 F m = some (r, m')) : CT l yX6_added5 cX6_added5 4 (some .int) rmX6_added5 cfM 23 (fun ad tb => [.ref (ad 0)]) m (some (.int r)) m' := by
  refine CT.of (cc := cX6_added5) (maxL := 4) (ret := (some .int)) (by decide) ⟨rfl, rfl⟩ (fun _ _ => Nat.le_of_ble_eq_true rfl) ?_
  intro p e s mt args below meth c D cA ad tb C hr hlk
  refine g_lv (lv' := [(0, .ref (ad 0))]) rfl ?_
  have hcl6 : ∀ w ∈ wsX60, w.before args s = true := fun w hw => C.2.2.2.2.1 w (inlX6 w hw)
  unfold f_X6_added5 at h
  refine g_aload_n C dX6_added5_0 rfl 0 rfl ?_
  obtain ⟨r1, m3, hX2, h⟩ := bd2_inv h
  refine g_callV C (c_X6_term5 l hX2) (cwVw 0 C.2.2.2.2.1 wl_1233 wl_1235 wl_62 wl_121 wl_1236 rfl rfl (by decide +kernel) ⟨Nat.le_of_ble_eq_true rfl, Nat.le_of_ble_eq_true rfl⟩) mO_0 rfl rfl rfl rfl (Nat.le_of_ble_eq_true rfl) dX6_added5_1 ?_
  refine g_istore_n (lv' := [(1, .int r1), (0, .ref (ad 0))]) C dX6_added5_4 rfl (by decide) rfl ?_
  refine g_sub [1, 0] rfl ?_
  refine g_loop_IM (L := f_X6_added5_L5 F) h 5 66 (fun x1_4 m5 => [(0, .ref (ad 0)), (1, .int x1_4)]) (fun x1_4 m5 => [(1, .int x1_4)]) (fun x1_4 m5 => []) (fun x1_4 m5 => []) ?_ ?_ (fun _ _ _ => rfl)
  · intro x1_4 m5 h
    refine g_iload_n C dX6_added5_66 rfl 0 rfl ?_
    obtain ⟨rfl, rfl⟩ := sp_inj h
    exact g_iret C hr hlk dX6_added5_67 rfl
  · intro K6 hK6 n ih x1_4 m5 h
    rw [f_X6_added5_L5] at h
    refine g_aload_n C dX6_added5_5 rfl 0 rfl ?_
    refine g_bipush (v := (43 : Int32)) C dX6_added5_6 (by decide) ?_
    obtain ⟨r7, hX8, h⟩ := bd1_inv h
    refine g_callV C (c_X6_isSign l hX8) (cwVw 1 C.2.2.2.2.1 wl_1241 wl_1243 wl_64 wl_121 wl_1244 rfl rfl (by decide +kernel) ⟨Nat.le_of_ble_eq_true rfl, Nat.le_of_ble_eq_true rfl⟩) mO_0 rfl rfl rfl rfl (Nat.le_of_ble_eq_true rfl) dX6_added5_8 ?_
    refine g_join_ h 23 ([(0, .ref (ad 0)), (1, .int x1_4)]) ([]) ?_ ?_
    · intro h
      refine g_aload_n C dX6_added5_23 rfl 0 rfl ?_
      refine g_get C (T := TX6) hcl6 mO_0 rfl (j := 30) (by decide) wl_949 (v := .long (rL m5 0 30)) rfl dX6_added5_24 ?_
      refine g_ldc2 (v := (43 : Int64)) C dX6_added5_27 wl_1249 ?_
      refine g_lcmp C dX6_added5_30 ?_
      refine g_join_I h 39 (fun s10 => [(0, .ref (ad 0)), (1, .int x1_4)]) (fun s10 => [.int s10]) ?_ ?_
      · intro s10 h
        refine g_istore_n (lv' := [(2, .int s10), (0, .ref (ad 0)), (1, .int x1_4)]) C dX6_added5_39 rfl (by decide) rfl ?_
        refine g_aload_n C dX6_added5_40 rfl 1 rfl ?_
        obtain ⟨m13, hX12, h⟩ := bd1_inv h
        refine g_callV C (c_X6_next l hX12) (cwVw 0 C.2.2.2.2.1 wl_1165 wl_1167 wl_46 wl_121 wl_1168 rfl rfl (by decide +kernel) ⟨Nat.le_of_ble_eq_true rfl, Nat.le_of_ble_eq_true rfl⟩) mO_0 rfl rfl rfl rfl (Nat.le_of_ble_eq_true rfl) dX6_added5_41 ?_
        refine g_aload_n C dX6_added5_44 rfl 1 rfl ?_
        obtain ⟨r14, m16, hX15, h⟩ := bd2_inv h
        refine g_callV C (c_X6_term5 l hX15) (cwVw 0 C.2.2.2.2.1 wl_1233 wl_1235 wl_62 wl_121 wl_1236 rfl rfl (by decide +kernel) ⟨Nat.le_of_ble_eq_true rfl, Nat.le_of_ble_eq_true rfl⟩) mO_0 rfl rfl rfl rfl (Nat.le_of_ble_eq_true rfl) dX6_added5_45 ?_
        refine g_istore_n (lv' := [(3, .int r14), (2, .int s10), (0, .ref (ad 0)), (1, .int x1_4)]) C dX6_added5_48 rfl (by decide) rfl ?_
        refine g_iload_n C dX6_added5_49 rfl 1 rfl ?_
        refine g_join_I h 62 (fun s17 => [(0, .ref (ad 0))]) (fun s17 => [.int s17]) ?_ ?_
        · intro s17 h
          refine g_istore_n (lv' := [(1, .int s17), (0, .ref (ad 0))]) C dX6_added5_62 rfl (by decide) rfl ?_
          refine g_goto (tgt := 5) C dX6_added5_63 (by decide) ?_
          exact g_sub [1, 0] rfl (ih _ _ h)
        intro J18 hJ18 h
        refine g_if_eq (tgt := 59) C dX6_added5_50 (by decide) h (fun h => ?_) (fun h => ?_)
        · refine g_iload_n C dX6_added5_59 rfl 3 rfl ?_
          refine g_iload_n C dX6_added5_60 rfl 0 rfl ?_
          refine g_isub C dX6_added5_61 ?_
          exact g_sub [2] rfl (hJ18 _ h)
        · refine g_iload_n C dX6_added5_53 rfl 3 rfl ?_
          refine g_iload_n C dX6_added5_54 rfl 0 rfl ?_
          refine g_iadd C dX6_added5_55 ?_
          refine g_goto (tgt := 62) C dX6_added5_56 (by decide) ?_
          exact g_sub [2] rfl (hJ18 _ h)
      intro J11 hJ11 h
      refine g_if_ne (tgt := 38) C dX6_added5_31 (by decide) h (fun h => ?_) (fun h => ?_)
      · refine g_iconst (v := (1 : Int32)) C dX6_added5_34 (by decide) ?_
        refine g_goto (tgt := 39) C dX6_added5_35 (by decide) ?_
        exact g_sub [0, 1] rfl (hJ11 _ h)
      · refine g_iconst (v := (0 : Int32)) C dX6_added5_38 (by decide) ?_
        exact g_sub [0, 1] rfl (hJ11 _ h)
    intro J9 hJ9 h
    refine g_if_ne (tgt := 23) C dX6_added5_11 (by decide) h (fun h => ?_) (fun h => ?_)
    · refine g_aload_n C dX6_added5_14 rfl 0 rfl ?_
      refine g_bipush (v := (45 : Int32)) C dX6_added5_15 (by decide) ?_
      obtain ⟨r19, hX20, h⟩ := bd1_inv h
      refine g_callV C (c_X6_isSign l hX20) (cwVw 1 C.2.2.2.2.1 wl_1241 wl_1243 wl_64 wl_121 wl_1244 rfl rfl (by decide +kernel) ⟨Nat.le_of_ble_eq_true rfl, Nat.le_of_ble_eq_true rfl⟩) mO_0 rfl rfl rfl rfl (Nat.le_of_ble_eq_true rfl) dX6_added5_17 ?_
      refine g_if_eq (tgt := 66) C dX6_added5_20 (by decide) h (fun h => ?_) (fun h => ?_)
      · exact g_sub [1] rfl (hK6 _ _ h)
      · exact g_sub [0, 1] rfl (hJ9  h)
    · exact g_sub [0, 1] rfl (hJ9  h)

def rmX6_not5 : Room := { frames := 7, cells := 0, slots := 0, locals := 156 }
set_option maxRecDepth 100000 in
set_option maxHeartbeats 4000000 in
theorem c_X6_not5 (l : Launch) {F : Nat}    {m : MM} {m' : MM} {r : Int32} (h : f_X6_not5 F m = some (r, m')) : CT l yX6_not5 cX6_not5 4 (some .int) rmX6_not5 cfM 23 (fun ad tb => [.ref (ad 0)]) m (some (.int r)) m' := by
  refine CT.of (cc := cX6_not5) (maxL := 4) (ret := (some .int)) (by decide) ⟨rfl, rfl⟩ (fun _ _ => Nat.le_of_ble_eq_true rfl) ?_
  intro p e s mt args below meth c D cA ad tb C hr hlk
  refine g_lv (lv' := [(0, .ref (ad 0))]) rfl ?_
  have hcl6 : ∀ w ∈ wsX60, w.before args s = true := fun w hw => C.2.2.2.2.1 w (inlX6 w hw)
  unfold f_X6_not5 at h
  refine g_aload_n C dX6_not5_0 rfl 0 rfl ?_
  refine g_bipush (v := (110 : Int32)) C dX6_not5_1 (by decide) ?_
  refine g_bipush (v := (111 : Int32)) C dX6_not5_3 (by decide) ?_
  refine g_bipush (v := (116 : Int32)) C dX6_not5_5 (by decide) ?_
  refine g_iconst (v := (0 : Int32)) C dX6_not5_7 (by decide) ?_
  refine g_iconst (v := (0 : Int32)) C dX6_not5_8 (by decide) ?_
  refine g_iconst (v := (0 : Int32)) C dX6_not5_9 (by decide) ?_
  refine g_iconst (v := (0 : Int32)) C dX6_not5_10 (by decide) ?_
  refine g_iconst (v := (0 : Int32)) C dX6_not5_11 (by decide) ?_
  obtain ⟨r1, hX2, h⟩ := bd1_inv h
  refine g_callV C (c_X6_isWord l hX2) (cwVw 8 C.2.2.2.2.1 wl_1177 wl_1179 wl_48 wl_121 wl_1180 rfl rfl (by decide +kernel) ⟨Nat.le_of_ble_eq_true rfl, Nat.le_of_ble_eq_true rfl⟩) mO_0 rfl rfl rfl rfl (Nat.le_of_ble_eq_true rfl) dX6_not5_12 ?_
  refine g_if_eq (tgt := 25) C dX6_not5_15 (by decide) h (fun h => ?_) (fun h => ?_)
  · refine g_aload_n C dX6_not5_25 rfl 0 rfl ?_
    obtain ⟨r3, m5, hX4, h⟩ := bd2_inv h
    refine g_callV C (c_X6_added5 l hX4) (cwVw 0 C.2.2.2.2.1 wl_1229 wl_1231 wl_61 wl_121 wl_1232 rfl rfl (by decide +kernel) ⟨Nat.le_of_ble_eq_true rfl, Nat.le_of_ble_eq_true rfl⟩) mO_0 rfl rfl rfl rfl (Nat.le_of_ble_eq_true rfl) dX6_not5_26 ?_
    refine g_istore_n (lv' := [(1, .int r3), (0, .ref (ad 0))]) C dX6_not5_29 rfl (by decide) rfl ?_
    refine g_aload_n C dX6_not5_30 rfl 1 rfl ?_
    refine g_bipush (v := (60 : Int32)) C dX6_not5_31 (by decide) ?_
    obtain ⟨r6, hX7, h⟩ := bd1_inv h
    refine g_callV C (c_X6_isSign l hX7) (cwVw 1 C.2.2.2.2.1 wl_1241 wl_1243 wl_64 wl_121 wl_1244 rfl rfl (by decide +kernel) ⟨Nat.le_of_ble_eq_true rfl, Nat.le_of_ble_eq_true rfl⟩) mO_0 rfl rfl rfl rfl (Nat.le_of_ble_eq_true rfl) dX6_not5_33 ?_
    refine g_join_ h 50 ([(0, .ref (ad 0)), (1, .int r3)]) ([]) ?_ ?_
    · intro h
      refine g_aload_n C dX6_not5_50 rfl 0 rfl ?_
      refine g_get C (T := TX6) hcl6 mO_0 rfl (j := 30) (by decide) wl_949 (v := .long (rL m5 0 30)) rfl dX6_not5_51 ?_
      refine g_ldc2 (v := (60 : Int64)) C dX6_not5_54 wl_1250 ?_
      refine g_lcmp C dX6_not5_57 ?_
      refine g_join_I h 66 (fun s9 => [(0, .ref (ad 0)), (1, .int r3)]) (fun s9 => [.int s9]) ?_ ?_
      · intro s9 h
        refine g_istore_n (lv' := [(2, .int s9), (0, .ref (ad 0)), (1, .int r3)]) C dX6_not5_66 rfl (by decide) rfl ?_
        refine g_aload_n C dX6_not5_67 rfl 1 rfl ?_
        obtain ⟨m12, hX11, h⟩ := bd1_inv h
        refine g_callV C (c_X6_next l hX11) (cwVw 0 C.2.2.2.2.1 wl_1165 wl_1167 wl_46 wl_121 wl_1168 rfl rfl (by decide +kernel) ⟨Nat.le_of_ble_eq_true rfl, Nat.le_of_ble_eq_true rfl⟩) mO_0 rfl rfl rfl rfl (Nat.le_of_ble_eq_true rfl) dX6_not5_68 ?_
        refine g_aload_n C dX6_not5_71 rfl 1 rfl ?_
        obtain ⟨r13, m15, hX14, h⟩ := bd2_inv h
        refine g_callV C (c_X6_added5 l hX14) (cwVw 0 C.2.2.2.2.1 wl_1229 wl_1231 wl_61 wl_121 wl_1232 rfl rfl (by decide +kernel) ⟨Nat.le_of_ble_eq_true rfl, Nat.le_of_ble_eq_true rfl⟩) mO_0 rfl rfl rfl rfl (Nat.le_of_ble_eq_true rfl) dX6_not5_72 ?_
        refine g_istore_n (lv' := [(3, .int r13), (2, .int s9), (0, .ref (ad 0)), (1, .int r3)]) C dX6_not5_75 rfl (by decide) rfl ?_
        refine g_iload_n C dX6_not5_76 rfl 1 rfl ?_
        refine g_if_eq (tgt := 88) C dX6_not5_77 (by decide) h (fun h => ?_) (fun h => ?_)
        · refine g_iload_n C dX6_not5_88 rfl 3 rfl ?_
          refine g_iload_n C dX6_not5_89 rfl 0 rfl ?_
          refine g_icmp_ne (tgt := 97) C dX6_not5_90 (by decide) h (fun h => ?_) (fun h => ?_)
          · refine g_iconst (v := (1 : Int32)) C dX6_not5_93 (by decide) ?_
            refine g_goto (tgt := 98) C dX6_not5_94 (by decide) ?_
            obtain ⟨rfl, rfl⟩ := sp_inj h
            exact g_iret C hr hlk dX6_not5_98 rfl
          · refine g_iconst (v := (0 : Int32)) C dX6_not5_97 (by decide) ?_
            obtain ⟨rfl, rfl⟩ := sp_inj h
            exact g_iret C hr hlk dX6_not5_98 rfl
        · refine g_iload_n C dX6_not5_80 rfl 3 rfl ?_
          refine g_iload_n C dX6_not5_81 rfl 0 rfl ?_
          refine g_icmp_ge (tgt := 97) C dX6_not5_82 (by decide) h (fun h => ?_) (fun h => ?_)
          · refine g_iconst (v := (0 : Int32)) C dX6_not5_97 (by decide) ?_
            obtain ⟨rfl, rfl⟩ := sp_inj h
            exact g_iret C hr hlk dX6_not5_98 rfl
          · refine g_goto (tgt := 93) C dX6_not5_85 (by decide) ?_
            refine g_iconst (v := (1 : Int32)) C dX6_not5_93 (by decide) ?_
            refine g_goto (tgt := 98) C dX6_not5_94 (by decide) ?_
            obtain ⟨rfl, rfl⟩ := sp_inj h
            exact g_iret C hr hlk dX6_not5_98 rfl
      intro J10 hJ10 h
      refine g_if_ne (tgt := 65) C dX6_not5_58 (by decide) h (fun h => ?_) (fun h => ?_)
      · refine g_iconst (v := (1 : Int32)) C dX6_not5_61 (by decide) ?_
        refine g_goto (tgt := 66) C dX6_not5_62 (by decide) ?_
        exact g_sub [0, 1] rfl (hJ10 _ h)
      · refine g_iconst (v := (0 : Int32)) C dX6_not5_65 (by decide) ?_
        exact g_sub [0, 1] rfl (hJ10 _ h)
    intro J8 hJ8 h
    refine g_if_ne (tgt := 50) C dX6_not5_36 (by decide) h (fun h => ?_) (fun h => ?_)
    · refine g_aload_n C dX6_not5_39 rfl 1 rfl ?_
      refine g_bipush (v := (61 : Int32)) C dX6_not5_40 (by decide) ?_
      obtain ⟨r16, hX17, h⟩ := bd1_inv h
      refine g_callV C (c_X6_isSign l hX17) (cwVw 1 C.2.2.2.2.1 wl_1241 wl_1243 wl_64 wl_121 wl_1244 rfl rfl (by decide +kernel) ⟨Nat.le_of_ble_eq_true rfl, Nat.le_of_ble_eq_true rfl⟩) mO_0 rfl rfl rfl rfl (Nat.le_of_ble_eq_true rfl) dX6_not5_42 ?_
      refine g_if_ne (tgt := 50) C dX6_not5_45 (by decide) h (fun h => ?_) (fun h => ?_)
      · refine g_iload_n C dX6_not5_48 rfl 0 rfl ?_
        obtain ⟨rfl, rfl⟩ := sp_inj h
        exact g_iret C hr hlk dX6_not5_49 rfl
      · exact g_sub [1, 0] rfl (hJ8  h)
    · exact g_sub [1, 0] rfl (hJ8  h)
  · refine g_aload_n C dX6_not5_18 rfl 0 rfl ?_
    obtain ⟨r18, m20, hX19, h⟩ := bd2_inv h
    refine g_callV C (c_X6_opens l hX19) (cwVw 0 C.2.2.2.2.1 wl_1205 wl_1207 wl_55 wl_121 wl_1208 rfl rfl (by decide +kernel) ⟨Nat.le_of_ble_eq_true rfl, Nat.le_of_ble_eq_true rfl⟩) mO_0 rfl rfl rfl rfl (Nat.le_of_ble_eq_true rfl) dX6_not5_19 ?_
    refine g_pop C dX6_not5_22 rfl ?_
    refine g_iconst (v := (0 : Int32)) C dX6_not5_23 (by decide) ?_
    obtain ⟨rfl, rfl⟩ := sp_inj h
    exact g_iret C hr hlk dX6_not5_24 rfl

def rmX6_both5 : Room := { frames := 8, cells := 0, slots := 0, locals := 179 }
set_option maxRecDepth 100000 in
set_option maxHeartbeats 4000000 in
theorem c_X6_both5 (l : Launch) {F : Nat}    {m : MM} {m' : MM} {r : Int32} (h : f_X6_both5 F m = some (r, m')) : CT l yX6_both5 cX6_both5 3 (some .int) rmX6_both5 cfM 23 (fun ad tb => [.ref (ad 0)]) m (some (.int r)) m' := by
  refine CT.of (cc := cX6_both5) (maxL := 3) (ret := (some .int)) (by decide) ⟨rfl, rfl⟩ (fun _ _ => Nat.le_of_ble_eq_true rfl) ?_
  intro p e s mt args below meth c D cA ad tb C hr hlk
  refine g_lv (lv' := [(0, .ref (ad 0))]) rfl ?_
  unfold f_X6_both5 at h
  refine g_aload_n C dX6_both5_0 rfl 0 rfl ?_
  obtain ⟨r1, m3, hX2, h⟩ := bd2_inv h
  refine g_callV C (c_X6_not5 l hX2) (cwVw 0 C.2.2.2.2.1 wl_1225 wl_1227 wl_60 wl_121 wl_1228 rfl rfl (by decide +kernel) ⟨Nat.le_of_ble_eq_true rfl, Nat.le_of_ble_eq_true rfl⟩) mO_0 rfl rfl rfl rfl (Nat.le_of_ble_eq_true rfl) dX6_both5_1 ?_
  refine g_istore_n (lv' := [(1, .int r1), (0, .ref (ad 0))]) C dX6_both5_4 rfl (by decide) rfl ?_
  refine g_sub [1, 0] rfl ?_
  refine g_loop_IM (L := f_X6_both5_L5 F) h 5 49 (fun x1_4 m5 => [(0, .ref (ad 0)), (1, .int x1_4)]) (fun x1_4 m5 => [(1, .int x1_4)]) (fun x1_4 m5 => []) (fun x1_4 m5 => []) ?_ ?_ (fun _ _ _ => rfl)
  · intro x1_4 m5 h
    refine g_iload_n C dX6_both5_49 rfl 0 rfl ?_
    obtain ⟨rfl, rfl⟩ := sp_inj h
    exact g_iret C hr hlk dX6_both5_50 rfl
  · intro K6 hK6 n ih x1_4 m5 h
    rw [f_X6_both5_L5] at h
    refine g_aload_n C dX6_both5_5 rfl 0 rfl ?_
    refine g_bipush (v := (97 : Int32)) C dX6_both5_6 (by decide) ?_
    refine g_bipush (v := (110 : Int32)) C dX6_both5_8 (by decide) ?_
    refine g_bipush (v := (100 : Int32)) C dX6_both5_10 (by decide) ?_
    refine g_iconst (v := (0 : Int32)) C dX6_both5_12 (by decide) ?_
    refine g_iconst (v := (0 : Int32)) C dX6_both5_13 (by decide) ?_
    refine g_iconst (v := (0 : Int32)) C dX6_both5_14 (by decide) ?_
    refine g_iconst (v := (0 : Int32)) C dX6_both5_15 (by decide) ?_
    refine g_iconst (v := (0 : Int32)) C dX6_both5_16 (by decide) ?_
    obtain ⟨r7, hX8, h⟩ := bd1_inv h
    refine g_callV C (c_X6_isWord l hX8) (cwVw 8 C.2.2.2.2.1 wl_1177 wl_1179 wl_48 wl_121 wl_1180 rfl rfl (by decide +kernel) ⟨Nat.le_of_ble_eq_true rfl, Nat.le_of_ble_eq_true rfl⟩) mO_0 rfl rfl rfl rfl (Nat.le_of_ble_eq_true rfl) dX6_both5_17 ?_
    refine g_if_eq (tgt := 49) C dX6_both5_20 (by decide) h (fun h => ?_) (fun h => ?_)
    · exact g_sub [1] rfl (hK6 _ _ h)
    · refine g_aload_n C dX6_both5_23 rfl 0 rfl ?_
      obtain ⟨m10, hX9, h⟩ := bd1_inv h
      refine g_callV C (c_X6_next l hX9) (cwVw 0 C.2.2.2.2.1 wl_1165 wl_1167 wl_46 wl_121 wl_1168 rfl rfl (by decide +kernel) ⟨Nat.le_of_ble_eq_true rfl, Nat.le_of_ble_eq_true rfl⟩) mO_0 rfl rfl rfl rfl (Nat.le_of_ble_eq_true rfl) dX6_both5_24 ?_
      refine g_aload_n C dX6_both5_27 rfl 0 rfl ?_
      obtain ⟨r11, m13, hX12, h⟩ := bd2_inv h
      refine g_callV C (c_X6_not5 l hX12) (cwVw 0 C.2.2.2.2.1 wl_1225 wl_1227 wl_60 wl_121 wl_1228 rfl rfl (by decide +kernel) ⟨Nat.le_of_ble_eq_true rfl, Nat.le_of_ble_eq_true rfl⟩) mO_0 rfl rfl rfl rfl (Nat.le_of_ble_eq_true rfl) dX6_both5_28 ?_
      refine g_istore_n (lv' := [(2, .int r11), (0, .ref (ad 0)), (1, .int x1_4)]) C dX6_both5_31 rfl (by decide) rfl ?_
      refine g_iload_n C dX6_both5_32 rfl 2 rfl ?_
      refine g_join_I h 45 (fun s14 => [(0, .ref (ad 0))]) (fun s14 => [.int s14]) ?_ ?_
      · intro s14 h
        refine g_istore_n (lv' := [(1, .int s14), (0, .ref (ad 0))]) C dX6_both5_45 rfl (by decide) rfl ?_
        refine g_goto (tgt := 5) C dX6_both5_46 (by decide) ?_
        exact g_sub [1, 0] rfl (ih _ _ h)
      intro J15 hJ15 h
      refine g_join_ h 44 ([(0, .ref (ad 0))]) ([]) ?_ ?_
      · intro h
        refine g_iconst (v := (0 : Int32)) C dX6_both5_44 (by decide) ?_
        exact g_sub [0] rfl (hJ15 _ h)
      intro J16 hJ16 h
      refine g_if_eq (tgt := 44) C dX6_both5_33 (by decide) h (fun h => ?_) (fun h => ?_)
      · exact g_sub [1] rfl (hJ16  h)
      · refine g_iload_n C dX6_both5_36 rfl 0 rfl ?_
        refine g_if_eq (tgt := 44) C dX6_both5_37 (by decide) h (fun h => ?_) (fun h => ?_)
        · exact g_sub [1] rfl (hJ16  h)
        · refine g_iconst (v := (1 : Int32)) C dX6_both5_40 (by decide) ?_
          refine g_goto (tgt := 45) C dX6_both5_41 (by decide) ?_
          exact g_sub [1] rfl (hJ15 _ h)

def rmX6_either5 : Room := { frames := 9, cells := 0, slots := 0, locals := 201 }
set_option maxRecDepth 100000 in
set_option maxHeartbeats 4000000 in
theorem c_X6_either5 (l : Launch) {F : Nat}    {m : MM} {m' : MM} {r : Int32} (h : f_X6_either5 F m = some (r, m')) : CT l yX6_either5 cX6_either5 3 (some .int) rmX6_either5 cfM 23 (fun ad tb => [.ref (ad 0)]) m (some (.int r)) m' := by
  refine CT.of (cc := cX6_either5) (maxL := 3) (ret := (some .int)) (by decide) ⟨rfl, rfl⟩ (fun _ _ => Nat.le_of_ble_eq_true rfl) ?_
  intro p e s mt args below meth c D cA ad tb C hr hlk
  refine g_lv (lv' := [(0, .ref (ad 0))]) rfl ?_
  unfold f_X6_either5 at h
  refine g_aload_n C dX6_either5_0 rfl 0 rfl ?_
  obtain ⟨r1, m3, hX2, h⟩ := bd2_inv h
  refine g_callV C (c_X6_both5 l hX2) (cwVw 0 C.2.2.2.2.1 wl_1267 wl_1269 wl_70 wl_121 wl_1270 rfl rfl (by decide +kernel) ⟨Nat.le_of_ble_eq_true rfl, Nat.le_of_ble_eq_true rfl⟩) mO_0 rfl rfl rfl rfl (Nat.le_of_ble_eq_true rfl) dX6_either5_1 ?_
  refine g_istore_n (lv' := [(1, .int r1), (0, .ref (ad 0))]) C dX6_either5_4 rfl (by decide) rfl ?_
  refine g_sub [1, 0] rfl ?_
  refine g_loop_IM (L := f_X6_either5_L5 F) h 5 48 (fun x1_4 m5 => [(0, .ref (ad 0)), (1, .int x1_4)]) (fun x1_4 m5 => [(1, .int x1_4)]) (fun x1_4 m5 => []) (fun x1_4 m5 => []) ?_ ?_ (fun _ _ _ => rfl)
  · intro x1_4 m5 h
    refine g_iload_n C dX6_either5_48 rfl 0 rfl ?_
    obtain ⟨rfl, rfl⟩ := sp_inj h
    exact g_iret C hr hlk dX6_either5_49 rfl
  · intro K6 hK6 n ih x1_4 m5 h
    rw [f_X6_either5_L5] at h
    refine g_aload_n C dX6_either5_5 rfl 0 rfl ?_
    refine g_bipush (v := (111 : Int32)) C dX6_either5_6 (by decide) ?_
    refine g_bipush (v := (114 : Int32)) C dX6_either5_8 (by decide) ?_
    refine g_iconst (v := (0 : Int32)) C dX6_either5_10 (by decide) ?_
    refine g_iconst (v := (0 : Int32)) C dX6_either5_11 (by decide) ?_
    refine g_iconst (v := (0 : Int32)) C dX6_either5_12 (by decide) ?_
    refine g_iconst (v := (0 : Int32)) C dX6_either5_13 (by decide) ?_
    refine g_iconst (v := (0 : Int32)) C dX6_either5_14 (by decide) ?_
    refine g_iconst (v := (0 : Int32)) C dX6_either5_15 (by decide) ?_
    obtain ⟨r7, hX8, h⟩ := bd1_inv h
    refine g_callV C (c_X6_isWord l hX8) (cwVw 8 C.2.2.2.2.1 wl_1177 wl_1179 wl_48 wl_121 wl_1180 rfl rfl (by decide +kernel) ⟨Nat.le_of_ble_eq_true rfl, Nat.le_of_ble_eq_true rfl⟩) mO_0 rfl rfl rfl rfl (Nat.le_of_ble_eq_true rfl) dX6_either5_16 ?_
    refine g_if_eq (tgt := 48) C dX6_either5_19 (by decide) h (fun h => ?_) (fun h => ?_)
    · exact g_sub [1] rfl (hK6 _ _ h)
    · refine g_aload_n C dX6_either5_22 rfl 0 rfl ?_
      obtain ⟨m10, hX9, h⟩ := bd1_inv h
      refine g_callV C (c_X6_next l hX9) (cwVw 0 C.2.2.2.2.1 wl_1165 wl_1167 wl_46 wl_121 wl_1168 rfl rfl (by decide +kernel) ⟨Nat.le_of_ble_eq_true rfl, Nat.le_of_ble_eq_true rfl⟩) mO_0 rfl rfl rfl rfl (Nat.le_of_ble_eq_true rfl) dX6_either5_23 ?_
      refine g_aload_n C dX6_either5_26 rfl 0 rfl ?_
      obtain ⟨r11, m13, hX12, h⟩ := bd2_inv h
      refine g_callV C (c_X6_both5 l hX12) (cwVw 0 C.2.2.2.2.1 wl_1267 wl_1269 wl_70 wl_121 wl_1270 rfl rfl (by decide +kernel) ⟨Nat.le_of_ble_eq_true rfl, Nat.le_of_ble_eq_true rfl⟩) mO_0 rfl rfl rfl rfl (Nat.le_of_ble_eq_true rfl) dX6_either5_27 ?_
      refine g_istore_n (lv' := [(2, .int r11), (0, .ref (ad 0)), (1, .int x1_4)]) C dX6_either5_30 rfl (by decide) rfl ?_
      refine g_iload_n C dX6_either5_31 rfl 2 rfl ?_
      refine g_join_I h 44 (fun s14 => [(0, .ref (ad 0))]) (fun s14 => [.int s14]) ?_ ?_
      · intro s14 h
        refine g_istore_n (lv' := [(1, .int s14), (0, .ref (ad 0))]) C dX6_either5_44 rfl (by decide) rfl ?_
        refine g_goto (tgt := 5) C dX6_either5_45 (by decide) ?_
        exact g_sub [1, 0] rfl (ih _ _ h)
      intro J15 hJ15 h
      refine g_join_ h 39 ([(0, .ref (ad 0))]) ([]) ?_ ?_
      · intro h
        refine g_iconst (v := (1 : Int32)) C dX6_either5_39 (by decide) ?_
        refine g_goto (tgt := 44) C dX6_either5_40 (by decide) ?_
        exact g_sub [0] rfl (hJ15 _ h)
      intro J16 hJ16 h
      refine g_if_ne (tgt := 39) C dX6_either5_32 (by decide) h (fun h => ?_) (fun h => ?_)
      · refine g_iload_n C dX6_either5_35 rfl 0 rfl ?_
        refine g_if_eq (tgt := 43) C dX6_either5_36 (by decide) h (fun h => ?_) (fun h => ?_)
        · refine g_iconst (v := (0 : Int32)) C dX6_either5_43 (by decide) ?_
          exact g_sub [1] rfl (hJ15 _ h)
        · exact g_sub [1] rfl (hJ16  h)
      · exact g_sub [1] rfl (hJ16  h)

def rmX6_atom4 : Room := { frames := 10, cells := 0, slots := 0, locals := 223 }
set_option maxRecDepth 100000 in
set_option maxHeartbeats 4000000 in
theorem c_X6_atom4 (l : Launch) {F : Nat}    {m : MM} {m' : MM} {r : Int32} (h : f_X6_atom4 F m = some (r, m')) : CT l yX6_atom4 cX6_atom4 2 (some .int) rmX6_atom4 cfM 23 (fun ad tb => [.ref (ad 0)]) m (some (.int r)) m' := by
  refine CT.of (cc := cX6_atom4) (maxL := 2) (ret := (some .int)) (by decide) ⟨rfl, rfl⟩ (fun _ _ => Nat.le_of_ble_eq_true rfl) ?_
  intro p e s mt args below meth c D cA ad tb C hr hlk
  refine g_lv (lv' := [(0, .ref (ad 0))]) rfl ?_
  have hcl6 : ∀ w ∈ wsX60, w.before args s = true := fun w hw => C.2.2.2.2.1 w (inlX6 w hw)
  unfold f_X6_atom4 at h
  refine g_iconst (v := (0 : Int32)) C dX6_atom4_0 (by decide) ?_
  refine g_istore_n (lv' := [(1, .int (0 : Int32)), (0, .ref (ad 0))]) C dX6_atom4_1 rfl (by decide) rfl ?_
  refine g_aload_n C dX6_atom4_2 rfl 1 rfl ?_
  refine g_bipush (v := (45 : Int32)) C dX6_atom4_3 (by decide) ?_
  obtain ⟨r1, hX2, h⟩ := bd1_inv h
  refine g_callV C (c_X6_isSign l hX2) (cwVw 1 C.2.2.2.2.1 wl_1241 wl_1243 wl_64 wl_121 wl_1244 rfl rfl (by decide +kernel) ⟨Nat.le_of_ble_eq_true rfl, Nat.le_of_ble_eq_true rfl⟩) mO_0 rfl rfl rfl rfl (Nat.le_of_ble_eq_true rfl) dX6_atom4_5 ?_
  refine g_if_eq (tgt := 37) C dX6_atom4_8 (by decide) h (fun h => ?_) (fun h => ?_)
  · refine g_aload_n C dX6_atom4_37 rfl 1 rfl ?_
    refine g_bipush (v := (40 : Int32)) C dX6_atom4_38 (by decide) ?_
    obtain ⟨r3, hX4, h⟩ := bd1_inv h
    refine g_callV C (c_X6_isSign l hX4) (cwVw 1 C.2.2.2.2.1 wl_1241 wl_1243 wl_64 wl_121 wl_1244 rfl rfl (by decide +kernel) ⟨Nat.le_of_ble_eq_true rfl, Nat.le_of_ble_eq_true rfl⟩) mO_0 rfl rfl rfl rfl (Nat.le_of_ble_eq_true rfl) dX6_atom4_40 ?_
    refine g_if_eq (tgt := 95) C dX6_atom4_43 (by decide) h (fun h => ?_) (fun h => ?_)
    · refine g_aload_n C dX6_atom4_95 rfl 1 rfl ?_
      refine g_get C (T := TX6) hcl6 mO_0 rfl (j := 32) (by decide) wl_951 (v := .int (rI m 0 32)) rfl dX6_atom4_96 ?_
      refine g_join_ h 123 ([(0, .ref (ad 0)), (1, .int (0 : Int32))]) ([]) ?_ ?_
      · intro h
        refine g_aload_n C dX6_atom4_123 rfl 0 rfl ?_
        refine g_get C (T := TX6) hcl6 mO_0 rfl (j := 32) (by decide) wl_951 (v := .int (rI m 0 32)) rfl dX6_atom4_124 ?_
        refine g_join_ h 157 ([(0, .ref (ad 0)), (1, .int (0 : Int32))]) ([]) ?_ ?_
        · intro h
          refine g_aload_n C dX6_atom4_157 rfl 0 rfl ?_
          obtain ⟨m8, hX7, h⟩ := bd1_inv h
          refine g_callV C (c_X6_fail l hX7) (cwVw 0 C.2.2.2.2.1 wl_1189 wl_1191 wl_51 wl_121 wl_1192 rfl rfl (by decide +kernel) ⟨Nat.le_of_ble_eq_true rfl, Nat.le_of_ble_eq_true rfl⟩) mO_0 rfl rfl rfl rfl (Nat.le_of_ble_eq_true rfl) dX6_atom4_158 ?_
          refine g_iload_n C dX6_atom4_161 rfl 1 rfl ?_
          obtain ⟨rfl, rfl⟩ := sp_inj h
          exact g_iret C hr hlk dX6_atom4_162 rfl
        intro J6 hJ6 h
        refine g_if_ne (tgt := 157) C dX6_atom4_127 (by decide) h (fun h => ?_) (fun h => ?_)
        · refine g_aload_n C dX6_atom4_130 rfl 0 rfl ?_
          refine g_get C (T := TX6) hcl6 mO_0 rfl (j := 28) (by decide) wl_947 (v := .int (rI m 0 28)) rfl dX6_atom4_131 ?_
          refine g_iconst (v := (1 : Int32)) C dX6_atom4_134 (by decide) ?_
          refine g_icmp_ne (tgt := 157) C dX6_atom4_135 (by decide) h (fun h => ?_) (fun h => ?_)
          · refine g_aload_n C dX6_atom4_138 rfl 0 rfl ?_
            obtain ⟨r9, m11, hX10, h⟩ := bd2_inv h
            refine g_callV C (c_X6_name l hX10) (cwVw 0 C.2.2.2.2.1 wl_1245 wl_1247 wl_65 wl_121 wl_1248 rfl rfl (by decide +kernel) ⟨Nat.le_of_ble_eq_true rfl, Nat.le_of_ble_eq_true rfl⟩) mO_0 rfl rfl rfl rfl (Nat.le_of_ble_eq_true rfl) dX6_atom4_139 ?_
            refine g_istore_n (lv' := [(1, .int r9), (0, .ref (ad 0))]) C dX6_atom4_142 rfl (by decide) rfl ?_
            refine g_aload_n C dX6_atom4_143 rfl 1 rfl ?_
            refine g_get C (T := TX6) hcl6 mO_0 rfl (j := 32) (by decide) wl_951 (v := .int (rI m11 0 32)) rfl dX6_atom4_144 ?_
            refine g_if_ne (tgt := 161) C dX6_atom4_147 (by decide) h (fun h => ?_) (fun h => ?_)
            · refine g_aload_n C dX6_atom4_150 rfl 1 rfl ?_
              obtain ⟨m13, hX12, h⟩ := bd1_inv h
              refine g_callV C (c_X6_next l hX12) (cwVw 0 C.2.2.2.2.1 wl_1165 wl_1167 wl_46 wl_121 wl_1168 rfl rfl (by decide +kernel) ⟨Nat.le_of_ble_eq_true rfl, Nat.le_of_ble_eq_true rfl⟩) mO_0 rfl rfl rfl rfl (Nat.le_of_ble_eq_true rfl) dX6_atom4_151 ?_
              refine g_goto (tgt := 161) C dX6_atom4_154 (by decide) ?_
              refine g_iload_n C dX6_atom4_161 rfl 0 rfl ?_
              obtain ⟨rfl, rfl⟩ := sp_inj h
              exact g_iret C hr hlk dX6_atom4_162 rfl
            · refine g_iload_n C dX6_atom4_161 rfl 0 rfl ?_
              obtain ⟨rfl, rfl⟩ := sp_inj h
              exact g_iret C hr hlk dX6_atom4_162 rfl
          · exact g_sub [0, 1] rfl (hJ6  h)
        · exact g_sub [0, 1] rfl (hJ6  h)
      intro J5 hJ5 h
      refine g_if_ne (tgt := 123) C dX6_atom4_99 (by decide) h (fun h => ?_) (fun h => ?_)
      · refine g_aload_n C dX6_atom4_102 rfl 1 rfl ?_
        refine g_get C (T := TX6) hcl6 mO_0 rfl (j := 28) (by decide) wl_947 (v := .int (rI m 0 28)) rfl dX6_atom4_103 ?_
        refine g_iconst (v := (2 : Int32)) C dX6_atom4_106 (by decide) ?_
        refine g_icmp_ne (tgt := 123) C dX6_atom4_107 (by decide) h (fun h => ?_) (fun h => ?_)
        · refine g_aload_n C dX6_atom4_110 rfl 1 rfl ?_
          refine g_get C (T := TX6) hcl6 mO_0 rfl (j := 30) (by decide) wl_949 (v := .long (rL m 0 30)) rfl dX6_atom4_111 ?_
          refine g_l2i C dX6_atom4_114 ?_
          refine nm_i h (fun x1_14 h => ?_)
          refine g_istore_n (lv' := [(1, .int x1_14), (0, .ref (ad 0))]) C dX6_atom4_115 rfl (by decide) rfl ?_
          refine g_aload_n C dX6_atom4_116 rfl 1 rfl ?_
          obtain ⟨m16, hX15, h⟩ := bd1_inv h
          refine g_callV C (c_X6_next l hX15) (cwVw 0 C.2.2.2.2.1 wl_1165 wl_1167 wl_46 wl_121 wl_1168 rfl rfl (by decide +kernel) ⟨Nat.le_of_ble_eq_true rfl, Nat.le_of_ble_eq_true rfl⟩) mO_0 rfl rfl rfl rfl (Nat.le_of_ble_eq_true rfl) dX6_atom4_117 ?_
          refine g_goto (tgt := 161) C dX6_atom4_120 (by decide) ?_
          refine g_iload_n C dX6_atom4_161 rfl 0 rfl ?_
          obtain ⟨rfl, rfl⟩ := sp_inj h
          exact g_iret C hr hlk dX6_atom4_162 rfl
        · exact g_sub [1, 0] rfl (hJ5  h)
      · exact g_sub [1, 0] rfl (hJ5  h)
    · refine g_aload_n C dX6_atom4_46 rfl 1 rfl ?_
      obtain ⟨r17, m19, hX18, h⟩ := bd2_inv h
      refine g_callV C (c_X6_opens l hX18) (cwVw 0 C.2.2.2.2.1 wl_1205 wl_1207 wl_55 wl_121 wl_1208 rfl rfl (by decide +kernel) ⟨Nat.le_of_ble_eq_true rfl, Nat.le_of_ble_eq_true rfl⟩) mO_0 rfl rfl rfl rfl (Nat.le_of_ble_eq_true rfl) dX6_atom4_47 ?_
      refine g_if_eq (tgt := 161) C dX6_atom4_50 (by decide) h (fun h => ?_) (fun h => ?_)
      · refine g_iload_n C dX6_atom4_161 rfl 0 rfl ?_
        obtain ⟨rfl, rfl⟩ := sp_inj h
        exact g_iret C hr hlk dX6_atom4_162 rfl
      · refine g_aload_n C dX6_atom4_53 rfl 1 rfl ?_
        obtain ⟨r20, m22, hX21, h⟩ := bd2_inv h
        refine g_callV C (c_X6_either5 l hX21) (cwVw 0 C.2.2.2.2.1 wl_1263 wl_1265 wl_69 wl_121 wl_1266 rfl rfl (by decide +kernel) ⟨Nat.le_of_ble_eq_true rfl, Nat.le_of_ble_eq_true rfl⟩) mO_0 rfl rfl rfl rfl (Nat.le_of_ble_eq_true rfl) dX6_atom4_54 ?_
        refine g_istore_n (lv' := [(1, .int r20), (0, .ref (ad 0))]) C dX6_atom4_57 rfl (by decide) rfl ?_
        refine g_aload_n C dX6_atom4_58 rfl 1 rfl ?_
        refine g_bipush (v := (41 : Int32)) C dX6_atom4_59 (by decide) ?_
        obtain ⟨r23, hX24, h⟩ := bd1_inv h
        refine g_callV C (c_X6_isSign l hX24) (cwVw 1 C.2.2.2.2.1 wl_1241 wl_1243 wl_64 wl_121 wl_1244 rfl rfl (by decide +kernel) ⟨Nat.le_of_ble_eq_true rfl, Nat.le_of_ble_eq_true rfl⟩) mO_0 rfl rfl rfl rfl (Nat.le_of_ble_eq_true rfl) dX6_atom4_61 ?_
        refine g_join_M h 71 (fun m25 => [(0, .ref (ad 0)), (1, .int r20)]) (fun m25 => []) ?_ ?_
        · intro m25 h
          refine g_aload_n C dX6_atom4_71 rfl 0 rfl ?_
          refine g_dup C dX6_atom4_72 rfl ?_
          refine g_get C (T := TX6) hcl6 mO_0 rfl (j := 31) (by decide) wl_950 (v := .int (rI m25 0 31)) rfl dX6_atom4_73 ?_
          refine g_iconst (v := (1 : Int32)) C dX6_atom4_76 (by decide) ?_
          refine g_isub C dX6_atom4_77 ?_
          refine g_putI C (T := TX6) hcl6 mO_0 rfl (j := 31) (by decide) wl_950 tyX6 tyX6_ok nmX6 rfl rfl pfX6_31 (plX6 31 (by decide)) dX6_atom4_78 h (fun m27 h => ?_)
          refine g_aload_n C dX6_atom4_81 rfl 0 rfl ?_
          refine g_get C (T := TX6) hcl6 mO_0 rfl (j := 32) (by decide) wl_951 (v := .int (rI m27 0 32)) rfl dX6_atom4_82 ?_
          refine g_if_ne (tgt := 161) C dX6_atom4_85 (by decide) h (fun h => ?_) (fun h => ?_)
          · refine g_aload_n C dX6_atom4_88 rfl 0 rfl ?_
            obtain ⟨m29, hX28, h⟩ := bd1_inv h
            refine g_callV C (c_X6_next l hX28) (cwVw 0 C.2.2.2.2.1 wl_1165 wl_1167 wl_46 wl_121 wl_1168 rfl rfl (by decide +kernel) ⟨Nat.le_of_ble_eq_true rfl, Nat.le_of_ble_eq_true rfl⟩) mO_0 rfl rfl rfl rfl (Nat.le_of_ble_eq_true rfl) dX6_atom4_89 ?_
            refine g_goto (tgt := 161) C dX6_atom4_92 (by decide) ?_
            refine g_iload_n C dX6_atom4_161 rfl 1 rfl ?_
            obtain ⟨rfl, rfl⟩ := sp_inj h
            exact g_iret C hr hlk dX6_atom4_162 rfl
          · refine g_iload_n C dX6_atom4_161 rfl 1 rfl ?_
            obtain ⟨rfl, rfl⟩ := sp_inj h
            exact g_iret C hr hlk dX6_atom4_162 rfl
        intro J26 hJ26 h
        refine g_if_ne (tgt := 71) C dX6_atom4_64 (by decide) h (fun h => ?_) (fun h => ?_)
        · refine g_aload_n C dX6_atom4_67 rfl 1 rfl ?_
          obtain ⟨m31, hX30, h⟩ := bd1_inv h
          refine g_callV C (c_X6_fail l hX30) (cwVw 0 C.2.2.2.2.1 wl_1189 wl_1191 wl_51 wl_121 wl_1192 rfl rfl (by decide +kernel) ⟨Nat.le_of_ble_eq_true rfl, Nat.le_of_ble_eq_true rfl⟩) mO_0 rfl rfl rfl rfl (Nat.le_of_ble_eq_true rfl) dX6_atom4_68 ?_
          exact g_sub [1, 0] rfl (hJ26 _ h)
        · exact g_sub [1, 0] rfl (hJ26 _ h)
  · refine g_aload_n C dX6_atom4_11 rfl 1 rfl ?_
    obtain ⟨r32, m34, hX33, h⟩ := bd2_inv h
    refine g_callV C (c_X6_opens l hX33) (cwVw 0 C.2.2.2.2.1 wl_1205 wl_1207 wl_55 wl_121 wl_1208 rfl rfl (by decide +kernel) ⟨Nat.le_of_ble_eq_true rfl, Nat.le_of_ble_eq_true rfl⟩) mO_0 rfl rfl rfl rfl (Nat.le_of_ble_eq_true rfl) dX6_atom4_12 ?_
    refine g_if_eq (tgt := 161) C dX6_atom4_15 (by decide) h (fun h => ?_) (fun h => ?_)
    · refine g_iload_n C dX6_atom4_161 rfl 0 rfl ?_
      obtain ⟨rfl, rfl⟩ := sp_inj h
      exact g_iret C hr hlk dX6_atom4_162 rfl
    · refine g_aload_n C dX6_atom4_18 rfl 1 rfl ?_
      obtain ⟨r35, m37, hX36, h⟩ := bd2_inv h
      refine g_callV C (c_X6_atom5 l hX36) (cwVw 0 C.2.2.2.2.1 wl_1237 wl_1239 wl_63 wl_121 wl_1240 rfl rfl (by decide +kernel) ⟨Nat.le_of_ble_eq_true rfl, Nat.le_of_ble_eq_true rfl⟩) mO_0 rfl rfl rfl rfl (Nat.le_of_ble_eq_true rfl) dX6_atom4_19 ?_
      refine g_ineg C dX6_atom4_22 ?_
      refine g_istore_n (lv' := [(1, .int (-r35)), (0, .ref (ad 0))]) C dX6_atom4_23 rfl (by decide) rfl ?_
      refine g_aload_n C dX6_atom4_24 rfl 1 rfl ?_
      refine g_dup C dX6_atom4_25 rfl ?_
      refine g_get C (T := TX6) hcl6 mO_0 rfl (j := 31) (by decide) wl_950 (v := .int (rI m37 0 31)) rfl dX6_atom4_26 ?_
      refine g_iconst (v := (1 : Int32)) C dX6_atom4_29 (by decide) ?_
      refine g_isub C dX6_atom4_30 ?_
      refine g_putI C (T := TX6) hcl6 mO_0 rfl (j := 31) (by decide) wl_950 tyX6 tyX6_ok nmX6 rfl rfl pfX6_31 (plX6 31 (by decide)) dX6_atom4_31 h (fun m38 h => ?_)
      refine g_goto (tgt := 161) C dX6_atom4_34 (by decide) ?_
      refine g_iload_n C dX6_atom4_161 rfl 0 rfl ?_
      obtain ⟨rfl, rfl⟩ := sp_inj h
      exact g_iret C hr hlk dX6_atom4_162 rfl

def rmX6_term4 : Room := { frames := 11, cells := 0, slots := 0, locals := 244 }
set_option maxRecDepth 100000 in
set_option maxHeartbeats 4000000 in
theorem c_X6_term4 (l : Launch) {F : Nat}    {m : MM} {m' : MM} {r : Int32} (h : f_X6_term4 F m = some (r, m')) : CT l yX6_term4 cX6_term4 2 (some .int) rmX6_term4 cfM 23 (fun ad tb => [.ref (ad 0)]) m (some (.int r)) m' := by
  refine CT.of (cc := cX6_term4) (maxL := 2) (ret := (some .int)) (by decide) ⟨rfl, rfl⟩ (fun _ _ => Nat.le_of_ble_eq_true rfl) ?_
  intro p e s mt args below meth c D cA ad tb C hr hlk
  refine g_lv (lv' := [(0, .ref (ad 0))]) rfl ?_
  unfold f_X6_term4 at h
  refine g_aload_n C dX6_term4_0 rfl 0 rfl ?_
  obtain ⟨r1, m3, hX2, h⟩ := bd2_inv h
  refine g_callV C (c_X6_atom4 l hX2) (cwVw 0 C.2.2.2.2.1 wl_1259 wl_1261 wl_68 wl_121 wl_1262 rfl rfl (by decide +kernel) ⟨Nat.le_of_ble_eq_true rfl, Nat.le_of_ble_eq_true rfl⟩) mO_0 rfl rfl rfl rfl (Nat.le_of_ble_eq_true rfl) dX6_term4_1 ?_
  refine g_istore_n (lv' := [(1, .int r1), (0, .ref (ad 0))]) C dX6_term4_4 rfl (by decide) rfl ?_
  refine g_sub [1, 0] rfl ?_
  refine g_loop_IM (L := f_X6_term4_L5 F) h 5 28 (fun x1_4 m5 => [(0, .ref (ad 0)), (1, .int x1_4)]) (fun x1_4 m5 => [(1, .int x1_4)]) (fun x1_4 m5 => []) (fun x1_4 m5 => []) ?_ ?_ (fun _ _ _ => rfl)
  · intro x1_4 m5 h
    refine g_iload_n C dX6_term4_28 rfl 0 rfl ?_
    obtain ⟨rfl, rfl⟩ := sp_inj h
    exact g_iret C hr hlk dX6_term4_29 rfl
  · intro K6 hK6 n ih x1_4 m5 h
    rw [f_X6_term4_L5] at h
    refine g_aload_n C dX6_term4_5 rfl 0 rfl ?_
    refine g_bipush (v := (42 : Int32)) C dX6_term4_6 (by decide) ?_
    obtain ⟨r7, hX8, h⟩ := bd1_inv h
    refine g_callV C (c_X6_isSign l hX8) (cwVw 1 C.2.2.2.2.1 wl_1241 wl_1243 wl_64 wl_121 wl_1244 rfl rfl (by decide +kernel) ⟨Nat.le_of_ble_eq_true rfl, Nat.le_of_ble_eq_true rfl⟩) mO_0 rfl rfl rfl rfl (Nat.le_of_ble_eq_true rfl) dX6_term4_8 ?_
    refine g_if_eq (tgt := 28) C dX6_term4_11 (by decide) h (fun h => ?_) (fun h => ?_)
    · exact g_sub [1] rfl (hK6 _ _ h)
    · refine g_aload_n C dX6_term4_14 rfl 0 rfl ?_
      obtain ⟨m10, hX9, h⟩ := bd1_inv h
      refine g_callV C (c_X6_next l hX9) (cwVw 0 C.2.2.2.2.1 wl_1165 wl_1167 wl_46 wl_121 wl_1168 rfl rfl (by decide +kernel) ⟨Nat.le_of_ble_eq_true rfl, Nat.le_of_ble_eq_true rfl⟩) mO_0 rfl rfl rfl rfl (Nat.le_of_ble_eq_true rfl) dX6_term4_15 ?_
      refine g_iload_n C dX6_term4_18 rfl 1 rfl ?_
      refine g_aload_n C dX6_term4_19 rfl 0 rfl ?_
      obtain ⟨r11, m13, hX12, h⟩ := bd2_inv h
      refine g_callV C (c_X6_atom4 l hX12) (cwVw 0 C.2.2.2.2.1 wl_1259 wl_1261 wl_68 wl_121 wl_1262 rfl rfl (by decide +kernel) ⟨Nat.le_of_ble_eq_true rfl, Nat.le_of_ble_eq_true rfl⟩) mO_0 rfl rfl rfl rfl (Nat.le_of_ble_eq_true rfl) dX6_term4_20 ?_
      refine g_imul C dX6_term4_23 ?_
      refine nm_i h (fun x1_14 h => ?_)
      refine g_istore_n (lv' := [(1, .int x1_14), (0, .ref (ad 0))]) C dX6_term4_24 rfl (by decide) rfl ?_
      refine g_goto (tgt := 5) C dX6_term4_25 (by decide) ?_
      exact g_sub [1, 0] rfl (ih _ _ h)

def rmX6_added4 : Room := { frames := 12, cells := 0, slots := 0, locals := 265 }
set_option maxRecDepth 100000 in
set_option maxHeartbeats 4000000 in
theorem c_X6_added4 (l : Launch) {F : Nat}    {m : MM} {m' : MM} {r : Int32} (h : f_X6_added4 F m = some (r, m')) : CT l yX6_added4 cX6_added4 4 (some .int) rmX6_added4 cfM 23 (fun ad tb => [.ref (ad 0)]) m (some (.int r)) m' := by
  refine CT.of (cc := cX6_added4) (maxL := 4) (ret := (some .int)) (by decide) ⟨rfl, rfl⟩ (fun _ _ => Nat.le_of_ble_eq_true rfl) ?_
  intro p e s mt args below meth c D cA ad tb C hr hlk
  refine g_lv (lv' := [(0, .ref (ad 0))]) rfl ?_
  have hcl6 : ∀ w ∈ wsX60, w.before args s = true := fun w hw => C.2.2.2.2.1 w (inlX6 w hw)
  unfold f_X6_added4 at h
  refine g_aload_n C dX6_added4_0 rfl 0 rfl ?_
  obtain ⟨r1, m3, hX2, h⟩ := bd2_inv h
  refine g_callV C (c_X6_term4 l hX2) (cwVw 0 C.2.2.2.2.1 wl_1255 wl_1257 wl_67 wl_121 wl_1258 rfl rfl (by decide +kernel) ⟨Nat.le_of_ble_eq_true rfl, Nat.le_of_ble_eq_true rfl⟩) mO_0 rfl rfl rfl rfl (Nat.le_of_ble_eq_true rfl) dX6_added4_1 ?_
  refine g_istore_n (lv' := [(1, .int r1), (0, .ref (ad 0))]) C dX6_added4_4 rfl (by decide) rfl ?_
  refine g_sub [1, 0] rfl ?_
  refine g_loop_IM (L := f_X6_added4_L5 F) h 5 66 (fun x1_4 m5 => [(0, .ref (ad 0)), (1, .int x1_4)]) (fun x1_4 m5 => [(1, .int x1_4)]) (fun x1_4 m5 => []) (fun x1_4 m5 => []) ?_ ?_ (fun _ _ _ => rfl)
  · intro x1_4 m5 h
    refine g_iload_n C dX6_added4_66 rfl 0 rfl ?_
    obtain ⟨rfl, rfl⟩ := sp_inj h
    exact g_iret C hr hlk dX6_added4_67 rfl
  · intro K6 hK6 n ih x1_4 m5 h
    rw [f_X6_added4_L5] at h
    refine g_aload_n C dX6_added4_5 rfl 0 rfl ?_
    refine g_bipush (v := (43 : Int32)) C dX6_added4_6 (by decide) ?_
    obtain ⟨r7, hX8, h⟩ := bd1_inv h
    refine g_callV C (c_X6_isSign l hX8) (cwVw 1 C.2.2.2.2.1 wl_1241 wl_1243 wl_64 wl_121 wl_1244 rfl rfl (by decide +kernel) ⟨Nat.le_of_ble_eq_true rfl, Nat.le_of_ble_eq_true rfl⟩) mO_0 rfl rfl rfl rfl (Nat.le_of_ble_eq_true rfl) dX6_added4_8 ?_
    refine g_join_ h 23 ([(0, .ref (ad 0)), (1, .int x1_4)]) ([]) ?_ ?_
    · intro h
      refine g_aload_n C dX6_added4_23 rfl 0 rfl ?_
      refine g_get C (T := TX6) hcl6 mO_0 rfl (j := 30) (by decide) wl_949 (v := .long (rL m5 0 30)) rfl dX6_added4_24 ?_
      refine g_ldc2 (v := (43 : Int64)) C dX6_added4_27 wl_1249 ?_
      refine g_lcmp C dX6_added4_30 ?_
      refine g_join_I h 39 (fun s10 => [(0, .ref (ad 0)), (1, .int x1_4)]) (fun s10 => [.int s10]) ?_ ?_
      · intro s10 h
        refine g_istore_n (lv' := [(2, .int s10), (0, .ref (ad 0)), (1, .int x1_4)]) C dX6_added4_39 rfl (by decide) rfl ?_
        refine g_aload_n C dX6_added4_40 rfl 1 rfl ?_
        obtain ⟨m13, hX12, h⟩ := bd1_inv h
        refine g_callV C (c_X6_next l hX12) (cwVw 0 C.2.2.2.2.1 wl_1165 wl_1167 wl_46 wl_121 wl_1168 rfl rfl (by decide +kernel) ⟨Nat.le_of_ble_eq_true rfl, Nat.le_of_ble_eq_true rfl⟩) mO_0 rfl rfl rfl rfl (Nat.le_of_ble_eq_true rfl) dX6_added4_41 ?_
        refine g_aload_n C dX6_added4_44 rfl 1 rfl ?_
        obtain ⟨r14, m16, hX15, h⟩ := bd2_inv h
        refine g_callV C (c_X6_term4 l hX15) (cwVw 0 C.2.2.2.2.1 wl_1255 wl_1257 wl_67 wl_121 wl_1258 rfl rfl (by decide +kernel) ⟨Nat.le_of_ble_eq_true rfl, Nat.le_of_ble_eq_true rfl⟩) mO_0 rfl rfl rfl rfl (Nat.le_of_ble_eq_true rfl) dX6_added4_45 ?_
        refine g_istore_n (lv' := [(3, .int r14), (2, .int s10), (0, .ref (ad 0)), (1, .int x1_4)]) C dX6_added4_48 rfl (by decide) rfl ?_
        refine g_iload_n C dX6_added4_49 rfl 1 rfl ?_
        refine g_join_I h 62 (fun s17 => [(0, .ref (ad 0))]) (fun s17 => [.int s17]) ?_ ?_
        · intro s17 h
          refine g_istore_n (lv' := [(1, .int s17), (0, .ref (ad 0))]) C dX6_added4_62 rfl (by decide) rfl ?_
          refine g_goto (tgt := 5) C dX6_added4_63 (by decide) ?_
          exact g_sub [1, 0] rfl (ih _ _ h)
        intro J18 hJ18 h
        refine g_if_eq (tgt := 59) C dX6_added4_50 (by decide) h (fun h => ?_) (fun h => ?_)
        · refine g_iload_n C dX6_added4_59 rfl 3 rfl ?_
          refine g_iload_n C dX6_added4_60 rfl 0 rfl ?_
          refine g_isub C dX6_added4_61 ?_
          exact g_sub [2] rfl (hJ18 _ h)
        · refine g_iload_n C dX6_added4_53 rfl 3 rfl ?_
          refine g_iload_n C dX6_added4_54 rfl 0 rfl ?_
          refine g_iadd C dX6_added4_55 ?_
          refine g_goto (tgt := 62) C dX6_added4_56 (by decide) ?_
          exact g_sub [2] rfl (hJ18 _ h)
      intro J11 hJ11 h
      refine g_if_ne (tgt := 38) C dX6_added4_31 (by decide) h (fun h => ?_) (fun h => ?_)
      · refine g_iconst (v := (1 : Int32)) C dX6_added4_34 (by decide) ?_
        refine g_goto (tgt := 39) C dX6_added4_35 (by decide) ?_
        exact g_sub [0, 1] rfl (hJ11 _ h)
      · refine g_iconst (v := (0 : Int32)) C dX6_added4_38 (by decide) ?_
        exact g_sub [0, 1] rfl (hJ11 _ h)
    intro J9 hJ9 h
    refine g_if_ne (tgt := 23) C dX6_added4_11 (by decide) h (fun h => ?_) (fun h => ?_)
    · refine g_aload_n C dX6_added4_14 rfl 0 rfl ?_
      refine g_bipush (v := (45 : Int32)) C dX6_added4_15 (by decide) ?_
      obtain ⟨r19, hX20, h⟩ := bd1_inv h
      refine g_callV C (c_X6_isSign l hX20) (cwVw 1 C.2.2.2.2.1 wl_1241 wl_1243 wl_64 wl_121 wl_1244 rfl rfl (by decide +kernel) ⟨Nat.le_of_ble_eq_true rfl, Nat.le_of_ble_eq_true rfl⟩) mO_0 rfl rfl rfl rfl (Nat.le_of_ble_eq_true rfl) dX6_added4_17 ?_
      refine g_if_eq (tgt := 66) C dX6_added4_20 (by decide) h (fun h => ?_) (fun h => ?_)
      · exact g_sub [1] rfl (hK6 _ _ h)
      · exact g_sub [0, 1] rfl (hJ9  h)
    · exact g_sub [0, 1] rfl (hJ9  h)

def rmX6_not4 : Room := { frames := 13, cells := 0, slots := 0, locals := 288 }
set_option maxRecDepth 100000 in
set_option maxHeartbeats 4000000 in
theorem c_X6_not4 (l : Launch) {F : Nat}    {m : MM} {m' : MM} {r : Int32} (h : f_X6_not4 F m = some (r, m')) : CT l yX6_not4 cX6_not4 4 (some .int) rmX6_not4 cfM 23 (fun ad tb => [.ref (ad 0)]) m (some (.int r)) m' := by
  refine CT.of (cc := cX6_not4) (maxL := 4) (ret := (some .int)) (by decide) ⟨rfl, rfl⟩ (fun _ _ => Nat.le_of_ble_eq_true rfl) ?_
  intro p e s mt args below meth c D cA ad tb C hr hlk
  refine g_lv (lv' := [(0, .ref (ad 0))]) rfl ?_
  have hcl6 : ∀ w ∈ wsX60, w.before args s = true := fun w hw => C.2.2.2.2.1 w (inlX6 w hw)
  unfold f_X6_not4 at h
  refine g_aload_n C dX6_not4_0 rfl 0 rfl ?_
  refine g_bipush (v := (110 : Int32)) C dX6_not4_1 (by decide) ?_
  refine g_bipush (v := (111 : Int32)) C dX6_not4_3 (by decide) ?_
  refine g_bipush (v := (116 : Int32)) C dX6_not4_5 (by decide) ?_
  refine g_iconst (v := (0 : Int32)) C dX6_not4_7 (by decide) ?_
  refine g_iconst (v := (0 : Int32)) C dX6_not4_8 (by decide) ?_
  refine g_iconst (v := (0 : Int32)) C dX6_not4_9 (by decide) ?_
  refine g_iconst (v := (0 : Int32)) C dX6_not4_10 (by decide) ?_
  refine g_iconst (v := (0 : Int32)) C dX6_not4_11 (by decide) ?_
  obtain ⟨r1, hX2, h⟩ := bd1_inv h
  refine g_callV C (c_X6_isWord l hX2) (cwVw 8 C.2.2.2.2.1 wl_1177 wl_1179 wl_48 wl_121 wl_1180 rfl rfl (by decide +kernel) ⟨Nat.le_of_ble_eq_true rfl, Nat.le_of_ble_eq_true rfl⟩) mO_0 rfl rfl rfl rfl (Nat.le_of_ble_eq_true rfl) dX6_not4_12 ?_
  refine g_if_eq (tgt := 52) C dX6_not4_15 (by decide) h (fun h => ?_) (fun h => ?_)
  · refine g_aload_n C dX6_not4_52 rfl 0 rfl ?_
    obtain ⟨r3, m5, hX4, h⟩ := bd2_inv h
    refine g_callV C (c_X6_added4 l hX4) (cwVw 0 C.2.2.2.2.1 wl_1251 wl_1253 wl_66 wl_121 wl_1254 rfl rfl (by decide +kernel) ⟨Nat.le_of_ble_eq_true rfl, Nat.le_of_ble_eq_true rfl⟩) mO_0 rfl rfl rfl rfl (Nat.le_of_ble_eq_true rfl) dX6_not4_53 ?_
    refine g_istore_n (lv' := [(1, .int r3), (0, .ref (ad 0))]) C dX6_not4_56 rfl (by decide) rfl ?_
    refine g_aload_n C dX6_not4_57 rfl 1 rfl ?_
    refine g_bipush (v := (60 : Int32)) C dX6_not4_58 (by decide) ?_
    obtain ⟨r6, hX7, h⟩ := bd1_inv h
    refine g_callV C (c_X6_isSign l hX7) (cwVw 1 C.2.2.2.2.1 wl_1241 wl_1243 wl_64 wl_121 wl_1244 rfl rfl (by decide +kernel) ⟨Nat.le_of_ble_eq_true rfl, Nat.le_of_ble_eq_true rfl⟩) mO_0 rfl rfl rfl rfl (Nat.le_of_ble_eq_true rfl) dX6_not4_60 ?_
    refine g_join_ h 77 ([(0, .ref (ad 0)), (1, .int r3)]) ([]) ?_ ?_
    · intro h
      refine g_aload_n C dX6_not4_77 rfl 0 rfl ?_
      refine g_get C (T := TX6) hcl6 mO_0 rfl (j := 30) (by decide) wl_949 (v := .long (rL m5 0 30)) rfl dX6_not4_78 ?_
      refine g_ldc2 (v := (60 : Int64)) C dX6_not4_81 wl_1250 ?_
      refine g_lcmp C dX6_not4_84 ?_
      refine g_join_I h 93 (fun s9 => [(0, .ref (ad 0)), (1, .int r3)]) (fun s9 => [.int s9]) ?_ ?_
      · intro s9 h
        refine g_istore_n (lv' := [(2, .int s9), (0, .ref (ad 0)), (1, .int r3)]) C dX6_not4_93 rfl (by decide) rfl ?_
        refine g_aload_n C dX6_not4_94 rfl 1 rfl ?_
        obtain ⟨m12, hX11, h⟩ := bd1_inv h
        refine g_callV C (c_X6_next l hX11) (cwVw 0 C.2.2.2.2.1 wl_1165 wl_1167 wl_46 wl_121 wl_1168 rfl rfl (by decide +kernel) ⟨Nat.le_of_ble_eq_true rfl, Nat.le_of_ble_eq_true rfl⟩) mO_0 rfl rfl rfl rfl (Nat.le_of_ble_eq_true rfl) dX6_not4_95 ?_
        refine g_aload_n C dX6_not4_98 rfl 1 rfl ?_
        obtain ⟨r13, m15, hX14, h⟩ := bd2_inv h
        refine g_callV C (c_X6_added4 l hX14) (cwVw 0 C.2.2.2.2.1 wl_1251 wl_1253 wl_66 wl_121 wl_1254 rfl rfl (by decide +kernel) ⟨Nat.le_of_ble_eq_true rfl, Nat.le_of_ble_eq_true rfl⟩) mO_0 rfl rfl rfl rfl (Nat.le_of_ble_eq_true rfl) dX6_not4_99 ?_
        refine g_istore_n (lv' := [(3, .int r13), (2, .int s9), (0, .ref (ad 0)), (1, .int r3)]) C dX6_not4_102 rfl (by decide) rfl ?_
        refine g_iload_n C dX6_not4_103 rfl 1 rfl ?_
        refine g_if_eq (tgt := 115) C dX6_not4_104 (by decide) h (fun h => ?_) (fun h => ?_)
        · refine g_iload_n C dX6_not4_115 rfl 3 rfl ?_
          refine g_iload_n C dX6_not4_116 rfl 0 rfl ?_
          refine g_icmp_ne (tgt := 124) C dX6_not4_117 (by decide) h (fun h => ?_) (fun h => ?_)
          · refine g_iconst (v := (1 : Int32)) C dX6_not4_120 (by decide) ?_
            refine g_goto (tgt := 125) C dX6_not4_121 (by decide) ?_
            obtain ⟨rfl, rfl⟩ := sp_inj h
            exact g_iret C hr hlk dX6_not4_125 rfl
          · refine g_iconst (v := (0 : Int32)) C dX6_not4_124 (by decide) ?_
            obtain ⟨rfl, rfl⟩ := sp_inj h
            exact g_iret C hr hlk dX6_not4_125 rfl
        · refine g_iload_n C dX6_not4_107 rfl 3 rfl ?_
          refine g_iload_n C dX6_not4_108 rfl 0 rfl ?_
          refine g_icmp_ge (tgt := 124) C dX6_not4_109 (by decide) h (fun h => ?_) (fun h => ?_)
          · refine g_iconst (v := (0 : Int32)) C dX6_not4_124 (by decide) ?_
            obtain ⟨rfl, rfl⟩ := sp_inj h
            exact g_iret C hr hlk dX6_not4_125 rfl
          · refine g_goto (tgt := 120) C dX6_not4_112 (by decide) ?_
            refine g_iconst (v := (1 : Int32)) C dX6_not4_120 (by decide) ?_
            refine g_goto (tgt := 125) C dX6_not4_121 (by decide) ?_
            obtain ⟨rfl, rfl⟩ := sp_inj h
            exact g_iret C hr hlk dX6_not4_125 rfl
      intro J10 hJ10 h
      refine g_if_ne (tgt := 92) C dX6_not4_85 (by decide) h (fun h => ?_) (fun h => ?_)
      · refine g_iconst (v := (1 : Int32)) C dX6_not4_88 (by decide) ?_
        refine g_goto (tgt := 93) C dX6_not4_89 (by decide) ?_
        exact g_sub [0, 1] rfl (hJ10 _ h)
      · refine g_iconst (v := (0 : Int32)) C dX6_not4_92 (by decide) ?_
        exact g_sub [0, 1] rfl (hJ10 _ h)
    intro J8 hJ8 h
    refine g_if_ne (tgt := 77) C dX6_not4_63 (by decide) h (fun h => ?_) (fun h => ?_)
    · refine g_aload_n C dX6_not4_66 rfl 1 rfl ?_
      refine g_bipush (v := (61 : Int32)) C dX6_not4_67 (by decide) ?_
      obtain ⟨r16, hX17, h⟩ := bd1_inv h
      refine g_callV C (c_X6_isSign l hX17) (cwVw 1 C.2.2.2.2.1 wl_1241 wl_1243 wl_64 wl_121 wl_1244 rfl rfl (by decide +kernel) ⟨Nat.le_of_ble_eq_true rfl, Nat.le_of_ble_eq_true rfl⟩) mO_0 rfl rfl rfl rfl (Nat.le_of_ble_eq_true rfl) dX6_not4_69 ?_
      refine g_if_ne (tgt := 77) C dX6_not4_72 (by decide) h (fun h => ?_) (fun h => ?_)
      · refine g_iload_n C dX6_not4_75 rfl 0 rfl ?_
        obtain ⟨rfl, rfl⟩ := sp_inj h
        exact g_iret C hr hlk dX6_not4_76 rfl
      · exact g_sub [1, 0] rfl (hJ8  h)
    · exact g_sub [1, 0] rfl (hJ8  h)
  · refine g_aload_n C dX6_not4_18 rfl 0 rfl ?_
    obtain ⟨r18, m20, hX19, h⟩ := bd2_inv h
    refine g_callV C (c_X6_opens l hX19) (cwVw 0 C.2.2.2.2.1 wl_1205 wl_1207 wl_55 wl_121 wl_1208 rfl rfl (by decide +kernel) ⟨Nat.le_of_ble_eq_true rfl, Nat.le_of_ble_eq_true rfl⟩) mO_0 rfl rfl rfl rfl (Nat.le_of_ble_eq_true rfl) dX6_not4_19 ?_
    refine g_if_ne (tgt := 27) C dX6_not4_22 (by decide) h (fun h => ?_) (fun h => ?_)
    · refine g_iconst (v := (0 : Int32)) C dX6_not4_25 (by decide) ?_
      obtain ⟨rfl, rfl⟩ := sp_inj h
      exact g_iret C hr hlk dX6_not4_26 rfl
    · refine g_aload_n C dX6_not4_27 rfl 0 rfl ?_
      obtain ⟨r21, m23, hX22, h⟩ := bd2_inv h
      refine g_callV C (c_X6_not5 l hX22) (cwVw 0 C.2.2.2.2.1 wl_1225 wl_1227 wl_60 wl_121 wl_1228 rfl rfl (by decide +kernel) ⟨Nat.le_of_ble_eq_true rfl, Nat.le_of_ble_eq_true rfl⟩) mO_0 rfl rfl rfl rfl (Nat.le_of_ble_eq_true rfl) dX6_not4_28 ?_
      refine g_istore_n (lv' := [(1, .int r21), (0, .ref (ad 0))]) C dX6_not4_31 rfl (by decide) rfl ?_
      refine g_aload_n C dX6_not4_32 rfl 1 rfl ?_
      refine g_dup C dX6_not4_33 rfl ?_
      refine g_get C (T := TX6) hcl6 mO_0 rfl (j := 31) (by decide) wl_950 (v := .int (rI m23 0 31)) rfl dX6_not4_34 ?_
      refine g_iconst (v := (1 : Int32)) C dX6_not4_37 (by decide) ?_
      refine g_isub C dX6_not4_38 ?_
      refine g_putI C (T := TX6) hcl6 mO_0 rfl (j := 31) (by decide) wl_950 tyX6 tyX6_ok nmX6 rfl rfl pfX6_31 (plX6 31 (by decide)) dX6_not4_39 h (fun m24 h => ?_)
      refine g_iload_n C dX6_not4_42 rfl 0 rfl ?_
      refine g_if_ne (tgt := 50) C dX6_not4_43 (by decide) h (fun h => ?_) (fun h => ?_)
      · refine g_iconst (v := (1 : Int32)) C dX6_not4_46 (by decide) ?_
        refine g_goto (tgt := 51) C dX6_not4_47 (by decide) ?_
        obtain ⟨rfl, rfl⟩ := sp_inj h
        exact g_iret C hr hlk dX6_not4_51 rfl
      · refine g_iconst (v := (0 : Int32)) C dX6_not4_50 (by decide) ?_
        obtain ⟨rfl, rfl⟩ := sp_inj h
        exact g_iret C hr hlk dX6_not4_51 rfl

def rmX6_both4 : Room := { frames := 14, cells := 0, slots := 0, locals := 311 }
set_option maxRecDepth 100000 in
set_option maxHeartbeats 4000000 in
theorem c_X6_both4 (l : Launch) {F : Nat}    {m : MM} {m' : MM} {r : Int32} (h : f_X6_both4 F m = some (r, m')) : CT l yX6_both4 cX6_both4 3 (some .int) rmX6_both4 cfM 23 (fun ad tb => [.ref (ad 0)]) m (some (.int r)) m' := by
  refine CT.of (cc := cX6_both4) (maxL := 3) (ret := (some .int)) (by decide) ⟨rfl, rfl⟩ (fun _ _ => Nat.le_of_ble_eq_true rfl) ?_
  intro p e s mt args below meth c D cA ad tb C hr hlk
  refine g_lv (lv' := [(0, .ref (ad 0))]) rfl ?_
  unfold f_X6_both4 at h
  refine g_aload_n C dX6_both4_0 rfl 0 rfl ?_
  obtain ⟨r1, m3, hX2, h⟩ := bd2_inv h
  refine g_callV C (c_X6_not4 l hX2) (cwVw 0 C.2.2.2.2.1 wl_1221 wl_1223 wl_59 wl_121 wl_1224 rfl rfl (by decide +kernel) ⟨Nat.le_of_ble_eq_true rfl, Nat.le_of_ble_eq_true rfl⟩) mO_0 rfl rfl rfl rfl (Nat.le_of_ble_eq_true rfl) dX6_both4_1 ?_
  refine g_istore_n (lv' := [(1, .int r1), (0, .ref (ad 0))]) C dX6_both4_4 rfl (by decide) rfl ?_
  refine g_sub [1, 0] rfl ?_
  refine g_loop_IM (L := f_X6_both4_L5 F) h 5 49 (fun x1_4 m5 => [(0, .ref (ad 0)), (1, .int x1_4)]) (fun x1_4 m5 => [(1, .int x1_4)]) (fun x1_4 m5 => []) (fun x1_4 m5 => []) ?_ ?_ (fun _ _ _ => rfl)
  · intro x1_4 m5 h
    refine g_iload_n C dX6_both4_49 rfl 0 rfl ?_
    obtain ⟨rfl, rfl⟩ := sp_inj h
    exact g_iret C hr hlk dX6_both4_50 rfl
  · intro K6 hK6 n ih x1_4 m5 h
    rw [f_X6_both4_L5] at h
    refine g_aload_n C dX6_both4_5 rfl 0 rfl ?_
    refine g_bipush (v := (97 : Int32)) C dX6_both4_6 (by decide) ?_
    refine g_bipush (v := (110 : Int32)) C dX6_both4_8 (by decide) ?_
    refine g_bipush (v := (100 : Int32)) C dX6_both4_10 (by decide) ?_
    refine g_iconst (v := (0 : Int32)) C dX6_both4_12 (by decide) ?_
    refine g_iconst (v := (0 : Int32)) C dX6_both4_13 (by decide) ?_
    refine g_iconst (v := (0 : Int32)) C dX6_both4_14 (by decide) ?_
    refine g_iconst (v := (0 : Int32)) C dX6_both4_15 (by decide) ?_
    refine g_iconst (v := (0 : Int32)) C dX6_both4_16 (by decide) ?_
    obtain ⟨r7, hX8, h⟩ := bd1_inv h
    refine g_callV C (c_X6_isWord l hX8) (cwVw 8 C.2.2.2.2.1 wl_1177 wl_1179 wl_48 wl_121 wl_1180 rfl rfl (by decide +kernel) ⟨Nat.le_of_ble_eq_true rfl, Nat.le_of_ble_eq_true rfl⟩) mO_0 rfl rfl rfl rfl (Nat.le_of_ble_eq_true rfl) dX6_both4_17 ?_
    refine g_if_eq (tgt := 49) C dX6_both4_20 (by decide) h (fun h => ?_) (fun h => ?_)
    · exact g_sub [1] rfl (hK6 _ _ h)
    · refine g_aload_n C dX6_both4_23 rfl 0 rfl ?_
      obtain ⟨m10, hX9, h⟩ := bd1_inv h
      refine g_callV C (c_X6_next l hX9) (cwVw 0 C.2.2.2.2.1 wl_1165 wl_1167 wl_46 wl_121 wl_1168 rfl rfl (by decide +kernel) ⟨Nat.le_of_ble_eq_true rfl, Nat.le_of_ble_eq_true rfl⟩) mO_0 rfl rfl rfl rfl (Nat.le_of_ble_eq_true rfl) dX6_both4_24 ?_
      refine g_aload_n C dX6_both4_27 rfl 0 rfl ?_
      obtain ⟨r11, m13, hX12, h⟩ := bd2_inv h
      refine g_callV C (c_X6_not4 l hX12) (cwVw 0 C.2.2.2.2.1 wl_1221 wl_1223 wl_59 wl_121 wl_1224 rfl rfl (by decide +kernel) ⟨Nat.le_of_ble_eq_true rfl, Nat.le_of_ble_eq_true rfl⟩) mO_0 rfl rfl rfl rfl (Nat.le_of_ble_eq_true rfl) dX6_both4_28 ?_
      refine g_istore_n (lv' := [(2, .int r11), (0, .ref (ad 0)), (1, .int x1_4)]) C dX6_both4_31 rfl (by decide) rfl ?_
      refine g_iload_n C dX6_both4_32 rfl 2 rfl ?_
      refine g_join_I h 45 (fun s14 => [(0, .ref (ad 0))]) (fun s14 => [.int s14]) ?_ ?_
      · intro s14 h
        refine g_istore_n (lv' := [(1, .int s14), (0, .ref (ad 0))]) C dX6_both4_45 rfl (by decide) rfl ?_
        refine g_goto (tgt := 5) C dX6_both4_46 (by decide) ?_
        exact g_sub [1, 0] rfl (ih _ _ h)
      intro J15 hJ15 h
      refine g_join_ h 44 ([(0, .ref (ad 0))]) ([]) ?_ ?_
      · intro h
        refine g_iconst (v := (0 : Int32)) C dX6_both4_44 (by decide) ?_
        exact g_sub [0] rfl (hJ15 _ h)
      intro J16 hJ16 h
      refine g_if_eq (tgt := 44) C dX6_both4_33 (by decide) h (fun h => ?_) (fun h => ?_)
      · exact g_sub [1] rfl (hJ16  h)
      · refine g_iload_n C dX6_both4_36 rfl 0 rfl ?_
        refine g_if_eq (tgt := 44) C dX6_both4_37 (by decide) h (fun h => ?_) (fun h => ?_)
        · exact g_sub [1] rfl (hJ16  h)
        · refine g_iconst (v := (1 : Int32)) C dX6_both4_40 (by decide) ?_
          refine g_goto (tgt := 45) C dX6_both4_41 (by decide) ?_
          exact g_sub [1] rfl (hJ15 _ h)
