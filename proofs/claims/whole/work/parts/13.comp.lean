/-! contracts: X1_look X5_think X1_countMoves X1_clearTurns X1_enterTurn X1_leaveTurn X1_placeOf X1_lookAround X1_spreadOnce X1_spread X1_spreadFromOpen X5_fewest X1_firstBest X1_price X5_countCosts X5_leastIf X1_floodOnce X1_flood -/
def rmX1_look : Room := { frames := 11, cells := 0, slots := 0, locals := 250 }
set_option maxRecDepth 100000 in
set_option maxHeartbeats 4000000 in
theorem c_X1_look (l : Launch) {F : Nat}    {m : MM} {m' : MM} (h : f_X1_look F m = some m') : CT l yX1_look cX1_look 3 none rmX1_look cfC 73 (fun ad tb => [.ref (ad 25), .ref (ad 17)]) m none m' := by
  refine CT.of (cc := cX1_look) (maxL := 3) (ret := none) (by decide) ⟨rfl, rfl⟩ (fun _ _ => Nat.le_of_ble_eq_true rfl) ?_
  intro p e s mt args below meth c D cA ad tb C hr hlk
  refine g_lv (lv' := [(0, .ref (ad 25)), (1, .ref (ad 17))]) rfl ?_
  have hcl0 : ∀ w ∈ wsX00, w.before args s = true := fun w hw => C.2.2.2.2.1 w (inlX0 w hw)
  have hcl1 : ∀ w ∈ wsX10, w.before args s = true := fun w hw => C.2.2.2.2.1 w (inlX1 w hw)
  unfold f_X1_look at h
  refine g_aload_n C dX1_look_0 rfl 0 rfl ?_
  refine g_aload_n C dX1_look_1 rfl 1 rfl ?_
  refine g_putLot C hcl1 wl_211 dX1_look_2 h (fun m1 h => ?_)
  refine g_aload_n C dX1_look_5 rfl 0 rfl ?_
  refine g_iconst (v := (1 : Int32)) C dX1_look_6 (by decide) ?_
  refine g_putI C (T := TX1) hcl1 cO_25 rfl (j := 11) (by decide) wl_212 tyX1 tyX1_ok nmX1 rfl rfl pfX1_11 (plX1 11 (by decide)) dX1_look_7 h (fun m2 h => ?_)
  refine g_aload_n C dX1_look_10 rfl 0 rfl ?_
  refine g_iconst (v := (0 : Int32)) C dX1_look_11 (by decide) ?_
  refine g_putI C (T := TX1) hcl1 cO_25 rfl (j := 12) (by decide) wl_213 tyX1 tyX1_ok nmX1 rfl rfl pfX1_12 (plX1 12 (by decide)) dX1_look_12 h (fun m3 h => ?_)
  refine g_iconst (v := (0 : Int32)) C dX1_look_15 (by decide) ?_
  refine g_istore_n (lv' := [(2, .int (0 : Int32)), (0, .ref (ad 25)), (1, .ref (ad 17))]) C dX1_look_16 rfl (by decide) rfl ?_
  refine g_sub [1, 0] rfl ?_
  refine g_loop_IM (L := f_X1_look_L17) h 17 106 (fun x2_4 m5 => [(0, .ref (ad 25)), (2, .int x2_4)]) (fun x2_4 m5 => [(0, .ref (ad 25))]) (fun x2_4 m5 => []) (fun x2_4 m5 => []) ?_ ?_ (fun _ _ _ => rfl)
  · intro x2_4 m5 h
    refine g_iconst (v := (0 : Int32)) C dX1_look_106 (by decide) ?_
    refine g_istore_n (lv' := [(2, .int (0 : Int32)), (0, .ref (ad 25))]) C dX1_look_107 rfl (by decide) rfl ?_
    refine g_sub [1, 0] rfl ?_
    refine g_loop_IM (L := f_X1_look_L108) h 108 129 (fun x2_14 m15 => [(0, .ref (ad 25)), (2, .int x2_14)]) (fun x2_14 m15 => [(0, .ref (ad 25))]) (fun x2_14 m15 => []) (fun x2_14 m15 => []) ?_ ?_ (fun _ _ _ => rfl)
    · intro x2_14 m15 h
      refine g_aload_n C dX1_look_129 rfl 0 rfl ?_
      refine g_iconst (v := (0 : Int32)) C dX1_look_130 (by decide) ?_
      refine g_iconst (v := (0 : Int32)) C dX1_look_131 (by decide) ?_
      obtain ⟨m20, hX19, h⟩ := bd1_inv h
      refine g_callV C (c_X1_lay l hX19) (cwVw 2 C.2.2.2.2.1 wl_700 wl_702 wl_19 wl_111 wl_703 rfl rfl (by decide +kernel) ⟨Nat.le_of_ble_eq_true rfl, Nat.le_of_ble_eq_true rfl⟩) cO_25 rfl rfl rfl rfl (Nat.le_of_ble_eq_true rfl) dX1_look_132 ?_
      refine g_aload_n C dX1_look_135 rfl 0 rfl ?_
      refine g_aload_n C dX1_look_136 rfl 0 rfl ?_
      refine g_get C (T := TX1) hcl1 cO_25 rfl (j := 12) (by decide) wl_213 (v := .int (rI m20 25 12)) rfl dX1_look_137 ?_
      obtain ⟨m22, hX21, h⟩ := bd1_inv h
      refine g_callV C (c_X1_split l hX21) (cwVw 1 C.2.2.2.2.1 wl_706 wl_708 wl_20 wl_111 wl_709 rfl rfl (by decide +kernel) ⟨Nat.le_of_ble_eq_true rfl, Nat.le_of_ble_eq_true rfl⟩) cO_25 rfl rfl rfl rfl (Nat.le_of_ble_eq_true rfl) dX1_look_140 ?_
      refine g_iconst (v := (0 : Int32)) C dX1_look_143 (by decide) ?_
      refine g_istore_n (lv' := [(2, .int (0 : Int32)), (0, .ref (ad 25))]) C dX1_look_144 rfl (by decide) rfl ?_
      refine g_sub [1, 0] rfl ?_
      refine g_loop_IM (L := f_X1_look_L145) h 145 192 (fun x2_23 m24 => [(0, .ref (ad 25)), (2, .int x2_23)]) (fun x2_23 m24 => []) (fun x2_23 m24 => []) (fun x2_23 m24 => []) ?_ ?_ (fun _ _ _ => rfl)
      · intro x2_23 m24 h
        obtain rfl := so_inj h
        exact g_vret C hr hlk dX1_look_192 rfl
      · intro K25 hK25 n ih x2_23 m24 h
        rw [f_X1_look_L145] at h
        refine g_iload_n C dX1_look_145 rfl 1 rfl ?_
        refine g_aload_n C dX1_look_146 rfl 0 rfl ?_
        refine g_getLot C hcl1 wl_211 dX1_look_147 h (fun h => ?_)
        refine g_get C (T := TX0) hcl0 cO_17 rfl (j := 8) (by decide) wl_155 (v := .int (rI m24 17 8)) rfl dX1_look_150 ?_
        refine g_icmp_ge (tgt := 192) C dX1_look_153 (by decide) h (fun h => ?_) (fun h => ?_)
        · exact g_sub [] rfl (hK25 _ _ h)
        · refine g_aload_n C dX1_look_156 rfl 0 rfl ?_
          refine g_getLot C hcl1 wl_211 dX1_look_157 h (fun h => ?_)
          refine g_get C (T := TX0) hcl0 cO_17 rfl (j := 6) (by decide) wl_150 (v := .ref (ad 24)) rfl dX1_look_160 ?_
          refine g_iload_n C dX1_look_163 rfl 1 rfl ?_
          refine g_iload_n C dX1_look_164 rfl 1 rfl ?_
          refine g_aload_n C dX1_look_165 rfl 0 rfl ?_
          refine g_getLot C hcl1 wl_211 dX1_look_166 h (fun h => ?_)
          refine g_get C (T := TX0) hcl0 cO_17 rfl (j := 12) (by decide) wl_165 (v := .int (rI m24 17 12)) rfl dX1_look_169 ?_
          refine g_join_I h 185 (fun s26 => [(0, .ref (ad 25)), (2, .int x2_23)]) (fun s26 => [.int s26, .int x2_23, .ref (ad 24)]) ?_ ?_
          · intro s26 h
            refine g_iast C cI_24 dX1_look_185 h (fun m28 h => ?_)
            refine g_iinc (lv' := [(0, .ref (ad 25))]) C dX1_look_186 (q := 1) rfl (by decide) h rfl (fun _ => rfl) (fun x2_29 h => ?_)
            refine g_goto (tgt := 145) C dX1_look_189 (by decide) ?_
            exact g_sub [1, 0] rfl (ih _ _ h)
          intro J27 hJ27 h
          refine g_icmp_ne (tgt := 179) C dX1_look_172 (by decide) h (fun h => ?_) (fun h => ?_)
          · refine g_iconst (v := (-1 : Int32)) C dX1_look_175 (by decide) ?_
            refine g_goto (tgt := 185) C dX1_look_176 (by decide) ?_
            exact g_sub [0, 1] rfl (hJ27 _ h)
          · refine g_aload_n C dX1_look_179 rfl 0 rfl ?_
            refine g_get C (T := TX1) hcl1 cO_25 rfl (j := 7) (by decide) wl_208 (v := .ref (ad 33)) rfl dX1_look_180 ?_
            refine g_iload_n C dX1_look_183 rfl 1 rfl ?_
            refine g_iald C cI_33 dX1_look_184 h (fun h => ?_)
            exact g_sub [0, 1] rfl (hJ27 _ h)
    · intro K16 hK16 n ih x2_14 m15 h
      rw [f_X1_look_L108] at h
      refine g_iload_n C dX1_look_108 rfl 1 rfl ?_
      refine g_aload_n C dX1_look_109 rfl 0 rfl ?_
      refine g_get C (T := TX1) hcl1 cO_25 rfl (j := 11) (by decide) wl_212 (v := .int (rI m15 25 11)) rfl dX1_look_110 ?_
      refine g_icmp_ge (tgt := 129) C dX1_look_113 (by decide) h (fun h => ?_) (fun h => ?_)
      · exact g_sub [0] rfl (hK16 _ _ h)
      · refine g_aload_n C dX1_look_116 rfl 0 rfl ?_
        refine g_get C (T := TX1) hcl1 cO_25 rfl (j := 0) (by decide) wl_201 (v := .ref (ad 26)) rfl dX1_look_117 ?_
        refine g_iload_n C dX1_look_120 rfl 1 rfl ?_
        refine g_iconst (v := (0 : Int32)) C dX1_look_121 (by decide) ?_
        refine g_iast C cI_26 dX1_look_122 h (fun m17 h => ?_)
        refine g_iinc (lv' := [(0, .ref (ad 25))]) C dX1_look_123 (q := 1) rfl (by decide) h rfl (fun _ => rfl) (fun x2_18 h => ?_)
        refine g_goto (tgt := 108) C dX1_look_126 (by decide) ?_
        exact g_sub [1, 0] rfl (ih _ _ h)
  · intro K6 hK6 n ih x2_4 m5 h
    rw [f_X1_look_L17] at h
    refine g_iload_n C dX1_look_17 rfl 1 rfl ?_
    refine g_aload_n C dX1_look_18 rfl 0 rfl ?_
    refine g_getLot C hcl1 wl_211 dX1_look_19 h (fun h => ?_)
    refine g_get C (T := TX0) hcl0 cO_17 rfl (j := 8) (by decide) wl_155 (v := .int (rI m5 17 8)) rfl dX1_look_22 ?_
    refine g_icmp_ge (tgt := 106) C dX1_look_25 (by decide) h (fun h => ?_) (fun h => ?_)
    · exact g_sub [0] rfl (hK6 _ _ h)
    · refine g_aload_n C dX1_look_28 rfl 0 rfl ?_
      refine g_get C (T := TX1) hcl1 cO_25 rfl (j := 6) (by decide) wl_207 (v := .ref (ad 32)) rfl dX1_look_29 ?_
      refine g_iload_n C dX1_look_32 rfl 1 rfl ?_
      refine g_aload_n C dX1_look_33 rfl 0 rfl ?_
      refine g_get C (T := TX1) hcl1 cO_25 rfl (j := 11) (by decide) wl_212 (v := .int (rI m5 25 11)) rfl dX1_look_34 ?_
      refine g_iast C cI_32 dX1_look_37 h (fun m7 h => ?_)
      refine g_aload_n C dX1_look_38 rfl 0 rfl ?_
      refine g_dup C dX1_look_39 rfl ?_
      refine g_get C (T := TX1) hcl1 cO_25 rfl (j := 11) (by decide) wl_212 (v := .int (rI m7 25 11)) rfl dX1_look_40 ?_
      refine g_aload_n C dX1_look_43 rfl 0 rfl ?_
      refine g_getLot C hcl1 wl_211 dX1_look_44 h (fun h => ?_)
      refine g_get C (T := TX0) hcl0 cO_17 rfl (j := 7) (by decide) wl_153 (v := .int (rI m7 17 7)) rfl dX1_look_47 ?_
      refine g_imul C dX1_look_50 ?_
      refine g_putI C (T := TX1) hcl1 cO_25 rfl (j := 11) (by decide) wl_212 tyX1 tyX1_ok nmX1 rfl rfl pfX1_11 (plX1 11 (by decide)) dX1_look_51 h (fun m8 h => ?_)
      refine g_iload_n C dX1_look_54 rfl 1 rfl ?_
      refine g_aload_n C dX1_look_55 rfl 0 rfl ?_
      refine g_getLot C hcl1 wl_211 dX1_look_56 h (fun h => ?_)
      refine g_get C (T := TX0) hcl0 cO_17 rfl (j := 12) (by decide) wl_165 (v := .int (rI m8 17 12)) rfl dX1_look_59 ?_
      refine g_join_M h 90 (fun m9 => [(0, .ref (ad 25)), (2, .int x2_4)]) (fun m9 => []) ?_ ?_
      · intro m9 h
        refine g_aload_n C dX1_look_90 rfl 0 rfl ?_
        refine g_getLot C hcl1 wl_211 dX1_look_91 h (fun h => ?_)
        refine g_get C (T := TX0) hcl0 cO_17 rfl (j := 6) (by decide) wl_150 (v := .ref (ad 24)) rfl dX1_look_94 ?_
        refine g_iload_n C dX1_look_97 rfl 1 rfl ?_
        refine g_iconst (v := (-1 : Int32)) C dX1_look_98 (by decide) ?_
        refine g_iast C cI_24 dX1_look_99 h (fun m11 h => ?_)
        refine g_iinc (lv' := [(0, .ref (ad 25))]) C dX1_look_100 (q := 1) rfl (by decide) h rfl (fun _ => rfl) (fun x2_12 h => ?_)
        refine g_goto (tgt := 17) C dX1_look_103 (by decide) ?_
        exact g_sub [1, 0] rfl (ih _ _ h)
      intro J10 hJ10 h
      refine g_icmp_eq (tgt := 90) C dX1_look_62 (by decide) h (fun h => ?_) (fun h => ?_)
      · exact g_sub [0, 1] rfl (hJ10 _ h)
      · refine g_aload_n C dX1_look_65 rfl 0 rfl ?_
        refine g_dup C dX1_look_66 rfl ?_
        refine g_get C (T := TX1) hcl1 cO_25 rfl (j := 12) (by decide) wl_213 (v := .int (rI m8 25 12)) rfl dX1_look_67 ?_
        refine g_aload_n C dX1_look_70 rfl 0 rfl ?_
        refine g_getLot C hcl1 wl_211 dX1_look_71 h (fun h => ?_)
        refine g_get C (T := TX0) hcl0 cO_17 rfl (j := 6) (by decide) wl_150 (v := .ref (ad 24)) rfl dX1_look_74 ?_
        refine g_iload_n C dX1_look_77 rfl 1 rfl ?_
        refine g_iald C cI_24 dX1_look_78 h (fun h => ?_)
        refine g_aload_n C dX1_look_79 rfl 0 rfl ?_
        refine g_get C (T := TX1) hcl1 cO_25 rfl (j := 6) (by decide) wl_207 (v := .ref (ad 32)) rfl dX1_look_80 ?_
        refine g_iload_n C dX1_look_83 rfl 1 rfl ?_
        refine g_iald C cI_32 dX1_look_84 h (fun h => ?_)
        refine g_imul C dX1_look_85 ?_
        refine g_iadd C dX1_look_86 ?_
        refine g_putI C (T := TX1) hcl1 cO_25 rfl (j := 12) (by decide) wl_213 tyX1 tyX1_ok nmX1 rfl rfl pfX1_12 (plX1 12 (by decide)) dX1_look_87 h (fun m13 h => ?_)
        exact g_sub [0, 1] rfl (hJ10 _ h)

def rmX5_think : Room := { frames := 12, cells := 0, slots := 0, locals := 272 }
set_option maxRecDepth 100000 in
set_option maxHeartbeats 4000000 in
theorem c_X5_think (l : Launch) {F : Nat}  {a0 : Int32} {a1 : Int32}  {m : MM} {m' : MM} (h : f_X5_think F a0 a1 m = some m') : CT l yX5_think cX5_think 3 none rmX5_think cfC 73 (fun ad tb => [.ref (ad 0), .int a0, .int a1]) m none m' := by
  refine CT.of (cc := cX5_think) (maxL := 3) (ret := none) (by decide) ⟨rfl, rfl⟩ (fun _ _ => Nat.le_of_ble_eq_true rfl) ?_
  intro p e s mt args below meth c D cA ad tb C hr hlk
  refine g_lv (lv' := [(0, .ref (ad 0)), (1, .int a0), (2, .int a1)]) rfl ?_
  have hcl0 : ∀ w ∈ wsX00, w.before args s = true := fun w hw => C.2.2.2.2.1 w (inlX0 w hw)
  have hcl5 : ∀ w ∈ wsX50, w.before args s = true := fun w hw => C.2.2.2.2.1 w (inlX5 w hw)
  unfold f_X5_think at h
  refine g_aload_n C dX5_think_0 rfl 0 rfl ?_
  refine g_get C (T := TX5) hcl5 cO_0 rfl (j := 2) (by decide) wl_484 (v := .ref (ad 17)) rfl dX5_think_1 ?_
  refine g_aload_n C dX5_think_4 rfl 0 rfl ?_
  refine g_get C (T := TX5) hcl5 cO_0 rfl (j := 0) (by decide) wl_482 (v := .ref (ad 1)) rfl dX5_think_5 ?_
  obtain ⟨m2, hX1, h⟩ := bd1_inv h
  refine g_callV C (c_X0_become l lot_17 lot_1 hX1) (cwVw 1 C.2.2.2.2.1 wl_689 wl_690 wl_691 wl_110 wl_692 rfl rfl (by decide +kernel) ⟨Nat.le_of_ble_eq_true rfl, Nat.le_of_ble_eq_true rfl⟩) cO_17 rfl rfl rfl rfl (Nat.le_of_ble_eq_true rfl) dX5_think_8 ?_
  refine g_aload_n C dX5_think_11 rfl 0 rfl ?_
  refine g_get C (T := TX5) hcl5 cO_0 rfl (j := 2) (by decide) wl_484 (v := .ref (ad 17)) rfl dX5_think_12 ?_
  refine g_iload_n C dX5_think_15 rfl 1 rfl ?_
  refine g_putI C (T := TX0) hcl0 cO_17 rfl (j := 12) (by decide) wl_166 tyX0 tyX0_ok nmX0 rfl rfl pfX0_12 (plX0 12 (by decide)) dX5_think_16 h (fun m3 h => ?_)
  refine g_iload_n C dX5_think_19 rfl 2 rfl ?_
  refine g_iconst (v := (-1 : Int32)) C dX5_think_20 (by decide) ?_
  refine g_join_M h 37 (fun m4 => [(0, .ref (ad 0))]) (fun m4 => []) ?_ ?_
  · intro m4 h
    refine g_aload_n C dX5_think_37 rfl 0 rfl ?_
    refine g_get C (T := TX5) hcl5 cO_0 rfl (j := 3) (by decide) wl_485 (v := .ref (ad 25)) rfl dX5_think_38 ?_
    refine g_aload_n C dX5_think_41 rfl 0 rfl ?_
    refine g_get C (T := TX5) hcl5 cO_0 rfl (j := 2) (by decide) wl_484 (v := .ref (ad 17)) rfl dX5_think_42 ?_
    obtain ⟨m7, hX6, h⟩ := bd1_inv h
    refine g_callV C (c_X1_look l hX6) (cwVw 1 C.2.2.2.2.1 wl_696 wl_697 wl_698 wl_111 wl_699 rfl rfl (by decide +kernel) ⟨Nat.le_of_ble_eq_true rfl, Nat.le_of_ble_eq_true rfl⟩) cO_25 rfl rfl rfl rfl (Nat.le_of_ble_eq_true rfl) dX5_think_45 ?_
    obtain rfl := so_inj h
    exact g_vret C hr hlk dX5_think_48 rfl
  intro J5 hJ5 h
  refine g_icmp_eq (tgt := 37) C dX5_think_21 (by decide) h (fun h => ?_) (fun h => ?_)
  · exact g_sub [0] rfl (hJ5 _ h)
  · refine g_aload_n C dX5_think_24 rfl 0 rfl ?_
    refine g_get C (T := TX5) hcl5 cO_0 rfl (j := 2) (by decide) wl_484 (v := .ref (ad 17)) rfl dX5_think_25 ?_
    refine g_get C (T := TX0) hcl0 cO_17 rfl (j := 2) (by decide) wl_142 (v := .ref (ad 20)) rfl dX5_think_28 ?_
    refine g_iload_n C dX5_think_31 rfl 2 rfl ?_
    refine g_dup2 C dX5_think_32 rfl rfl ?_
    refine g_iald C cI_20 dX5_think_33 h (fun h => ?_)
    refine g_iconst (v := (1 : Int32)) C dX5_think_34 (by decide) ?_
    refine g_iadd C dX5_think_35 ?_
    refine g_iast C cI_20 dX5_think_36 h (fun m8 h => ?_)
    exact g_sub [0] rfl (hJ5 _ h)

def rmX1_countMoves : Room := { frames := 0, cells := 0, slots := 0, locals := 0 }
set_option maxRecDepth 100000 in
set_option maxHeartbeats 4000000 in
theorem c_X1_countMoves (l : Launch) {F : Nat}    {m : MM} {m' : MM} (h : f_X1_countMoves F m = some m') : CT l yX1_countMoves cX1_countMoves 2 none rmX1_countMoves cfC 73 (fun ad tb => [.ref (ad 25)]) m none m' := by
  refine CT.of (cc := cX1_countMoves) (maxL := 2) (ret := none) (by decide) ⟨rfl, rfl⟩ (fun _ _ => Nat.le_of_ble_eq_true rfl) ?_
  intro p e s mt args below meth c D cA ad tb C hr hlk
  refine g_lv (lv' := [(0, .ref (ad 25))]) rfl ?_
  have hcl1 : ∀ w ∈ wsX10, w.before args s = true := fun w hw => C.2.2.2.2.1 w (inlX1 w hw)
  unfold f_X1_countMoves at h
  refine g_iconst (v := (0 : Int32)) C dX1_countMoves_0 (by decide) ?_
  refine g_istore_n (lv' := [(1, .int (0 : Int32)), (0, .ref (ad 25))]) C dX1_countMoves_1 rfl (by decide) rfl ?_
  refine g_sub [1, 0] rfl ?_
  refine g_loop_IM (L := f_X1_countMoves_L2) h 2 24 (fun x1_1 m2 => [(0, .ref (ad 25)), (1, .int x1_1)]) (fun x1_1 m2 => []) (fun x1_1 m2 => []) (fun x1_1 m2 => []) ?_ ?_ (fun _ _ _ => rfl)
  · intro x1_1 m2 h
    obtain rfl := so_inj h
    exact g_vret C hr hlk dX1_countMoves_24 rfl
  · intro K3 hK3 n ih x1_1 m2 h
    rw [f_X1_countMoves_L2] at h
    refine g_iload_n C dX1_countMoves_2 rfl 1 rfl ?_
    refine g_aload_n C dX1_countMoves_3 rfl 0 rfl ?_
    refine g_get C (T := TX1) hcl1 cO_25 rfl (j := 5) (by decide) wl_206 (v := .ref (ad 31)) rfl dX1_countMoves_4 ?_
    refine g_alen (v := (125 : Int32)) C cI_31 (by decide) dX1_countMoves_7 ?_
    refine g_icmp_ge (tgt := 24) C dX1_countMoves_8 (by decide) h (fun h => ?_) (fun h => ?_)
    · exact g_sub [] rfl (hK3 _ _ h)
    · refine g_aload_n C dX1_countMoves_11 rfl 0 rfl ?_
      refine g_get C (T := TX1) hcl1 cO_25 rfl (j := 5) (by decide) wl_206 (v := .ref (ad 31)) rfl dX1_countMoves_12 ?_
      refine g_iload_n C dX1_countMoves_15 rfl 1 rfl ?_
      refine g_iconst (v := (1 : Int32)) C dX1_countMoves_16 (by decide) ?_
      refine g_iast C cI_31 dX1_countMoves_17 h (fun m4 h => ?_)
      refine g_iinc (lv' := [(0, .ref (ad 25))]) C dX1_countMoves_18 (q := 1) rfl (by decide) h rfl (fun _ => rfl) (fun x1_5 h => ?_)
      refine g_goto (tgt := 2) C dX1_countMoves_21 (by decide) ?_
      exact g_sub [1, 0] rfl (ih _ _ h)

def rmX1_clearTurns : Room := { frames := 0, cells := 0, slots := 0, locals := 0 }
set_option maxRecDepth 100000 in
set_option maxHeartbeats 4000000 in
theorem c_X1_clearTurns (l : Launch) {F : Nat}    {m : MM} {m' : MM} (h : f_X1_clearTurns F m = some m') : CT l yX1_clearTurns cX1_clearTurns 2 none rmX1_clearTurns cfC 73 (fun ad tb => [.ref (ad 25)]) m none m' := by
  refine CT.of (cc := cX1_clearTurns) (maxL := 2) (ret := none) (by decide) ⟨rfl, rfl⟩ (fun _ _ => Nat.le_of_ble_eq_true rfl) ?_
  intro p e s mt args below meth c D cA ad tb C hr hlk
  refine g_lv (lv' := [(0, .ref (ad 25))]) rfl ?_
  have hcl1 : ∀ w ∈ wsX10, w.before args s = true := fun w hw => C.2.2.2.2.1 w (inlX1 w hw)
  unfold f_X1_clearTurns at h
  refine g_aload_n C dX1_clearTurns_0 rfl 0 rfl ?_
  refine g_iconst (v := (0 : Int32)) C dX1_clearTurns_1 (by decide) ?_
  refine g_putI C (T := TX1) hcl1 cO_25 rfl (j := 13) (by decide) wl_214 tyX1 tyX1_ok nmX1 rfl rfl pfX1_13 (plX1 13 (by decide)) dX1_clearTurns_2 h (fun m1 h => ?_)
  refine g_iconst (v := (0 : Int32)) C dX1_clearTurns_5 (by decide) ?_
  refine g_istore_n (lv' := [(1, .int (0 : Int32)), (0, .ref (ad 25))]) C dX1_clearTurns_6 rfl (by decide) rfl ?_
  refine g_sub [1, 0] rfl ?_
  refine g_loop_IM (L := f_X1_clearTurns_L7) h 7 28 (fun x1_2 m3 => [(0, .ref (ad 25)), (1, .int x1_2)]) (fun x1_2 m3 => [(0, .ref (ad 25))]) (fun x1_2 m3 => []) (fun x1_2 m3 => []) ?_ ?_ (fun _ _ _ => rfl)
  · intro x1_2 m3 h
    refine g_iconst (v := (0 : Int32)) C dX1_clearTurns_28 (by decide) ?_
    refine g_istore_n (lv' := [(1, .int (0 : Int32)), (0, .ref (ad 25))]) C dX1_clearTurns_29 rfl (by decide) rfl ?_
    refine g_sub [1, 0] rfl ?_
    refine g_loop_IM (L := f_X1_clearTurns_L30) h 30 49 (fun x1_7 m8 => [(0, .ref (ad 25)), (1, .int x1_7)]) (fun x1_7 m8 => []) (fun x1_7 m8 => []) (fun x1_7 m8 => []) ?_ ?_ (fun _ _ _ => rfl)
    · intro x1_7 m8 h
      obtain rfl := so_inj h
      exact g_vret C hr hlk dX1_clearTurns_49 rfl
    · intro K9 hK9 n ih x1_7 m8 h
      rw [f_X1_clearTurns_L30] at h
      refine g_iload_n C dX1_clearTurns_30 rfl 1 rfl ?_
      refine g_bipush (v := (100 : Int32)) C dX1_clearTurns_31 (by decide) ?_
      refine g_icmp_ge (tgt := 49) C dX1_clearTurns_33 (by decide) h (fun h => ?_) (fun h => ?_)
      · exact g_sub [] rfl (hK9 _ _ h)
      · refine g_aload_n C dX1_clearTurns_36 rfl 0 rfl ?_
        refine g_get C (T := TX1) hcl1 cO_25 rfl (j := 4) (by decide) wl_205 (v := .ref (ad 30)) rfl dX1_clearTurns_37 ?_
        refine g_iload_n C dX1_clearTurns_40 rfl 1 rfl ?_
        refine g_iconst (v := (-1 : Int32)) C dX1_clearTurns_41 (by decide) ?_
        refine g_iast C cI_30 dX1_clearTurns_42 h (fun m10 h => ?_)
        refine g_iinc (lv' := [(0, .ref (ad 25))]) C dX1_clearTurns_43 (q := 1) rfl (by decide) h rfl (fun _ => rfl) (fun x1_11 h => ?_)
        refine g_goto (tgt := 30) C dX1_clearTurns_46 (by decide) ?_
        exact g_sub [1, 0] rfl (ih _ _ h)
  · intro K4 hK4 n ih x1_2 m3 h
    rw [f_X1_clearTurns_L7] at h
    refine g_iload_n C dX1_clearTurns_7 rfl 1 rfl ?_
    refine g_aload_n C dX1_clearTurns_8 rfl 0 rfl ?_
    refine g_get C (T := TX1) hcl1 cO_25 rfl (j := 11) (by decide) wl_212 (v := .int (rI m3 25 11)) rfl dX1_clearTurns_9 ?_
    refine g_icmp_ge (tgt := 28) C dX1_clearTurns_12 (by decide) h (fun h => ?_) (fun h => ?_)
    · exact g_sub [0] rfl (hK4 _ _ h)
    · refine g_aload_n C dX1_clearTurns_15 rfl 0 rfl ?_
      refine g_get C (T := TX1) hcl1 cO_25 rfl (j := 1) (by decide) wl_202 (v := .ref (ad 27)) rfl dX1_clearTurns_16 ?_
      refine g_iload_n C dX1_clearTurns_19 rfl 1 rfl ?_
      refine g_iconst (v := (-1 : Int32)) C dX1_clearTurns_20 (by decide) ?_
      refine g_iast C cI_27 dX1_clearTurns_21 h (fun m5 h => ?_)
      refine g_iinc (lv' := [(0, .ref (ad 25))]) C dX1_clearTurns_22 (q := 1) rfl (by decide) h rfl (fun _ => rfl) (fun x1_6 h => ?_)
      refine g_goto (tgt := 7) C dX1_clearTurns_25 (by decide) ?_
      exact g_sub [1, 0] rfl (ih _ _ h)

def rmX1_enterTurn : Room := { frames := 0, cells := 0, slots := 0, locals := 0 }
set_option maxRecDepth 100000 in
set_option maxHeartbeats 4000000 in
theorem c_X1_enterTurn (l : Launch)  {a0 : Int32} {a1 : Int32}  {m : MM} {m' : MM} (h : f_X1_enterTurn a0 a1 m = some m') : CT l yX1_enterTurn cX1_enterTurn 5 none rmX1_enterTurn cfC 73 (fun ad tb => [.ref (ad 25), .int a0, .int a1]) m none m' := by
  refine CT.of (cc := cX1_enterTurn) (maxL := 5) (ret := none) (by decide) ⟨rfl, rfl⟩ (fun _ _ => Nat.le_of_ble_eq_true rfl) ?_
  intro p e s mt args below meth c D cA ad tb C hr hlk
  refine g_lv (lv' := [(0, .ref (ad 25)), (1, .int a0), (2, .int a1)]) rfl ?_
  have hcl1 : ∀ w ∈ wsX10, w.before args s = true := fun w hw => C.2.2.2.2.1 w (inlX1 w hw)
  unfold f_X1_enterTurn at h
  refine g_iload_n C dX1_enterTurn_0 rfl 2 rfl ?_
  refine g_bipush (v := (100 : Int32)) C dX1_enterTurn_1 (by decide) ?_
  refine g_irem C dX1_enterTurn_3 h (fun h => ?_)
  refine nm_i h (fun x3_1 h => ?_)
  refine g_istore_n (lv' := [(3, .int x3_1), (0, .ref (ad 25)), (1, .int a0), (2, .int a1)]) C dX1_enterTurn_4 rfl (by decide) rfl ?_
  refine g_aload_n C dX1_enterTurn_5 rfl 1 rfl ?_
  refine g_get C (T := TX1) hcl1 cO_25 rfl (j := 4) (by decide) wl_205 (v := .ref (ad 30)) rfl dX1_enterTurn_6 ?_
  refine g_iload_n C dX1_enterTurn_9 rfl 0 rfl ?_
  refine g_iald C cI_30 dX1_enterTurn_10 h (fun h => ?_)
  refine nm_i h (fun x4_2 h => ?_)
  refine g_istore (lv' := [(4, .int x4_2), (3, .int x3_1), (0, .ref (ad 25)), (1, .int a0), (2, .int a1)]) C dX1_enterTurn_11 (by decide) rfl ?_
  refine g_aload_n C dX1_enterTurn_13 rfl 2 rfl ?_
  refine g_get C (T := TX1) hcl1 cO_25 rfl (j := 1) (by decide) wl_202 (v := .ref (ad 27)) rfl dX1_enterTurn_14 ?_
  refine g_iload_n C dX1_enterTurn_17 rfl 3 rfl ?_
  refine g_iload_n C dX1_enterTurn_18 rfl 4 rfl ?_
  refine g_iast C cI_27 dX1_enterTurn_19 h (fun m3 h => ?_)
  refine g_aload_n C dX1_enterTurn_20 rfl 2 rfl ?_
  refine g_get C (T := TX1) hcl1 cO_25 rfl (j := 2) (by decide) wl_203 (v := .ref (ad 28)) rfl dX1_enterTurn_21 ?_
  refine g_iload_n C dX1_enterTurn_24 rfl 3 rfl ?_
  refine g_iload C dX1_enterTurn_25 0 rfl ?_
  refine g_iast C cI_28 dX1_enterTurn_27 h (fun m4 h => ?_)
  refine g_aload_n C dX1_enterTurn_28 rfl 2 rfl ?_
  refine g_get C (T := TX1) hcl1 cO_25 rfl (j := 3) (by decide) wl_204 (v := .ref (ad 29)) rfl dX1_enterTurn_29 ?_
  refine g_iload_n C dX1_enterTurn_32 rfl 3 rfl ?_
  refine g_iconst (v := (-1 : Int32)) C dX1_enterTurn_33 (by decide) ?_
  refine g_iast C cI_29 dX1_enterTurn_34 h (fun m5 h => ?_)
  refine g_iload C dX1_enterTurn_35 0 rfl ?_
  refine g_iconst (v := (-1 : Int32)) C dX1_enterTurn_37 (by decide) ?_
  refine g_join_M h 49 (fun m6 => [(0, .ref (ad 25)), (1, .int a0), (3, .int x3_1)]) (fun m6 => []) ?_ ?_
  · intro m6 h
    refine g_aload_n C dX1_enterTurn_49 rfl 0 rfl ?_
    refine g_get C (T := TX1) hcl1 cO_25 rfl (j := 4) (by decide) wl_205 (v := .ref (ad 30)) rfl dX1_enterTurn_50 ?_
    refine g_iload_n C dX1_enterTurn_53 rfl 2 rfl ?_
    refine g_iload_n C dX1_enterTurn_54 rfl 1 rfl ?_
    refine g_iast C cI_30 dX1_enterTurn_55 h (fun m8 h => ?_)
    refine g_aload_n C dX1_enterTurn_56 rfl 0 rfl ?_
    refine g_dup C dX1_enterTurn_57 rfl ?_
    refine g_get C (T := TX1) hcl1 cO_25 rfl (j := 13) (by decide) wl_214 (v := .int (rI m8 25 13)) rfl dX1_enterTurn_58 ?_
    refine g_iconst (v := (1 : Int32)) C dX1_enterTurn_61 (by decide) ?_
    refine g_iadd C dX1_enterTurn_62 ?_
    refine g_putI C (T := TX1) hcl1 cO_25 rfl (j := 13) (by decide) wl_214 tyX1 tyX1_ok nmX1 rfl rfl pfX1_13 (plX1 13 (by decide)) dX1_enterTurn_63 h (fun m9 h => ?_)
    obtain rfl := so_inj h
    exact g_vret C hr hlk dX1_enterTurn_66 rfl
  intro J7 hJ7 h
  refine g_icmp_eq (tgt := 49) C dX1_enterTurn_38 (by decide) h (fun h => ?_) (fun h => ?_)
  · exact g_sub [2, 3, 1] rfl (hJ7 _ h)
  · refine g_aload_n C dX1_enterTurn_41 rfl 2 rfl ?_
    refine g_get C (T := TX1) hcl1 cO_25 rfl (j := 3) (by decide) wl_204 (v := .ref (ad 29)) rfl dX1_enterTurn_42 ?_
    refine g_iload C dX1_enterTurn_45 0 rfl ?_
    refine g_iload_n C dX1_enterTurn_47 rfl 3 rfl ?_
    refine g_iast C cI_29 dX1_enterTurn_48 h (fun m10 h => ?_)
    exact g_sub [2, 3, 1] rfl (hJ7 _ h)

def rmX1_leaveTurn : Room := { frames := 0, cells := 0, slots := 0, locals := 0 }
set_option maxRecDepth 100000 in
set_option maxHeartbeats 4000000 in
theorem c_X1_leaveTurn (l : Launch)  {a0 : Int32}  {m : MM} {m' : MM} (h : f_X1_leaveTurn a0 m = some m') : CT l yX1_leaveTurn cX1_leaveTurn 2 none rmX1_leaveTurn cfC 73 (fun ad tb => [.ref (ad 25), .int a0]) m none m' := by
  refine CT.of (cc := cX1_leaveTurn) (maxL := 2) (ret := none) (by decide) ⟨rfl, rfl⟩ (fun _ _ => Nat.le_of_ble_eq_true rfl) ?_
  intro p e s mt args below meth c D cA ad tb C hr hlk
  refine g_lv (lv' := [(0, .ref (ad 25)), (1, .int a0)]) rfl ?_
  have hcl1 : ∀ w ∈ wsX10, w.before args s = true := fun w hw => C.2.2.2.2.1 w (inlX1 w hw)
  unfold f_X1_leaveTurn at h
  refine g_aload_n C dX1_leaveTurn_0 rfl 0 rfl ?_
  refine g_get C (T := TX1) hcl1 cO_25 rfl (j := 3) (by decide) wl_204 (v := .ref (ad 29)) rfl dX1_leaveTurn_1 ?_
  refine g_iload_n C dX1_leaveTurn_4 rfl 1 rfl ?_
  refine g_iald C cI_29 dX1_leaveTurn_5 h (fun h => ?_)
  refine g_iconst (v := (-1 : Int32)) C dX1_leaveTurn_6 (by decide) ?_
  refine g_join_M h 50 (fun m1 => [(0, .ref (ad 25)), (1, .int a0)]) (fun m1 => []) ?_ ?_
  · intro m1 h
    refine g_aload_n C dX1_leaveTurn_50 rfl 0 rfl ?_
    refine g_get C (T := TX1) hcl1 cO_25 rfl (j := 2) (by decide) wl_203 (v := .ref (ad 28)) rfl dX1_leaveTurn_51 ?_
    refine g_iload_n C dX1_leaveTurn_54 rfl 1 rfl ?_
    refine g_iald C cI_28 dX1_leaveTurn_55 h (fun h => ?_)
    refine g_iconst (v := (-1 : Int32)) C dX1_leaveTurn_56 (by decide) ?_
    refine g_join_M h 77 (fun m3 => [(0, .ref (ad 25))]) (fun m3 => []) ?_ ?_
    · intro m3 h
      refine g_aload_n C dX1_leaveTurn_77 rfl 0 rfl ?_
      refine g_dup C dX1_leaveTurn_78 rfl ?_
      refine g_get C (T := TX1) hcl1 cO_25 rfl (j := 13) (by decide) wl_214 (v := .int (rI m3 25 13)) rfl dX1_leaveTurn_79 ?_
      refine g_iconst (v := (1 : Int32)) C dX1_leaveTurn_82 (by decide) ?_
      refine g_isub C dX1_leaveTurn_83 ?_
      refine g_putI C (T := TX1) hcl1 cO_25 rfl (j := 13) (by decide) wl_214 tyX1 tyX1_ok nmX1 rfl rfl pfX1_13 (plX1 13 (by decide)) dX1_leaveTurn_84 h (fun m5 h => ?_)
      obtain rfl := so_inj h
      exact g_vret C hr hlk dX1_leaveTurn_87 rfl
    intro J4 hJ4 h
    refine g_icmp_eq (tgt := 77) C dX1_leaveTurn_57 (by decide) h (fun h => ?_) (fun h => ?_)
    · exact g_sub [0] rfl (hJ4 _ h)
    · refine g_aload_n C dX1_leaveTurn_60 rfl 0 rfl ?_
      refine g_get C (T := TX1) hcl1 cO_25 rfl (j := 3) (by decide) wl_204 (v := .ref (ad 29)) rfl dX1_leaveTurn_61 ?_
      refine g_aload_n C dX1_leaveTurn_64 rfl 0 rfl ?_
      refine g_get C (T := TX1) hcl1 cO_25 rfl (j := 2) (by decide) wl_203 (v := .ref (ad 28)) rfl dX1_leaveTurn_65 ?_
      refine g_iload_n C dX1_leaveTurn_68 rfl 1 rfl ?_
      refine g_iald C cI_28 dX1_leaveTurn_69 h (fun h => ?_)
      refine g_aload_n C dX1_leaveTurn_70 rfl 0 rfl ?_
      refine g_get C (T := TX1) hcl1 cO_25 rfl (j := 3) (by decide) wl_204 (v := .ref (ad 29)) rfl dX1_leaveTurn_71 ?_
      refine g_iload_n C dX1_leaveTurn_74 rfl 1 rfl ?_
      refine g_iald C cI_29 dX1_leaveTurn_75 h (fun h => ?_)
      refine g_iast C cI_29 dX1_leaveTurn_76 h (fun m6 h => ?_)
      exact g_sub [0] rfl (hJ4 _ h)
  intro J2 hJ2 h
  refine g_icmp_ne (tgt := 33) C dX1_leaveTurn_7 (by decide) h (fun h => ?_) (fun h => ?_)
  · refine g_aload_n C dX1_leaveTurn_10 rfl 0 rfl ?_
    refine g_get C (T := TX1) hcl1 cO_25 rfl (j := 4) (by decide) wl_205 (v := .ref (ad 30)) rfl dX1_leaveTurn_11 ?_
    refine g_aload_n C dX1_leaveTurn_14 rfl 0 rfl ?_
    refine g_get C (T := TX1) hcl1 cO_25 rfl (j := 1) (by decide) wl_202 (v := .ref (ad 27)) rfl dX1_leaveTurn_15 ?_
    refine g_iload_n C dX1_leaveTurn_18 rfl 1 rfl ?_
    refine g_iald C cI_27 dX1_leaveTurn_19 h (fun h => ?_)
    refine g_bipush (v := (100 : Int32)) C dX1_leaveTurn_20 (by decide) ?_
    refine g_irem C dX1_leaveTurn_22 h (fun h => ?_)
    refine g_aload_n C dX1_leaveTurn_23 rfl 0 rfl ?_
    refine g_get C (T := TX1) hcl1 cO_25 rfl (j := 2) (by decide) wl_203 (v := .ref (ad 28)) rfl dX1_leaveTurn_24 ?_
    refine g_iload_n C dX1_leaveTurn_27 rfl 1 rfl ?_
    refine g_iald C cI_28 dX1_leaveTurn_28 h (fun h => ?_)
    refine g_iast C cI_30 dX1_leaveTurn_29 h (fun m7 h => ?_)
    refine g_goto (tgt := 50) C dX1_leaveTurn_30 (by decide) ?_
    exact g_sub [0, 1] rfl (hJ2 _ h)
  · refine g_aload_n C dX1_leaveTurn_33 rfl 0 rfl ?_
    refine g_get C (T := TX1) hcl1 cO_25 rfl (j := 2) (by decide) wl_203 (v := .ref (ad 28)) rfl dX1_leaveTurn_34 ?_
    refine g_aload_n C dX1_leaveTurn_37 rfl 0 rfl ?_
    refine g_get C (T := TX1) hcl1 cO_25 rfl (j := 3) (by decide) wl_204 (v := .ref (ad 29)) rfl dX1_leaveTurn_38 ?_
    refine g_iload_n C dX1_leaveTurn_41 rfl 1 rfl ?_
    refine g_iald C cI_29 dX1_leaveTurn_42 h (fun h => ?_)
    refine g_aload_n C dX1_leaveTurn_43 rfl 0 rfl ?_
    refine g_get C (T := TX1) hcl1 cO_25 rfl (j := 2) (by decide) wl_203 (v := .ref (ad 28)) rfl dX1_leaveTurn_44 ?_
    refine g_iload_n C dX1_leaveTurn_47 rfl 1 rfl ?_
    refine g_iald C cI_28 dX1_leaveTurn_48 h (fun h => ?_)
    refine g_iast C cI_28 dX1_leaveTurn_49 h (fun m8 h => ?_)
    exact g_sub [0, 1] rfl (hJ2 _ h)

def rmX1_placeOf : Room := { frames := 0, cells := 0, slots := 0, locals := 0 }
set_option maxRecDepth 100000 in
set_option maxHeartbeats 4000000 in
theorem c_X1_placeOf (l : Launch)  {a0 : Int32} {a1 : Int32} {a2 : Int32}  {m : MM} {r : Int32} (h : f_X1_placeOf a0 a1 a2 m = some r) : CT l yX1_placeOf cX1_placeOf 3 (some .int) rmX1_placeOf cfC 73 (fun ad tb => [.int a0, .int a1, .int a2]) m (some (.int r)) m := by
  refine CT.of (cc := cX1_placeOf) (maxL := 3) (ret := (some .int)) (by decide) ⟨rfl, rfl⟩ (fun _ _ => Nat.le_of_ble_eq_true rfl) ?_
  intro p e s mt args below meth c D cA ad tb C hr hlk
  refine g_lv (lv' := [(0, .int a0), (1, .int a1), (2, .int a2)]) rfl ?_
  unfold f_X1_placeOf at h
  refine g_iload_n C dX1_placeOf_0 rfl 0 rfl ?_
  refine g_iconst (v := (5 : Int32)) C dX1_placeOf_1 (by decide) ?_
  refine g_imul C dX1_placeOf_2 ?_
  refine g_iload_n C dX1_placeOf_3 rfl 1 rfl ?_
  refine g_iadd C dX1_placeOf_4 ?_
  refine g_iconst (v := (5 : Int32)) C dX1_placeOf_5 (by decide) ?_
  refine g_imul C dX1_placeOf_6 ?_
  refine g_iload_n C dX1_placeOf_7 rfl 2 rfl ?_
  refine g_iadd C dX1_placeOf_8 ?_
  obtain rfl := so_inj h
  exact g_iret C hr hlk dX1_placeOf_9 rfl

def rmX1_lookAround : Room := { frames := 1, cells := 0, slots := 0, locals := 23 }
set_option maxRecDepth 100000 in
set_option maxHeartbeats 4000000 in
theorem c_X1_lookAround (l : Launch) {F : Nat}  {a0 : Int32}  {m : MM} {m' : MM} {r : Int32} (h : f_X1_lookAround F a0 m = some (r, m')) : CT l yX1_lookAround cX1_lookAround 7 (some .int) rmX1_lookAround cfC 73 (fun ad tb => [.ref (ad 25), .int a0]) m (some (.int r)) m' := by
  refine CT.of (cc := cX1_lookAround) (maxL := 7) (ret := (some .int)) (by decide) ⟨rfl, rfl⟩ (fun _ _ => Nat.le_of_ble_eq_true rfl) ?_
  intro p e s mt args below meth c D cA ad tb C hr hlk
  refine g_lv (lv' := [(0, .ref (ad 25)), (1, .int a0)]) rfl ?_
  have hcl0 : ∀ w ∈ wsX00, w.before args s = true := fun w hw => C.2.2.2.2.1 w (inlX0 w hw)
  have hcl1 : ∀ w ∈ wsX10, w.before args s = true := fun w hw => C.2.2.2.2.1 w (inlX1 w hw)
  unfold f_X1_lookAround at h
  refine g_iconst (v := (0 : Int32)) C dX1_lookAround_0 (by decide) ?_
  refine g_istore_n (lv' := [(2, .int (0 : Int32)), (0, .ref (ad 25)), (1, .int a0)]) C dX1_lookAround_1 rfl (by decide) rfl ?_
  refine g_aload_n C dX1_lookAround_2 rfl 1 rfl ?_
  refine g_iload_n C dX1_lookAround_3 rfl 2 rfl ?_
  obtain ⟨m2, hX1, h⟩ := bd1_inv h
  refine g_callV C (c_X1_split l hX1) (cwVw 1 C.2.2.2.2.1 wl_706 wl_708 wl_20 wl_111 wl_709 rfl rfl (by decide +kernel) ⟨Nat.le_of_ble_eq_true rfl, Nat.le_of_ble_eq_true rfl⟩) cO_25 rfl rfl rfl rfl (Nat.le_of_ble_eq_true rfl) dX1_lookAround_4 ?_
  refine g_iconst (v := (0 : Int32)) C dX1_lookAround_7 (by decide) ?_
  refine g_istore_n (lv' := [(3, .int (0 : Int32)), (2, .int (0 : Int32)), (0, .ref (ad 25)), (1, .int a0)]) C dX1_lookAround_8 rfl (by decide) rfl ?_
  refine g_sub [2, 3, 1, 0] rfl ?_
  refine g_loop_IIM (L := f_X1_lookAround_L9 F a0) h 9 121 (fun x2_3 x3_4 m5 => [(0, .ref (ad 25)), (1, .int a0), (2, .int x2_3), (3, .int x3_4)]) (fun x2_3 x3_4 m5 => [(2, .int x2_3)]) (fun x2_3 x3_4 m5 => []) (fun x2_3 x3_4 m5 => []) ?_ ?_ (fun _ _ _ _ => rfl)
  · intro x2_3 x3_4 m5 h
    refine g_iload_n C dX1_lookAround_121 rfl 0 rfl ?_
    obtain ⟨rfl, rfl⟩ := sp_inj h
    exact g_iret C hr hlk dX1_lookAround_122 rfl
  · intro K6 hK6 n ih x2_3 x3_4 m5 h
    rw [f_X1_lookAround_L9] at h
    refine g_iload_n C dX1_lookAround_9 rfl 3 rfl ?_
    refine g_aload_n C dX1_lookAround_10 rfl 0 rfl ?_
    refine g_getLot C hcl1 wl_211 dX1_lookAround_11 h (fun h => ?_)
    refine g_get C (T := TX0) hcl0 cO_17 rfl (j := 8) (by decide) wl_155 (v := .int (rI m5 17 8)) rfl dX1_lookAround_14 ?_
    refine g_icmp_ge (tgt := 121) C dX1_lookAround_17 (by decide) h (fun h => ?_) (fun h => ?_)
    · exact g_sub [2] rfl (hK6 _ _ _ h)
    · refine g_aload_n C dX1_lookAround_20 rfl 0 rfl ?_
      refine g_get C (T := TX1) hcl1 cO_25 rfl (j := 7) (by decide) wl_208 (v := .ref (ad 33)) rfl dX1_lookAround_21 ?_
      refine g_iload_n C dX1_lookAround_24 rfl 3 rfl ?_
      refine g_iald C cI_33 dX1_lookAround_25 h (fun h => ?_)
      refine nm_i h (fun x4_7 h => ?_)
      refine g_istore (lv' := [(4, .int x4_7), (0, .ref (ad 25)), (1, .int a0), (2, .int x2_3), (3, .int x3_4)]) C dX1_lookAround_26 (by decide) rfl ?_
      refine g_iload_n C dX1_lookAround_28 rfl 2 rfl ?_
      refine g_iload C dX1_lookAround_29 0 rfl ?_
      refine g_aload_n C dX1_lookAround_31 rfl 1 rfl ?_
      refine g_get C (T := TX1) hcl1 cO_25 rfl (j := 6) (by decide) wl_207 (v := .ref (ad 32)) rfl dX1_lookAround_32 ?_
      refine g_iload_n C dX1_lookAround_35 rfl 4 rfl ?_
      refine g_iald C cI_32 dX1_lookAround_36 h (fun h => ?_)
      refine g_imul C dX1_lookAround_37 ?_
      refine g_isub C dX1_lookAround_38 ?_
      refine nm_i h (fun x5_8 h => ?_)
      refine g_istore (lv' := [(5, .int x5_8), (4, .int x4_7), (0, .ref (ad 25)), (1, .int a0), (2, .int x2_3), (3, .int x3_4)]) C dX1_lookAround_39 (by decide) rfl ?_
      refine g_iconst (v := (0 : Int32)) C dX1_lookAround_41 (by decide) ?_
      refine g_istore (lv' := [(6, .int (0 : Int32)), (5, .int x5_8), (4, .int x4_7), (0, .ref (ad 25)), (1, .int a0), (2, .int x2_3), (3, .int x3_4)]) C dX1_lookAround_42 (by decide) rfl ?_
      refine g_sub [3, 4, 5, 6, 2, 1, 0] rfl ?_
      refine g_loop_IIIM (L := f_X1_lookAround_L44 x3_4 x4_7) h 44 115 (fun x2_9 x5_10 x6_11 m12 => [(0, .ref (ad 25)), (1, .int a0), (2, .int x2_9), (3, .int x3_4), (4, .int x4_7), (5, .int x5_10), (6, .int x6_11)]) (fun x2_9 x5_10 x6_11 m12 => [(0, .ref (ad 25)), (1, .int a0), (2, .int x2_9), (3, .int x3_4)]) (fun x2_9 x5_10 x6_11 m12 => []) (fun x2_9 x5_10 x6_11 m12 => []) ?_ ?_ (fun _ _ _ _ _ => rfl)
      · intro x2_9 x5_10 x6_11 m12 h
        refine g_iinc (lv' := [(0, .ref (ad 25)), (1, .int a0), (2, .int x2_9)]) C dX1_lookAround_115 (q := 3) rfl (by decide) h rfl (fun _ => rfl) (fun x3_24 h => ?_)
        refine g_goto (tgt := 9) C dX1_lookAround_118 (by decide) ?_
        exact g_sub [1, 2, 3, 0] rfl (ih _ _ _ h)
      · intro K13 hK13 n ih x2_9 x5_10 x6_11 m12 h
        rw [f_X1_lookAround_L44] at h
        refine g_iload C dX1_lookAround_44 6 rfl ?_
        refine g_aload_n C dX1_lookAround_46 rfl 0 rfl ?_
        refine g_getLot C hcl1 wl_211 dX1_lookAround_47 h (fun h => ?_)
        refine g_get C (T := TX0) hcl0 cO_17 rfl (j := 7) (by decide) wl_153 (v := .int (rI m12 17 7)) rfl dX1_lookAround_50 ?_
        refine g_icmp_ge (tgt := 115) C dX1_lookAround_53 (by decide) h (fun h => ?_) (fun h => ?_)
        · exact g_sub [0, 1, 2, 3] rfl (hK13 _ _ _ _ h)
        · refine g_iload C dX1_lookAround_56 6 rfl ?_
          refine g_iload C dX1_lookAround_58 4 rfl ?_
          refine g_join_IM h 98 (fun x2_14 m15 => [(0, .ref (ad 25)), (1, .int a0), (2, .int x2_14), (3, .int x3_4), (4, .int x4_7), (5, .int x5_10), (6, .int x6_11)]) (fun x2_14 m15 => []) ?_ ?_
          · intro x2_14 m15 h
            refine g_iload C dX1_lookAround_98 5 rfl ?_
            refine g_aload_n C dX1_lookAround_100 rfl 0 rfl ?_
            refine g_get C (T := TX1) hcl1 cO_25 rfl (j := 6) (by decide) wl_207 (v := .ref (ad 32)) rfl dX1_lookAround_101 ?_
            refine g_iload_n C dX1_lookAround_104 rfl 3 rfl ?_
            refine g_iald C cI_32 dX1_lookAround_105 h (fun h => ?_)
            refine g_iadd C dX1_lookAround_106 ?_
            refine nm_i h (fun x5_17 h => ?_)
            refine g_istore (lv' := [(5, .int x5_17), (0, .ref (ad 25)), (1, .int a0), (2, .int x2_14), (3, .int x3_4), (4, .int x4_7), (6, .int x6_11)]) C dX1_lookAround_107 (by decide) rfl ?_
            refine g_iinc (lv' := [(5, .int x5_17), (0, .ref (ad 25)), (1, .int a0), (2, .int x2_14), (3, .int x3_4), (4, .int x4_7)]) C dX1_lookAround_109 (q := 6) rfl (by decide) h rfl (fun _ => rfl) (fun x6_18 h => ?_)
            refine g_goto (tgt := 44) C dX1_lookAround_112 (by decide) ?_
            exact g_sub [2, 3, 4, 5, 6, 1, 0] rfl (ih _ _ _ _ h)
          intro J16 hJ16 h
          refine g_icmp_eq (tgt := 98) C dX1_lookAround_60 (by decide) h (fun h => ?_) (fun h => ?_)
          · exact g_sub [0, 1, 2, 3, 4, 5, 6] rfl (hJ16 _ _ h)
          · refine g_aload_n C dX1_lookAround_63 rfl 0 rfl ?_
            refine g_get C (T := TX1) hcl1 cO_25 rfl (j := 0) (by decide) wl_201 (v := .ref (ad 26)) rfl dX1_lookAround_64 ?_
            refine g_iload C dX1_lookAround_67 5 rfl ?_
            refine g_iald C cI_26 dX1_lookAround_69 h (fun h => ?_)
            refine g_if_eq (tgt := 98) C dX1_lookAround_70 (by decide) h (fun h => ?_) (fun h => ?_)
            · exact g_sub [0, 1, 2, 3, 4, 5, 6] rfl (hJ16 _ _ h)
            · refine g_aload_n C dX1_lookAround_73 rfl 0 rfl ?_
              refine g_get C (T := TX1) hcl1 cO_25 rfl (j := 8) (by decide) wl_209 (v := .ref (ad 34)) rfl dX1_lookAround_74 ?_
              refine g_iload_n C dX1_lookAround_77 rfl 2 rfl ?_
              refine g_iload C dX1_lookAround_78 5 rfl ?_
              refine g_iast C cI_34 dX1_lookAround_80 h (fun m19 h => ?_)
              refine g_aload_n C dX1_lookAround_81 rfl 0 rfl ?_
              refine g_get C (T := TX1) hcl1 cO_25 rfl (j := 9) (by decide) wl_210 (v := .ref (ad 35)) rfl dX1_lookAround_82 ?_
              refine g_iload_n C dX1_lookAround_85 rfl 2 rfl ?_
              refine g_iload_n C dX1_lookAround_86 rfl 3 rfl ?_
              refine g_iload C dX1_lookAround_87 6 rfl ?_
              refine g_iload C dX1_lookAround_89 4 rfl ?_
              obtain ⟨r20, hX21, h⟩ := bd1_inv h
              refine g_callS C (c_X1_placeOf l hX21) (cwSw 3 C.2.2.2.2.1 wl_743 wl_744 wl_111 wl_745 rfl rfl (by decide +kernel) ⟨Nat.le_of_ble_eq_true rfl, Nat.le_of_ble_eq_true rfl⟩) rfl rfl rfl (Nat.le_of_ble_eq_true rfl) dX1_lookAround_91 ?_
              refine g_iast C cI_35 dX1_lookAround_94 h (fun m22 h => ?_)
              refine g_iinc (lv' := [(0, .ref (ad 25)), (1, .int a0), (3, .int x3_4), (4, .int x4_7), (5, .int x5_10), (6, .int x6_11)]) C dX1_lookAround_95 (q := 2) rfl (by decide) h rfl (fun _ => rfl) (fun x2_23 h => ?_)
              exact g_sub [1, 2, 0, 3, 4, 5, 6] rfl (hJ16 _ _ h)

def rmX1_spreadOnce : Room := { frames := 2, cells := 0, slots := 0, locals := 49 }
set_option maxRecDepth 100000 in
set_option maxHeartbeats 4000000 in
theorem c_X1_spreadOnce (l : Launch) {F : Nat}  {a0 : Int32} {a1 : Int32}  {m : MM} {m' : MM} (h : f_X1_spreadOnce F a0 a1 m = some m') : CT l yX1_spreadOnce cX1_spreadOnce 7 none rmX1_spreadOnce cfC 73 (fun ad tb => [.ref (ad 25), .int a0, .int a1]) m none m' := by
  refine CT.of (cc := cX1_spreadOnce) (maxL := 7) (ret := none) (by decide) ⟨rfl, rfl⟩ (fun _ _ => Nat.le_of_ble_eq_true rfl) ?_
  intro p e s mt args below meth c D cA ad tb C hr hlk
  refine g_lv (lv' := [(0, .ref (ad 25)), (1, .int a0), (2, .int a1)]) rfl ?_
  have hcl1 : ∀ w ∈ wsX10, w.before args s = true := fun w hw => C.2.2.2.2.1 w (inlX1 w hw)
  unfold f_X1_spreadOnce at h
  refine g_aload_n C dX1_spreadOnce_0 rfl 0 rfl ?_
  refine g_iload_n C dX1_spreadOnce_1 rfl 1 rfl ?_
  obtain ⟨r1, m3, hX2, h⟩ := bd2_inv h
  refine g_callV C (c_X1_lookAround l hX2) (cwVw 1 C.2.2.2.2.1 wl_739 wl_741 wl_26 wl_111 wl_742 rfl rfl (by decide +kernel) ⟨Nat.le_of_ble_eq_true rfl, Nat.le_of_ble_eq_true rfl⟩) cO_25 rfl rfl rfl rfl (Nat.le_of_ble_eq_true rfl) dX1_spreadOnce_2 ?_
  refine g_istore_n (lv' := [(3, .int r1), (0, .ref (ad 25)), (1, .int a0), (2, .int a1)]) C dX1_spreadOnce_5 rfl (by decide) rfl ?_
  refine g_iconst (v := (0 : Int32)) C dX1_spreadOnce_6 (by decide) ?_
  refine g_istore (lv' := [(4, .int (0 : Int32)), (3, .int r1), (0, .ref (ad 25)), (1, .int a0), (2, .int a1)]) C dX1_spreadOnce_7 (by decide) rfl ?_
  refine g_sub [2, 4, 1, 0] rfl ?_
  refine g_loop_IM (L := f_X1_spreadOnce_L9 a1 r1) h 9 94 (fun x4_4 m5 => [(0, .ref (ad 25)), (2, .int a1), (3, .int r1), (4, .int x4_4)]) (fun x4_4 m5 => []) (fun x4_4 m5 => []) (fun x4_4 m5 => []) ?_ ?_ (fun _ _ _ => rfl)
  · intro x4_4 m5 h
    obtain rfl := so_inj h
    exact g_vret C hr hlk dX1_spreadOnce_94 rfl
  · intro K6 hK6 n ih x4_4 m5 h
    rw [f_X1_spreadOnce_L9] at h
    refine g_iload C dX1_spreadOnce_9 3 rfl ?_
    refine g_iload_n C dX1_spreadOnce_11 rfl 2 rfl ?_
    refine g_icmp_ge (tgt := 94) C dX1_spreadOnce_12 (by decide) h (fun h => ?_) (fun h => ?_)
    · exact g_sub [] rfl (hK6 _ _ h)
    · refine g_aload_n C dX1_spreadOnce_15 rfl 0 rfl ?_
      refine g_get C (T := TX1) hcl1 cO_25 rfl (j := 8) (by decide) wl_209 (v := .ref (ad 34)) rfl dX1_spreadOnce_16 ?_
      refine g_iload C dX1_spreadOnce_19 3 rfl ?_
      refine g_iald C cI_34 dX1_spreadOnce_21 h (fun h => ?_)
      refine nm_i h (fun x5_7 h => ?_)
      refine g_istore (lv' := [(5, .int x5_7), (0, .ref (ad 25)), (2, .int a1), (3, .int r1), (4, .int x4_4)]) C dX1_spreadOnce_22 (by decide) rfl ?_
      refine g_iload_n C dX1_spreadOnce_24 rfl 2 rfl ?_
      refine g_aload_n C dX1_spreadOnce_25 rfl 1 rfl ?_
      refine g_get C (T := TX1) hcl1 cO_25 rfl (j := 5) (by decide) wl_206 (v := .ref (ad 31)) rfl dX1_spreadOnce_26 ?_
      refine g_aload_n C dX1_spreadOnce_29 rfl 1 rfl ?_
      refine g_get C (T := TX1) hcl1 cO_25 rfl (j := 9) (by decide) wl_210 (v := .ref (ad 35)) rfl dX1_spreadOnce_30 ?_
      refine g_iload C dX1_spreadOnce_33 4 rfl ?_
      refine g_iald C cI_35 dX1_spreadOnce_35 h (fun h => ?_)
      refine g_iald C cI_31 dX1_spreadOnce_36 h (fun h => ?_)
      refine g_iadd C dX1_spreadOnce_37 ?_
      refine nm_i h (fun x6_8 h => ?_)
      refine g_istore (lv' := [(6, .int x6_8), (5, .int x5_7), (0, .ref (ad 25)), (2, .int a1), (3, .int r1), (4, .int x4_4)]) C dX1_spreadOnce_38 (by decide) rfl ?_
      refine g_aload_n C dX1_spreadOnce_40 rfl 2 rfl ?_
      refine g_get C (T := TX1) hcl1 cO_25 rfl (j := 1) (by decide) wl_202 (v := .ref (ad 27)) rfl dX1_spreadOnce_41 ?_
      refine g_iload C dX1_spreadOnce_44 1 rfl ?_
      refine g_iald C cI_27 dX1_spreadOnce_46 h (fun h => ?_)
      refine g_iconst (v := (-1 : Int32)) C dX1_spreadOnce_47 (by decide) ?_
      refine g_icmp_ne (tgt := 62) C dX1_spreadOnce_48 (by decide) h (fun h => ?_) (fun h => ?_)
      · refine g_aload_n C dX1_spreadOnce_51 rfl 2 rfl ?_
        refine g_iload C dX1_spreadOnce_52 1 rfl ?_
        refine g_iload C dX1_spreadOnce_54 0 rfl ?_
        obtain ⟨m10, hX9, h⟩ := bd1_inv h
        refine g_callV C (c_X1_enterTurn l hX9) (cwVw 2 C.2.2.2.2.1 wl_722 wl_724 wl_22 wl_111 wl_725 rfl rfl (by decide +kernel) ⟨Nat.le_of_ble_eq_true rfl, Nat.le_of_ble_eq_true rfl⟩) cO_25 rfl rfl rfl rfl (Nat.le_of_ble_eq_true rfl) dX1_spreadOnce_56 ?_
        refine g_goto (tgt := 88) C dX1_spreadOnce_59 (by decide) ?_
        refine g_iinc (lv' := [(6, .int x6_8), (5, .int x5_7), (0, .ref (ad 25)), (2, .int a1), (3, .int r1)]) C dX1_spreadOnce_88 (q := 5) rfl (by decide) h rfl (fun _ => rfl) (fun x4_11 h => ?_)
        refine g_goto (tgt := 9) C dX1_spreadOnce_91 (by decide) ?_
        exact g_sub [3, 4, 5, 0] rfl (ih _ _ h)
      · refine g_aload_n C dX1_spreadOnce_62 rfl 2 rfl ?_
        refine g_get C (T := TX1) hcl1 cO_25 rfl (j := 1) (by decide) wl_202 (v := .ref (ad 27)) rfl dX1_spreadOnce_63 ?_
        refine g_iload C dX1_spreadOnce_66 1 rfl ?_
        refine g_iald C cI_27 dX1_spreadOnce_68 h (fun h => ?_)
        refine g_iload C dX1_spreadOnce_69 0 rfl ?_
        refine g_icmp_le (tgt := 88) C dX1_spreadOnce_71 (by decide) h (fun h => ?_) (fun h => ?_)
        · refine g_iinc (lv' := [(6, .int x6_8), (5, .int x5_7), (0, .ref (ad 25)), (2, .int a1), (3, .int r1)]) C dX1_spreadOnce_88 (q := 5) rfl (by decide) h rfl (fun _ => rfl) (fun x4_12 h => ?_)
          refine g_goto (tgt := 9) C dX1_spreadOnce_91 (by decide) ?_
          exact g_sub [3, 4, 5, 0] rfl (ih _ _ h)
        · refine g_aload_n C dX1_spreadOnce_74 rfl 2 rfl ?_
          refine g_iload C dX1_spreadOnce_75 1 rfl ?_
          obtain ⟨m14, hX13, h⟩ := bd1_inv h
          refine g_callV C (c_X1_leaveTurn l hX13) (cwVw 1 C.2.2.2.2.1 wl_731 wl_733 wl_24 wl_111 wl_734 rfl rfl (by decide +kernel) ⟨Nat.le_of_ble_eq_true rfl, Nat.le_of_ble_eq_true rfl⟩) cO_25 rfl rfl rfl rfl (Nat.le_of_ble_eq_true rfl) dX1_spreadOnce_77 ?_
          refine g_aload_n C dX1_spreadOnce_80 rfl 2 rfl ?_
          refine g_iload C dX1_spreadOnce_81 1 rfl ?_
          refine g_iload C dX1_spreadOnce_83 0 rfl ?_
          obtain ⟨m16, hX15, h⟩ := bd1_inv h
          refine g_callV C (c_X1_enterTurn l hX15) (cwVw 2 C.2.2.2.2.1 wl_722 wl_724 wl_22 wl_111 wl_725 rfl rfl (by decide +kernel) ⟨Nat.le_of_ble_eq_true rfl, Nat.le_of_ble_eq_true rfl⟩) cO_25 rfl rfl rfl rfl (Nat.le_of_ble_eq_true rfl) dX1_spreadOnce_85 ?_
          refine g_iinc (lv' := [(6, .int x6_8), (5, .int x5_7), (0, .ref (ad 25)), (2, .int a1), (3, .int r1)]) C dX1_spreadOnce_88 (q := 5) rfl (by decide) h rfl (fun _ => rfl) (fun x4_17 h => ?_)
          refine g_goto (tgt := 9) C dX1_spreadOnce_91 (by decide) ?_
          exact g_sub [3, 4, 5, 0] rfl (ih _ _ h)

def rmX1_spread : Room := { frames := 3, cells := 0, slots := 0, locals := 75 }
set_option maxRecDepth 100000 in
set_option maxHeartbeats 4000000 in
theorem c_X1_spread (l : Launch) {F : Nat}  {a0 : Int32}  {m : MM} {m' : MM} {r : Int32} (h : f_X1_spread F a0 m = some (r, m')) : CT l yX1_spread cX1_spread 5 (some .int) rmX1_spread cfC 73 (fun ad tb => [.ref (ad 25), .int a0]) m (some (.int r)) m' := by
  refine CT.of (cc := cX1_spread) (maxL := 5) (ret := (some .int)) (by decide) ⟨rfl, rfl⟩ (fun _ _ => Nat.le_of_ble_eq_true rfl) ?_
  intro p e s mt args below meth c D cA ad tb C hr hlk
  refine g_lv (lv' := [(0, .ref (ad 25)), (1, .int a0)]) rfl ?_
  have hcl1 : ∀ w ∈ wsX10, w.before args s = true := fun w hw => C.2.2.2.2.1 w (inlX1 w hw)
  unfold f_X1_spread at h
  refine g_iconst (v := (0 : Int32)) C dX1_spread_0 (by decide) ?_
  refine g_istore_n (lv' := [(2, .int (0 : Int32)), (0, .ref (ad 25)), (1, .int a0)]) C dX1_spread_1 rfl (by decide) rfl ?_
  refine g_sub [1, 2, 0] rfl ?_
  refine g_loop_IM (L := f_X1_spread_L2 F a0) h 2 114 (fun x2_1 m2 => [(0, .ref (ad 25)), (1, .int a0), (2, .int x2_1)]) (fun x2_1 m2 => [(0, .ref (ad 25))]) (fun x2_1 m2 => []) (fun x2_1 m2 => []) ?_ ?_ (fun _ _ _ => rfl)
  · intro x2_1 m2 h
    refine g_aload_n C dX1_spread_114 rfl 0 rfl ?_
    refine g_get C (T := TX1) hcl1 cO_25 rfl (j := 1) (by decide) wl_202 (v := .ref (ad 27)) rfl dX1_spread_115 ?_
    refine g_aload_n C dX1_spread_118 rfl 0 rfl ?_
    refine g_get C (T := TX1) hcl1 cO_25 rfl (j := 12) (by decide) wl_213 (v := .int (rI m2 25 12)) rfl dX1_spread_119 ?_
    refine g_iald C cI_27 dX1_spread_122 h (fun h => ?_)
    obtain ⟨rfl, rfl⟩ := sp_inj h
    exact g_iret C hr hlk dX1_spread_123 rfl
  · intro K3 hK3 n ih x2_1 m2 h
    rw [f_X1_spread_L2] at h
    refine g_iload_n C dX1_spread_2 rfl 2 rfl ?_
    refine g_ldc (v := (309375 : Int32)) C dX1_spread_3 wl_730 ?_
    refine g_icmp_gt (tgt := 114) C dX1_spread_5 (by decide) h (fun h => ?_) (fun h => ?_)
    · exact g_sub [0] rfl (hK3 _ _ h)
    · refine g_aload_n C dX1_spread_8 rfl 0 rfl ?_
      refine g_get C (T := TX1) hcl1 cO_25 rfl (j := 13) (by decide) wl_214 (v := .int (rI m2 25 13)) rfl dX1_spread_9 ?_
      refine g_if_le (tgt := 114) C dX1_spread_12 (by decide) h (fun h => ?_) (fun h => ?_)
      · exact g_sub [0] rfl (hK3 _ _ h)
      · refine g_iload_n C dX1_spread_15 rfl 1 rfl ?_
        refine g_join_ h 55 ([(0, .ref (ad 25)), (1, .int a0), (2, .int x2_1)]) ([]) ?_ ?_
        · intro h
          refine g_iconst (v := (0 : Int32)) C dX1_spread_55 (by decide) ?_
          refine g_istore_n (lv' := [(3, .int (0 : Int32)), (0, .ref (ad 25)), (1, .int a0), (2, .int x2_1)]) C dX1_spread_56 rfl (by decide) rfl ?_
          refine g_sub [1, 2, 3, 0] rfl ?_
          refine g_loop_IM (L := f_X1_spread_L57 F x2_1) h 57 108 (fun x3_5 m6 => [(0, .ref (ad 25)), (1, .int a0), (2, .int x2_1), (3, .int x3_5)]) (fun x3_5 m6 => [(0, .ref (ad 25)), (1, .int a0), (2, .int x2_1)]) (fun x3_5 m6 => []) (fun x3_5 m6 => []) ?_ ?_ (fun _ _ _ => rfl)
          · intro x3_5 m6 h
            refine g_iinc (lv' := [(0, .ref (ad 25)), (1, .int a0)]) C dX1_spread_108 (q := 2) rfl (by decide) h rfl (fun _ => rfl) (fun x2_14 h => ?_)
            refine g_goto (tgt := 2) C dX1_spread_111 (by decide) ?_
            exact g_sub [1, 2, 0] rfl (ih _ _ h)
          · intro K7 hK7 n ih x3_5 m6 h
            rw [f_X1_spread_L57] at h
            refine g_iload_n C dX1_spread_57 rfl 3 rfl ?_
            refine g_aload_n C dX1_spread_58 rfl 0 rfl ?_
            refine g_get C (T := TX1) hcl1 cO_25 rfl (j := 11) (by decide) wl_212 (v := .int (rI m6 25 11)) rfl dX1_spread_59 ?_
            refine g_icmp_ge (tgt := 108) C dX1_spread_62 (by decide) h (fun h => ?_) (fun h => ?_)
            · exact g_sub [0, 1, 2] rfl (hK7 _ _ h)
            · refine g_aload_n C dX1_spread_65 rfl 0 rfl ?_
              refine g_get C (T := TX1) hcl1 cO_25 rfl (j := 4) (by decide) wl_205 (v := .ref (ad 30)) rfl dX1_spread_66 ?_
              refine g_iload_n C dX1_spread_69 rfl 2 rfl ?_
              refine g_bipush (v := (100 : Int32)) C dX1_spread_70 (by decide) ?_
              refine g_irem C dX1_spread_72 h (fun h => ?_)
              refine g_iald C cI_30 dX1_spread_73 h (fun h => ?_)
              refine g_iconst (v := (-1 : Int32)) C dX1_spread_74 (by decide) ?_
              refine g_icmp_eq (tgt := 108) C dX1_spread_75 (by decide) h (fun h => ?_) (fun h => ?_)
              · exact g_sub [0, 1, 2] rfl (hK7 _ _ h)
              · refine g_aload_n C dX1_spread_78 rfl 0 rfl ?_
                refine g_get C (T := TX1) hcl1 cO_25 rfl (j := 4) (by decide) wl_205 (v := .ref (ad 30)) rfl dX1_spread_79 ?_
                refine g_iload_n C dX1_spread_82 rfl 2 rfl ?_
                refine g_bipush (v := (100 : Int32)) C dX1_spread_83 (by decide) ?_
                refine g_irem C dX1_spread_85 h (fun h => ?_)
                refine g_iald C cI_30 dX1_spread_86 h (fun h => ?_)
                refine nm_i h (fun x4_8 h => ?_)
                refine g_istore (lv' := [(4, .int x4_8), (0, .ref (ad 25)), (1, .int a0), (2, .int x2_1), (3, .int x3_5)]) C dX1_spread_87 (by decide) rfl ?_
                refine g_aload_n C dX1_spread_89 rfl 1 rfl ?_
                refine g_iload C dX1_spread_90 0 rfl ?_
                obtain ⟨m10, hX9, h⟩ := bd1_inv h
                refine g_callV C (c_X1_leaveTurn l hX9) (cwVw 1 C.2.2.2.2.1 wl_731 wl_733 wl_24 wl_111 wl_734 rfl rfl (by decide +kernel) ⟨Nat.le_of_ble_eq_true rfl, Nat.le_of_ble_eq_true rfl⟩) cO_25 rfl rfl rfl rfl (Nat.le_of_ble_eq_true rfl) dX1_spread_92 ?_
                refine g_aload_n C dX1_spread_95 rfl 1 rfl ?_
                refine g_iload C dX1_spread_96 0 rfl ?_
                refine g_iload_n C dX1_spread_98 rfl 3 rfl ?_
                obtain ⟨m12, hX11, h⟩ := bd1_inv h
                refine g_callV C (c_X1_spreadOnce l hX11) (cwVw 2 C.2.2.2.2.1 wl_735 wl_737 wl_25 wl_111 wl_738 rfl rfl (by decide +kernel) ⟨Nat.le_of_ble_eq_true rfl, Nat.le_of_ble_eq_true rfl⟩) cO_25 rfl rfl rfl rfl (Nat.le_of_ble_eq_true rfl) dX1_spread_99 ?_
                refine g_iinc (lv' := [(4, .int x4_8), (0, .ref (ad 25)), (1, .int a0), (2, .int x2_1)]) C dX1_spread_102 (q := 4) rfl (by decide) h rfl (fun _ => rfl) (fun x3_13 h => ?_)
                refine g_goto (tgt := 57) C dX1_spread_105 (by decide) ?_
                exact g_sub [2, 3, 4, 0] rfl (ih _ _ h)
        intro J4 hJ4 h
        refine g_if_ne (tgt := 55) C dX1_spread_16 (by decide) h (fun h => ?_) (fun h => ?_)
        · refine g_aload_n C dX1_spread_19 rfl 0 rfl ?_
          refine g_get C (T := TX1) hcl1 cO_25 rfl (j := 1) (by decide) wl_202 (v := .ref (ad 27)) rfl dX1_spread_20 ?_
          refine g_aload_n C dX1_spread_23 rfl 0 rfl ?_
          refine g_get C (T := TX1) hcl1 cO_25 rfl (j := 12) (by decide) wl_213 (v := .int (rI m2 25 12)) rfl dX1_spread_24 ?_
          refine g_iald C cI_27 dX1_spread_27 h (fun h => ?_)
          refine g_iconst (v := (-1 : Int32)) C dX1_spread_28 (by decide) ?_
          refine g_icmp_eq (tgt := 55) C dX1_spread_29 (by decide) h (fun h => ?_) (fun h => ?_)
          · exact g_sub [0, 1, 2] rfl (hJ4  h)
          · refine g_aload_n C dX1_spread_32 rfl 0 rfl ?_
            refine g_get C (T := TX1) hcl1 cO_25 rfl (j := 1) (by decide) wl_202 (v := .ref (ad 27)) rfl dX1_spread_33 ?_
            refine g_aload_n C dX1_spread_36 rfl 0 rfl ?_
            refine g_get C (T := TX1) hcl1 cO_25 rfl (j := 12) (by decide) wl_213 (v := .int (rI m2 25 12)) rfl dX1_spread_37 ?_
            refine g_iald C cI_27 dX1_spread_40 h (fun h => ?_)
            refine g_iload_n C dX1_spread_41 rfl 2 rfl ?_
            refine g_icmp_ge (tgt := 55) C dX1_spread_42 (by decide) h (fun h => ?_) (fun h => ?_)
            · exact g_sub [0, 1, 2] rfl (hJ4  h)
            · refine g_aload_n C dX1_spread_45 rfl 0 rfl ?_
              refine g_get C (T := TX1) hcl1 cO_25 rfl (j := 1) (by decide) wl_202 (v := .ref (ad 27)) rfl dX1_spread_46 ?_
              refine g_aload_n C dX1_spread_49 rfl 0 rfl ?_
              refine g_get C (T := TX1) hcl1 cO_25 rfl (j := 12) (by decide) wl_213 (v := .int (rI m2 25 12)) rfl dX1_spread_50 ?_
              refine g_iald C cI_27 dX1_spread_53 h (fun h => ?_)
              obtain ⟨rfl, rfl⟩ := sp_inj h
              exact g_iret C hr hlk dX1_spread_54 rfl
        · exact g_sub [0, 1, 2] rfl (hJ4  h)

def rmX1_spreadFromOpen : Room := { frames := 4, cells := 0, slots := 0, locals := 99 }
set_option maxRecDepth 100000 in
set_option maxHeartbeats 4000000 in
theorem c_X1_spreadFromOpen (l : Launch) {F : Nat}  {a0 : Int32}  {m : MM} {m' : MM} {r : Int32} (h : f_X1_spreadFromOpen F a0 m = some (r, m')) : CT l yX1_spreadFromOpen cX1_spreadFromOpen 3 (some .int) rmX1_spreadFromOpen cfC 73 (fun ad tb => [.ref (ad 25), .int a0]) m (some (.int r)) m' := by
  refine CT.of (cc := cX1_spreadFromOpen) (maxL := 3) (ret := (some .int)) (by decide) ⟨rfl, rfl⟩ (fun _ _ => Nat.le_of_ble_eq_true rfl) ?_
  intro p e s mt args below meth c D cA ad tb C hr hlk
  refine g_lv (lv' := [(0, .ref (ad 25)), (1, .int a0)]) rfl ?_
  have hcl1 : ∀ w ∈ wsX10, w.before args s = true := fun w hw => C.2.2.2.2.1 w (inlX1 w hw)
  unfold f_X1_spreadFromOpen at h
  refine g_aload_n C dX1_spreadFromOpen_0 rfl 0 rfl ?_
  obtain ⟨m2, hX1, h⟩ := bd1_inv h
  refine g_callV C (c_X1_clearTurns l hX1) (cwVw 0 C.2.2.2.2.1 wl_718 wl_720 wl_21 wl_111 wl_721 rfl rfl (by decide +kernel) ⟨Nat.le_of_ble_eq_true rfl, Nat.le_of_ble_eq_true rfl⟩) cO_25 rfl rfl rfl rfl (Nat.le_of_ble_eq_true rfl) dX1_spreadFromOpen_1 ?_
  refine g_iconst (v := (0 : Int32)) C dX1_spreadFromOpen_4 (by decide) ?_
  refine g_istore_n (lv' := [(2, .int (0 : Int32)), (0, .ref (ad 25)), (1, .int a0)]) C dX1_spreadFromOpen_5 rfl (by decide) rfl ?_
  refine g_sub [1, 2, 0] rfl ?_
  refine g_loop_IM (L := f_X1_spreadFromOpen_L6) h 6 36 (fun x2_3 m4 => [(0, .ref (ad 25)), (1, .int a0), (2, .int x2_3)]) (fun x2_3 m4 => [(0, .ref (ad 25)), (1, .int a0)]) (fun x2_3 m4 => []) (fun x2_3 m4 => []) ?_ ?_ (fun _ _ _ => rfl)
  · intro x2_3 m4 h
    refine g_aload_n C dX1_spreadFromOpen_36 rfl 0 rfl ?_
    refine g_iload_n C dX1_spreadFromOpen_37 rfl 1 rfl ?_
    obtain ⟨r10, m12, hX11, h⟩ := bd2_inv h
    refine g_callV C (c_X1_spread l hX11) (cwVw 1 C.2.2.2.2.1 wl_726 wl_728 wl_23 wl_111 wl_729 rfl rfl (by decide +kernel) ⟨Nat.le_of_ble_eq_true rfl, Nat.le_of_ble_eq_true rfl⟩) cO_25 rfl rfl rfl rfl (Nat.le_of_ble_eq_true rfl) dX1_spreadFromOpen_38 ?_
    obtain ⟨rfl, rfl⟩ := sp_inj h
    exact g_iret C hr hlk dX1_spreadFromOpen_41 rfl
  · intro K5 hK5 n ih x2_3 m4 h
    rw [f_X1_spreadFromOpen_L6] at h
    refine g_iload_n C dX1_spreadFromOpen_6 rfl 2 rfl ?_
    refine g_aload_n C dX1_spreadFromOpen_7 rfl 0 rfl ?_
    refine g_get C (T := TX1) hcl1 cO_25 rfl (j := 11) (by decide) wl_212 (v := .int (rI m4 25 11)) rfl dX1_spreadFromOpen_8 ?_
    refine g_icmp_ge (tgt := 36) C dX1_spreadFromOpen_11 (by decide) h (fun h => ?_) (fun h => ?_)
    · exact g_sub [0, 1] rfl (hK5 _ _ h)
    · refine g_aload_n C dX1_spreadFromOpen_14 rfl 0 rfl ?_
      refine g_get C (T := TX1) hcl1 cO_25 rfl (j := 0) (by decide) wl_201 (v := .ref (ad 26)) rfl dX1_spreadFromOpen_15 ?_
      refine g_iload_n C dX1_spreadFromOpen_18 rfl 2 rfl ?_
      refine g_iald C cI_26 dX1_spreadFromOpen_19 h (fun h => ?_)
      refine g_iconst (v := (2 : Int32)) C dX1_spreadFromOpen_20 (by decide) ?_
      refine g_icmp_ne (tgt := 30) C dX1_spreadFromOpen_21 (by decide) h (fun h => ?_) (fun h => ?_)
      · refine g_aload_n C dX1_spreadFromOpen_24 rfl 0 rfl ?_
        refine g_iload_n C dX1_spreadFromOpen_25 rfl 2 rfl ?_
        refine g_iconst (v := (0 : Int32)) C dX1_spreadFromOpen_26 (by decide) ?_
        obtain ⟨m7, hX6, h⟩ := bd1_inv h
        refine g_callV C (c_X1_enterTurn l hX6) (cwVw 2 C.2.2.2.2.1 wl_722 wl_724 wl_22 wl_111 wl_725 rfl rfl (by decide +kernel) ⟨Nat.le_of_ble_eq_true rfl, Nat.le_of_ble_eq_true rfl⟩) cO_25 rfl rfl rfl rfl (Nat.le_of_ble_eq_true rfl) dX1_spreadFromOpen_27 ?_
        refine g_iinc (lv' := [(0, .ref (ad 25)), (1, .int a0)]) C dX1_spreadFromOpen_30 (q := 2) rfl (by decide) h rfl (fun _ => rfl) (fun x2_8 h => ?_)
        refine g_goto (tgt := 6) C dX1_spreadFromOpen_33 (by decide) ?_
        exact g_sub [1, 2, 0] rfl (ih _ _ h)
      · refine g_iinc (lv' := [(0, .ref (ad 25)), (1, .int a0)]) C dX1_spreadFromOpen_30 (q := 2) rfl (by decide) h rfl (fun _ => rfl) (fun x2_9 h => ?_)
        refine g_goto (tgt := 6) C dX1_spreadFromOpen_33 (by decide) ?_
        exact g_sub [1, 2, 0] rfl (ih _ _ h)

def rmX5_fewest : Room := { frames := 13, cells := 0, slots := 0, locals := 294 }
set_option maxRecDepth 100000 in
set_option maxHeartbeats 4000000 in
theorem c_X5_fewest (l : Launch) {F : Nat}  {a0 : Int32}  {m : MM} {m' : MM} {r : Int32} (h : f_X5_fewest F a0 m = some (r, m')) : CT l yX5_fewest cX5_fewest 2 (some .int) rmX5_fewest cfC 73 (fun ad tb => [.ref (ad 0), .int a0]) m (some (.int r)) m' := by
  refine CT.of (cc := cX5_fewest) (maxL := 2) (ret := (some .int)) (by decide) ⟨rfl, rfl⟩ (fun _ _ => Nat.le_of_ble_eq_true rfl) ?_
  intro p e s mt args below meth c D cA ad tb C hr hlk
  refine g_lv (lv' := [(0, .ref (ad 0)), (1, .int a0)]) rfl ?_
  have hcl5 : ∀ w ∈ wsX50, w.before args s = true := fun w hw => C.2.2.2.2.1 w (inlX5 w hw)
  unfold f_X5_fewest at h
  refine g_aload_n C dX5_fewest_0 rfl 0 rfl ?_
  refine g_iconst (v := (-1 : Int32)) C dX5_fewest_1 (by decide) ?_
  refine g_iconst (v := (-1 : Int32)) C dX5_fewest_2 (by decide) ?_
  obtain ⟨m2, hX1, h⟩ := bd1_inv h
  refine g_callV C (c_X5_think l hX1) (cwVw 2 C.2.2.2.2.1 wl_685 wl_687 wl_18 wl_109 wl_688 rfl rfl (by decide +kernel) ⟨Nat.le_of_ble_eq_true rfl, Nat.le_of_ble_eq_true rfl⟩) cO_0 rfl rfl rfl rfl (Nat.le_of_ble_eq_true rfl) dX5_fewest_3 ?_
  refine g_aload_n C dX5_fewest_6 rfl 0 rfl ?_
  refine g_get C (T := TX5) hcl5 cO_0 rfl (j := 3) (by decide) wl_485 (v := .ref (ad 25)) rfl dX5_fewest_7 ?_
  obtain ⟨m4, hX3, h⟩ := bd1_inv h
  refine g_callV C (c_X1_countMoves l hX3) (cwVw 0 C.2.2.2.2.1 wl_710 wl_711 wl_712 wl_111 wl_713 rfl rfl (by decide +kernel) ⟨Nat.le_of_ble_eq_true rfl, Nat.le_of_ble_eq_true rfl⟩) cO_25 rfl rfl rfl rfl (Nat.le_of_ble_eq_true rfl) dX5_fewest_10 ?_
  refine g_aload_n C dX5_fewest_13 rfl 0 rfl ?_
  refine g_get C (T := TX5) hcl5 cO_0 rfl (j := 3) (by decide) wl_485 (v := .ref (ad 25)) rfl dX5_fewest_14 ?_
  refine g_iload_n C dX5_fewest_17 rfl 1 rfl ?_
  obtain ⟨r5, m7, hX6, h⟩ := bd2_inv h
  refine g_callV C (c_X1_spreadFromOpen l hX6) (cwVw 1 C.2.2.2.2.1 wl_714 wl_715 wl_716 wl_111 wl_717 rfl rfl (by decide +kernel) ⟨Nat.le_of_ble_eq_true rfl, Nat.le_of_ble_eq_true rfl⟩) cO_25 rfl rfl rfl rfl (Nat.le_of_ble_eq_true rfl) dX5_fewest_18 ?_
  obtain ⟨rfl, rfl⟩ := sp_inj h
  exact g_iret C hr hlk dX5_fewest_21 rfl

def rmX1_firstBest : Room := { frames := 1, cells := 0, slots := 0, locals := 22 }
set_option maxRecDepth 100000 in
set_option maxHeartbeats 4000000 in
theorem c_X1_firstBest (l : Launch) {F : Nat}    {m : MM} {r : Int32} (h : f_X1_firstBest F m = some r) : CT l yX1_firstBest cX1_firstBest 5 (some .int) rmX1_firstBest cfC 73 (fun ad tb => [.ref (ad 25)]) m (some (.int r)) m := by
  refine CT.of (cc := cX1_firstBest) (maxL := 5) (ret := (some .int)) (by decide) ⟨rfl, rfl⟩ (fun _ _ => Nat.le_of_ble_eq_true rfl) ?_
  intro p e s mt args below meth c D cA ad tb C hr hlk
  refine g_lv (lv' := [(0, .ref (ad 25))]) rfl ?_
  have hcl0 : ∀ w ∈ wsX00, w.before args s = true := fun w hw => C.2.2.2.2.1 w (inlX0 w hw)
  have hcl1 : ∀ w ∈ wsX10, w.before args s = true := fun w hw => C.2.2.2.2.1 w (inlX1 w hw)
  unfold f_X1_firstBest at h
  refine g_aload_n C dX1_firstBest_0 rfl 0 rfl ?_
  refine g_get C (T := TX1) hcl1 cO_25 rfl (j := 0) (by decide) wl_201 (v := .ref (ad 26)) rfl dX1_firstBest_1 ?_
  refine g_aload_n C dX1_firstBest_4 rfl 0 rfl ?_
  refine g_get C (T := TX1) hcl1 cO_25 rfl (j := 12) (by decide) wl_213 (v := .int (rI m 25 12)) rfl dX1_firstBest_5 ?_
  refine g_iald C cI_26 dX1_firstBest_8 h (fun h => ?_)
  refine g_iconst (v := (2 : Int32)) C dX1_firstBest_9 (by decide) ?_
  refine g_icmp_eq (tgt := 26) C dX1_firstBest_10 (by decide) h (fun h => ?_) (fun h => ?_)
  · refine g_iconst (v := (-1 : Int32)) C dX1_firstBest_26 (by decide) ?_
    obtain rfl := so_inj h
    exact g_iret C hr hlk dX1_firstBest_27 rfl
  · refine g_aload_n C dX1_firstBest_13 rfl 0 rfl ?_
    refine g_get C (T := TX1) hcl1 cO_25 rfl (j := 1) (by decide) wl_202 (v := .ref (ad 27)) rfl dX1_firstBest_14 ?_
    refine g_aload_n C dX1_firstBest_17 rfl 0 rfl ?_
    refine g_get C (T := TX1) hcl1 cO_25 rfl (j := 12) (by decide) wl_213 (v := .int (rI m 25 12)) rfl dX1_firstBest_18 ?_
    refine g_iald C cI_27 dX1_firstBest_21 h (fun h => ?_)
    refine g_iconst (v := (-1 : Int32)) C dX1_firstBest_22 (by decide) ?_
    refine g_icmp_ne (tgt := 28) C dX1_firstBest_23 (by decide) h (fun h => ?_) (fun h => ?_)
    · refine g_iconst (v := (-1 : Int32)) C dX1_firstBest_26 (by decide) ?_
      obtain rfl := so_inj h
      exact g_iret C hr hlk dX1_firstBest_27 rfl
    · refine g_iconst (v := (0 : Int32)) C dX1_firstBest_28 (by decide) ?_
      refine g_istore_n (lv' := [(1, .int (0 : Int32)), (0, .ref (ad 25))]) C dX1_firstBest_29 rfl (by decide) rfl ?_
      refine g_sub [1, 0] rfl ?_
      refine g_loop_I (L := f_X1_firstBest_L30 F m) h 30 161 (fun x1_1 => [(0, .ref (ad 25)), (1, .int x1_1)]) (fun x1_1 => []) (fun x1_1 => []) (fun x1_1 => []) ?_ ?_ (fun _ _ => rfl)
      · intro x1_1 h
        refine g_iconst (v := (-1 : Int32)) C dX1_firstBest_161 (by decide) ?_
        obtain rfl := so_inj h
        exact g_iret C hr hlk dX1_firstBest_162 rfl
      · intro K2 hK2 n ih x1_1 h
        rw [f_X1_firstBest_L30] at h
        refine g_iload_n C dX1_firstBest_30 rfl 1 rfl ?_
        refine g_aload_n C dX1_firstBest_31 rfl 0 rfl ?_
        refine g_getLot C hcl1 wl_211 dX1_firstBest_32 h (fun h => ?_)
        refine g_get C (T := TX0) hcl0 cO_17 rfl (j := 8) (by decide) wl_155 (v := .int (rI m 17 8)) rfl dX1_firstBest_35 ?_
        refine g_icmp_ge (tgt := 161) C dX1_firstBest_38 (by decide) h (fun h => ?_) (fun h => ?_)
        · exact g_sub [] rfl (hK2 _ h)
        · refine g_aload_n C dX1_firstBest_41 rfl 0 rfl ?_
          refine g_getLot C hcl1 wl_211 dX1_firstBest_42 h (fun h => ?_)
          refine g_get C (T := TX0) hcl0 cO_17 rfl (j := 6) (by decide) wl_150 (v := .ref (ad 24)) rfl dX1_firstBest_45 ?_
          refine g_iload_n C dX1_firstBest_48 rfl 1 rfl ?_
          refine g_iald C cI_24 dX1_firstBest_49 h (fun h => ?_)
          refine nm_i h (fun x2_3 h => ?_)
          refine g_istore_n (lv' := [(2, .int x2_3), (0, .ref (ad 25)), (1, .int x1_1)]) C dX1_firstBest_50 rfl (by decide) rfl ?_
          refine g_iconst (v := (0 : Int32)) C dX1_firstBest_51 (by decide) ?_
          refine g_istore_n (lv' := [(3, .int (0 : Int32)), (2, .int x2_3), (0, .ref (ad 25)), (1, .int x1_1)]) C dX1_firstBest_52 rfl (by decide) rfl ?_
          refine g_sub [2, 3, 1, 0] rfl ?_
          refine g_loop_I (L := f_X1_firstBest_L53 m x1_1 x2_3) h 53 155 (fun x3_4 => [(0, .ref (ad 25)), (1, .int x1_1), (2, .int x2_3), (3, .int x3_4)]) (fun x3_4 => [(0, .ref (ad 25)), (1, .int x1_1)]) (fun x3_4 => []) (fun x3_4 => []) ?_ ?_ (fun _ _ => rfl)
          · intro x3_4 h
            refine g_iinc (lv' := [(0, .ref (ad 25))]) C dX1_firstBest_155 (q := 1) rfl (by decide) h rfl (fun _ => rfl) (fun x1_13 h => ?_)
            refine g_goto (tgt := 30) C dX1_firstBest_158 (by decide) ?_
            exact g_sub [1, 0] rfl (ih _ h)
          · intro K5 hK5 n ih x3_4 h
            rw [f_X1_firstBest_L53] at h
            refine g_iload_n C dX1_firstBest_53 rfl 3 rfl ?_
            refine g_aload_n C dX1_firstBest_54 rfl 0 rfl ?_
            refine g_getLot C hcl1 wl_211 dX1_firstBest_55 h (fun h => ?_)
            refine g_get C (T := TX0) hcl0 cO_17 rfl (j := 7) (by decide) wl_153 (v := .int (rI m 17 7)) rfl dX1_firstBest_58 ?_
            refine g_icmp_ge (tgt := 155) C dX1_firstBest_61 (by decide) h (fun h => ?_) (fun h => ?_)
            · exact g_sub [0, 1] rfl (hK5 _ h)
            · refine g_aload_n C dX1_firstBest_64 rfl 0 rfl ?_
              refine g_get C (T := TX1) hcl1 cO_25 rfl (j := 12) (by decide) wl_213 (v := .int (rI m 25 12)) rfl dX1_firstBest_65 ?_
              refine g_iload_n C dX1_firstBest_68 rfl 3 rfl ?_
              refine g_iload_n C dX1_firstBest_69 rfl 2 rfl ?_
              refine g_isub C dX1_firstBest_70 ?_
              refine g_aload_n C dX1_firstBest_71 rfl 0 rfl ?_
              refine g_get C (T := TX1) hcl1 cO_25 rfl (j := 6) (by decide) wl_207 (v := .ref (ad 32)) rfl dX1_firstBest_72 ?_
              refine g_iload_n C dX1_firstBest_75 rfl 1 rfl ?_
              refine g_iald C cI_32 dX1_firstBest_76 h (fun h => ?_)
              refine g_imul C dX1_firstBest_77 ?_
              refine g_iadd C dX1_firstBest_78 ?_
              refine nm_i h (fun x4_6 h => ?_)
              refine g_istore (lv' := [(4, .int x4_6), (0, .ref (ad 25)), (1, .int x1_1), (2, .int x2_3), (3, .int x3_4)]) C dX1_firstBest_79 (by decide) rfl ?_
              refine g_aload_n C dX1_firstBest_81 rfl 1 rfl ?_
              refine g_get C (T := TX1) hcl1 cO_25 rfl (j := 0) (by decide) wl_201 (v := .ref (ad 26)) rfl dX1_firstBest_82 ?_
              refine g_iload C dX1_firstBest_85 0 rfl ?_
              refine g_iald C cI_26 dX1_firstBest_87 h (fun h => ?_)
              refine g_if_eq (tgt := 149) C dX1_firstBest_88 (by decide) h (fun h => ?_) (fun h => ?_)
              · refine g_iinc (lv' := [(4, .int x4_6), (0, .ref (ad 25)), (1, .int x1_1), (2, .int x2_3)]) C dX1_firstBest_149 (q := 4) rfl (by decide) h rfl (fun _ => rfl) (fun x3_7 h => ?_)
                refine g_goto (tgt := 53) C dX1_firstBest_152 (by decide) ?_
                exact g_sub [2, 3, 4, 0] rfl (ih _ h)
              · refine g_iload C dX1_firstBest_91 0 rfl ?_
                refine g_aload_n C dX1_firstBest_93 rfl 1 rfl ?_
                refine g_get C (T := TX1) hcl1 cO_25 rfl (j := 12) (by decide) wl_213 (v := .int (rI m 25 12)) rfl dX1_firstBest_94 ?_
                refine g_icmp_eq (tgt := 149) C dX1_firstBest_97 (by decide) h (fun h => ?_) (fun h => ?_)
                · refine g_iinc (lv' := [(4, .int x4_6), (0, .ref (ad 25)), (1, .int x1_1), (2, .int x2_3)]) C dX1_firstBest_149 (q := 4) rfl (by decide) h rfl (fun _ => rfl) (fun x3_8 h => ?_)
                  refine g_goto (tgt := 53) C dX1_firstBest_152 (by decide) ?_
                  exact g_sub [2, 3, 4, 0] rfl (ih _ h)
                · refine g_aload_n C dX1_firstBest_100 rfl 1 rfl ?_
                  refine g_get C (T := TX1) hcl1 cO_25 rfl (j := 1) (by decide) wl_202 (v := .ref (ad 27)) rfl dX1_firstBest_101 ?_
                  refine g_iload C dX1_firstBest_104 0 rfl ?_
                  refine g_iald C cI_27 dX1_firstBest_106 h (fun h => ?_)
                  refine g_iconst (v := (-1 : Int32)) C dX1_firstBest_107 (by decide) ?_
                  refine g_icmp_eq (tgt := 149) C dX1_firstBest_108 (by decide) h (fun h => ?_) (fun h => ?_)
                  · refine g_iinc (lv' := [(4, .int x4_6), (0, .ref (ad 25)), (1, .int x1_1), (2, .int x2_3)]) C dX1_firstBest_149 (q := 4) rfl (by decide) h rfl (fun _ => rfl) (fun x3_9 h => ?_)
                    refine g_goto (tgt := 53) C dX1_firstBest_152 (by decide) ?_
                    exact g_sub [2, 3, 4, 0] rfl (ih _ h)
                  · refine g_aload_n C dX1_firstBest_111 rfl 1 rfl ?_
                    refine g_get C (T := TX1) hcl1 cO_25 rfl (j := 1) (by decide) wl_202 (v := .ref (ad 27)) rfl dX1_firstBest_112 ?_
                    refine g_aload_n C dX1_firstBest_115 rfl 1 rfl ?_
                    refine g_get C (T := TX1) hcl1 cO_25 rfl (j := 12) (by decide) wl_213 (v := .int (rI m 25 12)) rfl dX1_firstBest_116 ?_
                    refine g_iald C cI_27 dX1_firstBest_119 h (fun h => ?_)
                    refine g_aload_n C dX1_firstBest_120 rfl 1 rfl ?_
                    refine g_get C (T := TX1) hcl1 cO_25 rfl (j := 1) (by decide) wl_202 (v := .ref (ad 27)) rfl dX1_firstBest_121 ?_
                    refine g_iload C dX1_firstBest_124 0 rfl ?_
                    refine g_iald C cI_27 dX1_firstBest_126 h (fun h => ?_)
                    refine g_isub C dX1_firstBest_127 ?_
                    refine g_aload_n C dX1_firstBest_128 rfl 1 rfl ?_
                    refine g_get C (T := TX1) hcl1 cO_25 rfl (j := 5) (by decide) wl_206 (v := .ref (ad 31)) rfl dX1_firstBest_129 ?_
                    refine g_iload_n C dX1_firstBest_132 rfl 2 rfl ?_
                    refine g_iload_n C dX1_firstBest_133 rfl 3 rfl ?_
                    refine g_iload_n C dX1_firstBest_134 rfl 4 rfl ?_
                    obtain ⟨r10, hX11, h⟩ := bd1_inv h
                    refine g_callS C (c_X1_placeOf l hX11) (cwSw 3 C.2.2.2.2.1 wl_743 wl_744 wl_111 wl_745 rfl rfl (by decide +kernel) ⟨Nat.le_of_ble_eq_true rfl, Nat.le_of_ble_eq_true rfl⟩) rfl rfl rfl (Nat.le_of_ble_eq_true rfl) dX1_firstBest_135 ?_
                    refine g_iald C cI_31 dX1_firstBest_138 h (fun h => ?_)
                    refine g_icmp_ne (tgt := 149) C dX1_firstBest_139 (by decide) h (fun h => ?_) (fun h => ?_)
                    · refine g_bipush (v := (10 : Int32)) C dX1_firstBest_142 (by decide) ?_
                      refine g_iload_n C dX1_firstBest_144 rfl 2 rfl ?_
                      refine g_imul C dX1_firstBest_145 ?_
                      refine g_iload_n C dX1_firstBest_146 rfl 4 rfl ?_
                      refine g_iadd C dX1_firstBest_147 ?_
                      obtain rfl := so_inj h
                      exact g_iret C hr hlk dX1_firstBest_148 rfl
                    · refine g_iinc (lv' := [(4, .int x4_6), (0, .ref (ad 25)), (1, .int x1_1), (2, .int x2_3)]) C dX1_firstBest_149 (q := 4) rfl (by decide) h rfl (fun _ => rfl) (fun x3_12 h => ?_)
                      refine g_goto (tgt := 53) C dX1_firstBest_152 (by decide) ?_
                      exact g_sub [2, 3, 4, 0] rfl (ih _ h)

def rmX1_price : Room := { frames := 1, cells := 0, slots := 0, locals := 22 }
set_option maxRecDepth 100000 in
set_option maxHeartbeats 4000000 in
theorem c_X1_price (l : Launch)  {a0 : Int32} {a1 : Int32} {a2 : Int32} {a3 : Int32}  {m : MM} {m' : MM} (h : f_X1_price a0 a1 a2 a3 m = some m') : CT l yX1_price cX1_price 5 none rmX1_price cfC 73 (fun ad tb => [.ref (ad 25), .int a0, .int a1, .int a2, .int a3]) m none m' := by
  refine CT.of (cc := cX1_price) (maxL := 5) (ret := none) (by decide) ⟨rfl, rfl⟩ (fun _ _ => Nat.le_of_ble_eq_true rfl) ?_
  intro p e s mt args below meth c D cA ad tb C hr hlk
  refine g_lv (lv' := [(0, .ref (ad 25)), (1, .int a0), (2, .int a1), (3, .int a2), (4, .int a3)]) rfl ?_
  have hcl1 : ∀ w ∈ wsX10, w.before args s = true := fun w hw => C.2.2.2.2.1 w (inlX1 w hw)
  unfold f_X1_price at h
  refine g_aload_n C dX1_price_0 rfl 0 rfl ?_
  refine g_get C (T := TX1) hcl1 cO_25 rfl (j := 5) (by decide) wl_206 (v := .ref (ad 31)) rfl dX1_price_1 ?_
  refine g_iload_n C dX1_price_4 rfl 1 rfl ?_
  refine g_iload_n C dX1_price_5 rfl 2 rfl ?_
  refine g_iload_n C dX1_price_6 rfl 3 rfl ?_
  obtain ⟨r1, hX2, h⟩ := bd1_inv h
  refine g_callS C (c_X1_placeOf l hX2) (cwSw 3 C.2.2.2.2.1 wl_743 wl_744 wl_111 wl_745 rfl rfl (by decide +kernel) ⟨Nat.le_of_ble_eq_true rfl, Nat.le_of_ble_eq_true rfl⟩) rfl rfl rfl (Nat.le_of_ble_eq_true rfl) dX1_price_7 ?_
  refine g_iload C dX1_price_10 4 rfl ?_
  refine g_iast C cI_31 dX1_price_12 h (fun m3 h => ?_)
  obtain rfl := so_inj h
  exact g_vret C hr hlk dX1_price_13 rfl

def rmX5_countCosts : Room := { frames := 3, cells := 0, slots := 0, locals := 70 }
set_option maxRecDepth 100000 in
set_option maxHeartbeats 4000000 in
theorem c_X5_countCosts (l : Launch) {F : Nat}    {m : MM} {m' : MM} (h : f_X5_countCosts F m = some m') : CT l yX5_countCosts cX5_countCosts 4 none rmX5_countCosts cfC 73 (fun ad tb => [.ref (ad 0)]) m none m' := by
  refine CT.of (cc := cX5_countCosts) (maxL := 4) (ret := none) (by decide) ⟨rfl, rfl⟩ (fun _ _ => Nat.le_of_ble_eq_true rfl) ?_
  intro p e s mt args below meth c D cA ad tb C hr hlk
  refine g_lv (lv' := [(0, .ref (ad 0))]) rfl ?_
  have hcl0 : ∀ w ∈ wsX00, w.before args s = true := fun w hw => C.2.2.2.2.1 w (inlX0 w hw)
  have hcl5 : ∀ w ∈ wsX50, w.before args s = true := fun w hw => C.2.2.2.2.1 w (inlX5 w hw)
  unfold f_X5_countCosts at h
  refine g_iconst (v := (0 : Int32)) C dX5_countCosts_0 (by decide) ?_
  refine g_istore_n (lv' := [(1, .int (0 : Int32)), (0, .ref (ad 0))]) C dX5_countCosts_1 rfl (by decide) rfl ?_
  refine g_sub [1, 0] rfl ?_
  refine g_loop_IM (L := f_X5_countCosts_L2 F) h 2 74 (fun x1_1 m2 => [(0, .ref (ad 0)), (1, .int x1_1)]) (fun x1_1 m2 => []) (fun x1_1 m2 => []) (fun x1_1 m2 => []) ?_ ?_ (fun _ _ _ => rfl)
  · intro x1_1 m2 h
    obtain rfl := so_inj h
    exact g_vret C hr hlk dX5_countCosts_74 rfl
  · intro K3 hK3 n ih x1_1 m2 h
    rw [f_X5_countCosts_L2] at h
    refine g_iload_n C dX5_countCosts_2 rfl 1 rfl ?_
    refine g_aload_n C dX5_countCosts_3 rfl 0 rfl ?_
    refine g_get C (T := TX5) hcl5 cO_0 rfl (j := 0) (by decide) wl_482 (v := .ref (ad 1)) rfl dX5_countCosts_4 ?_
    refine g_get C (T := TX0) hcl0 cO_1 rfl (j := 8) (by decide) wl_157 (v := .int (rI m2 1 8)) rfl dX5_countCosts_7 ?_
    refine g_icmp_ge (tgt := 74) C dX5_countCosts_10 (by decide) h (fun h => ?_) (fun h => ?_)
    · exact g_sub [] rfl (hK3 _ _ h)
    · refine g_iconst (v := (0 : Int32)) C dX5_countCosts_13 (by decide) ?_
      refine g_istore_n (lv' := [(2, .int (0 : Int32)), (0, .ref (ad 0)), (1, .int x1_1)]) C dX5_countCosts_14 rfl (by decide) rfl ?_
      refine g_sub [1, 2, 0] rfl ?_
      refine g_loop_IM (L := f_X5_countCosts_L15 F x1_1) h 15 68 (fun x2_4 m5 => [(0, .ref (ad 0)), (1, .int x1_1), (2, .int x2_4)]) (fun x2_4 m5 => [(0, .ref (ad 0)), (1, .int x1_1)]) (fun x2_4 m5 => []) (fun x2_4 m5 => []) ?_ ?_ (fun _ _ _ => rfl)
      · intro x2_4 m5 h
        refine g_iinc (lv' := [(0, .ref (ad 0))]) C dX5_countCosts_68 (q := 1) rfl (by decide) h rfl (fun _ => rfl) (fun x1_17 h => ?_)
        refine g_goto (tgt := 2) C dX5_countCosts_71 (by decide) ?_
        exact g_sub [1, 0] rfl (ih _ _ h)
      · intro K6 hK6 n ih x2_4 m5 h
        rw [f_X5_countCosts_L15] at h
        refine g_iload_n C dX5_countCosts_15 rfl 2 rfl ?_
        refine g_aload_n C dX5_countCosts_16 rfl 0 rfl ?_
        refine g_get C (T := TX5) hcl5 cO_0 rfl (j := 0) (by decide) wl_482 (v := .ref (ad 1)) rfl dX5_countCosts_17 ?_
        refine g_get C (T := TX0) hcl0 cO_1 rfl (j := 7) (by decide) wl_152 (v := .int (rI m5 1 7)) rfl dX5_countCosts_20 ?_
        refine g_icmp_ge (tgt := 68) C dX5_countCosts_23 (by decide) h (fun h => ?_) (fun h => ?_)
        · exact g_sub [0, 1] rfl (hK6 _ _ h)
        · refine g_iconst (v := (0 : Int32)) C dX5_countCosts_26 (by decide) ?_
          refine g_istore_n (lv' := [(3, .int (0 : Int32)), (0, .ref (ad 0)), (1, .int x1_1), (2, .int x2_4)]) C dX5_countCosts_27 rfl (by decide) rfl ?_
          refine g_sub [1, 2, 3, 0] rfl ?_
          refine g_loop_IM (L := f_X5_countCosts_L28 F x1_1 x2_4) h 28 62 (fun x3_7 m8 => [(0, .ref (ad 0)), (1, .int x1_1), (2, .int x2_4), (3, .int x3_7)]) (fun x3_7 m8 => [(0, .ref (ad 0)), (1, .int x1_1), (2, .int x2_4)]) (fun x3_7 m8 => []) (fun x3_7 m8 => []) ?_ ?_ (fun _ _ _ => rfl)
          · intro x3_7 m8 h
            refine g_iinc (lv' := [(0, .ref (ad 0)), (1, .int x1_1)]) C dX5_countCosts_62 (q := 2) rfl (by decide) h rfl (fun _ => rfl) (fun x2_16 h => ?_)
            refine g_goto (tgt := 15) C dX5_countCosts_65 (by decide) ?_
            exact g_sub [1, 2, 0] rfl (ih _ _ h)
          · intro K9 hK9 n ih x3_7 m8 h
            rw [f_X5_countCosts_L28] at h
            refine g_iload_n C dX5_countCosts_28 rfl 3 rfl ?_
            refine g_aload_n C dX5_countCosts_29 rfl 0 rfl ?_
            refine g_get C (T := TX5) hcl5 cO_0 rfl (j := 0) (by decide) wl_482 (v := .ref (ad 1)) rfl dX5_countCosts_30 ?_
            refine g_get C (T := TX0) hcl0 cO_1 rfl (j := 7) (by decide) wl_152 (v := .int (rI m8 1 7)) rfl dX5_countCosts_33 ?_
            refine g_icmp_ge (tgt := 62) C dX5_countCosts_36 (by decide) h (fun h => ?_) (fun h => ?_)
            · exact g_sub [0, 1, 2] rfl (hK9 _ _ h)
            · refine g_aload_n C dX5_countCosts_39 rfl 0 rfl ?_
              refine g_get C (T := TX5) hcl5 cO_0 rfl (j := 3) (by decide) wl_485 (v := .ref (ad 25)) rfl dX5_countCosts_40 ?_
              refine g_iload_n C dX5_countCosts_43 rfl 1 rfl ?_
              refine g_iload_n C dX5_countCosts_44 rfl 2 rfl ?_
              refine g_iload_n C dX5_countCosts_45 rfl 3 rfl ?_
              refine g_aload_n C dX5_countCosts_46 rfl 0 rfl ?_
              refine g_iload_n C dX5_countCosts_47 rfl 1 rfl ?_
              refine g_iload_n C dX5_countCosts_48 rfl 2 rfl ?_
              refine g_iload_n C dX5_countCosts_49 rfl 3 rfl ?_
              obtain ⟨r10, m12, hX11, h⟩ := bd2_inv h
              refine g_callV C (c_X5_costs l hX11) (cwVw 3 C.2.2.2.2.1 wl_619 wl_621 wl_13 wl_109 wl_622 rfl rfl (by decide +kernel) ⟨Nat.le_of_ble_eq_true rfl, Nat.le_of_ble_eq_true rfl⟩) cO_0 rfl rfl rfl rfl (Nat.le_of_ble_eq_true rfl) dX5_countCosts_50 ?_
              obtain ⟨m14, hX13, h⟩ := bd1_inv h
              refine g_callV C (c_X1_price l hX13) (cwVw 4 C.2.2.2.2.1 wl_754 wl_755 wl_756 wl_111 wl_757 rfl rfl (by decide +kernel) ⟨Nat.le_of_ble_eq_true rfl, Nat.le_of_ble_eq_true rfl⟩) cO_25 rfl rfl rfl rfl (Nat.le_of_ble_eq_true rfl) dX5_countCosts_53 ?_
              refine g_iinc (lv' := [(0, .ref (ad 0)), (1, .int x1_1), (2, .int x2_4)]) C dX5_countCosts_56 (q := 3) rfl (by decide) h rfl (fun _ => rfl) (fun x3_15 h => ?_)
              refine g_goto (tgt := 28) C dX5_countCosts_59 (by decide) ?_
              exact g_sub [1, 2, 3, 0] rfl (ih _ _ h)

def rmX5_leastIf : Room := { frames := 13, cells := 0, slots := 0, locals := 294 }
set_option maxRecDepth 100000 in
set_option maxHeartbeats 4000000 in
theorem c_X5_leastIf (l : Launch) {F : Nat}  {a0 : Int32} {a1 : Int32}  {m : MM} {m' : MM} {r : Int32} (h : f_X5_leastIf F a0 a1 m = some (r, m')) : CT l yX5_leastIf cX5_leastIf 3 (some .int) rmX5_leastIf cfC 73 (fun ad tb => [.ref (ad 0), .int a0, .int a1]) m (some (.int r)) m' := by
  refine CT.of (cc := cX5_leastIf) (maxL := 3) (ret := (some .int)) (by decide) ⟨rfl, rfl⟩ (fun _ _ => Nat.le_of_ble_eq_true rfl) ?_
  intro p e s mt args below meth c D cA ad tb C hr hlk
  refine g_lv (lv' := [(0, .ref (ad 0)), (1, .int a0), (2, .int a1)]) rfl ?_
  have hcl5 : ∀ w ∈ wsX50, w.before args s = true := fun w hw => C.2.2.2.2.1 w (inlX5 w hw)
  unfold f_X5_leastIf at h
  refine g_aload_n C dX5_leastIf_0 rfl 0 rfl ?_
  refine g_iload_n C dX5_leastIf_1 rfl 1 rfl ?_
  refine g_iload_n C dX5_leastIf_2 rfl 2 rfl ?_
  obtain ⟨m2, hX1, h⟩ := bd1_inv h
  refine g_callV C (c_X5_think l hX1) (cwVw 2 C.2.2.2.2.1 wl_685 wl_687 wl_18 wl_109 wl_688 rfl rfl (by decide +kernel) ⟨Nat.le_of_ble_eq_true rfl, Nat.le_of_ble_eq_true rfl⟩) cO_0 rfl rfl rfl rfl (Nat.le_of_ble_eq_true rfl) dX5_leastIf_3 ?_
  refine g_aload_n C dX5_leastIf_6 rfl 0 rfl ?_
  refine g_get C (T := TX5) hcl5 cO_0 rfl (j := 3) (by decide) wl_485 (v := .ref (ad 25)) rfl dX5_leastIf_7 ?_
  refine g_iconst (v := (0 : Int32)) C dX5_leastIf_10 (by decide) ?_
  obtain ⟨r3, m5, hX4, h⟩ := bd2_inv h
  refine g_callV C (c_X1_spreadFromOpen l hX4) (cwVw 1 C.2.2.2.2.1 wl_714 wl_715 wl_716 wl_111 wl_717 rfl rfl (by decide +kernel) ⟨Nat.le_of_ble_eq_true rfl, Nat.le_of_ble_eq_true rfl⟩) cO_25 rfl rfl rfl rfl (Nat.le_of_ble_eq_true rfl) dX5_leastIf_11 ?_
  obtain ⟨rfl, rfl⟩ := sp_inj h
  exact g_iret C hr hlk dX5_leastIf_14 rfl

def rmX1_floodOnce : Room := { frames := 2, cells := 0, slots := 0, locals := 49 }
set_option maxRecDepth 100000 in
set_option maxHeartbeats 4000000 in
theorem c_X1_floodOnce (l : Launch) {F : Nat}  {a0 : Int32} {a1 : Int32}  {m : MM} {m' : MM} {r : Int32} (h : f_X1_floodOnce F a0 a1 m = some (r, m')) : CT l yX1_floodOnce cX1_floodOnce 6 (some .int) rmX1_floodOnce cfC 73 (fun ad tb => [.ref (ad 25), .int a0, .int a1]) m (some (.int r)) m' := by
  refine CT.of (cc := cX1_floodOnce) (maxL := 6) (ret := (some .int)) (by decide) ⟨rfl, rfl⟩ (fun _ _ => Nat.le_of_ble_eq_true rfl) ?_
  intro p e s mt args below meth c D cA ad tb C hr hlk
  refine g_lv (lv' := [(0, .ref (ad 25)), (1, .int a0), (2, .int a1)]) rfl ?_
  have hcl1 : ∀ w ∈ wsX10, w.before args s = true := fun w hw => C.2.2.2.2.1 w (inlX1 w hw)
  unfold f_X1_floodOnce at h
  refine g_iload_n C dX1_floodOnce_0 rfl 2 rfl ?_
  refine g_istore_n (lv' := [(3, .int a1), (0, .ref (ad 25)), (1, .int a0), (2, .int a1)]) C dX1_floodOnce_1 rfl (by decide) rfl ?_
  refine g_aload_n C dX1_floodOnce_2 rfl 1 rfl ?_
  refine g_iload_n C dX1_floodOnce_3 rfl 2 rfl ?_
  obtain ⟨r1, m3, hX2, h⟩ := bd2_inv h
  refine g_callV C (c_X1_lookAround l hX2) (cwVw 1 C.2.2.2.2.1 wl_739 wl_741 wl_26 wl_111 wl_742 rfl rfl (by decide +kernel) ⟨Nat.le_of_ble_eq_true rfl, Nat.le_of_ble_eq_true rfl⟩) cO_25 rfl rfl rfl rfl (Nat.le_of_ble_eq_true rfl) dX1_floodOnce_4 ?_
  refine g_istore (lv' := [(4, .int r1), (3, .int a1), (0, .ref (ad 25)), (1, .int a0), (2, .int a1)]) C dX1_floodOnce_7 (by decide) rfl ?_
  refine g_iconst (v := (0 : Int32)) C dX1_floodOnce_9 (by decide) ?_
  refine g_istore (lv' := [(5, .int (0 : Int32)), (4, .int r1), (3, .int a1), (0, .ref (ad 25)), (1, .int a0), (2, .int a1)]) C dX1_floodOnce_10 (by decide) rfl ?_
  refine g_sub [3, 2, 1, 0] rfl ?_
  refine g_loop_IIM (L := f_X1_floodOnce_L12 r1) h 12 69 (fun x3_4 x5_5 m6 => [(0, .ref (ad 25)), (3, .int x3_4), (4, .int r1), (5, .int x5_5)]) (fun x3_4 x5_5 m6 => [(3, .int x3_4)]) (fun x3_4 x5_5 m6 => []) (fun x3_4 x5_5 m6 => []) ?_ ?_ (fun _ _ _ _ => rfl)
  · intro x3_4 x5_5 m6 h
    refine g_iload_n C dX1_floodOnce_69 rfl 0 rfl ?_
    obtain ⟨rfl, rfl⟩ := sp_inj h
    exact g_iret C hr hlk dX1_floodOnce_70 rfl
  · intro K7 hK7 n ih x3_4 x5_5 m6 h
    rw [f_X1_floodOnce_L12] at h
    refine g_iload C dX1_floodOnce_12 3 rfl ?_
    refine g_iload C dX1_floodOnce_14 2 rfl ?_
    refine g_icmp_ge (tgt := 69) C dX1_floodOnce_16 (by decide) h (fun h => ?_) (fun h => ?_)
    · exact g_sub [1] rfl (hK7 _ _ _ h)
    · refine g_aload_n C dX1_floodOnce_19 rfl 0 rfl ?_
      refine g_get C (T := TX1) hcl1 cO_25 rfl (j := 3) (by decide) wl_204 (v := .ref (ad 29)) rfl dX1_floodOnce_20 ?_
      refine g_aload_n C dX1_floodOnce_23 rfl 0 rfl ?_
      refine g_get C (T := TX1) hcl1 cO_25 rfl (j := 8) (by decide) wl_209 (v := .ref (ad 34)) rfl dX1_floodOnce_24 ?_
      refine g_iload C dX1_floodOnce_27 3 rfl ?_
      refine g_iald C cI_34 dX1_floodOnce_29 h (fun h => ?_)
      refine g_iald C cI_29 dX1_floodOnce_30 h (fun h => ?_)
      refine g_if_ne (tgt := 63) C dX1_floodOnce_31 (by decide) h (fun h => ?_) (fun h => ?_)
      · refine g_aload_n C dX1_floodOnce_34 rfl 0 rfl ?_
        refine g_get C (T := TX1) hcl1 cO_25 rfl (j := 3) (by decide) wl_204 (v := .ref (ad 29)) rfl dX1_floodOnce_35 ?_
        refine g_aload_n C dX1_floodOnce_38 rfl 0 rfl ?_
        refine g_get C (T := TX1) hcl1 cO_25 rfl (j := 8) (by decide) wl_209 (v := .ref (ad 34)) rfl dX1_floodOnce_39 ?_
        refine g_iload C dX1_floodOnce_42 3 rfl ?_
        refine g_iald C cI_34 dX1_floodOnce_44 h (fun h => ?_)
        refine g_iconst (v := (1 : Int32)) C dX1_floodOnce_45 (by decide) ?_
        refine g_iast C cI_29 dX1_floodOnce_46 h (fun m8 h => ?_)
        refine g_aload_n C dX1_floodOnce_47 rfl 0 rfl ?_
        refine g_get C (T := TX1) hcl1 cO_25 rfl (j := 2) (by decide) wl_203 (v := .ref (ad 28)) rfl dX1_floodOnce_48 ?_
        refine g_iload_n C dX1_floodOnce_51 rfl 1 rfl ?_
        refine g_iinc (lv' := [(0, .ref (ad 25)), (4, .int r1), (5, .int x5_5)]) C dX1_floodOnce_52 (q := 1) rfl (by decide) h rfl (fun _ => rfl) (fun x3_9 h => ?_)
        refine g_aload_n C dX1_floodOnce_55 rfl 1 rfl ?_
        refine g_get C (T := TX1) hcl1 cO_25 rfl (j := 8) (by decide) wl_209 (v := .ref (ad 34)) rfl dX1_floodOnce_56 ?_
        refine g_iload C dX1_floodOnce_59 3 rfl ?_
        refine g_iald C cI_34 dX1_floodOnce_61 h (fun h => ?_)
        refine g_iast C cI_28 dX1_floodOnce_62 h (fun m10 h => ?_)
        refine g_iinc (lv' := [(3, .int x3_9), (0, .ref (ad 25)), (4, .int r1)]) C dX1_floodOnce_63 (q := 3) rfl (by decide) h rfl (fun _ => rfl) (fun x5_11 h => ?_)
        refine g_goto (tgt := 12) C dX1_floodOnce_66 (by decide) ?_
        exact g_sub [2, 1, 3, 0] rfl (ih _ _ _ h)
      · refine g_iinc (lv' := [(0, .ref (ad 25)), (3, .int x3_4), (4, .int r1)]) C dX1_floodOnce_63 (q := 3) rfl (by decide) h rfl (fun _ => rfl) (fun x5_12 h => ?_)
        refine g_goto (tgt := 12) C dX1_floodOnce_66 (by decide) ?_
        exact g_sub [1, 2, 3, 0] rfl (ih _ _ _ h)

def rmX1_flood : Room := { frames := 3, cells := 0, slots := 0, locals := 74 }
set_option maxRecDepth 100000 in
set_option maxHeartbeats 4000000 in
theorem c_X1_flood (l : Launch) {F : Nat}    {m : MM} {m' : MM} {r : Int32} (h : f_X1_flood F m = some (r, m')) : CT l yX1_flood cX1_flood 3 (some .int) rmX1_flood cfC 73 (fun ad tb => [.ref (ad 25)]) m (some (.int r)) m' := by
  refine CT.of (cc := cX1_flood) (maxL := 3) (ret := (some .int)) (by decide) ⟨rfl, rfl⟩ (fun _ _ => Nat.le_of_ble_eq_true rfl) ?_
  intro p e s mt args below meth c D cA ad tb C hr hlk
  refine g_lv (lv' := [(0, .ref (ad 25))]) rfl ?_
  have hcl1 : ∀ w ∈ wsX10, w.before args s = true := fun w hw => C.2.2.2.2.1 w (inlX1 w hw)
  unfold f_X1_flood at h
  refine g_iconst (v := (0 : Int32)) C dX1_flood_0 (by decide) ?_
  refine g_istore_n (lv' := [(1, .int (0 : Int32)), (0, .ref (ad 25))]) C dX1_flood_1 rfl (by decide) rfl ?_
  refine g_sub [1, 0] rfl ?_
  refine g_loop_IM (L := f_X1_flood_L2) h 2 23 (fun x1_1 m2 => [(0, .ref (ad 25)), (1, .int x1_1)]) (fun x1_1 m2 => [(0, .ref (ad 25))]) (fun x1_1 m2 => []) (fun x1_1 m2 => []) ?_ ?_ (fun _ _ _ => rfl)
  · intro x1_1 m2 h
    refine g_aload_n C dX1_flood_23 rfl 0 rfl ?_
    refine g_get C (T := TX1) hcl1 cO_25 rfl (j := 3) (by decide) wl_204 (v := .ref (ad 29)) rfl dX1_flood_24 ?_
    refine g_aload_n C dX1_flood_27 rfl 0 rfl ?_
    refine g_get C (T := TX1) hcl1 cO_25 rfl (j := 12) (by decide) wl_213 (v := .int (rI m2 25 12)) rfl dX1_flood_28 ?_
    refine g_iconst (v := (1 : Int32)) C dX1_flood_31 (by decide) ?_
    refine g_iast C cI_29 dX1_flood_32 h (fun m6 h => ?_)
    refine g_aload_n C dX1_flood_33 rfl 0 rfl ?_
    refine g_get C (T := TX1) hcl1 cO_25 rfl (j := 2) (by decide) wl_203 (v := .ref (ad 28)) rfl dX1_flood_34 ?_
    refine g_iconst (v := (0 : Int32)) C dX1_flood_37 (by decide) ?_
    refine g_aload_n C dX1_flood_38 rfl 0 rfl ?_
    refine g_get C (T := TX1) hcl1 cO_25 rfl (j := 12) (by decide) wl_213 (v := .int (rI m6 25 12)) rfl dX1_flood_39 ?_
    refine g_iast C cI_28 dX1_flood_42 h (fun m7 h => ?_)
    refine g_iconst (v := (1 : Int32)) C dX1_flood_43 (by decide) ?_
    refine g_istore_n (lv' := [(1, .int (1 : Int32)), (0, .ref (ad 25))]) C dX1_flood_44 rfl (by decide) rfl ?_
    refine g_iconst (v := (0 : Int32)) C dX1_flood_45 (by decide) ?_
    refine g_istore_n (lv' := [(2, .int (0 : Int32)), (1, .int (1 : Int32)), (0, .ref (ad 25))]) C dX1_flood_46 rfl (by decide) rfl ?_
    refine g_sub [2, 1, 0] rfl ?_
    refine g_loop_IIM (L := f_X1_flood_L47 F) h 47 78 (fun x1_8 x2_9 m10 => [(0, .ref (ad 25)), (1, .int x1_8), (2, .int x2_9)]) (fun x1_8 x2_9 m10 => [(1, .int x1_8)]) (fun x1_8 x2_9 m10 => []) (fun x1_8 x2_9 m10 => []) ?_ ?_ (fun _ _ _ _ => rfl)
    · intro x1_8 x2_9 m10 h
      refine g_iload_n C dX1_flood_78 rfl 0 rfl ?_
      obtain ⟨rfl, rfl⟩ := sp_inj h
      exact g_iret C hr hlk dX1_flood_79 rfl
    · intro K11 hK11 n ih x1_8 x2_9 m10 h
      rw [f_X1_flood_L47] at h
      refine g_iload_n C dX1_flood_47 rfl 2 rfl ?_
      refine g_iload_n C dX1_flood_48 rfl 1 rfl ?_
      refine g_icmp_ge (tgt := 78) C dX1_flood_49 (by decide) h (fun h => ?_) (fun h => ?_)
      · exact g_sub [1] rfl (hK11 _ _ _ h)
      · refine g_iload_n C dX1_flood_52 rfl 2 rfl ?_
        refine g_aload_n C dX1_flood_53 rfl 0 rfl ?_
        refine g_get C (T := TX1) hcl1 cO_25 rfl (j := 11) (by decide) wl_212 (v := .int (rI m10 25 11)) rfl dX1_flood_54 ?_
        refine g_icmp_ge (tgt := 78) C dX1_flood_57 (by decide) h (fun h => ?_) (fun h => ?_)
        · exact g_sub [1] rfl (hK11 _ _ _ h)
        · refine g_aload_n C dX1_flood_60 rfl 0 rfl ?_
          refine g_aload_n C dX1_flood_61 rfl 0 rfl ?_
          refine g_get C (T := TX1) hcl1 cO_25 rfl (j := 2) (by decide) wl_203 (v := .ref (ad 28)) rfl dX1_flood_62 ?_
          refine g_iload_n C dX1_flood_65 rfl 2 rfl ?_
          refine g_iald C cI_28 dX1_flood_66 h (fun h => ?_)
          refine g_iload_n C dX1_flood_67 rfl 1 rfl ?_
          obtain ⟨r12, m14, hX13, h⟩ := bd2_inv h
          refine g_callV C (c_X1_floodOnce l hX13) (cwVw 2 C.2.2.2.2.1 wl_766 wl_768 wl_29 wl_111 wl_769 rfl rfl (by decide +kernel) ⟨Nat.le_of_ble_eq_true rfl, Nat.le_of_ble_eq_true rfl⟩) cO_25 rfl rfl rfl rfl (Nat.le_of_ble_eq_true rfl) dX1_flood_68 ?_
          refine g_istore_n (lv' := [(1, .int r12), (0, .ref (ad 25)), (2, .int x2_9)]) C dX1_flood_71 rfl (by decide) rfl ?_
          refine g_iinc (lv' := [(1, .int r12), (0, .ref (ad 25))]) C dX1_flood_72 (q := 2) rfl (by decide) h rfl (fun _ => rfl) (fun x2_15 h => ?_)
          refine g_goto (tgt := 47) C dX1_flood_75 (by decide) ?_
          exact g_sub [2, 1, 0] rfl (ih _ _ _ h)
  · intro K3 hK3 n ih x1_1 m2 h
    rw [f_X1_flood_L2] at h
    refine g_iload_n C dX1_flood_2 rfl 1 rfl ?_
    refine g_aload_n C dX1_flood_3 rfl 0 rfl ?_
    refine g_get C (T := TX1) hcl1 cO_25 rfl (j := 11) (by decide) wl_212 (v := .int (rI m2 25 11)) rfl dX1_flood_4 ?_
    refine g_icmp_ge (tgt := 23) C dX1_flood_7 (by decide) h (fun h => ?_) (fun h => ?_)
    · exact g_sub [0] rfl (hK3 _ _ h)
    · refine g_aload_n C dX1_flood_10 rfl 0 rfl ?_
      refine g_get C (T := TX1) hcl1 cO_25 rfl (j := 3) (by decide) wl_204 (v := .ref (ad 29)) rfl dX1_flood_11 ?_
      refine g_iload_n C dX1_flood_14 rfl 1 rfl ?_
      refine g_iconst (v := (0 : Int32)) C dX1_flood_15 (by decide) ?_
      refine g_iast C cI_29 dX1_flood_16 h (fun m4 h => ?_)
      refine g_iinc (lv' := [(0, .ref (ad 25))]) C dX1_flood_17 (q := 1) rfl (by decide) h rfl (fun _ => rfl) (fun x1_5 h => ?_)
      refine g_goto (tgt := 2) C dX1_flood_20 (by decide) ?_
      exact g_sub [1, 0] rfl (ih _ _ h)
