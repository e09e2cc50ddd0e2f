/-! contracts: X6_reaches X6_best X6_pack X6_ring X6_leave X6_roomy X6_isSheet X6_goesBy X6_judge X6_codeOf X6_begins X6_steps -/
def rmX6_reaches : Room := { frames := 2, cells := 0, slots := 0, locals := 43 }
set_option maxRecDepth 100000 in
set_option maxHeartbeats 4000000 in
theorem c_X6_reaches (l : Launch) {F : Nat}  {a0 : Int32}  {m : MM} {m' : MM} {r : Int32} (h : f_X6_reaches F a0 m = some (r, m')) : CT l yX6_reaches cX6_reaches 8 (some .int) rmX6_reaches cfM 23 (fun ad tb => [.ref (ad 0), .int a0]) m (some (.int r)) m' := by
  refine CT.of (cc := cX6_reaches) (maxL := 8) (ret := (some .int)) (by decide) ⟨rfl, rfl⟩ (fun _ _ => Nat.le_of_ble_eq_true rfl) ?_
  intro p e s mt args below meth c D cA ad tb C hr hlk
  refine g_lv (lv' := [(0, .ref (ad 0)), (1, .int a0)]) rfl ?_
  have hcl6 : ∀ w ∈ wsX60, w.before args s = true := fun w hw => C.2.2.2.2.1 w (inlX6 w hw)
  unfold f_X6_reaches at h
  refine g_aload_n C dX6_reaches_0 rfl 0 rfl ?_
  refine g_get C (T := TX6) hcl6 mO_0 rfl (j := 14) (by decide) wl_933 (v := .int (rI m 0 14)) rfl dX6_reaches_1 ?_
  refine g_join_I h 22 (fun s1 => [(0, .ref (ad 0)), (1, .int a0)]) (fun s1 => [.int s1]) ?_ ?_
  · intro s1 h
    refine g_istore_n (lv' := [(2, .int s1), (0, .ref (ad 0)), (1, .int a0)]) C dX6_reaches_22 rfl (by decide) rfl ?_
    refine g_iconst (v := (0 : Int32)) C dX6_reaches_23 (by decide) ?_
    refine g_istore_n (lv' := [(3, .int (0 : Int32)), (2, .int s1), (0, .ref (ad 0)), (1, .int a0)]) C dX6_reaches_24 rfl (by decide) rfl ?_
    refine g_sub [2, 3, 1, 0] rfl ?_
    refine g_loop_IM (L := f_X6_reaches_L25 s1) h 25 43 (fun x3_3 m4 => [(0, .ref (ad 0)), (1, .int a0), (2, .int s1), (3, .int x3_3)]) (fun x3_3 m4 => [(0, .ref (ad 0)), (1, .int a0), (2, .int s1)]) (fun x3_3 m4 => []) (fun x3_3 m4 => []) ?_ ?_ (fun _ _ _ => rfl)
    · intro x3_3 m4 h
      refine g_aload_n C dX6_reaches_43 rfl 0 rfl ?_
      refine g_get C (T := TX6) hcl6 mO_0 rfl (j := 39) (by decide) wl_958 (v := .ref (ad 15)) rfl dX6_reaches_44 ?_
      refine g_aload_n C dX6_reaches_47 rfl 0 rfl ?_
      obtain ⟨r8, hX9, h⟩ := bd1_inv h
      refine g_callV C (c_X6_codeNow l hX9) (cwVw 0 C.2.2.2.2.1 wl_1399 wl_1401 wl_96 wl_121 wl_1402 rfl rfl (by decide +kernel) ⟨Nat.le_of_ble_eq_true rfl, Nat.le_of_ble_eq_true rfl⟩) mO_0 rfl rfl rfl rfl (Nat.le_of_ble_eq_true rfl) dX6_reaches_48 ?_
      refine g_iconst (v := (1 : Int32)) C dX6_reaches_51 (by decide) ?_
      refine g_iast C mI_15 dX6_reaches_52 h (fun m10 h => ?_)
      refine g_iconst (v := (1 : Int32)) C dX6_reaches_53 (by decide) ?_
      refine g_istore_n (lv' := [(3, .int (1 : Int32)), (0, .ref (ad 0)), (1, .int a0), (2, .int s1)]) C dX6_reaches_54 rfl (by decide) rfl ?_
      refine g_sub [1, 2, 3, 0] rfl ?_
      refine g_loop_IM (L := f_X6_reaches_L55 F s1) h 55 169 (fun x3_11 m12 => [(0, .ref (ad 0)), (1, .int a0), (2, .int s1), (3, .int x3_11)]) (fun x3_11 m12 => [(0, .ref (ad 0)), (1, .int a0), (2, .int s1)]) (fun x3_11 m12 => []) (fun x3_11 m12 => []) ?_ ?_ (fun _ _ _ => rfl)
      · intro x3_11 m12 h
        refine g_iconst (v := (0 : Int32)) C dX6_reaches_169 (by decide) ?_
        refine g_istore (lv' := [(4, .int (0 : Int32)), (0, .ref (ad 0)), (1, .int a0), (2, .int s1)]) C dX6_reaches_170 (by decide) rfl ?_
        refine g_iconst (v := (-1 : Int32)) C dX6_reaches_172 (by decide) ?_
        refine g_istore (lv' := [(5, .int (-1 : Int32)), (4, .int (0 : Int32)), (0, .ref (ad 0)), (1, .int a0), (2, .int s1)]) C dX6_reaches_173 (by decide) rfl ?_
        refine g_iconst (v := (0 : Int32)) C dX6_reaches_175 (by decide) ?_
        refine g_istore (lv' := [(6, .int (0 : Int32)), (5, .int (-1 : Int32)), (4, .int (0 : Int32)), (0, .ref (ad 0)), (1, .int a0), (2, .int s1)]) C dX6_reaches_176 (by decide) rfl ?_
        refine g_sub [3, 4, 5, 2, 1, 0] rfl ?_
        refine g_loop_III (L := f_X6_reaches_L178 s1 m12) h 178 252 (fun x4_34 x5_35 x6_36 => [(0, .ref (ad 0)), (1, .int a0), (2, .int s1), (4, .int x4_34), (5, .int x5_35), (6, .int x6_36)]) (fun x4_34 x5_35 x6_36 => [(1, .int a0), (4, .int x4_34), (5, .int x5_35)]) (fun x4_34 x5_35 x6_36 => []) (fun x4_34 x5_35 x6_36 => []) ?_ ?_ (fun _ _ _ _ => rfl)
        · intro x4_34 x5_35 x6_36 h
          refine g_iload_n C dX6_reaches_252 rfl 0 rfl ?_
          refine g_if_ne (tgt := 261) C dX6_reaches_253 (by decide) h (fun h => ?_) (fun h => ?_)
          · refine g_iload C dX6_reaches_256 1 rfl ?_
            refine g_goto (tgt := 263) C dX6_reaches_258 (by decide) ?_
            obtain ⟨rfl, rfl⟩ := sp_inj h
            exact g_iret C hr hlk dX6_reaches_263 rfl
          · refine g_iload C dX6_reaches_261 2 rfl ?_
            obtain ⟨rfl, rfl⟩ := sp_inj h
            exact g_iret C hr hlk dX6_reaches_263 rfl
        · intro K37 hK37 n ih x4_34 x5_35 x6_36 h
          rw [f_X6_reaches_L178] at h
          refine g_iload C dX6_reaches_178 5 rfl ?_
          refine g_iload_n C dX6_reaches_180 rfl 2 rfl ?_
          refine g_icmp_ge (tgt := 252) C dX6_reaches_181 (by decide) h (fun h => ?_) (fun h => ?_)
          · exact g_sub [1, 3, 4] rfl (hK37 _ _ _ h)
          · refine g_iload C dX6_reaches_184 3 rfl ?_
            refine g_aload_n C dX6_reaches_186 rfl 0 rfl ?_
            refine g_get C (T := TX6) hcl6 mO_0 rfl (j := 39) (by decide) wl_958 (v := .ref (ad 15)) rfl dX6_reaches_187 ?_
            refine g_iload C dX6_reaches_190 5 rfl ?_
            refine g_iald C mI_15 dX6_reaches_192 h (fun h => ?_)
            refine g_iadd C dX6_reaches_193 ?_
            refine nm_i h (fun x4_38 h => ?_)
            refine g_istore (lv' := [(4, .int x4_38), (0, .ref (ad 0)), (1, .int a0), (2, .int s1), (5, .int x5_35), (6, .int x6_36)]) C dX6_reaches_194 (by decide) rfl ?_
            refine g_aload_n C dX6_reaches_196 rfl 1 rfl ?_
            refine g_get C (T := TX6) hcl6 mO_0 rfl (j := 39) (by decide) wl_958 (v := .ref (ad 15)) rfl dX6_reaches_197 ?_
            refine g_iload C dX6_reaches_200 5 rfl ?_
            refine g_iald C mI_15 dX6_reaches_202 h (fun h => ?_)
            refine g_iconst (v := (1 : Int32)) C dX6_reaches_203 (by decide) ?_
            refine g_join_I h 244 (fun s39 => [(0, .ref (ad 0)), (1, .int a0), (2, .int s1), (4, .int x4_38), (6, .int x6_36)]) (fun s39 => [.int s39]) ?_ ?_
            · intro s39 h
              refine g_istore (lv' := [(5, .int s39), (0, .ref (ad 0)), (1, .int a0), (2, .int s1), (4, .int x4_38), (6, .int x6_36)]) C dX6_reaches_244 (by decide) rfl ?_
              refine g_iinc (lv' := [(5, .int s39), (0, .ref (ad 0)), (1, .int a0), (2, .int s1), (4, .int x4_38)]) C dX6_reaches_246 (q := 5) rfl (by decide) h rfl (fun _ => rfl) (fun x6_41 h => ?_)
              refine g_goto (tgt := 178) C dX6_reaches_249 (by decide) ?_
              exact g_sub [2, 3, 4, 5, 1, 0] rfl (ih _ _ _ h)
            intro J40 hJ40 h
            refine g_join_ h 242 ([(0, .ref (ad 0)), (1, .int a0), (2, .int s1), (4, .int x4_38), (5, .int x5_35), (6, .int x6_36)]) ([]) ?_ ?_
            · intro h
              refine g_iload C dX6_reaches_242 4 rfl ?_
              exact g_sub [0, 1, 2, 3, 5] rfl (hJ40 _ h)
            intro J42 hJ42 h
            refine g_icmp_ne (tgt := 242) C dX6_reaches_204 (by decide) h (fun h => ?_) (fun h => ?_)
            · refine g_aload_n C dX6_reaches_207 rfl 1 rfl ?_
              refine g_get C (T := TX6) hcl6 mO_0 rfl (j := 36) (by decide) wl_955 (v := .ref (ad 12)) rfl dX6_reaches_208 ?_
              refine g_iload C dX6_reaches_211 5 rfl ?_
              refine g_iald C mI_12 dX6_reaches_213 h (fun h => ?_)
              refine g_ldcw (v := (99999999 : Int32)) C dX6_reaches_214 wl_1414 ?_
              refine g_icmp_ge (tgt := 242) C dX6_reaches_217 (by decide) h (fun h => ?_) (fun h => ?_)
              · exact g_sub [1, 2, 3, 0, 4, 5] rfl (hJ42  h)
              · refine g_aload_n C dX6_reaches_220 rfl 1 rfl ?_
                refine g_get C (T := TX6) hcl6 mO_0 rfl (j := 36) (by decide) wl_955 (v := .ref (ad 12)) rfl dX6_reaches_221 ?_
                refine g_iload C dX6_reaches_224 5 rfl ?_
                refine g_iald C mI_12 dX6_reaches_226 h (fun h => ?_)
                refine g_iload C dX6_reaches_227 4 rfl ?_
                refine g_icmp_le (tgt := 242) C dX6_reaches_229 (by decide) h (fun h => ?_) (fun h => ?_)
                · exact g_sub [1, 2, 3, 0, 4, 5] rfl (hJ42  h)
                · refine g_aload_n C dX6_reaches_232 rfl 1 rfl ?_
                  refine g_get C (T := TX6) hcl6 mO_0 rfl (j := 36) (by decide) wl_955 (v := .ref (ad 12)) rfl dX6_reaches_233 ?_
                  refine g_iload C dX6_reaches_236 5 rfl ?_
                  refine g_iald C mI_12 dX6_reaches_238 h (fun h => ?_)
                  refine g_goto (tgt := 244) C dX6_reaches_239 (by decide) ?_
                  exact g_sub [1, 2, 3, 0, 5] rfl (hJ40 _ h)
            · exact g_sub [1, 2, 3, 0, 4, 5] rfl (hJ42  h)
      · intro K13 hK13 n ih x3_11 m12 h
        rw [f_X6_reaches_L55] at h
        refine g_iload_n C dX6_reaches_55 rfl 3 rfl ?_
        refine g_if_eq (tgt := 169) C dX6_reaches_56 (by decide) h (fun h => ?_) (fun h => ?_)
        · exact g_sub [0, 1, 2] rfl (hK13 _ _ h)
        · refine g_iconst (v := (0 : Int32)) C dX6_reaches_59 (by decide) ?_
          refine g_istore_n (lv' := [(3, .int (0 : Int32)), (0, .ref (ad 0)), (1, .int a0), (2, .int s1)]) C dX6_reaches_60 rfl (by decide) rfl ?_
          refine g_iconst (v := (0 : Int32)) C dX6_reaches_61 (by decide) ?_
          refine g_istore (lv' := [(4, .int (0 : Int32)), (3, .int (0 : Int32)), (0, .ref (ad 0)), (1, .int a0), (2, .int s1)]) C dX6_reaches_62 (by decide) rfl ?_
          refine g_sub [2, 3, 4, 1, 0] rfl ?_
          refine g_loop_IIM (L := f_X6_reaches_L64 F s1) h 64 55 (fun x3_14 x4_15 m16 => [(0, .ref (ad 0)), (1, .int a0), (2, .int s1), (3, .int x3_14), (4, .int x4_15)]) (fun x3_14 x4_15 m16 => [(0, .ref (ad 0)), (1, .int a0), (2, .int s1), (3, .int x3_14)]) (fun x3_14 x4_15 m16 => []) (fun x3_14 x4_15 m16 => []) ?_ ?_ (fun _ _ _ _ => rfl)
          · intro x3_14 x4_15 m16 h
            exact g_sub [0, 1, 2, 3] rfl (ih _ _ h)
          · intro K17 hK17 n ih x3_14 x4_15 m16 h
            rw [f_X6_reaches_L64] at h
            refine g_iload C dX6_reaches_64 4 rfl ?_
            refine g_iload_n C dX6_reaches_66 rfl 2 rfl ?_
            refine g_icmp_ge (tgt := 166) C dX6_reaches_67 (by decide) h (fun h => ?_) (fun h => ?_)
            · refine g_goto (tgt := 55) C dX6_reaches_166 (by decide) ?_
              exact g_sub [0, 1, 2, 3] rfl (hK17 _ _ _ h)
            · refine g_iconst (v := (0 : Int32)) C dX6_reaches_70 (by decide) ?_
              refine g_istore (lv' := [(5, .int (0 : Int32)), (0, .ref (ad 0)), (1, .int a0), (2, .int s1), (3, .int x3_14), (4, .int x4_15)]) C dX6_reaches_71 (by decide) rfl ?_
              refine g_sub [1, 2, 3, 4, 5, 0] rfl ?_
              refine g_loop_IIM (L := f_X6_reaches_L73 F x4_15) h 73 160 (fun x3_18 x5_19 m20 => [(0, .ref (ad 0)), (1, .int a0), (2, .int s1), (3, .int x3_18), (4, .int x4_15), (5, .int x5_19)]) (fun x3_18 x5_19 m20 => [(0, .ref (ad 0)), (1, .int a0), (2, .int s1), (3, .int x3_18), (4, .int x4_15)]) (fun x3_18 x5_19 m20 => []) (fun x3_18 x5_19 m20 => []) ?_ ?_ (fun _ _ _ _ => rfl)
              · intro x3_18 x5_19 m20 h
                refine g_iinc (lv' := [(0, .ref (ad 0)), (1, .int a0), (2, .int s1), (3, .int x3_18)]) C dX6_reaches_160 (q := 4) rfl (by decide) h rfl (fun _ => rfl) (fun x4_33 h => ?_)
                refine g_goto (tgt := 64) C dX6_reaches_163 (by decide) ?_
                exact g_sub [1, 2, 3, 4, 0] rfl (ih _ _ _ h)
              · intro K21 hK21 n ih x3_18 x5_19 m20 h
                rw [f_X6_reaches_L73] at h
                refine g_iload C dX6_reaches_73 5 rfl ?_
                refine g_aload_n C dX6_reaches_75 rfl 0 rfl ?_
                refine g_get C (T := TX6) hcl6 mO_0 rfl (j := 14) (by decide) wl_933 (v := .int (rI m20 0 14)) rfl dX6_reaches_76 ?_
                refine g_icmp_ge (tgt := 160) C dX6_reaches_79 (by decide) h (fun h => ?_) (fun h => ?_)
                · exact g_sub [0, 1, 2, 3, 4] rfl (hK21 _ _ _ h)
                · refine g_aload_n C dX6_reaches_82 rfl 0 rfl ?_
                  refine g_get C (T := TX6) hcl6 mO_0 rfl (j := 39) (by decide) wl_958 (v := .ref (ad 15)) rfl dX6_reaches_83 ?_
                  refine g_iload C dX6_reaches_86 4 rfl ?_
                  refine g_iald C mI_15 dX6_reaches_88 h (fun h => ?_)
                  refine g_iconst (v := (1 : Int32)) C dX6_reaches_89 (by decide) ?_
                  refine g_icmp_ne (tgt := 160) C dX6_reaches_90 (by decide) h (fun h => ?_) (fun h => ?_)
                  · refine g_iconst (v := (0 : Int32)) C dX6_reaches_93 (by decide) ?_
                    refine g_istore (lv' := [(6, .int (0 : Int32)), (0, .ref (ad 0)), (1, .int a0), (2, .int s1), (3, .int x3_18), (4, .int x4_15), (5, .int x5_19)]) C dX6_reaches_94 (by decide) rfl ?_
                    refine g_sub [1, 2, 3, 4, 5, 6, 0] rfl ?_
                    refine g_loop_IIM (L := f_X6_reaches_L96 x4_15 x5_19) h 96 154 (fun x3_22 x6_23 m24 => [(0, .ref (ad 0)), (1, .int a0), (2, .int s1), (3, .int x3_22), (4, .int x4_15), (5, .int x5_19), (6, .int x6_23)]) (fun x3_22 x6_23 m24 => [(0, .ref (ad 0)), (1, .int a0), (2, .int s1), (3, .int x3_22), (4, .int x4_15), (5, .int x5_19)]) (fun x3_22 x6_23 m24 => []) (fun x3_22 x6_23 m24 => []) ?_ ?_ (fun _ _ _ _ => rfl)
                    · intro x3_22 x6_23 m24 h
                      refine g_iinc (lv' := [(0, .ref (ad 0)), (1, .int a0), (2, .int s1), (3, .int x3_22), (4, .int x4_15)]) C dX6_reaches_154 (q := 5) rfl (by decide) h rfl (fun _ => rfl) (fun x5_32 h => ?_)
                      refine g_goto (tgt := 73) C dX6_reaches_157 (by decide) ?_
                      exact g_sub [1, 2, 3, 4, 5, 0] rfl (ih _ _ _ h)
                    · intro K25 hK25 n ih x3_22 x6_23 m24 h
                      rw [f_X6_reaches_L96] at h
                      refine g_iload C dX6_reaches_96 6 rfl ?_
                      refine g_aload_n C dX6_reaches_98 rfl 0 rfl ?_
                      refine g_get C (T := TX6) hcl6 mO_0 rfl (j := 9) (by decide) wl_928 (v := .int (rI m24 0 9)) rfl dX6_reaches_99 ?_
                      refine g_icmp_ge (tgt := 154) C dX6_reaches_102 (by decide) h (fun h => ?_) (fun h => ?_)
                      · exact g_sub [0, 1, 2, 3, 4, 5] rfl (hK25 _ _ _ h)
                      · refine g_aload_n C dX6_reaches_105 rfl 0 rfl ?_
                        refine g_iload C dX6_reaches_106 4 rfl ?_
                        refine g_iload C dX6_reaches_108 5 rfl ?_
                        refine g_iload C dX6_reaches_110 6 rfl ?_
                        obtain ⟨r26, hX27, h⟩ := bd1_inv h
                        refine g_callV C (c_X6_after l hX27) (cwVw 3 C.2.2.2.2.1 wl_1419 wl_1421 wl_100 wl_121 wl_1422 rfl rfl (by decide +kernel) ⟨Nat.le_of_ble_eq_true rfl, Nat.le_of_ble_eq_true rfl⟩) mO_0 rfl rfl rfl rfl (Nat.le_of_ble_eq_true rfl) dX6_reaches_112 ?_
                        refine g_istore (lv' := [(7, .int r26), (0, .ref (ad 0)), (1, .int a0), (2, .int s1), (3, .int x3_22), (4, .int x4_15), (5, .int x5_19), (6, .int x6_23)]) C dX6_reaches_115 (by decide) rfl ?_
                        refine g_aload_n C dX6_reaches_117 rfl 1 rfl ?_
                        refine g_get C (T := TX6) hcl6 mO_0 rfl (j := 35) (by decide) wl_954 (v := .ref (ad 11)) rfl dX6_reaches_118 ?_
                        refine g_iload C dX6_reaches_121 0 rfl ?_
                        refine g_iald C mI_11 dX6_reaches_123 h (fun h => ?_)
                        refine g_iconst (v := (1 : Int32)) C dX6_reaches_124 (by decide) ?_
                        refine g_icmp_ne (tgt := 148) C dX6_reaches_125 (by decide) h (fun h => ?_) (fun h => ?_)
                        · refine g_aload_n C dX6_reaches_128 rfl 1 rfl ?_
                          refine g_get C (T := TX6) hcl6 mO_0 rfl (j := 39) (by decide) wl_958 (v := .ref (ad 15)) rfl dX6_reaches_129 ?_
                          refine g_iload C dX6_reaches_132 0 rfl ?_
                          refine g_iald C mI_15 dX6_reaches_134 h (fun h => ?_)
                          refine g_if_ne (tgt := 148) C dX6_reaches_135 (by decide) h (fun h => ?_) (fun h => ?_)
                          · refine g_aload_n C dX6_reaches_138 rfl 1 rfl ?_
                            refine g_get C (T := TX6) hcl6 mO_0 rfl (j := 39) (by decide) wl_958 (v := .ref (ad 15)) rfl dX6_reaches_139 ?_
                            refine g_iload C dX6_reaches_142 0 rfl ?_
                            refine g_iconst (v := (1 : Int32)) C dX6_reaches_144 (by decide) ?_
                            refine g_iast C mI_15 dX6_reaches_145 h (fun m28 h => ?_)
                            refine g_iconst (v := (1 : Int32)) C dX6_reaches_146 (by decide) ?_
                            refine g_istore_n (lv' := [(3, .int (1 : Int32)), (7, .int r26), (0, .ref (ad 0)), (1, .int a0), (2, .int s1), (4, .int x4_15), (5, .int x5_19), (6, .int x6_23)]) C dX6_reaches_147 rfl (by decide) rfl ?_
                            refine g_iinc (lv' := [(3, .int (1 : Int32)), (7, .int r26), (0, .ref (ad 0)), (1, .int a0), (2, .int s1), (4, .int x4_15), (5, .int x5_19)]) C dX6_reaches_148 (q := 7) rfl (by decide) h rfl (fun _ => rfl) (fun x6_29 h => ?_)
                            refine g_goto (tgt := 96) C dX6_reaches_151 (by decide) ?_
                            exact g_sub [3, 4, 5, 1, 6, 7, 0] rfl (ih _ _ _ h)
                          · refine g_iinc (lv' := [(7, .int r26), (0, .ref (ad 0)), (1, .int a0), (2, .int s1), (3, .int x3_22), (4, .int x4_15), (5, .int x5_19)]) C dX6_reaches_148 (q := 7) rfl (by decide) h rfl (fun _ => rfl) (fun x6_30 h => ?_)
                            refine g_goto (tgt := 96) C dX6_reaches_151 (by decide) ?_
                            exact g_sub [2, 3, 4, 5, 6, 7, 0] rfl (ih _ _ _ h)
                        · refine g_iinc (lv' := [(7, .int r26), (0, .ref (ad 0)), (1, .int a0), (2, .int s1), (3, .int x3_22), (4, .int x4_15), (5, .int x5_19)]) C dX6_reaches_148 (q := 7) rfl (by decide) h rfl (fun _ => rfl) (fun x6_31 h => ?_)
                          refine g_goto (tgt := 96) C dX6_reaches_151 (by decide) ?_
                          exact g_sub [2, 3, 4, 5, 6, 7, 0] rfl (ih _ _ _ h)
                  · exact g_sub [0, 1, 2, 3, 4] rfl (hK21 _ _ _ h)
    · intro K5 hK5 n ih x3_3 m4 h
      rw [f_X6_reaches_L25] at h
      refine g_iload_n C dX6_reaches_25 rfl 3 rfl ?_
      refine g_iload_n C dX6_reaches_26 rfl 2 rfl ?_
      refine g_icmp_ge (tgt := 43) C dX6_reaches_27 (by decide) h (fun h => ?_) (fun h => ?_)
      · exact g_sub [0, 1, 2] rfl (hK5 _ _ h)
      · refine g_aload_n C dX6_reaches_30 rfl 0 rfl ?_
        refine g_get C (T := TX6) hcl6 mO_0 rfl (j := 39) (by decide) wl_958 (v := .ref (ad 15)) rfl dX6_reaches_31 ?_
        refine g_iload_n C dX6_reaches_34 rfl 3 rfl ?_
        refine g_iconst (v := (0 : Int32)) C dX6_reaches_35 (by decide) ?_
        refine g_iast C mI_15 dX6_reaches_36 h (fun m6 h => ?_)
        refine g_iinc (lv' := [(0, .ref (ad 0)), (1, .int a0), (2, .int s1)]) C dX6_reaches_37 (q := 3) rfl (by decide) h rfl (fun _ => rfl) (fun x3_7 h => ?_)
        refine g_goto (tgt := 25) C dX6_reaches_40 (by decide) ?_
        exact g_sub [1, 2, 3, 0] rfl (ih _ _ h)
  intro J2 hJ2 h
  refine g_if_ne (tgt := 11) C dX6_reaches_4 (by decide) h (fun h => ?_) (fun h => ?_)
  · refine g_iconst (v := (1 : Int32)) C dX6_reaches_7 (by decide) ?_
    refine g_goto (tgt := 22) C dX6_reaches_8 (by decide) ?_
    exact g_sub [0, 1] rfl (hJ2 _ h)
  · refine g_aload_n C dX6_reaches_11 rfl 0 rfl ?_
    refine g_get C (T := TX6) hcl6 mO_0 rfl (j := 14) (by decide) wl_933 (v := .int (rI m 0 14)) rfl dX6_reaches_12 ?_
    refine g_iconst (v := (1 : Int32)) C dX6_reaches_15 (by decide) ?_
    refine g_isub C dX6_reaches_16 ?_
    obtain ⟨r43, hX44, h⟩ := bd1_inv h
    refine g_callS C (c_X6_place l hX44) (cwSw 1 C.2.2.2.2.1 wl_1403 wl_1404 wl_121 wl_1405 rfl rfl (by decide +kernel) ⟨Nat.le_of_ble_eq_true rfl, Nat.le_of_ble_eq_true rfl⟩) rfl rfl rfl (Nat.le_of_ble_eq_true rfl) dX6_reaches_17 ?_
    refine g_iconst (v := (5 : Int32)) C dX6_reaches_20 (by decide) ?_
    refine g_imul C dX6_reaches_21 ?_
    exact g_sub [0, 1] rfl (hJ2 _ h)

def rmX6_best : Room := { frames := 44, cells := 0, slots := 0, locals := 979 }
set_option maxRecDepth 100000 in
set_option maxHeartbeats 4000000 in
theorem c_X6_best (l : Launch) {F : Nat}  {a0 : Int32}  {m : MM} {m' : MM} {r : Int32} (h : f_X6_best F a0 m = some (r, m')) : CT l yX6_best cX6_best 2 (some .int) rmX6_best cfM 23 (fun ad tb => [.ref (ad 0), .int a0]) m (some (.int r)) m' := by
  refine CT.of (cc := cX6_best) (maxL := 2) (ret := (some .int)) (by decide) ⟨rfl, rfl⟩ (fun _ _ => Nat.le_of_ble_eq_true rfl) ?_
  intro p e s mt args below meth c D cA ad tb C hr hlk
  refine g_lv (lv' := [(0, .ref (ad 0)), (1, .int a0)]) rfl ?_
  have hcl6 : ∀ w ∈ wsX60, w.before args s = true := fun w hw => C.2.2.2.2.1 w (inlX6 w hw)
  unfold f_X6_best at h
  refine g_iload_n C dX6_best_0 rfl 1 rfl ?_
  refine g_i2l C dX6_best_1 ?_
  refine g_lconst (v := (0 : Int64)) C dX6_best_2 (by decide) ?_
  refine g_ldc2 (v := (5 : Int64)) C dX6_best_3 wl_1088 ?_
  obtain ⟨r1, hX2, h⟩ := bd1_inv h
  refine g_callS C (c_X6_in l hX2) (cwSw 3 C.2.2.2.2.1 wl_1089 wl_1090 wl_121 wl_1091 rfl rfl (by decide +kernel) ⟨Nat.le_of_ble_eq_true rfl, Nat.le_of_ble_eq_true rfl⟩) rfl rfl rfl (Nat.le_of_ble_eq_true rfl) dX6_best_6 ?_
  refine g_if_ne (tgt := 15) C dX6_best_9 (by decide) h (fun h => ?_) (fun h => ?_)
  · refine g_bipush (v := (-100 : Int32)) C dX6_best_12 (by decide) ?_
    obtain ⟨rfl, rfl⟩ := sp_inj h
    exact g_iret C hr hlk dX6_best_14 rfl
  · refine g_aload_n C dX6_best_15 rfl 0 rfl ?_
    obtain ⟨m4, hX3, h⟩ := bd1_inv h
    refine g_callV C (c_X6_gathers l hX3) (cwVw 0 C.2.2.2.2.1 wl_1395 wl_1397 wl_95 wl_121 wl_1398 rfl rfl (by decide +kernel) ⟨Nat.le_of_ble_eq_true rfl, Nat.le_of_ble_eq_true rfl⟩) mO_0 rfl rfl rfl rfl (Nat.le_of_ble_eq_true rfl) dX6_best_16 ?_
    refine g_iload_n C dX6_best_19 rfl 1 rfl ?_
    refine g_join_ h 28 ([(0, .ref (ad 0)), (1, .int a0)]) ([]) ?_ ?_
    · intro h
      refine g_iload_n C dX6_best_28 rfl 1 rfl ?_
      refine g_join_I h 53 (fun s6 => []) (fun s6 => [.int s6]) ?_ ?_
      · intro s6 h
        obtain ⟨r8, hX9, h⟩ := bd1_inv h
        refine g_callS C (c_X6_told1 l hX9) (cwSw 1 C.2.2.2.2.1 wl_1423 wl_1424 wl_121 wl_1425 rfl rfl (by decide +kernel) ⟨Nat.le_of_ble_eq_true rfl, Nat.le_of_ble_eq_true rfl⟩) rfl rfl rfl (Nat.le_of_ble_eq_true rfl) dX6_best_53 ?_
        obtain ⟨rfl, rfl⟩ := sp_inj h
        exact g_iret C hr hlk dX6_best_56 rfl
      intro J7 hJ7 h
      refine g_if_ne (tgt := 44) C dX6_best_29 (by decide) h (fun h => ?_) (fun h => ?_)
      · refine g_aload_n C dX6_best_32 rfl 0 rfl ?_
        refine g_get C (T := TX6) hcl6 mO_0 rfl (j := 36) (by decide) wl_955 (v := .ref (ad 12)) rfl dX6_best_33 ?_
        refine g_aload_n C dX6_best_36 rfl 0 rfl ?_
        obtain ⟨r10, hX11, h⟩ := bd1_inv h
        refine g_callV C (c_X6_codeNow l hX11) (cwVw 0 C.2.2.2.2.1 wl_1399 wl_1401 wl_96 wl_121 wl_1402 rfl rfl (by decide +kernel) ⟨Nat.le_of_ble_eq_true rfl, Nat.le_of_ble_eq_true rfl⟩) mO_0 rfl rfl rfl rfl (Nat.le_of_ble_eq_true rfl) dX6_best_37 ?_
        refine g_iald C mI_12 dX6_best_40 h (fun h => ?_)
        refine g_goto (tgt := 53) C dX6_best_41 (by decide) ?_
        exact g_sub [] rfl (hJ7 _ h)
      · refine g_aload_n C dX6_best_44 rfl 0 rfl ?_
        refine g_get C (T := TX6) hcl6 mO_0 rfl (j := 37) (by decide) wl_956 (v := .ref (ad 13)) rfl dX6_best_45 ?_
        refine g_aload_n C dX6_best_48 rfl 0 rfl ?_
        obtain ⟨r12, hX13, h⟩ := bd1_inv h
        refine g_callV C (c_X6_codeNow l hX13) (cwVw 0 C.2.2.2.2.1 wl_1399 wl_1401 wl_96 wl_121 wl_1402 rfl rfl (by decide +kernel) ⟨Nat.le_of_ble_eq_true rfl, Nat.le_of_ble_eq_true rfl⟩) mO_0 rfl rfl rfl rfl (Nat.le_of_ble_eq_true rfl) dX6_best_49 ?_
        refine g_iald C mI_13 dX6_best_52 h (fun h => ?_)
        exact g_sub [] rfl (hJ7 _ h)
    intro J5 hJ5 h
    refine g_if_eq (tgt := 28) C dX6_best_20 (by decide) h (fun h => ?_) (fun h => ?_)
    · exact g_sub [0, 1] rfl (hJ5  h)
    · refine g_iload_n C dX6_best_23 rfl 1 rfl ?_
      refine g_iconst (v := (2 : Int32)) C dX6_best_24 (by decide) ?_
      refine g_icmp_ne (tgt := 57) C dX6_best_25 (by decide) h (fun h => ?_) (fun h => ?_)
      · exact g_sub [0, 1] rfl (hJ5  h)
      · refine g_iload_n C dX6_best_57 rfl 1 rfl ?_
        refine g_iconst (v := (4 : Int32)) C dX6_best_58 (by decide) ?_
        refine g_icmp_ge (tgt := 79) C dX6_best_59 (by decide) h (fun h => ?_) (fun h => ?_)
        · refine g_aload_n C dX6_best_79 rfl 0 rfl ?_
          refine g_iload_n C dX6_best_80 rfl 1 rfl ?_
          refine g_iconst (v := (4 : Int32)) C dX6_best_81 (by decide) ?_
          refine g_isub C dX6_best_82 ?_
          obtain ⟨r14, m16, hX15, h⟩ := bd2_inv h
          refine g_callV C (c_X6_reaches l hX15) (cwVw 1 C.2.2.2.2.1 wl_1430 wl_1432 wl_102 wl_121 wl_1433 rfl rfl (by decide +kernel) ⟨Nat.le_of_ble_eq_true rfl, Nat.le_of_ble_eq_true rfl⟩) mO_0 rfl rfl rfl rfl (Nat.le_of_ble_eq_true rfl) dX6_best_83 ?_
          obtain ⟨rfl, rfl⟩ := sp_inj h
          exact g_iret C hr hlk dX6_best_86 rfl
        · refine g_aload_n C dX6_best_62 rfl 0 rfl ?_
          refine g_iload_n C dX6_best_63 rfl 1 rfl ?_
          refine g_iconst (v := (3 : Int32)) C dX6_best_64 (by decide) ?_
          refine g_join_I h 73 (fun s17 => []) (fun s17 => [.int s17, .ref (ad 0)]) ?_ ?_
          · intro s17 h
            obtain ⟨r19, hX20, h⟩ := bd1_inv h
            refine g_callV C (c_X6_moveBy l hX20) (cwVw 1 C.2.2.2.2.1 wl_1426 wl_1428 wl_101 wl_121 wl_1429 rfl rfl (by decide +kernel) ⟨Nat.le_of_ble_eq_true rfl, Nat.le_of_ble_eq_true rfl⟩) mO_0 rfl rfl rfl rfl (Nat.le_of_ble_eq_true rfl) dX6_best_73 ?_
            refine g_goto (tgt := 86) C dX6_best_76 (by decide) ?_
            obtain ⟨rfl, rfl⟩ := sp_inj h
            exact g_iret C hr hlk dX6_best_86 rfl
          intro J18 hJ18 h
          refine g_icmp_ne (tgt := 72) C dX6_best_65 (by decide) h (fun h => ?_) (fun h => ?_)
          · refine g_iconst (v := (1 : Int32)) C dX6_best_68 (by decide) ?_
            refine g_goto (tgt := 73) C dX6_best_69 (by decide) ?_
            exact g_sub [] rfl (hJ18 _ h)
          · refine g_iconst (v := (0 : Int32)) C dX6_best_72 (by decide) ?_
            exact g_sub [] rfl (hJ18 _ h)

def rmX6_pack : Room := { frames := 44, cells := 0, slots := 0, locals := 979 }
set_option maxRecDepth 100000 in
set_option maxHeartbeats 4000000 in
theorem c_X6_pack (l : Launch) {F : Nat}  {a0 : Int32} {a1 : Int32}  {m : MM} {m' : MM} {r : Int32} (h : f_X6_pack F a0 a1 m = some (r, m')) : CT l yX6_pack cX6_pack 8 (some .int) rmX6_pack cfM 23 (fun ad tb => [.ref (ad 0), .int a0, .int a1]) m (some (.int r)) m' := by
  refine CT.of (cc := cX6_pack) (maxL := 8) (ret := (some .int)) (by decide) ⟨rfl, rfl⟩ (fun _ _ => Nat.le_of_ble_eq_true rfl) ?_
  intro p e s mt args below meth c D cA ad tb C hr hlk
  refine g_lv (lv' := [(0, .ref (ad 0)), (1, .int a0), (2, .int a1)]) rfl ?_
  have hcl6 : ∀ w ∈ wsX60, w.before args s = true := fun w hw => C.2.2.2.2.1 w (inlX6 w hw)
  unfold f_X6_pack at h
  refine g_aload_n C dX6_pack_0 rfl 0 rfl ?_
  refine g_iload_n C dX6_pack_1 rfl 1 rfl ?_
  obtain ⟨r1, hX2, h⟩ := bd1_inv h
  refine g_callV C (c_X6_isThing l hX2) (cwVw 1 C.2.2.2.2.1 wl_1135 wl_1137 wl_43 wl_121 wl_1138 rfl rfl (by decide +kernel) ⟨Nat.le_of_ble_eq_true rfl, Nat.le_of_ble_eq_true rfl⟩) mO_0 rfl rfl rfl rfl (Nat.le_of_ble_eq_true rfl) dX6_pack_2 ?_
  refine g_if_eq (tgt := 18) C dX6_pack_5 (by decide) h (fun h => ?_) (fun h => ?_)
  · refine g_bipush (v := (-2 : Int32)) C dX6_pack_18 (by decide) ?_
    obtain ⟨rfl, rfl⟩ := sp_inj h
    exact g_iret C hr hlk dX6_pack_20 rfl
  · refine g_iload_n C dX6_pack_8 rfl 2 rfl ?_
    refine g_i2l C dX6_pack_9 ?_
    refine g_lconst (v := (0 : Int64)) C dX6_pack_10 (by decide) ?_
    refine g_lconst (v := (1 : Int64)) C dX6_pack_11 (by decide) ?_
    obtain ⟨r3, hX4, h⟩ := bd1_inv h
    refine g_callS C (c_X6_in l hX4) (cwSw 3 C.2.2.2.2.1 wl_1089 wl_1090 wl_121 wl_1091 rfl rfl (by decide +kernel) ⟨Nat.le_of_ble_eq_true rfl, Nat.le_of_ble_eq_true rfl⟩) rfl rfl rfl (Nat.le_of_ble_eq_true rfl) dX6_pack_12 ?_
    refine g_if_ne (tgt := 21) C dX6_pack_15 (by decide) h (fun h => ?_) (fun h => ?_)
    · refine g_bipush (v := (-2 : Int32)) C dX6_pack_18 (by decide) ?_
      obtain ⟨rfl, rfl⟩ := sp_inj h
      exact g_iret C hr hlk dX6_pack_20 rfl
    · refine g_aload_n C dX6_pack_21 rfl 0 rfl ?_
      obtain ⟨m6, hX5, h⟩ := bd1_inv h
      refine g_callV C (c_X6_gathers l hX5) (cwVw 0 C.2.2.2.2.1 wl_1395 wl_1397 wl_95 wl_121 wl_1398 rfl rfl (by decide +kernel) ⟨Nat.le_of_ble_eq_true rfl, Nat.le_of_ble_eq_true rfl⟩) mO_0 rfl rfl rfl rfl (Nat.le_of_ble_eq_true rfl) dX6_pack_22 ?_
      refine g_aload_n C dX6_pack_25 rfl 0 rfl ?_
      obtain ⟨r7, hX8, h⟩ := bd1_inv h
      refine g_callV C (c_X6_codeNow l hX8) (cwVw 0 C.2.2.2.2.1 wl_1399 wl_1401 wl_96 wl_121 wl_1402 rfl rfl (by decide +kernel) ⟨Nat.le_of_ble_eq_true rfl, Nat.le_of_ble_eq_true rfl⟩) mO_0 rfl rfl rfl rfl (Nat.le_of_ble_eq_true rfl) dX6_pack_26 ?_
      refine g_istore_n (lv' := [(3, .int r7), (0, .ref (ad 0)), (1, .int a0), (2, .int a1)]) C dX6_pack_29 rfl (by decide) rfl ?_
      refine g_iconst (v := (-1 : Int32)) C dX6_pack_30 (by decide) ?_
      refine g_istore (lv' := [(4, .int (-1 : Int32)), (3, .int r7), (0, .ref (ad 0)), (1, .int a0), (2, .int a1)]) C dX6_pack_31 (by decide) rfl ?_
      refine g_ldcw (v := (99999999 : Int32)) C dX6_pack_33 wl_1414 ?_
      refine g_istore (lv' := [(5, .int (99999999 : Int32)), (4, .int (-1 : Int32)), (3, .int r7), (0, .ref (ad 0)), (1, .int a0), (2, .int a1)]) C dX6_pack_36 (by decide) rfl ?_
      refine g_iconst (v := (0 : Int32)) C dX6_pack_38 (by decide) ?_
      refine g_istore (lv' := [(6, .int (0 : Int32)), (5, .int (99999999 : Int32)), (4, .int (-1 : Int32)), (3, .int r7), (0, .ref (ad 0)), (1, .int a0), (2, .int a1)]) C dX6_pack_39 (by decide) rfl ?_
      refine g_sub [4, 5, 6, 3, 2, 1, 0] rfl ?_
      refine g_loop_III (L := f_X6_pack_L41 a0 m6 r7) h 41 102 (fun x4_9 x5_10 x6_11 => [(0, .ref (ad 0)), (1, .int a0), (2, .int a1), (3, .int r7), (4, .int x4_9), (5, .int x5_10), (6, .int x6_11)]) (fun x4_9 x5_10 x6_11 => [(2, .int a1), (4, .int x4_9), (5, .int x5_10)]) (fun x4_9 x5_10 x6_11 => []) (fun x4_9 x5_10 x6_11 => []) ?_ ?_ (fun _ _ _ _ => rfl)
      · intro x4_9 x5_10 x6_11 h
        refine g_iload_n C dX6_pack_102 rfl 0 rfl ?_
        refine g_if_ne (tgt := 111) C dX6_pack_103 (by decide) h (fun h => ?_) (fun h => ?_)
        · refine g_iload C dX6_pack_106 1 rfl ?_
          refine g_goto (tgt := 116) C dX6_pack_108 (by decide) ?_
          obtain ⟨rfl, rfl⟩ := sp_inj h
          exact g_iret C hr hlk dX6_pack_116 rfl
        · refine g_iload C dX6_pack_111 2 rfl ?_
          obtain ⟨r19, hX20, h⟩ := bd1_inv h
          refine g_callS C (c_X6_told1 l hX20) (cwSw 1 C.2.2.2.2.1 wl_1423 wl_1424 wl_121 wl_1425 rfl rfl (by decide +kernel) ⟨Nat.le_of_ble_eq_true rfl, Nat.le_of_ble_eq_true rfl⟩) rfl rfl rfl (Nat.le_of_ble_eq_true rfl) dX6_pack_113 ?_
          obtain ⟨rfl, rfl⟩ := sp_inj h
          exact g_iret C hr hlk dX6_pack_116 rfl
      · intro K12 hK12 n ih x4_9 x5_10 x6_11 h
        rw [f_X6_pack_L41] at h
        refine g_iload C dX6_pack_41 6 rfl ?_
        refine g_aload_n C dX6_pack_43 rfl 0 rfl ?_
        refine g_get C (T := TX6) hcl6 mO_0 rfl (j := 9) (by decide) wl_928 (v := .int (rI m6 0 9)) rfl dX6_pack_44 ?_
        refine g_icmp_ge (tgt := 102) C dX6_pack_47 (by decide) h (fun h => ?_) (fun h => ?_)
        · exact g_sub [2, 4, 5] rfl (hK12 _ _ _ h)
        · refine g_aload_n C dX6_pack_50 rfl 0 rfl ?_
          refine g_iload_n C dX6_pack_51 rfl 3 rfl ?_
          refine g_iload_n C dX6_pack_52 rfl 1 rfl ?_
          refine g_iload C dX6_pack_53 6 rfl ?_
          obtain ⟨r13, hX14, h⟩ := bd1_inv h
          refine g_callV C (c_X6_after l hX14) (cwVw 3 C.2.2.2.2.1 wl_1419 wl_1421 wl_100 wl_121 wl_1422 rfl rfl (by decide +kernel) ⟨Nat.le_of_ble_eq_true rfl, Nat.le_of_ble_eq_true rfl⟩) mO_0 rfl rfl rfl rfl (Nat.le_of_ble_eq_true rfl) dX6_pack_55 ?_
          refine g_istore (lv' := [(7, .int r13), (0, .ref (ad 0)), (1, .int a0), (2, .int a1), (3, .int r7), (4, .int x4_9), (5, .int x5_10), (6, .int x6_11)]) C dX6_pack_58 (by decide) rfl ?_
          refine g_aload_n C dX6_pack_60 rfl 1 rfl ?_
          refine g_get C (T := TX6) hcl6 mO_0 rfl (j := 35) (by decide) wl_954 (v := .ref (ad 11)) rfl dX6_pack_61 ?_
          refine g_iload C dX6_pack_64 0 rfl ?_
          refine g_iald C mI_11 dX6_pack_66 h (fun h => ?_)
          refine g_iconst (v := (1 : Int32)) C dX6_pack_67 (by decide) ?_
          refine g_icmp_ne (tgt := 96) C dX6_pack_68 (by decide) h (fun h => ?_) (fun h => ?_)
          · refine g_aload_n C dX6_pack_71 rfl 1 rfl ?_
            refine g_get C (T := TX6) hcl6 mO_0 rfl (j := 36) (by decide) wl_955 (v := .ref (ad 12)) rfl dX6_pack_72 ?_
            refine g_iload C dX6_pack_75 0 rfl ?_
            refine g_iald C mI_12 dX6_pack_77 h (fun h => ?_)
            refine g_iload C dX6_pack_78 6 rfl ?_
            refine g_icmp_ge (tgt := 96) C dX6_pack_80 (by decide) h (fun h => ?_) (fun h => ?_)
            · refine g_iinc (lv' := [(7, .int r13), (0, .ref (ad 0)), (1, .int a0), (2, .int a1), (3, .int r7), (4, .int x4_9), (5, .int x5_10)]) C dX6_pack_96 (q := 7) rfl (by decide) h rfl (fun _ => rfl) (fun x6_15 h => ?_)
              refine g_goto (tgt := 41) C dX6_pack_99 (by decide) ?_
              exact g_sub [2, 3, 4, 5, 6, 7, 0] rfl (ih _ _ _ h)
            · refine g_iload C dX6_pack_83 7 rfl ?_
              refine g_istore (lv' := [(4, .int x6_11), (7, .int r13), (0, .ref (ad 0)), (1, .int a0), (2, .int a1), (3, .int r7), (5, .int x5_10), (6, .int x6_11)]) C dX6_pack_85 (by decide) rfl ?_
              refine g_aload_n C dX6_pack_87 rfl 2 rfl ?_
              refine g_get C (T := TX6) hcl6 mO_0 rfl (j := 36) (by decide) wl_955 (v := .ref (ad 12)) rfl dX6_pack_88 ?_
              refine g_iload C dX6_pack_91 1 rfl ?_
              refine g_iald C mI_12 dX6_pack_93 h (fun h => ?_)
              refine nm_i h (fun x5_16 h => ?_)
              refine g_istore (lv' := [(5, .int x5_16), (4, .int x6_11), (7, .int r13), (0, .ref (ad 0)), (1, .int a0), (2, .int a1), (3, .int r7), (6, .int x6_11)]) C dX6_pack_94 (by decide) rfl ?_
              refine g_iinc (lv' := [(5, .int x5_16), (4, .int x6_11), (7, .int r13), (0, .ref (ad 0)), (1, .int a0), (2, .int a1), (3, .int r7)]) C dX6_pack_96 (q := 7) rfl (by decide) h rfl (fun _ => rfl) (fun x6_17 h => ?_)
              refine g_goto (tgt := 41) C dX6_pack_99 (by decide) ?_
              exact g_sub [4, 5, 6, 7, 2, 1, 0] rfl (ih _ _ _ h)
          · refine g_iinc (lv' := [(7, .int r13), (0, .ref (ad 0)), (1, .int a0), (2, .int a1), (3, .int r7), (4, .int x4_9), (5, .int x5_10)]) C dX6_pack_96 (q := 7) rfl (by decide) h rfl (fun _ => rfl) (fun x6_18 h => ?_)
            refine g_goto (tgt := 41) C dX6_pack_99 (by decide) ?_
            exact g_sub [2, 3, 4, 5, 6, 7, 0] rfl (ih _ _ _ h)

def rmX6_ring : Room := { frames := 44, cells := 0, slots := 0, locals := 979 }
set_option maxRecDepth 100000 in
set_option maxHeartbeats 4000000 in
theorem c_X6_ring (l : Launch) {F : Nat}  {a0 : Int32}  {m : MM} {m' : MM} {r : Int32} (h : f_X6_ring F a0 m = some (r, m')) : CT l yX6_ring cX6_ring 4 (some .int) rmX6_ring cfM 23 (fun ad tb => [.ref (ad 0), .int a0]) m (some (.int r)) m' := by
  refine CT.of (cc := cX6_ring) (maxL := 4) (ret := (some .int)) (by decide) ⟨rfl, rfl⟩ (fun _ _ => Nat.le_of_ble_eq_true rfl) ?_
  intro p e s mt args below meth c D cA ad tb C hr hlk
  refine g_lv (lv' := [(0, .ref (ad 0)), (1, .int a0)]) rfl ?_
  have hcl6 : ∀ w ∈ wsX60, w.before args s = true := fun w hw => C.2.2.2.2.1 w (inlX6 w hw)
  unfold f_X6_ring at h
  refine g_iload_n C dX6_ring_0 rfl 1 rfl ?_
  refine g_i2l C dX6_ring_1 ?_
  refine g_lconst (v := (0 : Int64)) C dX6_ring_2 (by decide) ?_
  refine g_lconst (v := (1 : Int64)) C dX6_ring_3 (by decide) ?_
  obtain ⟨r1, hX2, h⟩ := bd1_inv h
  refine g_callS C (c_X6_in l hX2) (cwSw 3 C.2.2.2.2.1 wl_1089 wl_1090 wl_121 wl_1091 rfl rfl (by decide +kernel) ⟨Nat.le_of_ble_eq_true rfl, Nat.le_of_ble_eq_true rfl⟩) rfl rfl rfl (Nat.le_of_ble_eq_true rfl) dX6_ring_4 ?_
  refine g_if_ne (tgt := 13) C dX6_ring_7 (by decide) h (fun h => ?_) (fun h => ?_)
  · refine g_bipush (v := (-2 : Int32)) C dX6_ring_10 (by decide) ?_
    obtain ⟨rfl, rfl⟩ := sp_inj h
    exact g_iret C hr hlk dX6_ring_12 rfl
  · refine g_aload_n C dX6_ring_13 rfl 0 rfl ?_
    obtain ⟨m4, hX3, h⟩ := bd1_inv h
    refine g_callV C (c_X6_gathers l hX3) (cwVw 0 C.2.2.2.2.1 wl_1395 wl_1397 wl_95 wl_121 wl_1398 rfl rfl (by decide +kernel) ⟨Nat.le_of_ble_eq_true rfl, Nat.le_of_ble_eq_true rfl⟩) mO_0 rfl rfl rfl rfl (Nat.le_of_ble_eq_true rfl) dX6_ring_14 ?_
    refine g_aload_n C dX6_ring_17 rfl 0 rfl ?_
    refine g_iconst (v := (1 : Int32)) C dX6_ring_18 (by decide) ?_
    refine g_iconst (v := (0 : Int32)) C dX6_ring_19 (by decide) ?_
    refine g_iconst (v := (0 : Int32)) C dX6_ring_20 (by decide) ?_
    refine g_iconst (v := (0 : Int32)) C dX6_ring_21 (by decide) ?_
    obtain ⟨r5, m7, hX6, h⟩ := bd2_inv h
    refine g_callV C (c_X6_says l hX6) (cwVw 4 C.2.2.2.2.1 wl_1360 wl_1362 wl_91 wl_121 wl_1363 rfl rfl (by decide +kernel) ⟨Nat.le_of_ble_eq_true rfl, Nat.le_of_ble_eq_true rfl⟩) mO_0 rfl rfl rfl rfl (Nat.le_of_ble_eq_true rfl) dX6_ring_22 ?_
    refine g_istore_n (lv' := [(2, .int r5), (0, .ref (ad 0)), (1, .int a0)]) C dX6_ring_25 rfl (by decide) rfl ?_
    refine g_aload_n C dX6_ring_26 rfl 1 rfl ?_
    refine g_get C (T := TX6) hcl6 mO_0 rfl (j := 37) (by decide) wl_956 (v := .ref (ad 13)) rfl dX6_ring_27 ?_
    refine g_aload_n C dX6_ring_30 rfl 1 rfl ?_
    obtain ⟨r8, hX9, h⟩ := bd1_inv h
    refine g_callV C (c_X6_codeNow l hX9) (cwVw 0 C.2.2.2.2.1 wl_1399 wl_1401 wl_96 wl_121 wl_1402 rfl rfl (by decide +kernel) ⟨Nat.le_of_ble_eq_true rfl, Nat.le_of_ble_eq_true rfl⟩) mO_0 rfl rfl rfl rfl (Nat.le_of_ble_eq_true rfl) dX6_ring_31 ?_
    refine g_iald C mI_13 dX6_ring_34 h (fun h => ?_)
    refine nm_i h (fun x3_10 h => ?_)
    refine g_istore_n (lv' := [(3, .int x3_10), (2, .int r5), (0, .ref (ad 0)), (1, .int a0)]) C dX6_ring_35 rfl (by decide) rfl ?_
    refine g_iload_n C dX6_ring_36 rfl 3 rfl ?_
    refine g_if_ne (tgt := 51) C dX6_ring_37 (by decide) h (fun h => ?_) (fun h => ?_)
    · refine g_iload_n C dX6_ring_40 rfl 1 rfl ?_
      refine g_iload_n C dX6_ring_41 rfl 0 rfl ?_
      refine g_icmp_ge (tgt := 49) C dX6_ring_42 (by decide) h (fun h => ?_) (fun h => ?_)
      · refine g_iconst (v := (0 : Int32)) C dX6_ring_49 (by decide) ?_
        obtain ⟨rfl, rfl⟩ := sp_inj h
        exact g_iret C hr hlk dX6_ring_50 rfl
      · refine g_iconst (v := (1 : Int32)) C dX6_ring_45 (by decide) ?_
        refine g_goto (tgt := 50) C dX6_ring_46 (by decide) ?_
        obtain ⟨rfl, rfl⟩ := sp_inj h
        exact g_iret C hr hlk dX6_ring_50 rfl
    · refine g_iload_n C dX6_ring_51 rfl 1 rfl ?_
      refine g_iload_n C dX6_ring_52 rfl 0 rfl ?_
      refine g_icmp_ge (tgt := 60) C dX6_ring_53 (by decide) h (fun h => ?_) (fun h => ?_)
      · refine g_iload_n C dX6_ring_60 rfl 0 rfl ?_
        obtain ⟨rfl, rfl⟩ := sp_inj h
        exact g_iret C hr hlk dX6_ring_61 rfl
      · refine g_iload_n C dX6_ring_56 rfl 1 rfl ?_
        refine g_goto (tgt := 61) C dX6_ring_57 (by decide) ?_
        obtain ⟨rfl, rfl⟩ := sp_inj h
        exact g_iret C hr hlk dX6_ring_61 rfl

def rmX6_leave : Room := { frames := 44, cells := 0, slots := 0, locals := 979 }
set_option maxRecDepth 100000 in
set_option maxHeartbeats 4000000 in
theorem c_X6_leave (l : Launch) {F : Nat}    {m : MM} {m' : MM} {r : Int32} (h : f_X6_leave F m = some (r, m')) : CT l yX6_leave cX6_leave 6 (some .int) rmX6_leave cfM 23 (fun ad tb => [.ref (ad 0)]) m (some (.int r)) m' := by
  refine CT.of (cc := cX6_leave) (maxL := 6) (ret := (some .int)) (by decide) ⟨rfl, rfl⟩ (fun _ _ => Nat.le_of_ble_eq_true rfl) ?_
  intro p e s mt args below meth c D cA ad tb C hr hlk
  refine g_lv (lv' := [(0, .ref (ad 0))]) rfl ?_
  have hcl6 : ∀ w ∈ wsX60, w.before args s = true := fun w hw => C.2.2.2.2.1 w (inlX6 w hw)
  unfold f_X6_leave at h
  refine g_aload_n C dX6_leave_0 rfl 0 rfl ?_
  obtain ⟨m2, hX1, h⟩ := bd1_inv h
  refine g_callV C (c_X6_gathers l hX1) (cwVw 0 C.2.2.2.2.1 wl_1395 wl_1397 wl_95 wl_121 wl_1398 rfl rfl (by decide +kernel) ⟨Nat.le_of_ble_eq_true rfl, Nat.le_of_ble_eq_true rfl⟩) mO_0 rfl rfl rfl rfl (Nat.le_of_ble_eq_true rfl) dX6_leave_1 ?_
  refine g_aload_n C dX6_leave_4 rfl 0 rfl ?_
  refine g_get C (T := TX6) hcl6 mO_0 rfl (j := 37) (by decide) wl_956 (v := .ref (ad 13)) rfl dX6_leave_5 ?_
  refine g_aload_n C dX6_leave_8 rfl 0 rfl ?_
  obtain ⟨r3, hX4, h⟩ := bd1_inv h
  refine g_callV C (c_X6_codeNow l hX4) (cwVw 0 C.2.2.2.2.1 wl_1399 wl_1401 wl_96 wl_121 wl_1402 rfl rfl (by decide +kernel) ⟨Nat.le_of_ble_eq_true rfl, Nat.le_of_ble_eq_true rfl⟩) mO_0 rfl rfl rfl rfl (Nat.le_of_ble_eq_true rfl) dX6_leave_9 ?_
  refine g_iald C mI_13 dX6_leave_12 h (fun h => ?_)
  refine nm_i h (fun x1_5 h => ?_)
  refine g_istore_n (lv' := [(1, .int x1_5), (0, .ref (ad 0))]) C dX6_leave_13 rfl (by decide) rfl ?_
  refine g_iconst (v := (-1 : Int32)) C dX6_leave_14 (by decide) ?_
  refine g_istore_n (lv' := [(2, .int (-1 : Int32)), (1, .int x1_5), (0, .ref (ad 0))]) C dX6_leave_15 rfl (by decide) rfl ?_
  refine g_iconst (v := (0 : Int32)) C dX6_leave_16 (by decide) ?_
  refine g_istore_n (lv' := [(3, .int (0 : Int32)), (2, .int (-1 : Int32)), (1, .int x1_5), (0, .ref (ad 0))]) C dX6_leave_17 rfl (by decide) rfl ?_
  refine g_sub [3, 2, 1, 0] rfl ?_
  refine g_loop_IIIM (L := f_X6_leave_L18 F) h 18 108 (fun x1_6 x2_7 x3_8 m9 => [(0, .ref (ad 0)), (1, .int x1_6), (2, .int x2_7), (3, .int x3_8)]) (fun x1_6 x2_7 x3_8 m9 => [(2, .int x2_7)]) (fun x1_6 x2_7 x3_8 m9 => []) (fun x1_6 x2_7 x3_8 m9 => []) ?_ ?_ (fun _ _ _ _ _ => rfl)
  · intro x1_6 x2_7 x3_8 m9 h
    refine g_iload_n C dX6_leave_108 rfl 0 rfl ?_
    obtain ⟨rfl, rfl⟩ := sp_inj h
    exact g_iret C hr hlk dX6_leave_109 rfl
  · intro K10 hK10 n ih x1_6 x2_7 x3_8 m9 h
    rw [f_X6_leave_L18] at h
    refine g_iload_n C dX6_leave_18 rfl 3 rfl ?_
    refine g_aload_n C dX6_leave_19 rfl 0 rfl ?_
    refine g_get C (T := TX6) hcl6 mO_0 rfl (j := 14) (by decide) wl_933 (v := .int (rI m9 0 14)) rfl dX6_leave_20 ?_
    refine g_icmp_ge (tgt := 108) C dX6_leave_23 (by decide) h (fun h => ?_) (fun h => ?_)
    · exact g_sub [2] rfl (hK10 _ _ _ _ h)
    · refine g_iload_n C dX6_leave_26 rfl 3 rfl ?_
      refine g_aload_n C dX6_leave_27 rfl 0 rfl ?_
      refine g_get C (T := TX6) hcl6 mO_0 rfl (j := 15) (by decide) wl_934 (v := .int (rI m9 0 15)) rfl dX6_leave_28 ?_
      refine g_icmp_eq (tgt := 102) C dX6_leave_31 (by decide) h (fun h => ?_) (fun h => ?_)
      · refine g_iinc (lv' := [(0, .ref (ad 0)), (1, .int x1_6), (2, .int x2_7)]) C dX6_leave_102 (q := 3) rfl (by decide) h rfl (fun _ => rfl) (fun x3_11 h => ?_)
        refine g_goto (tgt := 18) C dX6_leave_105 (by decide) ?_
        exact g_sub [1, 2, 3, 0] rfl (ih _ _ _ _ h)
      · refine g_aload_n C dX6_leave_34 rfl 0 rfl ?_
        refine g_iload_n C dX6_leave_35 rfl 3 rfl ?_
        refine g_putI C (T := TX6) hcl6 mO_0 rfl (j := 18) (by decide) wl_937 tyX6 tyX6_ok nmX6 rfl rfl pfX6_18 (plX6 18 (by decide)) dX6_leave_36 h (fun m12 h => ?_)
        refine g_aload_n C dX6_leave_39 rfl 0 rfl ?_
        obtain ⟨m14, hX13, h⟩ := bd1_inv h
        refine g_callV C (c_X6_gathers l hX13) (cwVw 0 C.2.2.2.2.1 wl_1395 wl_1397 wl_95 wl_121 wl_1398 rfl rfl (by decide +kernel) ⟨Nat.le_of_ble_eq_true rfl, Nat.le_of_ble_eq_true rfl⟩) mO_0 rfl rfl rfl rfl (Nat.le_of_ble_eq_true rfl) dX6_leave_40 ?_
        refine g_aload_n C dX6_leave_43 rfl 0 rfl ?_
        refine g_get C (T := TX6) hcl6 mO_0 rfl (j := 37) (by decide) wl_956 (v := .ref (ad 13)) rfl dX6_leave_44 ?_
        refine g_aload_n C dX6_leave_47 rfl 0 rfl ?_
        obtain ⟨r15, hX16, h⟩ := bd1_inv h
        refine g_callV C (c_X6_codeNow l hX16) (cwVw 0 C.2.2.2.2.1 wl_1399 wl_1401 wl_96 wl_121 wl_1402 rfl rfl (by decide +kernel) ⟨Nat.le_of_ble_eq_true rfl, Nat.le_of_ble_eq_true rfl⟩) mO_0 rfl rfl rfl rfl (Nat.le_of_ble_eq_true rfl) dX6_leave_48 ?_
        refine g_iald C mI_13 dX6_leave_51 h (fun h => ?_)
        refine nm_i h (fun x4_17 h => ?_)
        refine g_istore (lv' := [(4, .int x4_17), (0, .ref (ad 0)), (1, .int x1_6), (2, .int x2_7), (3, .int x3_8)]) C dX6_leave_52 (by decide) rfl ?_
        refine g_aload_n C dX6_leave_54 rfl 1 rfl ?_
        refine g_iconst (v := (-1 : Int32)) C dX6_leave_55 (by decide) ?_
        refine g_putI C (T := TX6) hcl6 mO_0 rfl (j := 18) (by decide) wl_937 tyX6 tyX6_ok nmX6 rfl rfl pfX6_18 (plX6 18 (by decide)) dX6_leave_56 h (fun m18 h => ?_)
        refine g_iload C dX6_leave_59 0 rfl ?_
        refine g_ldcw (v := (99999999 : Int32)) C dX6_leave_61 wl_1414 ?_
        refine g_join_IM h 89 (fun s19 m20 => [(0, .ref (ad 0)), (1, .int x1_6), (2, .int x2_7), (3, .int x3_8)]) (fun s19 m20 => [.int s19]) ?_ ?_
        · intro s19 m20 h
          refine g_istore (lv' := [(5, .int s19), (0, .ref (ad 0)), (1, .int x1_6), (2, .int x2_7), (3, .int x3_8)]) C dX6_leave_89 (by decide) rfl ?_
          refine g_iload C dX6_leave_91 0 rfl ?_
          refine g_iload_n C dX6_leave_93 rfl 2 rfl ?_
          refine g_icmp_ge (tgt := 102) C dX6_leave_94 (by decide) h (fun h => ?_) (fun h => ?_)
          · refine g_iinc (lv' := [(5, .int s19), (0, .ref (ad 0)), (1, .int x1_6), (2, .int x2_7)]) C dX6_leave_102 (q := 4) rfl (by decide) h rfl (fun _ => rfl) (fun x3_22 h => ?_)
            refine g_goto (tgt := 18) C dX6_leave_105 (by decide) ?_
            exact g_sub [2, 3, 4, 0] rfl (ih _ _ _ _ h)
          · refine g_iload_n C dX6_leave_97 rfl 4 rfl ?_
            refine g_istore_n (lv' := [(2, .int x3_8), (5, .int s19), (0, .ref (ad 0)), (1, .int x1_6), (3, .int x3_8)]) C dX6_leave_98 rfl (by decide) rfl ?_
            refine g_iload C dX6_leave_99 1 rfl ?_
            refine g_istore_n (lv' := [(1, .int s19), (2, .int x3_8), (5, .int s19), (0, .ref (ad 0)), (3, .int x3_8)]) C dX6_leave_101 rfl (by decide) rfl ?_
            refine g_iinc (lv' := [(1, .int s19), (2, .int x3_8), (5, .int s19), (0, .ref (ad 0))]) C dX6_leave_102 (q := 4) rfl (by decide) h rfl (fun _ => rfl) (fun x3_23 h => ?_)
            refine g_goto (tgt := 18) C dX6_leave_105 (by decide) ?_
            exact g_sub [4, 1, 2, 0] rfl (ih _ _ _ _ h)
        intro J21 hJ21 h
        refine g_icmp_lt (tgt := 73) C dX6_leave_64 (by decide) h (fun h => ?_) (fun h => ?_)
        · refine g_iload C dX6_leave_73 0 rfl ?_
          refine g_aload_n C dX6_leave_75 rfl 1 rfl ?_
          refine g_iconst (v := (2 : Int32)) C dX6_leave_76 (by decide) ?_
          refine g_iload_n C dX6_leave_77 rfl 4 rfl ?_
          refine g_aload_n C dX6_leave_78 rfl 1 rfl ?_
          refine g_get C (T := TX6) hcl6 mO_0 rfl (j := 12) (by decide) wl_931 (v := .ref (ad 8)) rfl dX6_leave_79 ?_
          refine g_iload_n C dX6_leave_82 rfl 4 rfl ?_
          refine g_iald C mI_8 dX6_leave_83 h (fun h => ?_)
          refine g_iconst (v := (0 : Int32)) C dX6_leave_84 (by decide) ?_
          obtain ⟨r24, m26, hX25, h⟩ := bd2_inv h
          refine g_callV C (c_X6_says l hX25) (cwVw 4 C.2.2.2.2.1 wl_1360 wl_1362 wl_91 wl_121 wl_1363 rfl rfl (by decide +kernel) ⟨Nat.le_of_ble_eq_true rfl, Nat.le_of_ble_eq_true rfl⟩) mO_0 rfl rfl rfl rfl (Nat.le_of_ble_eq_true rfl) dX6_leave_85 ?_
          refine g_iadd C dX6_leave_88 ?_
          exact g_sub [1, 2, 3, 4] rfl (hJ21 _ _ h)
        · refine g_ldcw (v := (99999999 : Int32)) C dX6_leave_67 wl_1414 ?_
          refine g_goto (tgt := 89) C dX6_leave_70 (by decide) ?_
          exact g_sub [1, 2, 3, 4] rfl (hJ21 _ _ h)

def rmX6_roomy : Room := { frames := 44, cells := 0, slots := 0, locals := 979 }
set_option maxRecDepth 100000 in
set_option maxHeartbeats 4000000 in
theorem c_X6_roomy (l : Launch) {F : Nat}  {a0 : Int32}  {m : MM} {m' : MM} {r : Int32} (h : f_X6_roomy F a0 m = some (r, m')) : CT l yX6_roomy cX6_roomy 6 (some .int) rmX6_roomy cfM 23 (fun ad tb => [.ref (ad 0), .int a0]) m (some (.int r)) m' := by
  refine CT.of (cc := cX6_roomy) (maxL := 6) (ret := (some .int)) (by decide) ⟨rfl, rfl⟩ (fun _ _ => Nat.le_of_ble_eq_true rfl) ?_
  intro p e s mt args below meth c D cA ad tb C hr hlk
  refine g_lv (lv' := [(0, .ref (ad 0)), (1, .int a0)]) rfl ?_
  have hcl6 : ∀ w ∈ wsX60, w.before args s = true := fun w hw => C.2.2.2.2.1 w (inlX6 w hw)
  unfold f_X6_roomy at h
  refine g_iload_n C dX6_roomy_0 rfl 1 rfl ?_
  refine g_i2l C dX6_roomy_1 ?_
  refine g_lconst (v := (0 : Int64)) C dX6_roomy_2 (by decide) ?_
  refine g_lconst (v := (1 : Int64)) C dX6_roomy_3 (by decide) ?_
  obtain ⟨r1, hX2, h⟩ := bd1_inv h
  refine g_callS C (c_X6_in l hX2) (cwSw 3 C.2.2.2.2.1 wl_1089 wl_1090 wl_121 wl_1091 rfl rfl (by decide +kernel) ⟨Nat.le_of_ble_eq_true rfl, Nat.le_of_ble_eq_true rfl⟩) rfl rfl rfl (Nat.le_of_ble_eq_true rfl) dX6_roomy_4 ?_
  refine g_if_ne (tgt := 13) C dX6_roomy_7 (by decide) h (fun h => ?_) (fun h => ?_)
  · refine g_bipush (v := (-2 : Int32)) C dX6_roomy_10 (by decide) ?_
    obtain ⟨rfl, rfl⟩ := sp_inj h
    exact g_iret C hr hlk dX6_roomy_12 rfl
  · refine g_aload_n C dX6_roomy_13 rfl 0 rfl ?_
    obtain ⟨m4, hX3, h⟩ := bd1_inv h
    refine g_callV C (c_X6_gathers l hX3) (cwVw 0 C.2.2.2.2.1 wl_1395 wl_1397 wl_95 wl_121 wl_1398 rfl rfl (by decide +kernel) ⟨Nat.le_of_ble_eq_true rfl, Nat.le_of_ble_eq_true rfl⟩) mO_0 rfl rfl rfl rfl (Nat.le_of_ble_eq_true rfl) dX6_roomy_14 ?_
    refine g_aload_n C dX6_roomy_17 rfl 0 rfl ?_
    refine g_get C (T := TX6) hcl6 mO_0 rfl (j := 37) (by decide) wl_956 (v := .ref (ad 13)) rfl dX6_roomy_18 ?_
    refine g_aload_n C dX6_roomy_21 rfl 0 rfl ?_
    obtain ⟨r5, hX6, h⟩ := bd1_inv h
    refine g_callV C (c_X6_codeNow l hX6) (cwVw 0 C.2.2.2.2.1 wl_1399 wl_1401 wl_96 wl_121 wl_1402 rfl rfl (by decide +kernel) ⟨Nat.le_of_ble_eq_true rfl, Nat.le_of_ble_eq_true rfl⟩) mO_0 rfl rfl rfl rfl (Nat.le_of_ble_eq_true rfl) dX6_roomy_22 ?_
    refine g_iald C mI_13 dX6_roomy_25 h (fun h => ?_)
    refine nm_i h (fun x2_7 h => ?_)
    refine g_istore_n (lv' := [(2, .int x2_7), (0, .ref (ad 0)), (1, .int a0)]) C dX6_roomy_26 rfl (by decide) rfl ?_
    refine g_iconst (v := (-1 : Int32)) C dX6_roomy_27 (by decide) ?_
    refine g_istore_n (lv' := [(3, .int (-1 : Int32)), (2, .int x2_7), (0, .ref (ad 0)), (1, .int a0)]) C dX6_roomy_28 rfl (by decide) rfl ?_
    refine g_iconst (v := (0 : Int32)) C dX6_roomy_29 (by decide) ?_
    refine g_istore (lv' := [(4, .int (0 : Int32)), (3, .int (-1 : Int32)), (2, .int x2_7), (0, .ref (ad 0)), (1, .int a0)]) C dX6_roomy_30 (by decide) rfl ?_
    refine g_sub [3, 4, 2, 1, 0] rfl ?_
    refine g_loop_IIIM (L := f_X6_roomy_L32 F) h 32 85 (fun x2_8 x3_9 x4_10 m11 => [(0, .ref (ad 0)), (1, .int a0), (2, .int x2_8), (3, .int x3_9), (4, .int x4_10)]) (fun x2_8 x3_9 x4_10 m11 => [(1, .int a0), (2, .int x2_8), (3, .int x3_9)]) (fun x2_8 x3_9 x4_10 m11 => []) (fun x2_8 x3_9 x4_10 m11 => []) ?_ ?_ (fun _ _ _ _ _ => rfl)
    · intro x2_8 x3_9 x4_10 m11 h
      refine g_iload_n C dX6_roomy_85 rfl 0 rfl ?_
      refine g_if_eq (tgt := 94) C dX6_roomy_86 (by decide) h (fun h => ?_) (fun h => ?_)
      · refine g_iload_n C dX6_roomy_94 rfl 2 rfl ?_
        refine g_goto (tgt := 99) C dX6_roomy_95 (by decide) ?_
        obtain ⟨rfl, rfl⟩ := sp_inj h
        exact g_iret C hr hlk dX6_roomy_99 rfl
      · refine g_iload_n C dX6_roomy_89 rfl 2 rfl ?_
        refine g_iconst (v := (-1 : Int32)) C dX6_roomy_90 (by decide) ?_
        refine g_icmp_ne (tgt := 98) C dX6_roomy_91 (by decide) h (fun h => ?_) (fun h => ?_)
        · refine g_iload_n C dX6_roomy_94 rfl 2 rfl ?_
          refine g_goto (tgt := 99) C dX6_roomy_95 (by decide) ?_
          obtain ⟨rfl, rfl⟩ := sp_inj h
          exact g_iret C hr hlk dX6_roomy_99 rfl
        · refine g_iload_n C dX6_roomy_98 rfl 1 rfl ?_
          obtain ⟨rfl, rfl⟩ := sp_inj h
          exact g_iret C hr hlk dX6_roomy_99 rfl
    · intro K12 hK12 n ih x2_8 x3_9 x4_10 m11 h
      rw [f_X6_roomy_L32] at h
      refine g_iload C dX6_roomy_32 4 rfl ?_
      refine g_aload_n C dX6_roomy_34 rfl 0 rfl ?_
      refine g_get C (T := TX6) hcl6 mO_0 rfl (j := 9) (by decide) wl_928 (v := .int (rI m11 0 9)) rfl dX6_roomy_35 ?_
      refine g_icmp_ge (tgt := 85) C dX6_roomy_38 (by decide) h (fun h => ?_) (fun h => ?_)
      · exact g_sub [1, 2, 3] rfl (hK12 _ _ _ _ h)
      · refine g_aload_n C dX6_roomy_41 rfl 0 rfl ?_
        refine g_iload C dX6_roomy_42 4 rfl ?_
        refine g_putI C (T := TX6) hcl6 mO_0 rfl (j := 17) (by decide) wl_936 tyX6 tyX6_ok nmX6 rfl rfl pfX6_17 (plX6 17 (by decide)) dX6_roomy_44 h (fun m13 h => ?_)
        refine g_aload_n C dX6_roomy_47 rfl 0 rfl ?_
        obtain ⟨m15, hX14, h⟩ := bd1_inv h
        refine g_callV C (c_X6_gathers l hX14) (cwVw 0 C.2.2.2.2.1 wl_1395 wl_1397 wl_95 wl_121 wl_1398 rfl rfl (by decide +kernel) ⟨Nat.le_of_ble_eq_true rfl, Nat.le_of_ble_eq_true rfl⟩) mO_0 rfl rfl rfl rfl (Nat.le_of_ble_eq_true rfl) dX6_roomy_48 ?_
        refine g_aload_n C dX6_roomy_51 rfl 0 rfl ?_
        refine g_iconst (v := (-1 : Int32)) C dX6_roomy_52 (by decide) ?_
        refine g_putI C (T := TX6) hcl6 mO_0 rfl (j := 17) (by decide) wl_936 tyX6 tyX6_ok nmX6 rfl rfl pfX6_17 (plX6 17 (by decide)) dX6_roomy_53 h (fun m16 h => ?_)
        refine g_aload_n C dX6_roomy_56 rfl 0 rfl ?_
        refine g_get C (T := TX6) hcl6 mO_0 rfl (j := 37) (by decide) wl_956 (v := .ref (ad 13)) rfl dX6_roomy_57 ?_
        refine g_aload_n C dX6_roomy_60 rfl 0 rfl ?_
        obtain ⟨r17, hX18, h⟩ := bd1_inv h
        refine g_callV C (c_X6_codeNow l hX18) (cwVw 0 C.2.2.2.2.1 wl_1399 wl_1401 wl_96 wl_121 wl_1402 rfl rfl (by decide +kernel) ⟨Nat.le_of_ble_eq_true rfl, Nat.le_of_ble_eq_true rfl⟩) mO_0 rfl rfl rfl rfl (Nat.le_of_ble_eq_true rfl) dX6_roomy_61 ?_
        refine g_iald C mI_13 dX6_roomy_64 h (fun h => ?_)
        refine nm_i h (fun x5_19 h => ?_)
        refine g_istore (lv' := [(5, .int x5_19), (0, .ref (ad 0)), (1, .int a0), (2, .int x2_8), (3, .int x3_9), (4, .int x4_10)]) C dX6_roomy_65 (by decide) rfl ?_
        refine g_iload C dX6_roomy_67 0 rfl ?_
        refine g_iload_n C dX6_roomy_69 rfl 3 rfl ?_
        refine g_icmp_ge (tgt := 79) C dX6_roomy_70 (by decide) h (fun h => ?_) (fun h => ?_)
        · refine g_iinc (lv' := [(5, .int x5_19), (0, .ref (ad 0)), (1, .int a0), (2, .int x2_8), (3, .int x3_9)]) C dX6_roomy_79 (q := 5) rfl (by decide) h rfl (fun _ => rfl) (fun x4_20 h => ?_)
          refine g_goto (tgt := 32) C dX6_roomy_82 (by decide) ?_
          exact g_sub [2, 3, 4, 5, 0] rfl (ih _ _ _ _ h)
        · refine g_iload C dX6_roomy_73 5 rfl ?_
          refine g_istore_n (lv' := [(3, .int x4_10), (5, .int x5_19), (0, .ref (ad 0)), (1, .int a0), (2, .int x2_8), (4, .int x4_10)]) C dX6_roomy_75 rfl (by decide) rfl ?_
          refine g_iload C dX6_roomy_76 1 rfl ?_
          refine g_istore_n (lv' := [(2, .int x5_19), (3, .int x4_10), (5, .int x5_19), (0, .ref (ad 0)), (1, .int a0), (4, .int x4_10)]) C dX6_roomy_78 rfl (by decide) rfl ?_
          refine g_iinc (lv' := [(2, .int x5_19), (3, .int x4_10), (5, .int x5_19), (0, .ref (ad 0)), (1, .int a0)]) C dX6_roomy_79 (q := 5) rfl (by decide) h rfl (fun _ => rfl) (fun x4_21 h => ?_)
          refine g_goto (tgt := 32) C dX6_roomy_82 (by decide) ?_
          exact g_sub [4, 5, 1, 2, 0] rfl (ih _ _ _ _ h)

def rmX6_isSheet : Room := { frames := 1, cells := 0, slots := 0, locals := 25 }
set_option maxRecDepth 100000 in
set_option maxHeartbeats 4000000 in
theorem c_X6_isSheet (l : Launch)  {a0 : Int32}  {m : MM} {r : Int32} (h : f_X6_isSheet a0 m = some r) : CT l yX6_isSheet cX6_isSheet 1 (some .boolean) rmX6_isSheet cfM 23 (fun ad tb => [.int a0]) m (some (.int r)) m := by
  refine CT.of (cc := cX6_isSheet) (maxL := 1) (ret := (some .boolean)) (by decide) ⟨rfl, rfl⟩ (fun _ _ => Nat.le_of_ble_eq_true rfl) ?_
  intro p e s mt args below meth c D cA ad tb C hr hlk
  refine g_lv (lv' := [(0, .int a0)]) rfl ?_
  unfold f_X6_isSheet at h
  refine g_iload_n C dX6_isSheet_0 rfl 0 rfl ?_
  refine g_i2l C dX6_isSheet_1 ?_
  refine g_lconst (v := (0 : Int64)) C dX6_isSheet_2 (by decide) ?_
  refine g_ldc2 (v := (3 : Int64)) C dX6_isSheet_3 wl_1134 ?_
  obtain ⟨r1, hX2, h⟩ := bd1_inv h
  refine g_callS C (c_X6_in l hX2) (cwSw 3 C.2.2.2.2.1 wl_1089 wl_1090 wl_121 wl_1091 rfl rfl (by decide +kernel) ⟨Nat.le_of_ble_eq_true rfl, Nat.le_of_ble_eq_true rfl⟩) rfl rfl rfl (Nat.le_of_ble_eq_true rfl) dX6_isSheet_6 ?_
  obtain ⟨hz, h⟩ := Gu_inv h
  obtain rfl := so_inj h
  exact g_zret C hr hlk dX6_isSheet_9 hz rfl

def rmX6_goesBy : Room := { frames := 44, cells := 0, slots := 0, locals := 977 }
set_option maxRecDepth 100000 in
set_option maxHeartbeats 4000000 in
theorem c_X6_goesBy (l : Launch) {F : Nat}  {a0 : Int32}  {m : MM} {m' : MM} {r : Int32} (h : f_X6_goesBy F a0 m = some (r, m')) : CT l yX6_goesBy cX6_goesBy 6 (some .int) rmX6_goesBy cfM 23 (fun ad tb => [.ref (ad 0), .int a0]) m (some (.int r)) m' := by
  refine CT.of (cc := cX6_goesBy) (maxL := 6) (ret := (some .int)) (by decide) ⟨rfl, rfl⟩ (fun _ _ => Nat.le_of_ble_eq_true rfl) ?_
  intro p e s mt args below meth c D cA ad tb C hr hlk
  refine g_lv (lv' := [(0, .ref (ad 0)), (1, .int a0)]) rfl ?_
  have hcl6 : ∀ w ∈ wsX60, w.before args s = true := fun w hw => C.2.2.2.2.1 w (inlX6 w hw)
  unfold f_X6_goesBy at h
  refine g_iconst (v := (0 : Int32)) C dX6_goesBy_0 (by decide) ?_
  refine g_istore_n (lv' := [(2, .int (0 : Int32)), (0, .ref (ad 0)), (1, .int a0)]) C dX6_goesBy_1 rfl (by decide) rfl ?_
  refine g_sub [1, 2, 0] rfl ?_
  refine g_loop_IM (L := f_X6_goesBy_L2) h 2 25 (fun x2_1 m2 => [(0, .ref (ad 0)), (1, .int a0), (2, .int x2_1)]) (fun x2_1 m2 => [(0, .ref (ad 0)), (1, .int a0)]) (fun x2_1 m2 => []) (fun x2_1 m2 => []) ?_ ?_ (fun _ _ _ => rfl)
  · intro x2_1 m2 h
    refine g_aload_n C dX6_goesBy_25 rfl 0 rfl ?_
    refine g_iconst (v := (0 : Int32)) C dX6_goesBy_26 (by decide) ?_
    refine g_putI C (T := TX6) hcl6 mO_0 rfl (j := 40) (by decide) wl_959 tyX6 tyX6_ok nmX6 rfl rfl pfX6_40 (plX6 40 (by decide)) dX6_goesBy_27 h (fun m6 h => ?_)
    refine g_iconst (v := (-1 : Int32)) C dX6_goesBy_30 (by decide) ?_
    refine g_istore_n (lv' := [(2, .int (-1 : Int32)), (0, .ref (ad 0)), (1, .int a0)]) C dX6_goesBy_31 rfl (by decide) rfl ?_
    refine g_iconst (v := (0 : Int32)) C dX6_goesBy_32 (by decide) ?_
    refine g_istore_n (lv' := [(3, .int (0 : Int32)), (2, .int (-1 : Int32)), (0, .ref (ad 0)), (1, .int a0)]) C dX6_goesBy_33 rfl (by decide) rfl ?_
    refine g_sub [2, 3, 1, 0] rfl ?_
    refine g_loop_IIM (L := f_X6_goesBy_L34 F a0) h 34 123 (fun x2_7 x3_8 m9 => [(0, .ref (ad 0)), (1, .int a0), (2, .int x2_7), (3, .int x3_8)]) (fun x2_7 x3_8 m9 => [(0, .ref (ad 0)), (2, .int x2_7)]) (fun x2_7 x3_8 m9 => []) (fun x2_7 x3_8 m9 => []) ?_ ?_ (fun _ _ _ _ => rfl)
    · intro x2_7 x3_8 m9 h
      refine g_aload_n C dX6_goesBy_123 rfl 0 rfl ?_
      refine g_aload_n C dX6_goesBy_124 rfl 0 rfl ?_
      obtain ⟨r23, hX24, h⟩ := bd1_inv h
      refine g_callV C (c_X6_isOpen l hX24) (cwVw 0 C.2.2.2.2.1 wl_1387 wl_1389 wl_94 wl_121 wl_1390 rfl rfl (by decide +kernel) ⟨Nat.le_of_ble_eq_true rfl, Nat.le_of_ble_eq_true rfl⟩) mO_0 rfl rfl rfl rfl (Nat.le_of_ble_eq_true rfl) dX6_goesBy_125 ?_
      refine g_putZ C (T := TX6) hcl6 mO_0 rfl (j := 41) (by decide) wl_960 tyX6 tyX6_ok nmX6 rfl rfl pfX6_41 (plX6 41 (by decide)) dX6_goesBy_128 h (fun m25 h => ?_)
      refine g_iconst (v := (0 : Int32)) C dX6_goesBy_131 (by decide) ?_
      refine g_istore_n (lv' := [(3, .int (0 : Int32)), (0, .ref (ad 0)), (2, .int x2_7)]) C dX6_goesBy_132 rfl (by decide) rfl ?_
      refine g_sub [1, 2, 0] rfl ?_
      refine g_loop_IM (L := f_X6_goesBy_L133) h 133 156 (fun x3_26 m27 => [(0, .ref (ad 0)), (2, .int x2_7), (3, .int x3_26)]) (fun x3_26 m27 => [(2, .int x2_7)]) (fun x3_26 m27 => []) (fun x3_26 m27 => []) ?_ ?_ (fun _ _ _ => rfl)
      · intro x3_26 m27 h
        refine g_iload_n C dX6_goesBy_156 rfl 0 rfl ?_
        obtain ⟨rfl, rfl⟩ := sp_inj h
        exact g_iret C hr hlk dX6_goesBy_157 rfl
      · intro K28 hK28 n ih x3_26 m27 h
        rw [f_X6_goesBy_L133] at h
        refine g_iload_n C dX6_goesBy_133 rfl 2 rfl ?_
        refine g_iconst (v := (5 : Int32)) C dX6_goesBy_134 (by decide) ?_
        refine g_icmp_ge (tgt := 156) C dX6_goesBy_135 (by decide) h (fun h => ?_) (fun h => ?_)
        · exact g_sub [1] rfl (hK28 _ _ h)
        · refine g_aload_n C dX6_goesBy_138 rfl 0 rfl ?_
          refine g_get C (T := TX6) hcl6 mO_0 rfl (j := 12) (by decide) wl_931 (v := .ref (ad 8)) rfl dX6_goesBy_139 ?_
          refine g_iload_n C dX6_goesBy_142 rfl 2 rfl ?_
          refine g_aload_n C dX6_goesBy_143 rfl 0 rfl ?_
          refine g_get C (T := TX6) hcl6 mO_0 rfl (j := 34) (by decide) wl_953 (v := .ref (ad 10)) rfl dX6_goesBy_144 ?_
          refine g_iload_n C dX6_goesBy_147 rfl 2 rfl ?_
          refine g_iald C mI_10 dX6_goesBy_148 h (fun h => ?_)
          refine g_iast C mI_8 dX6_goesBy_149 h (fun m29 h => ?_)
          refine g_iinc (lv' := [(0, .ref (ad 0)), (2, .int x2_7)]) C dX6_goesBy_150 (q := 2) rfl (by decide) h rfl (fun _ => rfl) (fun x3_30 h => ?_)
          refine g_goto (tgt := 133) C dX6_goesBy_153 (by decide) ?_
          exact g_sub [1, 2, 0] rfl (ih _ _ h)
    · intro K10 hK10 n ih x2_7 x3_8 m9 h
      rw [f_X6_goesBy_L34] at h
      refine g_iload_n C dX6_goesBy_34 rfl 3 rfl ?_
      refine g_aload_n C dX6_goesBy_35 rfl 0 rfl ?_
      refine g_get C (T := TX6) hcl6 mO_0 rfl (j := 52) (by decide) wl_971 (v := .ref (ad 21)) rfl dX6_goesBy_36 ?_
      refine g_iload_n C dX6_goesBy_39 rfl 1 rfl ?_
      refine g_iald C mI_21 dX6_goesBy_40 h (fun h => ?_)
      refine g_icmp_ge (tgt := 123) C dX6_goesBy_41 (by decide) h (fun h => ?_) (fun h => ?_)
      · exact g_sub [0, 2] rfl (hK10 _ _ _ h)
      · refine g_iload_n C dX6_goesBy_44 rfl 2 rfl ?_
        refine g_iconst (v := (-1 : Int32)) C dX6_goesBy_45 (by decide) ?_
        refine g_icmp_ne (tgt := 123) C dX6_goesBy_46 (by decide) h (fun h => ?_) (fun h => ?_)
        · refine g_aload_n C dX6_goesBy_49 rfl 0 rfl ?_
          refine g_get C (T := TX6) hcl6 mO_0 rfl (j := 53) (by decide) wl_972 (v := .ref (ad 22)) rfl dX6_goesBy_50 ?_
          refine g_bipush (v := (40 : Int32)) C dX6_goesBy_53 (by decide) ?_
          refine g_iload_n C dX6_goesBy_55 rfl 1 rfl ?_
          refine g_imul C dX6_goesBy_56 ?_
          refine g_iload_n C dX6_goesBy_57 rfl 3 rfl ?_
          refine g_iadd C dX6_goesBy_58 ?_
          refine g_iald C mI_22 dX6_goesBy_59 h (fun h => ?_)
          refine nm_i h (fun x4_11 h => ?_)
          refine g_istore (lv' := [(4, .int x4_11), (0, .ref (ad 0)), (1, .int a0), (2, .int x2_7), (3, .int x3_8)]) C dX6_goesBy_60 (by decide) rfl ?_
          refine g_iload C dX6_goesBy_62 0 rfl ?_
          refine g_i2l C dX6_goesBy_64 ?_
          refine g_lconst (v := (0 : Int64)) C dX6_goesBy_65 (by decide) ?_
          refine g_ldc2 (v := (99 : Int64)) C dX6_goesBy_66 wl_1098 ?_
          obtain ⟨r12, hX13, h⟩ := bd1_inv h
          refine g_callS C (c_X6_in l hX13) (cwSw 3 C.2.2.2.2.1 wl_1089 wl_1090 wl_121 wl_1091 rfl rfl (by decide +kernel) ⟨Nat.le_of_ble_eq_true rfl, Nat.le_of_ble_eq_true rfl⟩) rfl rfl rfl (Nat.le_of_ble_eq_true rfl) dX6_goesBy_69 ?_
          refine g_join_IM h 94 (fun s14 m15 => [(0, .ref (ad 0)), (1, .int a0), (2, .int x2_7), (3, .int x3_8)]) (fun s14 m15 => [.int s14]) ?_ ?_
          · intro s14 m15 h
            refine g_istore (lv' := [(5, .int s14), (0, .ref (ad 0)), (1, .int a0), (2, .int x2_7), (3, .int x3_8)]) C dX6_goesBy_94 (by decide) rfl ?_
            refine g_iload C dX6_goesBy_96 0 rfl ?_
            refine g_if_ge (tgt := 106) C dX6_goesBy_98 (by decide) h (fun h => ?_) (fun h => ?_)
            · refine g_aload_n C dX6_goesBy_106 rfl 1 rfl ?_
              refine g_dup C dX6_goesBy_107 rfl ?_
              refine g_get C (T := TX6) hcl6 mO_0 rfl (j := 40) (by decide) wl_959 (v := .int (rI m15 0 40)) rfl dX6_goesBy_108 ?_
              refine g_iload C dX6_goesBy_111 0 rfl ?_
              refine g_iadd C dX6_goesBy_113 ?_
              refine g_putI C (T := TX6) hcl6 mO_0 rfl (j := 40) (by decide) wl_959 tyX6 tyX6_ok nmX6 rfl rfl pfX6_40 (plX6 40 (by decide)) dX6_goesBy_114 h (fun m17 h => ?_)
              refine g_iinc (lv' := [(5, .int s14), (0, .ref (ad 0)), (1, .int a0), (2, .int x2_7)]) C dX6_goesBy_117 (q := 4) rfl (by decide) h rfl (fun _ => rfl) (fun x3_18 h => ?_)
              refine g_goto (tgt := 34) C dX6_goesBy_120 (by decide) ?_
              exact g_sub [2, 3, 4, 0] rfl (ih _ _ _ h)
            · refine g_iload_n C dX6_goesBy_101 rfl 4 rfl ?_
              refine g_istore_n (lv' := [(2, .int x3_8), (5, .int s14), (0, .ref (ad 0)), (1, .int a0), (3, .int x3_8)]) C dX6_goesBy_102 rfl (by decide) rfl ?_
              refine g_goto (tgt := 117) C dX6_goesBy_103 (by decide) ?_
              refine g_iinc (lv' := [(2, .int x3_8), (5, .int s14), (0, .ref (ad 0)), (1, .int a0)]) C dX6_goesBy_117 (q := 4) rfl (by decide) h rfl (fun _ => rfl) (fun x3_19 h => ?_)
              refine g_goto (tgt := 34) C dX6_goesBy_120 (by decide) ?_
              exact g_sub [3, 4, 1, 0] rfl (ih _ _ _ h)
          intro J16 hJ16 h
          refine g_if_eq (tgt := 92) C dX6_goesBy_72 (by decide) h (fun h => ?_) (fun h => ?_)
          · refine g_bipush (v := (-2 : Int32)) C dX6_goesBy_92 (by decide) ?_
            exact g_sub [1, 2, 3, 4] rfl (hJ16 _ _ h)
          · refine g_aload_n C dX6_goesBy_75 rfl 1 rfl ?_
            refine g_iload C dX6_goesBy_76 0 rfl ?_
            refine g_bipush (v := (10 : Int32)) C dX6_goesBy_78 (by decide) ?_
            refine g_idiv C dX6_goesBy_80 h (fun h => ?_)
            refine g_iload C dX6_goesBy_81 0 rfl ?_
            refine g_bipush (v := (10 : Int32)) C dX6_goesBy_83 (by decide) ?_
            refine g_irem C dX6_goesBy_85 h (fun h => ?_)
            obtain ⟨r20, m22, hX21, h⟩ := bd2_inv h
            refine g_callV C (c_X6_move l hX21) (cwVw 2 C.2.2.2.2.1 wl_1461 wl_1368 wl_1369 wl_121 wl_1370 rfl rfl (by decide +kernel) ⟨Nat.le_of_ble_eq_true rfl, Nat.le_of_ble_eq_true rfl⟩) mO_0 rfl rfl rfl rfl (Nat.le_of_ble_eq_true rfl) dX6_goesBy_86 ?_
            refine g_goto (tgt := 94) C dX6_goesBy_89 (by decide) ?_
            exact g_sub [1, 2, 3, 4] rfl (hJ16 _ _ h)
        · exact g_sub [0, 2] rfl (hK10 _ _ _ h)
  · intro K3 hK3 n ih x2_1 m2 h
    rw [f_X6_goesBy_L2] at h
    refine g_iload_n C dX6_goesBy_2 rfl 2 rfl ?_
    refine g_iconst (v := (5 : Int32)) C dX6_goesBy_3 (by decide) ?_
    refine g_icmp_ge (tgt := 25) C dX6_goesBy_4 (by decide) h (fun h => ?_) (fun h => ?_)
    · exact g_sub [0, 1] rfl (hK3 _ _ h)
    · refine g_aload_n C dX6_goesBy_7 rfl 0 rfl ?_
      refine g_get C (T := TX6) hcl6 mO_0 rfl (j := 34) (by decide) wl_953 (v := .ref (ad 10)) rfl dX6_goesBy_8 ?_
      refine g_iload_n C dX6_goesBy_11 rfl 2 rfl ?_
      refine g_aload_n C dX6_goesBy_12 rfl 0 rfl ?_
      refine g_get C (T := TX6) hcl6 mO_0 rfl (j := 12) (by decide) wl_931 (v := .ref (ad 8)) rfl dX6_goesBy_13 ?_
      refine g_iload_n C dX6_goesBy_16 rfl 2 rfl ?_
      refine g_iald C mI_8 dX6_goesBy_17 h (fun h => ?_)
      refine g_iast C mI_10 dX6_goesBy_18 h (fun m4 h => ?_)
      refine g_iinc (lv' := [(0, .ref (ad 0)), (1, .int a0)]) C dX6_goesBy_19 (q := 2) rfl (by decide) h rfl (fun _ => rfl) (fun x2_5 h => ?_)
      refine g_goto (tgt := 2) C dX6_goesBy_22 (by decide) ?_
      exact g_sub [1, 2, 0] rfl (ih _ _ h)

def rmX6_judge : Room := { frames := 45, cells := 0, slots := 0, locals := 1002 }
set_option maxRecDepth 100000 in
set_option maxHeartbeats 4000000 in
theorem c_X6_judge (l : Launch) {F : Nat}  {a0 : Int32} {a1 : Int32}  {m : MM} {m' : MM} {r : Int32} (h : f_X6_judge F a0 a1 m = some (r, m')) : CT l yX6_judge cX6_judge 4 (some .int) rmX6_judge cfM 23 (fun ad tb => [.ref (ad 0), .int a0, .int a1]) m (some (.int r)) m' := by
  refine CT.of (cc := cX6_judge) (maxL := 4) (ret := (some .int)) (by decide) ⟨rfl, rfl⟩ (fun _ _ => Nat.le_of_ble_eq_true rfl) ?_
  intro p e s mt args below meth c D cA ad tb C hr hlk
  refine g_lv (lv' := [(0, .ref (ad 0)), (1, .int a0), (2, .int a1)]) rfl ?_
  have hcl6 : ∀ w ∈ wsX60, w.before args s = true := fun w hw => C.2.2.2.2.1 w (inlX6 w hw)
  unfold f_X6_judge at h
  refine g_iload_n C dX6_judge_0 rfl 1 rfl ?_
  obtain ⟨r1, hX2, h⟩ := bd1_inv h
  refine g_callS C (c_X6_isSheet l hX2) (cwSw 1 C.2.2.2.2.1 wl_1454 wl_1455 wl_121 wl_1456 rfl rfl (by decide +kernel) ⟨Nat.le_of_ble_eq_true rfl, Nat.le_of_ble_eq_true rfl⟩) rfl rfl rfl (Nat.le_of_ble_eq_true rfl) dX6_judge_1 ?_
  refine g_if_eq (tgt := 19) C dX6_judge_4 (by decide) h (fun h => ?_) (fun h => ?_)
  · refine g_bipush (v := (-2 : Int32)) C dX6_judge_19 (by decide) ?_
    obtain ⟨rfl, rfl⟩ := sp_inj h
    exact g_iret C hr hlk dX6_judge_21 rfl
  · refine g_iload_n C dX6_judge_7 rfl 2 rfl ?_
    refine g_i2l C dX6_judge_8 ?_
    refine g_lconst (v := (0 : Int64)) C dX6_judge_9 (by decide) ?_
    refine g_ldc2 (v := (2 : Int64)) C dX6_judge_10 wl_1359 ?_
    obtain ⟨r3, hX4, h⟩ := bd1_inv h
    refine g_callS C (c_X6_in l hX4) (cwSw 3 C.2.2.2.2.1 wl_1089 wl_1090 wl_121 wl_1091 rfl rfl (by decide +kernel) ⟨Nat.le_of_ble_eq_true rfl, Nat.le_of_ble_eq_true rfl⟩) rfl rfl rfl (Nat.le_of_ble_eq_true rfl) dX6_judge_13 ?_
    refine g_if_ne (tgt := 22) C dX6_judge_16 (by decide) h (fun h => ?_) (fun h => ?_)
    · refine g_bipush (v := (-2 : Int32)) C dX6_judge_19 (by decide) ?_
      obtain ⟨rfl, rfl⟩ := sp_inj h
      exact g_iret C hr hlk dX6_judge_21 rfl
    · refine g_aload_n C dX6_judge_22 rfl 0 rfl ?_
      refine g_get C (T := TX6) hcl6 mO_0 rfl (j := 50) (by decide) wl_969 (v := .ref (ad 19)) rfl dX6_judge_23 ?_
      refine g_iload_n C dX6_judge_26 rfl 1 rfl ?_
      refine g_zald C mZ_19 dX6_judge_27 h (fun h => ?_)
      refine g_if_ne (tgt := 34) C dX6_judge_28 (by decide) h (fun h => ?_) (fun h => ?_)
      · refine g_bipush (v := (-11 : Int32)) C dX6_judge_31 (by decide) ?_
        obtain ⟨rfl, rfl⟩ := sp_inj h
        exact g_iret C hr hlk dX6_judge_33 rfl
      · refine g_aload_n C dX6_judge_34 rfl 0 rfl ?_
        refine g_iload_n C dX6_judge_35 rfl 1 rfl ?_
        obtain ⟨r5, m7, hX6, h⟩ := bd2_inv h
        refine g_callV C (c_X6_goesBy l hX6) (cwVw 1 C.2.2.2.2.1 wl_1457 wl_1459 wl_103 wl_121 wl_1460 rfl rfl (by decide +kernel) ⟨Nat.le_of_ble_eq_true rfl, Nat.le_of_ble_eq_true rfl⟩) mO_0 rfl rfl rfl rfl (Nat.le_of_ble_eq_true rfl) dX6_judge_36 ?_
        refine g_istore_n (lv' := [(3, .int r5), (0, .ref (ad 0)), (1, .int a0), (2, .int a1)]) C dX6_judge_39 rfl (by decide) rfl ?_
        refine g_iload_n C dX6_judge_40 rfl 3 rfl ?_
        refine g_if_ne (tgt := 48) C dX6_judge_41 (by decide) h (fun h => ?_) (fun h => ?_)
        · refine g_iload_n C dX6_judge_44 rfl 0 rfl ?_
          refine g_goto (tgt := 72) C dX6_judge_45 (by decide) ?_
          obtain ⟨rfl, rfl⟩ := sp_inj h
          exact g_iret C hr hlk dX6_judge_72 rfl
        · refine g_iload_n C dX6_judge_48 rfl 3 rfl ?_
          refine g_iconst (v := (1 : Int32)) C dX6_judge_49 (by decide) ?_
          refine g_icmp_ne (tgt := 60) C dX6_judge_50 (by decide) h (fun h => ?_) (fun h => ?_)
          · refine g_aload_n C dX6_judge_53 rfl 1 rfl ?_
            refine g_get C (T := TX6) hcl6 mO_0 rfl (j := 40) (by decide) wl_959 (v := .int (rI m7 0 40)) rfl dX6_judge_54 ?_
            refine g_goto (tgt := 72) C dX6_judge_57 (by decide) ?_
            obtain ⟨rfl, rfl⟩ := sp_inj h
            exact g_iret C hr hlk dX6_judge_72 rfl
          · refine g_aload_n C dX6_judge_60 rfl 1 rfl ?_
            refine g_get C (T := TX6) hcl6 mO_0 rfl (j := 41) (by decide) wl_960 (v := .int (rI m7 0 41)) rfl dX6_judge_61 ?_
            refine g_if_eq (tgt := 71) C dX6_judge_64 (by decide) h (fun h => ?_) (fun h => ?_)
            · refine g_iconst (v := (0 : Int32)) C dX6_judge_71 (by decide) ?_
              obtain ⟨rfl, rfl⟩ := sp_inj h
              exact g_iret C hr hlk dX6_judge_72 rfl
            · refine g_iconst (v := (1 : Int32)) C dX6_judge_67 (by decide) ?_
              refine g_goto (tgt := 72) C dX6_judge_68 (by decide) ?_
              obtain ⟨rfl, rfl⟩ := sp_inj h
              exact g_iret C hr hlk dX6_judge_72 rfl

def rmX6_codeOf : Room := { frames := 2, cells := 0, slots := 0, locals := 46 }
set_option maxRecDepth 100000 in
set_option maxHeartbeats 4000000 in
theorem c_X6_codeOf (l : Launch) {F : Nat}  {a0 : Int32}  {m : MM} {r : Int32} (h : f_X6_codeOf F a0 m = some r) : CT l yX6_codeOf cX6_codeOf 5 (some .int) rmX6_codeOf cfM 23 (fun ad tb => [.ref (ad 0), .int a0]) m (some (.int r)) m := by
  refine CT.of (cc := cX6_codeOf) (maxL := 5) (ret := (some .int)) (by decide) ⟨rfl, rfl⟩ (fun _ _ => Nat.le_of_ble_eq_true rfl) ?_
  intro p e s mt args below meth c D cA ad tb C hr hlk
  refine g_lv (lv' := [(0, .ref (ad 0)), (1, .int a0)]) rfl ?_
  have hcl6 : ∀ w ∈ wsX60, w.before args s = true := fun w hw => C.2.2.2.2.1 w (inlX6 w hw)
  unfold f_X6_codeOf at h
  refine g_iconst (v := (0 : Int32)) C dX6_codeOf_0 (by decide) ?_
  refine g_istore_n (lv' := [(2, .int (0 : Int32)), (0, .ref (ad 0)), (1, .int a0)]) C dX6_codeOf_1 rfl (by decide) rfl ?_
  refine g_iconst (v := (0 : Int32)) C dX6_codeOf_2 (by decide) ?_
  refine g_istore_n (lv' := [(3, .int (0 : Int32)), (2, .int (0 : Int32)), (0, .ref (ad 0)), (1, .int a0)]) C dX6_codeOf_3 rfl (by decide) rfl ?_
  refine g_sub [2, 3, 1, 0] rfl ?_
  refine g_loop_II (L := f_X6_codeOf_L4 a0 m) h 4 52 (fun x2_1 x3_2 => [(0, .ref (ad 0)), (1, .int a0), (2, .int x2_1), (3, .int x3_2)]) (fun x2_1 x3_2 => [(2, .int x2_1)]) (fun x2_1 x3_2 => []) (fun x2_1 x3_2 => []) ?_ ?_ (fun _ _ _ => rfl)
  · intro x2_1 x3_2 h
    refine g_iload_n C dX6_codeOf_52 rfl 0 rfl ?_
    obtain rfl := so_inj h
    exact g_iret C hr hlk dX6_codeOf_53 rfl
  · intro K3 hK3 n ih x2_1 x3_2 h
    rw [f_X6_codeOf_L4] at h
    refine g_iload_n C dX6_codeOf_4 rfl 3 rfl ?_
    refine g_aload_n C dX6_codeOf_5 rfl 0 rfl ?_
    refine g_get C (T := TX6) hcl6 mO_0 rfl (j := 14) (by decide) wl_933 (v := .int (rI m 0 14)) rfl dX6_codeOf_6 ?_
    refine g_icmp_ge (tgt := 52) C dX6_codeOf_9 (by decide) h (fun h => ?_) (fun h => ?_)
    · exact g_sub [2] rfl (hK3 _ _ h)
    · refine g_aload_n C dX6_codeOf_12 rfl 0 rfl ?_
      refine g_get C (T := TX6) hcl6 mO_0 rfl (j := 53) (by decide) wl_972 (v := .ref (ad 22)) rfl dX6_codeOf_13 ?_
      refine g_bipush (v := (40 : Int32)) C dX6_codeOf_16 (by decide) ?_
      refine g_iload_n C dX6_codeOf_18 rfl 1 rfl ?_
      refine g_imul C dX6_codeOf_19 ?_
      refine g_iload_n C dX6_codeOf_20 rfl 3 rfl ?_
      refine g_iadd C dX6_codeOf_21 ?_
      refine g_iald C mI_22 dX6_codeOf_22 h (fun h => ?_)
      refine nm_i h (fun x4_4 h => ?_)
      refine g_istore (lv' := [(4, .int x4_4), (0, .ref (ad 0)), (1, .int a0), (2, .int x2_1), (3, .int x3_2)]) C dX6_codeOf_23 (by decide) rfl ?_
      refine g_aload_n C dX6_codeOf_25 rfl 1 rfl ?_
      refine g_iload C dX6_codeOf_26 0 rfl ?_
      obtain ⟨r5, hX6, h⟩ := bd1_inv h
      refine g_callV C (c_X6_isHold l hX6) (cwVw 1 C.2.2.2.2.1 wl_1099 wl_1101 wl_36 wl_121 wl_1102 rfl rfl (by decide +kernel) ⟨Nat.le_of_ble_eq_true rfl, Nat.le_of_ble_eq_true rfl⟩) mO_0 rfl rfl rfl rfl (Nat.le_of_ble_eq_true rfl) dX6_codeOf_28 ?_
      refine g_if_ne (tgt := 36) C dX6_codeOf_31 (by decide) h (fun h => ?_) (fun h => ?_)
      · refine g_iconst (v := (-1 : Int32)) C dX6_codeOf_34 (by decide) ?_
        obtain rfl := so_inj h
        exact g_iret C hr hlk dX6_codeOf_35 rfl
      · refine g_iload_n C dX6_codeOf_36 rfl 3 rfl ?_
        refine g_iload_n C dX6_codeOf_37 rfl 4 rfl ?_
        obtain ⟨r7, hX8, h⟩ := bd1_inv h
        refine g_callS C (c_X6_place l hX8) (cwSw 1 C.2.2.2.2.1 wl_1403 wl_1404 wl_121 wl_1405 rfl rfl (by decide +kernel) ⟨Nat.le_of_ble_eq_true rfl, Nat.le_of_ble_eq_true rfl⟩) rfl rfl rfl (Nat.le_of_ble_eq_true rfl) dX6_codeOf_38 ?_
        refine g_iload C dX6_codeOf_41 0 rfl ?_
        refine g_imul C dX6_codeOf_43 ?_
        refine g_iadd C dX6_codeOf_44 ?_
        refine nm_i h (fun x2_9 h => ?_)
        refine g_istore_n (lv' := [(2, .int x2_9), (4, .int x4_4), (0, .ref (ad 0)), (1, .int a0), (3, .int x3_2)]) C dX6_codeOf_45 rfl (by decide) rfl ?_
        refine g_iinc (lv' := [(2, .int x2_9), (4, .int x4_4), (0, .ref (ad 0)), (1, .int a0)]) C dX6_codeOf_46 (q := 4) rfl (by decide) h rfl (fun _ => rfl) (fun x3_10 h => ?_)
        refine g_goto (tgt := 4) C dX6_codeOf_49 (by decide) ?_
        exact g_sub [3, 4, 1, 0] rfl (ih _ _ h)

def rmX6_begins : Room := { frames := 44, cells := 0, slots := 0, locals := 979 }
set_option maxRecDepth 100000 in
set_option maxHeartbeats 4000000 in
theorem c_X6_begins (l : Launch) {F : Nat}    {m : MM} {m' : MM} (h : f_X6_begins F m = some m') : CT l yX6_begins cX6_begins 2 none rmX6_begins cfM 23 (fun ad tb => [.ref (ad 0)]) m none m' := by
  refine CT.of (cc := cX6_begins) (maxL := 2) (ret := none) (by decide) ⟨rfl, rfl⟩ (fun _ _ => Nat.le_of_ble_eq_true rfl) ?_
  intro p e s mt args below meth c D cA ad tb C hr hlk
  refine g_lv (lv' := [(0, .ref (ad 0))]) rfl ?_
  have hcl6 : ∀ w ∈ wsX60, w.before args s = true := fun w hw => C.2.2.2.2.1 w (inlX6 w hw)
  unfold f_X6_begins at h
  refine g_aload_n C dX6_begins_0 rfl 0 rfl ?_
  obtain ⟨m2, hX1, h⟩ := bd1_inv h
  refine g_callV C (c_X6_gathers l hX1) (cwVw 0 C.2.2.2.2.1 wl_1395 wl_1397 wl_95 wl_121 wl_1398 rfl rfl (by decide +kernel) ⟨Nat.le_of_ble_eq_true rfl, Nat.le_of_ble_eq_true rfl⟩) mO_0 rfl rfl rfl rfl (Nat.le_of_ble_eq_true rfl) dX6_begins_1 ?_
  refine g_iconst (v := (0 : Int32)) C dX6_begins_4 (by decide) ?_
  refine g_istore_n (lv' := [(1, .int (0 : Int32)), (0, .ref (ad 0))]) C dX6_begins_5 rfl (by decide) rfl ?_
  refine g_sub [1, 0] rfl ?_
  refine g_loop_IM (L := f_X6_begins_L6) h 6 26 (fun x1_3 m4 => [(0, .ref (ad 0)), (1, .int x1_3)]) (fun x1_3 m4 => [(0, .ref (ad 0))]) (fun x1_3 m4 => []) (fun x1_3 m4 => []) ?_ ?_ (fun _ _ _ => rfl)
  · intro x1_3 m4 h
    refine g_aload_n C dX6_begins_26 rfl 0 rfl ?_
    refine g_get C (T := TX6) hcl6 mO_0 rfl (j := 42) (by decide) wl_961 (v := .ref (ad 16)) rfl dX6_begins_27 ?_
    refine g_aload_n C dX6_begins_30 rfl 0 rfl ?_
    obtain ⟨r8, hX9, h⟩ := bd1_inv h
    refine g_callV C (c_X6_codeNow l hX9) (cwVw 0 C.2.2.2.2.1 wl_1399 wl_1401 wl_96 wl_121 wl_1402 rfl rfl (by decide +kernel) ⟨Nat.le_of_ble_eq_true rfl, Nat.le_of_ble_eq_true rfl⟩) mO_0 rfl rfl rfl rfl (Nat.le_of_ble_eq_true rfl) dX6_begins_31 ?_
    refine g_lconst (v := (1 : Int64)) C dX6_begins_34 (by decide) ?_
    refine g_last C mL_16 dX6_begins_35 h (fun m10 h => ?_)
    obtain rfl := so_inj h
    exact g_vret C hr hlk dX6_begins_36 rfl
  · intro K5 hK5 n ih x1_3 m4 h
    rw [f_X6_begins_L6] at h
    refine g_iload_n C dX6_begins_6 rfl 1 rfl ?_
    refine g_sipush (v := (3125 : Int32)) C dX6_begins_7 (by decide) ?_
    refine g_icmp_ge (tgt := 26) C dX6_begins_10 (by decide) h (fun h => ?_) (fun h => ?_)
    · exact g_sub [0] rfl (hK5 _ _ h)
    · refine g_aload_n C dX6_begins_13 rfl 0 rfl ?_
      refine g_get C (T := TX6) hcl6 mO_0 rfl (j := 42) (by decide) wl_961 (v := .ref (ad 16)) rfl dX6_begins_14 ?_
      refine g_iload_n C dX6_begins_17 rfl 1 rfl ?_
      refine g_lconst (v := (0 : Int64)) C dX6_begins_18 (by decide) ?_
      refine g_last C mL_16 dX6_begins_19 h (fun m6 h => ?_)
      refine g_iinc (lv' := [(0, .ref (ad 0))]) C dX6_begins_20 (q := 1) rfl (by decide) h rfl (fun _ => rfl) (fun x1_7 h => ?_)
      refine g_goto (tgt := 6) C dX6_begins_23 (by decide) ?_
      exact g_sub [1, 0] rfl (ih _ _ h)

def rmX6_steps : Room := { frames := 2, cells := 0, slots := 0, locals := 43 }
set_option maxRecDepth 100000 in
set_option maxHeartbeats 4000000 in
theorem c_X6_steps (l : Launch) {F : Nat}    {m : MM} {m' : MM} (h : f_X6_steps F m = some m') : CT l yX6_steps cX6_steps 6 none rmX6_steps cfM 23 (fun ad tb => [.ref (ad 0)]) m none m' := by
  refine CT.of (cc := cX6_steps) (maxL := 6) (ret := none) (by decide) ⟨rfl, rfl⟩ (fun _ _ => Nat.le_of_ble_eq_true rfl) ?_
  intro p e s mt args below meth c D cA ad tb C hr hlk
  refine g_lv (lv' := [(0, .ref (ad 0))]) rfl ?_
  have hcl6 : ∀ w ∈ wsX60, w.before args s = true := fun w hw => C.2.2.2.2.1 w (inlX6 w hw)
  unfold f_X6_steps at h
  refine g_aload_n C dX6_steps_0 rfl 0 rfl ?_
  refine g_get C (T := TX6) hcl6 mO_0 rfl (j := 14) (by decide) wl_933 (v := .int (rI m 0 14)) rfl dX6_steps_1 ?_
  refine g_join_I h 22 (fun s1 => [(0, .ref (ad 0))]) (fun s1 => [.int s1]) ?_ ?_
  · intro s1 h
    refine g_istore_n (lv' := [(1, .int s1), (0, .ref (ad 0))]) C dX6_steps_22 rfl (by decide) rfl ?_
    refine g_iconst (v := (0 : Int32)) C dX6_steps_23 (by decide) ?_
    refine g_istore_n (lv' := [(2, .int (0 : Int32)), (1, .int s1), (0, .ref (ad 0))]) C dX6_steps_24 rfl (by decide) rfl ?_
    refine g_sub [2, 1, 0] rfl ?_
    refine g_loop_IM (L := f_X6_steps_L25 s1) h 25 43 (fun x2_3 m4 => [(0, .ref (ad 0)), (1, .int s1), (2, .int x2_3)]) (fun x2_3 m4 => [(0, .ref (ad 0)), (1, .int s1)]) (fun x2_3 m4 => []) (fun x2_3 m4 => []) ?_ ?_ (fun _ _ _ => rfl)
    · intro x2_3 m4 h
      refine g_iconst (v := (0 : Int32)) C dX6_steps_43 (by decide) ?_
      refine g_istore_n (lv' := [(2, .int (0 : Int32)), (0, .ref (ad 0)), (1, .int s1)]) C dX6_steps_44 rfl (by decide) rfl ?_
      refine g_sub [1, 2, 0] rfl ?_
      refine g_loop_IM (L := f_X6_steps_L45 F s1) h 45 144 (fun x2_8 m9 => [(0, .ref (ad 0)), (1, .int s1), (2, .int x2_8)]) (fun x2_8 m9 => [(0, .ref (ad 0)), (1, .int s1)]) (fun x2_8 m9 => []) (fun x2_8 m9 => []) ?_ ?_ (fun _ _ _ => rfl)
      · intro x2_8 m9 h
        refine g_iconst (v := (0 : Int32)) C dX6_steps_144 (by decide) ?_
        refine g_istore_n (lv' := [(2, .int (0 : Int32)), (0, .ref (ad 0)), (1, .int s1)]) C dX6_steps_145 rfl (by decide) rfl ?_
        refine g_sub [1, 2, 0] rfl ?_
        refine g_loop_IM (L := f_X6_steps_L146 s1) h 146 169 (fun x2_25 m26 => [(0, .ref (ad 0)), (1, .int s1), (2, .int x2_25)]) (fun x2_25 m26 => []) (fun x2_25 m26 => []) (fun x2_25 m26 => []) ?_ ?_ (fun _ _ _ => rfl)
        · intro x2_25 m26 h
          obtain rfl := so_inj h
          exact g_vret C hr hlk dX6_steps_169 rfl
        · intro K27 hK27 n ih x2_25 m26 h
          rw [f_X6_steps_L146] at h
          refine g_iload_n C dX6_steps_146 rfl 2 rfl ?_
          refine g_iload_n C dX6_steps_147 rfl 1 rfl ?_
          refine g_icmp_ge (tgt := 169) C dX6_steps_148 (by decide) h (fun h => ?_) (fun h => ?_)
          · exact g_sub [] rfl (hK27 _ _ h)
          · refine g_aload_n C dX6_steps_151 rfl 0 rfl ?_
            refine g_get C (T := TX6) hcl6 mO_0 rfl (j := 42) (by decide) wl_961 (v := .ref (ad 16)) rfl dX6_steps_152 ?_
            refine g_iload_n C dX6_steps_155 rfl 2 rfl ?_
            refine g_aload_n C dX6_steps_156 rfl 0 rfl ?_
            refine g_get C (T := TX6) hcl6 mO_0 rfl (j := 43) (by decide) wl_962 (v := .ref (ad 17)) rfl dX6_steps_157 ?_
            refine g_iload_n C dX6_steps_160 rfl 2 rfl ?_
            refine g_lald C mL_17 dX6_steps_161 h (fun h => ?_)
            refine g_last C mL_16 dX6_steps_162 h (fun m28 h => ?_)
            refine g_iinc (lv' := [(0, .ref (ad 0)), (1, .int s1)]) C dX6_steps_163 (q := 2) rfl (by decide) h rfl (fun _ => rfl) (fun x2_29 h => ?_)
            refine g_goto (tgt := 146) C dX6_steps_166 (by decide) ?_
            exact g_sub [1, 2, 0] rfl (ih _ _ h)
      · intro K10 hK10 n ih x2_8 m9 h
        rw [f_X6_steps_L45] at h
        refine g_iload_n C dX6_steps_45 rfl 2 rfl ?_
        refine g_iload_n C dX6_steps_46 rfl 1 rfl ?_
        refine g_icmp_ge (tgt := 144) C dX6_steps_47 (by decide) h (fun h => ?_) (fun h => ?_)
        · exact g_sub [0, 1] rfl (hK10 _ _ h)
        · refine g_iconst (v := (0 : Int32)) C dX6_steps_50 (by decide) ?_
          refine g_istore_n (lv' := [(3, .int (0 : Int32)), (0, .ref (ad 0)), (1, .int s1), (2, .int x2_8)]) C dX6_steps_51 rfl (by decide) rfl ?_
          refine g_sub [1, 2, 3, 0] rfl ?_
          refine g_loop_IM (L := f_X6_steps_L52 F x2_8) h 52 138 (fun x3_11 m12 => [(0, .ref (ad 0)), (1, .int s1), (2, .int x2_8), (3, .int x3_11)]) (fun x3_11 m12 => [(0, .ref (ad 0)), (1, .int s1), (2, .int x2_8)]) (fun x3_11 m12 => []) (fun x3_11 m12 => []) ?_ ?_ (fun _ _ _ => rfl)
          · intro x3_11 m12 h
            refine g_iinc (lv' := [(0, .ref (ad 0)), (1, .int s1)]) C dX6_steps_138 (q := 2) rfl (by decide) h rfl (fun _ => rfl) (fun x2_24 h => ?_)
            refine g_goto (tgt := 45) C dX6_steps_141 (by decide) ?_
            exact g_sub [1, 2, 0] rfl (ih _ _ h)
          · intro K13 hK13 n ih x3_11 m12 h
            rw [f_X6_steps_L52] at h
            refine g_iload_n C dX6_steps_52 rfl 3 rfl ?_
            refine g_aload_n C dX6_steps_53 rfl 0 rfl ?_
            refine g_get C (T := TX6) hcl6 mO_0 rfl (j := 14) (by decide) wl_933 (v := .int (rI m12 0 14)) rfl dX6_steps_54 ?_
            refine g_icmp_ge (tgt := 138) C dX6_steps_57 (by decide) h (fun h => ?_) (fun h => ?_)
            · exact g_sub [0, 1, 2] rfl (hK13 _ _ h)
            · refine g_aload_n C dX6_steps_60 rfl 0 rfl ?_
              refine g_get C (T := TX6) hcl6 mO_0 rfl (j := 42) (by decide) wl_961 (v := .ref (ad 16)) rfl dX6_steps_61 ?_
              refine g_iload_n C dX6_steps_64 rfl 2 rfl ?_
              refine g_lald C mL_16 dX6_steps_65 h (fun h => ?_)
              refine g_lconst (v := (0 : Int64)) C dX6_steps_66 (by decide) ?_
              refine g_lcmp C dX6_steps_67 ?_
              refine g_if_le (tgt := 138) C dX6_steps_68 (by decide) h (fun h => ?_) (fun h => ?_)
              · exact g_sub [0, 1, 2] rfl (hK13 _ _ h)
              · refine g_iconst (v := (0 : Int32)) C dX6_steps_71 (by decide) ?_
                refine g_istore (lv' := [(4, .int (0 : Int32)), (0, .ref (ad 0)), (1, .int s1), (2, .int x2_8), (3, .int x3_11)]) C dX6_steps_72 (by decide) rfl ?_
                refine g_sub [1, 2, 3, 4, 0] rfl ?_
                refine g_loop_IM (L := f_X6_steps_L74 x2_8 x3_11) h 74 132 (fun x4_14 m15 => [(0, .ref (ad 0)), (1, .int s1), (2, .int x2_8), (3, .int x3_11), (4, .int x4_14)]) (fun x4_14 m15 => [(0, .ref (ad 0)), (1, .int s1), (2, .int x2_8), (3, .int x3_11)]) (fun x4_14 m15 => []) (fun x4_14 m15 => []) ?_ ?_ (fun _ _ _ => rfl)
                · intro x4_14 m15 h
                  refine g_iinc (lv' := [(0, .ref (ad 0)), (1, .int s1), (2, .int x2_8)]) C dX6_steps_132 (q := 3) rfl (by decide) h rfl (fun _ => rfl) (fun x3_23 h => ?_)
                  refine g_goto (tgt := 52) C dX6_steps_135 (by decide) ?_
                  exact g_sub [1, 2, 3, 0] rfl (ih _ _ h)
                · intro K16 hK16 n ih x4_14 m15 h
                  rw [f_X6_steps_L74] at h
                  refine g_iload C dX6_steps_74 4 rfl ?_
                  refine g_aload_n C dX6_steps_76 rfl 0 rfl ?_
                  refine g_get C (T := TX6) hcl6 mO_0 rfl (j := 9) (by decide) wl_928 (v := .int (rI m15 0 9)) rfl dX6_steps_77 ?_
                  refine g_icmp_ge (tgt := 132) C dX6_steps_80 (by decide) h (fun h => ?_) (fun h => ?_)
                  · exact g_sub [0, 1, 2, 3] rfl (hK16 _ _ h)
                  · refine g_aload_n C dX6_steps_83 rfl 0 rfl ?_
                    refine g_iload_n C dX6_steps_84 rfl 2 rfl ?_
                    refine g_iload_n C dX6_steps_85 rfl 3 rfl ?_
                    refine g_iload C dX6_steps_86 4 rfl ?_
                    obtain ⟨r17, hX18, h⟩ := bd1_inv h
                    refine g_callV C (c_X6_after l hX18) (cwVw 3 C.2.2.2.2.1 wl_1419 wl_1421 wl_100 wl_121 wl_1422 rfl rfl (by decide +kernel) ⟨Nat.le_of_ble_eq_true rfl, Nat.le_of_ble_eq_true rfl⟩) mO_0 rfl rfl rfl rfl (Nat.le_of_ble_eq_true rfl) dX6_steps_88 ?_
                    refine g_istore (lv' := [(5, .int r17), (0, .ref (ad 0)), (1, .int s1), (2, .int x2_8), (3, .int x3_11), (4, .int x4_14)]) C dX6_steps_91 (by decide) rfl ?_
                    refine g_iload C dX6_steps_93 0 rfl ?_
                    refine g_iload_n C dX6_steps_95 rfl 3 rfl ?_
                    refine g_icmp_eq (tgt := 126) C dX6_steps_96 (by decide) h (fun h => ?_) (fun h => ?_)
                    · refine g_iinc (lv' := [(5, .int r17), (0, .ref (ad 0)), (1, .int s1), (2, .int x2_8), (3, .int x3_11)]) C dX6_steps_126 (q := 5) rfl (by decide) h rfl (fun _ => rfl) (fun x4_19 h => ?_)
                      refine g_goto (tgt := 74) C dX6_steps_129 (by decide) ?_
                      exact g_sub [2, 3, 4, 5, 0] rfl (ih _ _ h)
                    · refine g_aload_n C dX6_steps_99 rfl 1 rfl ?_
                      refine g_get C (T := TX6) hcl6 mO_0 rfl (j := 35) (by decide) wl_954 (v := .ref (ad 11)) rfl dX6_steps_100 ?_
                      refine g_iload C dX6_steps_103 0 rfl ?_
                      refine g_iald C mI_11 dX6_steps_105 h (fun h => ?_)
                      refine g_iconst (v := (1 : Int32)) C dX6_steps_106 (by decide) ?_
                      refine g_icmp_ne (tgt := 126) C dX6_steps_107 (by decide) h (fun h => ?_) (fun h => ?_)
                      · refine g_aload_n C dX6_steps_110 rfl 1 rfl ?_
                        refine g_get C (T := TX6) hcl6 mO_0 rfl (j := 43) (by decide) wl_962 (v := .ref (ad 17)) rfl dX6_steps_111 ?_
                        refine g_iload C dX6_steps_114 0 rfl ?_
                        refine g_dup2 C dX6_steps_116 rfl rfl ?_
                        refine g_lald C mL_17 dX6_steps_117 h (fun h => ?_)
                        refine g_aload_n C dX6_steps_118 rfl 1 rfl ?_
                        refine g_get C (T := TX6) hcl6 mO_0 rfl (j := 42) (by decide) wl_961 (v := .ref (ad 16)) rfl dX6_steps_119 ?_
                        refine g_iload_n C dX6_steps_122 rfl 3 rfl ?_
                        refine g_lald C mL_16 dX6_steps_123 h (fun h => ?_)
                        refine g_ladd C dX6_steps_124 ?_
                        refine g_last C mL_17 dX6_steps_125 h (fun m20 h => ?_)
                        refine g_iinc (lv' := [(5, .int r17), (0, .ref (ad 0)), (1, .int s1), (2, .int x2_8), (3, .int x3_11)]) C dX6_steps_126 (q := 5) rfl (by decide) h rfl (fun _ => rfl) (fun x4_21 h => ?_)
                        refine g_goto (tgt := 74) C dX6_steps_129 (by decide) ?_
                        exact g_sub [2, 3, 4, 5, 0] rfl (ih _ _ h)
                      · refine g_iinc (lv' := [(5, .int r17), (0, .ref (ad 0)), (1, .int s1), (2, .int x2_8), (3, .int x3_11)]) C dX6_steps_126 (q := 5) rfl (by decide) h rfl (fun _ => rfl) (fun x4_22 h => ?_)
                        refine g_goto (tgt := 74) C dX6_steps_129 (by decide) ?_
                        exact g_sub [2, 3, 4, 5, 0] rfl (ih _ _ h)
    · intro K5 hK5 n ih x2_3 m4 h
      rw [f_X6_steps_L25] at h
      refine g_iload_n C dX6_steps_25 rfl 2 rfl ?_
      refine g_iload_n C dX6_steps_26 rfl 1 rfl ?_
      refine g_icmp_ge (tgt := 43) C dX6_steps_27 (by decide) h (fun h => ?_) (fun h => ?_)
      · exact g_sub [0, 1] rfl (hK5 _ _ h)
      · refine g_aload_n C dX6_steps_30 rfl 0 rfl ?_
        refine g_get C (T := TX6) hcl6 mO_0 rfl (j := 43) (by decide) wl_962 (v := .ref (ad 17)) rfl dX6_steps_31 ?_
        refine g_iload_n C dX6_steps_34 rfl 2 rfl ?_
        refine g_lconst (v := (0 : Int64)) C dX6_steps_35 (by decide) ?_
        refine g_last C mL_17 dX6_steps_36 h (fun m6 h => ?_)
        refine g_iinc (lv' := [(0, .ref (ad 0)), (1, .int s1)]) C dX6_steps_37 (q := 2) rfl (by decide) h rfl (fun _ => rfl) (fun x2_7 h => ?_)
        refine g_goto (tgt := 25) C dX6_steps_40 (by decide) ?_
        exact g_sub [1, 2, 0] rfl (ih _ _ h)
  intro J2 hJ2 h
  refine g_if_ne (tgt := 11) C dX6_steps_4 (by decide) h (fun h => ?_) (fun h => ?_)
  · refine g_iconst (v := (1 : Int32)) C dX6_steps_7 (by decide) ?_
    refine g_goto (tgt := 22) C dX6_steps_8 (by decide) ?_
    exact g_sub [0] rfl (hJ2 _ h)
  · refine g_aload_n C dX6_steps_11 rfl 0 rfl ?_
    refine g_get C (T := TX6) hcl6 mO_0 rfl (j := 14) (by decide) wl_933 (v := .int (rI m 0 14)) rfl dX6_steps_12 ?_
    refine g_iconst (v := (1 : Int32)) C dX6_steps_15 (by decide) ?_
    refine g_isub C dX6_steps_16 ?_
    obtain ⟨r30, hX31, h⟩ := bd1_inv h
    refine g_callS C (c_X6_place l hX31) (cwSw 1 C.2.2.2.2.1 wl_1403 wl_1404 wl_121 wl_1405 rfl rfl (by decide +kernel) ⟨Nat.le_of_ble_eq_true rfl, Nat.le_of_ble_eq_true rfl⟩) rfl rfl rfl (Nat.le_of_ble_eq_true rfl) dX6_steps_17 ?_
    refine g_iconst (v := (5 : Int32)) C dX6_steps_20 (by decide) ?_
    refine g_imul C dX6_steps_21 ?_
    exact g_sub [0] rfl (hJ2 _ h)
