theorem dX5_judge_120 : decode cX5_judge 120 = .ok (.iadd, 1) := by decide +kernel
theorem dX5_judge_121 : decode cX5_judge 121 = .ok (.istore 4, 2) := by decide +kernel
theorem dX5_judge_123 : decode cX5_judge 123 = .ok (.aload_n 0, 1) := by decide +kernel
theorem dX5_judge_124 : decode cX5_judge 124 = .ok (.getfield 19, 3) := by decide +kernel
theorem dX5_judge_127 : decode cX5_judge 127 = .ok (.getfield 111, 3) := by decide +kernel
theorem dX5_judge_130 : decode cX5_judge 130 = .ok (.iload 6, 2) := by decide +kernel
theorem dX5_judge_132 : decode cX5_judge 132 = .ok (.iload 7, 2) := by decide +kernel
theorem dX5_judge_134 : decode cX5_judge 134 = .ok (.iastore, 1) := by decide +kernel
theorem dX5_judge_135 : decode cX5_judge 135 = .ok (.iinc 5 1, 3) := by decide +kernel
theorem dX5_judge_138 : decode cX5_judge 138 = .ok (.goto (-85), 3) := by decide +kernel
theorem dX5_judge_141 : decode cX5_judge 141 = .ok (.iload_n 2, 1) := by decide +kernel
theorem dX5_judge_142 : decode cX5_judge 142 = .ok (.ifCond .ne 19, 3) := by decide +kernel
theorem dX5_judge_145 : decode cX5_judge 145 = .ok (.iload 5, 2) := by decide +kernel
theorem dX5_judge_147 : decode cX5_judge 147 = .ok (.aload_n 3, 1) := by decide +kernel
theorem dX5_judge_148 : decode cX5_judge 148 = .ok (.getfield 257, 3) := by decide +kernel
theorem dX5_judge_151 : decode cX5_judge 151 = .ok (.if_icmp .ge 8, 3) := by decide +kernel
theorem dX5_judge_154 : decode cX5_judge 154 = .ok (.iload 5, 2) := by decide +kernel
theorem dX5_judge_156 : decode cX5_judge 156 = .ok (.goto 4, 3) := by decide +kernel
theorem dX5_judge_159 : decode cX5_judge 159 = .ok (.iconst (-1), 1) := by decide +kernel
theorem dX5_judge_160 : decode cX5_judge 160 = .ok (.ireturn, 1) := by decide +kernel
theorem dX5_judge_161 : decode cX5_judge 161 = .ok (.iload_n 2, 1) := by decide +kernel
theorem dX5_judge_162 : decode cX5_judge 162 = .ok (.iconst 1, 1) := by decide +kernel
theorem dX5_judge_163 : decode cX5_judge 163 = .ok (.if_icmp .ne 6, 3) := by decide +kernel
theorem dX5_judge_166 : decode cX5_judge 166 = .ok (.iload 4, 2) := by decide +kernel
theorem dX5_judge_168 : decode cX5_judge 168 = .ok (.ireturn, 1) := by decide +kernel
theorem dX5_judge_169 : decode cX5_judge 169 = .ok (.aload_n 0, 1) := by decide +kernel
theorem dX5_judge_170 : decode cX5_judge 170 = .ok (.getfield 19, 3) := by decide +kernel
theorem dX5_judge_173 : decode cX5_judge 173 = .ok (.invokevirtual 179, 3) := by decide +kernel
theorem dX5_judge_176 : decode cX5_judge 176 = .ok (.ifCond .eq 7, 3) := by decide +kernel
theorem dX5_judge_179 : decode cX5_judge 179 = .ok (.iconst 1, 1) := by decide +kernel
theorem dX5_judge_180 : decode cX5_judge 180 = .ok (.goto 4, 3) := by decide +kernel
theorem dX5_judge_183 : decode cX5_judge 183 = .ok (.iconst 0, 1) := by decide +kernel
theorem dX5_judge_184 : decode cX5_judge 184 = .ok (.ireturn, 1) := by decide +kernel
theorem dX5_canBe_0 : decode cX5_canBe 0 = .ok (.iload_n 1, 1) := by decide +kernel
theorem dX5_canBe_1 : decode cX5_canBe 1 = .ok (.bipush 10, 2) := by decide +kernel
theorem dX5_canBe_3 : decode cX5_canBe 3 = .ok (.idiv, 1) := by decide +kernel
theorem dX5_canBe_4 : decode cX5_canBe 4 = .ok (.istore_n 2, 1) := by decide +kernel
theorem dX5_canBe_5 : decode cX5_canBe 5 = .ok (.iload_n 1, 1) := by decide +kernel
theorem dX5_canBe_6 : decode cX5_canBe 6 = .ok (.bipush 10, 2) := by decide +kernel
theorem dX5_canBe_8 : decode cX5_canBe 8 = .ok (.irem, 1) := by decide +kernel
theorem dX5_canBe_9 : decode cX5_canBe 9 = .ok (.istore_n 3, 1) := by decide +kernel
theorem dX5_canBe_10 : decode cX5_canBe 10 = .ok (.iload_n 1, 1) := by decide +kernel
theorem dX5_canBe_11 : decode cX5_canBe 11 = .ok (.ifCond .lt 41, 3) := by decide +kernel
theorem dX5_canBe_14 : decode cX5_canBe 14 = .ok (.aload_n 0, 1) := by decide +kernel
theorem dX5_canBe_15 : decode cX5_canBe 15 = .ok (.getfield 19, 3) := by decide +kernel
theorem dX5_canBe_18 : decode cX5_canBe 18 = .ok (.iload_n 2, 1) := by decide +kernel
theorem dX5_canBe_19 : decode cX5_canBe 19 = .ok (.invokevirtual 134, 3) := by decide +kernel
theorem dX5_canBe_22 : decode cX5_canBe 22 = .ok (.ifCond .eq 30, 3) := by decide +kernel
theorem dX5_canBe_25 : decode cX5_canBe 25 = .ok (.aload_n 0, 1) := by decide +kernel
theorem dX5_canBe_26 : decode cX5_canBe 26 = .ok (.getfield 19, 3) := by decide +kernel
theorem dX5_canBe_29 : decode cX5_canBe 29 = .ok (.iload_n 3, 1) := by decide +kernel
theorem dX5_canBe_30 : decode cX5_canBe 30 = .ok (.invokevirtual 95, 3) := by decide +kernel
theorem dX5_canBe_33 : decode cX5_canBe 33 = .ok (.ifCond .eq 19, 3) := by decide +kernel
theorem dX5_canBe_36 : decode cX5_canBe 36 = .ok (.aload_n 0, 1) := by decide +kernel
theorem dX5_canBe_37 : decode cX5_canBe 37 = .ok (.getfield 19, 3) := by decide +kernel
theorem dX5_canBe_40 : decode cX5_canBe 40 = .ok (.iload_n 2, 1) := by decide +kernel
theorem dX5_canBe_41 : decode cX5_canBe 41 = .ok (.iload_n 3, 1) := by decide +kernel
theorem dX5_canBe_42 : decode cX5_canBe 42 = .ok (.invokevirtual 114, 3) := by decide +kernel
theorem dX5_canBe_45 : decode cX5_canBe 45 = .ok (.ifCond .ne 7, 3) := by decide +kernel
theorem dX5_canBe_48 : decode cX5_canBe 48 = .ok (.iconst 1, 1) := by decide +kernel
theorem dX5_canBe_49 : decode cX5_canBe 49 = .ok (.goto 4, 3) := by decide +kernel
theorem dX5_canBe_52 : decode cX5_canBe 52 = .ok (.iconst 0, 1) := by decide +kernel
theorem dX5_canBe_53 : decode cX5_canBe 53 = .ok (.ireturn, 1) := by decide +kernel
theorem dX5_ways_0 : decode cX5_ways 0 = .ok (.iload_n 1, 1) := by decide +kernel
theorem dX5_ways_1 : decode cX5_ways 1 = .ok (.iconst 4, 1) := by decide +kernel
theorem dX5_ways_2 : decode cX5_ways 2 = .ok (.invokestatic 81, 3) := by decide +kernel
theorem dX5_ways_5 : decode cX5_ways 5 = .ok (.ifCond .eq 12, 3) := by decide +kernel
theorem dX5_ways_8 : decode cX5_ways 8 = .ok (.iload_n 2, 1) := by decide +kernel
theorem dX5_ways_9 : decode cX5_ways 9 = .ok (.bipush 9, 2) := by decide +kernel
theorem dX5_ways_11 : decode cX5_ways 11 = .ok (.invokestatic 81, 3) := by decide +kernel
theorem dX5_ways_14 : decode cX5_ways 14 = .ok (.ifCond .ne 7, 3) := by decide +kernel
theorem dX5_ways_17 : decode cX5_ways 17 = .ok (.ldc2_w 264, 3) := by decide +kernel
theorem dX5_ways_20 : decode cX5_ways 20 = .ok (.lreturn, 1) := by decide +kernel
theorem dX5_ways_21 : decode cX5_ways 21 = .ok (.aload_n 0, 1) := by decide +kernel
theorem dX5_ways_22 : decode cX5_ways 22 = .ok (.getfield 44, 3) := by decide +kernel
theorem dX5_ways_25 : decode cX5_ways 25 = .ok (.iload_n 1, 1) := by decide +kernel
theorem dX5_ways_26 : decode cX5_ways 26 = .ok (.aaload, 1) := by decide +kernel
theorem dX5_ways_27 : decode cX5_ways 27 = .ok (.astore_n 3, 1) := by decide +kernel
theorem dX5_ways_28 : decode cX5_ways 28 = .ok (.aload_n 3, 1) := by decide +kernel
theorem dX5_ways_29 : decode cX5_ways 29 = .ok (.invokevirtual 254, 3) := by decide +kernel
theorem dX5_ways_32 : decode cX5_ways 32 = .ok (.ifCond .ne 17, 3) := by decide +kernel
theorem dX5_ways_35 : decode cX5_ways 35 = .ok (.aload_n 3, 1) := by decide +kernel
theorem dX5_ways_36 : decode cX5_ways 36 = .ok (.getfield 257, 3) := by decide +kernel
theorem dX5_ways_39 : decode cX5_ways 39 = .ok (.aload_n 0, 1) := by decide +kernel
theorem dX5_ways_40 : decode cX5_ways 40 = .ok (.getfield 10, 3) := by decide +kernel
theorem dX5_ways_43 : decode cX5_ways 43 = .ok (.getfield 99, 3) := by decide +kernel
theorem dX5_ways_46 : decode cX5_ways 46 = .ok (.if_icmp .eq 7, 3) := by decide +kernel
theorem dX5_ways_49 : decode cX5_ways 49 = .ok (.ldc2_w 264, 3) := by decide +kernel
theorem dX5_ways_52 : decode cX5_ways 52 = .ok (.lreturn, 1) := by decide +kernel
theorem dX5_ways_53 : decode cX5_ways 53 = .ok (.aload_n 0, 1) := by decide +kernel
theorem dX5_ways_54 : decode cX5_ways 54 = .ok (.iconst (-1), 1) := by decide +kernel
theorem dX5_ways_55 : decode cX5_ways 55 = .ok (.iconst (-1), 1) := by decide +kernel
theorem dX5_ways_56 : decode cX5_ways 56 = .ok (.invokevirtual 219, 3) := by decide +kernel
theorem dX5_ways_59 : decode cX5_ways 59 = .ok (.aload_n 0, 1) := by decide +kernel
theorem dX5_ways_60 : decode cX5_ways 60 = .ok (.getfield 25, 3) := by decide +kernel
theorem dX5_ways_63 : decode cX5_ways 63 = .ok (.aload_n 0, 1) := by decide +kernel
theorem dX5_ways_64 : decode cX5_ways 64 = .ok (.getfield 25, 3) := by decide +kernel
theorem dX5_ways_67 : decode cX5_ways 67 = .ok (.aload_n 3, 1) := by decide +kernel
theorem dX5_ways_68 : decode cX5_ways 68 = .ok (.getfield 258, 3) := by decide +kernel
theorem dX5_ways_71 : decode cX5_ways 71 = .ok (.invokevirtual 266, 3) := by decide +kernel
theorem dX5_ways_74 : decode cX5_ways 74 = .ok (.iload_n 2, 1) := by decide +kernel
theorem dX5_ways_75 : decode cX5_ways 75 = .ok (.invokevirtual 270, 3) := by decide +kernel
theorem dX5_ways_78 : decode cX5_ways 78 = .ok (.lreturn, 1) := by decide +kernel
theorem dX5_soonest_0 : decode cX5_soonest 0 = .ok (.iload_n 1, 1) := by decide +kernel
theorem dX5_soonest_1 : decode cX5_soonest 1 = .ok (.iconst 4, 1) := by decide +kernel
theorem dX5_soonest_2 : decode cX5_soonest 2 = .ok (.invokestatic 81, 3) := by decide +kernel
theorem dX5_soonest_5 : decode cX5_soonest 5 = .ok (.ifCond .ne 6, 3) := by decide +kernel
theorem dX5_soonest_8 : decode cX5_soonest 8 = .ok (.bipush (-2), 2) := by decide +kernel
theorem dX5_soonest_10 : decode cX5_soonest 10 = .ok (.ireturn, 1) := by decide +kernel
theorem dX5_soonest_11 : decode cX5_soonest 11 = .ok (.aload_n 0, 1) := by decide +kernel
theorem dX5_soonest_12 : decode cX5_soonest 12 = .ok (.getfield 44, 3) := by decide +kernel
theorem dX5_soonest_15 : decode cX5_soonest 15 = .ok (.iload_n 1, 1) := by decide +kernel
theorem dX5_soonest_16 : decode cX5_soonest 16 = .ok (.aaload, 1) := by decide +kernel
theorem dX5_soonest_17 : decode cX5_soonest 17 = .ok (.astore_n 2, 1) := by decide +kernel
theorem dX5_soonest_18 : decode cX5_soonest 18 = .ok (.aload_n 2, 1) := by decide +kernel
theorem dX5_soonest_19 : decode cX5_soonest 19 = .ok (.invokevirtual 254, 3) := by decide +kernel
theorem dX5_soonest_22 : decode cX5_soonest 22 = .ok (.ifCond .eq 6, 3) := by decide +kernel
theorem dX5_soonest_25 : decode cX5_soonest 25 = .ok (.bipush (-11), 2) := by decide +kernel
theorem dX5_soonest_27 : decode cX5_soonest 27 = .ok (.ireturn, 1) := by decide +kernel
theorem dX5_soonest_28 : decode cX5_soonest 28 = .ok (.aload_n 2, 1) := by decide +kernel
theorem dX5_soonest_29 : decode cX5_soonest 29 = .ok (.getfield 257, 3) := by decide +kernel
theorem dX5_soonest_32 : decode cX5_soonest 32 = .ok (.aload_n 0, 1) := by decide +kernel
theorem dX5_soonest_33 : decode cX5_soonest 33 = .ok (.getfield 10, 3) := by decide +kernel
theorem dX5_soonest_36 : decode cX5_soonest 36 = .ok (.getfield 99, 3) := by decide +kernel
theorem dX5_soonest_39 : decode cX5_soonest 39 = .ok (.if_icmp .eq 6, 3) := by decide +kernel
theorem dX5_soonest_42 : decode cX5_soonest 42 = .ok (.bipush (-2), 2) := by decide +kernel
theorem dX5_soonest_44 : decode cX5_soonest 44 = .ok (.ireturn, 1) := by decide +kernel
theorem dX5_soonest_45 : decode cX5_soonest 45 = .ok (.aload_n 0, 1) := by decide +kernel
theorem dX5_soonest_46 : decode cX5_soonest 46 = .ok (.iconst (-1), 1) := by decide +kernel
theorem dX5_soonest_47 : decode cX5_soonest 47 = .ok (.iconst (-1), 1) := by decide +kernel
theorem dX5_soonest_48 : decode cX5_soonest 48 = .ok (.invokevirtual 219, 3) := by decide +kernel
theorem dX5_soonest_51 : decode cX5_soonest 51 = .ok (.aload_n 0, 1) := by decide +kernel
theorem dX5_soonest_52 : decode cX5_soonest 52 = .ok (.getfield 25, 3) := by decide +kernel
theorem dX5_soonest_55 : decode cX5_soonest 55 = .ok (.invokevirtual 234, 3) := by decide +kernel
theorem dX5_soonest_58 : decode cX5_soonest 58 = .ok (.aload_n 0, 1) := by decide +kernel
theorem dX5_soonest_59 : decode cX5_soonest 59 = .ok (.getfield 25, 3) := by decide +kernel
theorem dX5_soonest_62 : decode cX5_soonest 62 = .ok (.aload_n 0, 1) := by decide +kernel
theorem dX5_soonest_63 : decode cX5_soonest 63 = .ok (.getfield 25, 3) := by decide +kernel
theorem dX5_soonest_66 : decode cX5_soonest 66 = .ok (.aload_n 2, 1) := by decide +kernel
theorem dX5_soonest_67 : decode cX5_soonest 67 = .ok (.getfield 258, 3) := by decide +kernel
theorem dX5_soonest_70 : decode cX5_soonest 70 = .ok (.invokevirtual 266, 3) := by decide +kernel
theorem dX5_soonest_73 : decode cX5_soonest 73 = .ok (.invokevirtual 274, 3) := by decide +kernel
theorem dX5_soonest_76 : decode cX5_soonest 76 = .ok (.istore_n 3, 1) := by decide +kernel
theorem dX5_soonest_77 : decode cX5_soonest 77 = .ok (.iload_n 3, 1) := by decide +kernel
theorem dX5_soonest_78 : decode cX5_soonest 78 = .ok (.bipush 8, 2) := by decide +kernel
theorem dX5_soonest_80 : decode cX5_soonest 80 = .ok (.if_icmp .gt 7, 3) := by decide +kernel
theorem dX5_soonest_83 : decode cX5_soonest 83 = .ok (.iload_n 3, 1) := by decide +kernel
theorem dX5_soonest_84 : decode cX5_soonest 84 = .ok (.goto 4, 3) := by decide +kernel
theorem dX5_soonest_87 : decode cX5_soonest 87 = .ok (.iconst (-1), 1) := by decide +kernel
theorem dX5_soonest_88 : decode cX5_soonest 88 = .ok (.ireturn, 1) := by decide +kernel
theorem dX5_drawn_0 : decode cX5_drawn 0 = .ok (.iload_n 2, 1) := by decide +kernel
theorem dX5_drawn_1 : decode cX5_drawn 1 = .ok (.iconst 1, 1) := by decide +kernel
theorem dX5_drawn_2 : decode cX5_drawn 2 = .ok (.if_icmp .lt 9, 3) := by decide +kernel
theorem dX5_drawn_5 : decode cX5_drawn 5 = .ok (.iload_n 2, 1) := by decide +kernel
theorem dX5_drawn_6 : decode cX5_drawn 6 = .ok (.bipush 40, 2) := by decide +kernel
theorem dX5_drawn_8 : decode cX5_drawn 8 = .ok (.if_icmp .le 6, 3) := by decide +kernel
theorem dX5_drawn_11 : decode cX5_drawn 11 = .ok (.bipush (-2), 2) := by decide +kernel
theorem dX5_drawn_13 : decode cX5_drawn 13 = .ok (.ireturn, 1) := by decide +kernel
theorem dX5_drawn_14 : decode cX5_drawn 14 = .ok (.aload_n 0, 1) := by decide +kernel
theorem dX5_drawn_15 : decode cX5_drawn 15 = .ok (.iload_n 1, 1) := by decide +kernel
theorem dX5_drawn_16 : decode cX5_drawn 16 = .ok (.iload_n 2, 1) := by decide +kernel
theorem dX5_drawn_17 : decode cX5_drawn 17 = .ok (.invokevirtual 277, 3) := by decide +kernel
theorem dX5_drawn_20 : decode cX5_drawn 20 = .ok (.ireturn, 1) := by decide +kernel
theorem dX5_chance_0 : decode cX5_chance 0 = .ok (.iload_n 2, 1) := by decide +kernel
theorem dX5_chance_1 : decode cX5_chance 1 = .ok (.iconst 1, 1) := by decide +kernel
theorem dX5_chance_2 : decode cX5_chance 2 = .ok (.if_icmp .lt 17, 3) := by decide +kernel
theorem dX5_chance_5 : decode cX5_chance 5 = .ok (.iload_n 2, 1) := by decide +kernel
theorem dX5_chance_6 : decode cX5_chance 6 = .ok (.bipush 20, 2) := by decide +kernel
theorem dX5_chance_8 : decode cX5_chance 8 = .ok (.if_icmp .gt 11, 3) := by decide +kernel
theorem dX5_chance_11 : decode cX5_chance 11 = .ok (.iload_n 3, 1) := by decide +kernel
theorem dX5_chance_12 : decode cX5_chance 12 = .ok (.iconst 2, 1) := by decide +kernel
theorem dX5_chance_13 : decode cX5_chance 13 = .ok (.invokestatic 81, 3) := by decide +kernel
theorem dX5_chance_16 : decode cX5_chance 16 = .ok (.ifCond .ne 7, 3) := by decide +kernel
theorem dX5_chance_19 : decode cX5_chance 19 = .ok (.ldc2_w 264, 3) := by decide +kernel
theorem dX5_chance_22 : decode cX5_chance 22 = .ok (.lreturn, 1) := by decide +kernel
theorem dX5_chance_23 : decode cX5_chance 23 = .ok (.iconst 0, 1) := by decide +kernel
theorem dX5_chance_24 : decode cX5_chance 24 = .ok (.istore 4, 2) := by decide +kernel
theorem dX5_chance_26 : decode cX5_chance 26 = .ok (.iconst 0, 1) := by decide +kernel
theorem dX5_chance_27 : decode cX5_chance 27 = .ok (.istore 5, 2) := by decide +kernel
theorem dX5_chance_29 : decode cX5_chance 29 = .ok (.iload 5, 2) := by decide +kernel
theorem dX5_chance_31 : decode cX5_chance 31 = .ok (.iload_n 2, 1) := by decide +kernel
theorem dX5_chance_32 : decode cX5_chance 32 = .ok (.if_icmp .ge 26, 3) := by decide +kernel
theorem dX5_chance_35 : decode cX5_chance 35 = .ok (.aload_n 0, 1) := by decide +kernel
theorem dX5_chance_36 : decode cX5_chance 36 = .ok (.iload_n 1, 1) := by decide +kernel
theorem dX5_chance_37 : decode cX5_chance 37 = .ok (.iload 5, 2) := by decide +kernel
theorem dX5_chance_39 : decode cX5_chance 39 = .ok (.iadd, 1) := by decide +kernel
theorem dX5_chance_40 : decode cX5_chance 40 = .ok (.bipush 40, 2) := by decide +kernel
theorem dX5_chance_42 : decode cX5_chance 42 = .ok (.invokevirtual 277, 3) := by decide +kernel
theorem dX5_chance_45 : decode cX5_chance 45 = .ok (.iconst (-1), 1) := by decide +kernel
theorem dX5_chance_46 : decode cX5_chance 46 = .ok (.if_icmp .eq 6, 3) := by decide +kernel
theorem dX5_chance_49 : decode cX5_chance 49 = .ok (.iinc 4 1, 3) := by decide +kernel
theorem dX5_chance_52 : decode cX5_chance 52 = .ok (.iinc 5 1, 3) := by decide +kernel
theorem dX5_chance_55 : decode cX5_chance 55 = .ok (.goto (-26), 3) := by decide +kernel
theorem dX5_chance_58 : decode cX5_chance 58 = .ok (.iload 4, 2) := by decide +kernel
theorem dX5_chance_60 : decode cX5_chance 60 = .ok (.iload_n 2, 1) := by decide +kernel
theorem dX5_chance_61 : decode cX5_chance 61 = .ok (.invokestatic 280, 3) := by decide +kernel
theorem dX5_chance_64 : decode cX5_chance 64 = .ok (.istore 5, 2) := by decide +kernel
theorem dX5_chance_66 : decode cX5_chance 66 = .ok (.iload_n 3, 1) := by decide +kernel
theorem dX5_chance_67 : decode cX5_chance 67 = .ok (.ifCond .ne 8, 3) := by decide +kernel
theorem dX5_chance_70 : decode cX5_chance 70 = .ok (.iload 4, 2) := by decide +kernel
theorem dX5_chance_72 : decode cX5_chance 72 = .ok (.goto 4, 3) := by decide +kernel
theorem dX5_chance_75 : decode cX5_chance 75 = .ok (.iload_n 2, 1) := by decide +kernel
theorem dX5_chance_76 : decode cX5_chance 76 = .ok (.iload 5, 2) := by decide +kernel
theorem dX5_chance_78 : decode cX5_chance 78 = .ok (.idiv, 1) := by decide +kernel
theorem dX5_chance_79 : decode cX5_chance 79 = .ok (.i2l, 1) := by decide +kernel
theorem dX5_chance_80 : decode cX5_chance 80 = .ok (.lreturn, 1) := by decide +kernel
theorem dX5_openBehind_0 : decode cX5_openBehind 0 = .ok (.aload_n 0, 1) := by decide +kernel
theorem dX5_openBehind_1 : decode cX5_openBehind 1 = .ok (.getfield 19, 3) := by decide +kernel
theorem dX5_openBehind_4 : decode cX5_openBehind 4 = .ok (.aload_n 0, 1) := by decide +kernel
theorem dX5_openBehind_5 : decode cX5_openBehind 5 = .ok (.getfield 10, 3) := by decide +kernel
theorem dX5_openBehind_8 : decode cX5_openBehind 8 = .ok (.invokevirtual 244, 3) := by decide +kernel
theorem dX5_openBehind_11 : decode cX5_openBehind 11 = .ok (.iload_n 1, 1) := by decide +kernel
theorem dX5_openBehind_12 : decode cX5_openBehind 12 = .ok (.istore_n 3, 1) := by decide +kernel
theorem dX5_openBehind_13 : decode cX5_openBehind 13 = .ok (.iconst 0, 1) := by decide +kernel
theorem dX5_openBehind_14 : decode cX5_openBehind 14 = .ok (.istore 4, 2) := by decide +kernel
theorem dX5_openBehind_16 : decode cX5_openBehind 16 = .ok (.iload 4, 2) := by decide +kernel
theorem dX5_openBehind_18 : decode cX5_openBehind 18 = .ok (.iload_n 2, 1) := by decide +kernel
theorem dX5_openBehind_19 : decode cX5_openBehind 19 = .ok (.if_icmp .gt 37, 3) := by decide +kernel
theorem dX5_openBehind_22 : decode cX5_openBehind 22 = .ok (.aload_n 0, 1) := by decide +kernel
theorem dX5_openBehind_23 : decode cX5_openBehind 23 = .ok (.getfield 19, 3) := by decide +kernel
theorem dX5_openBehind_26 : decode cX5_openBehind 26 = .ok (.invokevirtual 179, 3) := by decide +kernel
theorem dX5_openBehind_29 : decode cX5_openBehind 29 = .ok (.ifCond .eq 6, 3) := by decide +kernel
theorem dX5_openBehind_32 : decode cX5_openBehind 32 = .ok (.iload 4, 2) := by decide +kernel
theorem dX5_openBehind_34 : decode cX5_openBehind 34 = .ok (.ireturn, 1) := by decide +kernel
theorem dX5_openBehind_35 : decode cX5_openBehind 35 = .ok (.iload_n 3, 1) := by decide +kernel
theorem dX5_openBehind_36 : decode cX5_openBehind 36 = .ok (.ldc_w 283, 3) := by decide +kernel
theorem dX5_openBehind_39 : decode cX5_openBehind 39 = .ok (.imul, 1) := by decide +kernel
theorem dX5_openBehind_40 : decode cX5_openBehind 40 = .ok (.sipush 12345, 3) := by decide +kernel
theorem dX5_openBehind_43 : decode cX5_openBehind 43 = .ok (.iadd, 1) := by decide +kernel
theorem dX5_openBehind_44 : decode cX5_openBehind 44 = .ok (.istore_n 3, 1) := by decide +kernel
theorem dX5_openBehind_45 : decode cX5_openBehind 45 = .ok (.aload_n 0, 1) := by decide +kernel
theorem dX5_openBehind_46 : decode cX5_openBehind 46 = .ok (.iload_n 3, 1) := by decide +kernel
theorem dX5_openBehind_47 : decode cX5_openBehind 47 = .ok (.invokevirtual 284, 3) := by decide +kernel
theorem dX5_openBehind_50 : decode cX5_openBehind 50 = .ok (.iinc 4 1, 3) := by decide +kernel
theorem dX5_openBehind_53 : decode cX5_openBehind 53 = .ok (.goto (-37), 3) := by decide +kernel
theorem dX5_openBehind_56 : decode cX5_openBehind 56 = .ok (.iconst (-1), 1) := by decide +kernel
theorem dX5_openBehind_57 : decode cX5_openBehind 57 = .ok (.ireturn, 1) := by decide +kernel
theorem dX5_drawOnce_0 : decode cX5_drawOnce 0 = .ok (.aload_n 0, 1) := by decide +kernel
theorem dX5_drawOnce_1 : decode cX5_drawOnce 1 = .ok (.getfield 19, 3) := by decide +kernel
theorem dX5_drawOnce_4 : decode cX5_drawOnce 4 = .ok (.getfield 99, 3) := by decide +kernel
theorem dX5_drawOnce_7 : decode cX5_drawOnce 7 = .ok (.iconst 1, 1) := by decide +kernel
theorem dX5_drawOnce_8 : decode cX5_drawOnce 8 = .ok (.if_icmp .lt 14, 3) := by decide +kernel
theorem dX5_drawOnce_11 : decode cX5_drawOnce 11 = .ok (.aload_n 0, 1) := by decide +kernel
theorem dX5_drawOnce_12 : decode cX5_drawOnce 12 = .ok (.getfield 19, 3) := by decide +kernel
theorem dX5_drawOnce_15 : decode cX5_drawOnce 15 = .ok (.getfield 85, 3) := by decide +kernel
theorem dX5_drawOnce_18 : decode cX5_drawOnce 18 = .ok (.iconst 1, 1) := by decide +kernel
theorem dX5_drawOnce_19 : decode cX5_drawOnce 19 = .ok (.if_icmp .ge 4, 3) := by decide +kernel
theorem dX5_drawOnce_22 : decode cX5_drawOnce 22 = .ok (.return_, 1) := by decide +kernel
theorem dX5_drawOnce_23 : decode cX5_drawOnce 23 = .ok (.iload_n 1, 1) := by decide +kernel
theorem dX5_drawOnce_24 : decode cX5_drawOnce 24 = .ok (.bipush 9, 2) := by decide +kernel
theorem dX5_drawOnce_26 : decode cX5_drawOnce 26 = .ok (.iushr, 1) := by decide +kernel
theorem dX5_drawOnce_27 : decode cX5_drawOnce 27 = .ok (.aload_n 0, 1) := by decide +kernel
theorem dX5_drawOnce_28 : decode cX5_drawOnce 28 = .ok (.getfield 19, 3) := by decide +kernel
theorem dX5_drawOnce_31 : decode cX5_drawOnce 31 = .ok (.getfield 99, 3) := by decide +kernel
theorem dX5_drawOnce_34 : decode cX5_drawOnce 34 = .ok (.irem, 1) := by decide +kernel
theorem dX5_drawOnce_35 : decode cX5_drawOnce 35 = .ok (.istore_n 2, 1) := by decide +kernel
theorem dX5_drawOnce_36 : decode cX5_drawOnce 36 = .ok (.iload_n 1, 1) := by decide +kernel
theorem dX5_drawOnce_37 : decode cX5_drawOnce 37 = .ok (.bipush 17, 2) := by decide +kernel
theorem dX5_drawOnce_39 : decode cX5_drawOnce 39 = .ok (.iushr, 1) := by decide +kernel
theorem dX5_drawOnce_40 : decode cX5_drawOnce 40 = .ok (.aload_n 0, 1) := by decide +kernel
theorem dX5_drawOnce_41 : decode cX5_drawOnce 41 = .ok (.getfield 19, 3) := by decide +kernel
theorem dX5_drawOnce_44 : decode cX5_drawOnce 44 = .ok (.getfield 85, 3) := by decide +kernel
theorem dX5_drawOnce_47 : decode cX5_drawOnce 47 = .ok (.irem, 1) := by decide +kernel
theorem dX5_drawOnce_48 : decode cX5_drawOnce 48 = .ok (.istore_n 3, 1) := by decide +kernel
theorem dX5_drawOnce_49 : decode cX5_drawOnce 49 = .ok (.aload_n 0, 1) := by decide +kernel
theorem dX5_drawOnce_50 : decode cX5_drawOnce 50 = .ok (.getfield 19, 3) := by decide +kernel
theorem dX5_drawOnce_53 : decode cX5_drawOnce 53 = .ok (.iload_n 2, 1) := by decide +kernel
theorem dX5_drawOnce_54 : decode cX5_drawOnce 54 = .ok (.iload_n 3, 1) := by decide +kernel
theorem dX5_drawOnce_55 : decode cX5_drawOnce 55 = .ok (.invokevirtual 114, 3) := by decide +kernel
theorem dX5_drawOnce_58 : decode cX5_drawOnce 58 = .ok (.ifCond .ne 13, 3) := by decide +kernel
theorem dX5_drawOnce_61 : decode cX5_drawOnce 61 = .ok (.aload_n 0, 1) := by decide +kernel
theorem dX5_drawOnce_62 : decode cX5_drawOnce 62 = .ok (.getfield 19, 3) := by decide +kernel
theorem dX5_drawOnce_65 : decode cX5_drawOnce 65 = .ok (.getfield 111, 3) := by decide +kernel
theorem dX5_drawOnce_68 : decode cX5_drawOnce 68 = .ok (.iload_n 2, 1) := by decide +kernel
theorem dX5_drawOnce_69 : decode cX5_drawOnce 69 = .ok (.iload_n 3, 1) := by decide +kernel
theorem dX5_drawOnce_70 : decode cX5_drawOnce 70 = .ok (.iastore, 1) := by decide +kernel
theorem dX5_drawOnce_71 : decode cX5_drawOnce 71 = .ok (.return_, 1) := by decide +kernel
theorem dX5_commonPart_0 : decode cX5_commonPart 0 = .ok (.iload_n 1, 1) := by decide +kernel
theorem dX5_commonPart_1 : decode cX5_commonPart 1 = .ok (.istore_n 2, 1) := by decide +kernel
theorem dX5_commonPart_2 : decode cX5_commonPart 2 = .ok (.iload_n 2, 1) := by decide +kernel
theorem dX5_commonPart_3 : decode cX5_commonPart 3 = .ok (.iconst 1, 1) := by decide +kernel
theorem dX5_commonPart_4 : decode cX5_commonPart 4 = .ok (.if_icmp .le 23, 3) := by decide +kernel
theorem dX5_commonPart_7 : decode cX5_commonPart 7 = .ok (.iload_n 0, 1) := by decide +kernel
theorem dX5_commonPart_8 : decode cX5_commonPart 8 = .ok (.iload_n 2, 1) := by decide +kernel
theorem dX5_commonPart_9 : decode cX5_commonPart 9 = .ok (.irem, 1) := by decide +kernel
theorem dX5_commonPart_10 : decode cX5_commonPart 10 = .ok (.ifCond .ne 11, 3) := by decide +kernel
theorem dX5_commonPart_13 : decode cX5_commonPart 13 = .ok (.iload_n 1, 1) := by decide +kernel
theorem dX5_commonPart_14 : decode cX5_commonPart 14 = .ok (.iload_n 2, 1) := by decide +kernel
theorem dX5_commonPart_15 : decode cX5_commonPart 15 = .ok (.irem, 1) := by decide +kernel
theorem dX5_commonPart_16 : decode cX5_commonPart 16 = .ok (.ifCond .ne 5, 3) := by decide +kernel
theorem dX5_commonPart_19 : decode cX5_commonPart 19 = .ok (.iload_n 2, 1) := by decide +kernel
theorem dX5_commonPart_20 : decode cX5_commonPart 20 = .ok (.ireturn, 1) := by decide +kernel
theorem dX5_commonPart_21 : decode cX5_commonPart 21 = .ok (.iinc 2 (-1), 3) := by decide +kernel
theorem dX5_commonPart_24 : decode cX5_commonPart 24 = .ok (.goto (-22), 3) := by decide +kernel
theorem dX5_commonPart_27 : decode cX5_commonPart 27 = .ok (.iconst 1, 1) := by decide +kernel
theorem dX5_commonPart_28 : decode cX5_commonPart 28 = .ok (.ireturn, 1) := by decide +kernel
theorem dX5_image_0 : decode cX5_image 0 = .ok (.aload_n 0, 1) := by decide +kernel
theorem dX5_image_1 : decode cX5_image 1 = .ok (.getfield 16, 3) := by decide +kernel
theorem dX5_image_4 : decode cX5_image 4 = .ok (.aload_n 0, 1) := by decide +kernel
theorem dX5_image_5 : decode cX5_image 5 = .ok (.getfield 10, 3) := by decide +kernel
theorem dX5_image_8 : decode cX5_image 8 = .ok (.invokevirtual 244, 3) := by decide +kernel
theorem dX5_image_11 : decode cX5_image 11 = .ok (.aload_n 0, 1) := by decide +kernel
theorem dX5_image_12 : decode cX5_image 12 = .ok (.iconst 1, 1) := by decide +kernel
theorem dX5_image_13 : decode cX5_image 13 = .ok (.putfield 287, 3) := by decide +kernel
theorem dX5_image_16 : decode cX5_image 16 = .ok (.aload_n 0, 1) := by decide +kernel
theorem dX5_image_17 : decode cX5_image 17 = .ok (.getfield 16, 3) := by decide +kernel
theorem dX5_image_20 : decode cX5_image 20 = .ok (.getfield 99, 3) := by decide +kernel
theorem dX5_image_23 : decode cX5_image 23 = .ok (.ireturn, 1) := by decide +kernel
theorem dX5_back_0 : decode cX5_back 0 = .ok (.aload_n 0, 1) := by decide +kernel
theorem dX5_back_1 : decode cX5_back 1 = .ok (.getfield 287, 3) := by decide +kernel
theorem dX5_back_4 : decode cX5_back 4 = .ok (.ifCond .ne 6, 3) := by decide +kernel
theorem dX5_back_7 : decode cX5_back 7 = .ok (.bipush (-3), 2) := by decide +kernel
theorem dX5_back_9 : decode cX5_back 9 = .ok (.ireturn, 1) := by decide +kernel
theorem dX5_back_10 : decode cX5_back 10 = .ok (.aload_n 0, 1) := by decide +kernel
theorem dX5_back_11 : decode cX5_back 11 = .ok (.getfield 10, 3) := by decide +kernel
theorem dX5_back_14 : decode cX5_back 14 = .ok (.aload_n 0, 1) := by decide +kernel
theorem dX5_back_15 : decode cX5_back 15 = .ok (.getfield 16, 3) := by decide +kernel
theorem dX5_back_18 : decode cX5_back 18 = .ok (.invokevirtual 244, 3) := by decide +kernel
theorem dX5_back_21 : decode cX5_back 21 = .ok (.aload_n 0, 1) := by decide +kernel
theorem dX5_back_22 : decode cX5_back 22 = .ok (.getfield 10, 3) := by decide +kernel
theorem dX5_back_25 : decode cX5_back 25 = .ok (.getfield 99, 3) := by decide +kernel
theorem dX5_back_28 : decode cX5_back 28 = .ok (.ireturn, 1) := by decide +kernel
theorem dX5_count_0 : decode cX5_count 0 = .ok (.iload_n 1, 1) := by decide +kernel
theorem dX5_count_1 : decode cX5_count 1 = .ok (.tableswitch 96 0 6 #[43, 51, 59, 67, 75, 80, 88], 43) := by decide +kernel
theorem dX5_count_44 : decode cX5_count 44 = .ok (.aload_n 0, 1) := by decide +kernel
theorem dX5_count_45 : decode cX5_count 45 = .ok (.getfield 10, 3) := by decide +kernel
theorem dX5_count_48 : decode cX5_count 48 = .ok (.getfield 85, 3) := by decide +kernel
theorem dX5_count_51 : decode cX5_count 51 = .ok (.ireturn, 1) := by decide +kernel
theorem dX5_count_52 : decode cX5_count 52 = .ok (.aload_n 0, 1) := by decide +kernel
theorem dX5_count_53 : decode cX5_count 53 = .ok (.getfield 10, 3) := by decide +kernel
theorem dX5_count_56 : decode cX5_count 56 = .ok (.getfield 99, 3) := by decide +kernel
theorem dX5_count_59 : decode cX5_count 59 = .ok (.ireturn, 1) := by decide +kernel
theorem dX5_count_60 : decode cX5_count 60 = .ok (.aload_n 0, 1) := by decide +kernel
theorem dX5_count_61 : decode cX5_count 61 = .ok (.getfield 10, 3) := by decide +kernel
theorem dX5_count_64 : decode cX5_count 64 = .ok (.getfield 131, 3) := by decide +kernel
theorem dX5_count_67 : decode cX5_count 67 = .ok (.ireturn, 1) := by decide +kernel
theorem dX5_count_68 : decode cX5_count 68 = .ok (.aload_n 0, 1) := by decide +kernel
theorem dX5_count_69 : decode cX5_count 69 = .ok (.getfield 10, 3) := by decide +kernel
theorem dX5_count_72 : decode cX5_count 72 = .ok (.getfield 137, 3) := by decide +kernel
theorem dX5_count_75 : decode cX5_count 75 = .ok (.ireturn, 1) := by decide +kernel
theorem dX5_count_76 : decode cX5_count 76 = .ok (.aload_n 0, 1) := by decide +kernel
theorem dX5_count_77 : decode cX5_count 77 = .ok (.getfield 77, 3) := by decide +kernel
theorem dX5_count_80 : decode cX5_count 80 = .ok (.ireturn, 1) := by decide +kernel
theorem dX5_count_81 : decode cX5_count 81 = .ok (.aload_n 0, 1) := by decide +kernel
theorem dX5_count_82 : decode cX5_count 82 = .ok (.getfield 32, 3) := by decide +kernel
theorem dX5_count_85 : decode cX5_count 85 = .ok (.getfield 171, 3) := by decide +kernel
theorem dX5_count_88 : decode cX5_count 88 = .ok (.ireturn, 1) := by decide +kernel
theorem dX5_count_89 : decode cX5_count 89 = .ok (.aload_n 0, 1) := by decide +kernel
theorem dX5_count_90 : decode cX5_count 90 = .ok (.getfield 10, 3) := by decide +kernel
theorem dX5_count_93 : decode cX5_count 93 = .ok (.getfield 173, 3) := by decide +kernel
theorem dX5_count_96 : decode cX5_count 96 = .ok (.ireturn, 1) := by decide +kernel
theorem dX5_count_97 : decode cX5_count 97 = .ok (.bipush (-2), 2) := by decide +kernel
theorem dX5_count_99 : decode cX5_count 99 = .ok (.ireturn, 1) := by decide +kernel
theorem dX5_sheet_0 : decode cX5_sheet 0 = .ok (.iload_n 1, 1) := by decide +kernel
theorem dX5_sheet_1 : decode cX5_sheet 1 = .ok (.iconst 4, 1) := by decide +kernel
theorem dX5_sheet_2 : decode cX5_sheet 2 = .ok (.invokestatic 81, 3) := by decide +kernel
theorem dX5_sheet_5 : decode cX5_sheet 5 = .ok (.ifCond .eq 13, 3) := by decide +kernel
theorem dX5_sheet_8 : decode cX5_sheet 8 = .ok (.iload_n 2, 1) := by decide +kernel
theorem dX5_sheet_9 : decode cX5_sheet 9 = .ok (.iconst (-1), 1) := by decide +kernel
theorem dX5_sheet_10 : decode cX5_sheet 10 = .ok (.if_icmp .lt 8, 3) := by decide +kernel
theorem dX5_sheet_13 : decode cX5_sheet 13 = .ok (.iload_n 2, 1) := by decide +kernel
theorem dX5_sheet_14 : decode cX5_sheet 14 = .ok (.iconst 3, 1) := by decide +kernel
theorem dX5_sheet_15 : decode cX5_sheet 15 = .ok (.if_icmp .lt 6, 3) := by decide +kernel
theorem dX5_sheet_18 : decode cX5_sheet 18 = .ok (.bipush (-2), 2) := by decide +kernel
theorem dX5_sheet_20 : decode cX5_sheet 20 = .ok (.ireturn, 1) := by decide +kernel
theorem dX5_sheet_21 : decode cX5_sheet 21 = .ok (.iload_n 2, 1) := by decide +kernel
theorem dX5_sheet_22 : decode cX5_sheet 22 = .ok (.iconst (-1), 1) := by decide +kernel
theorem dX5_sheet_23 : decode cX5_sheet 23 = .ok (.if_icmp .ne 16, 3) := by decide +kernel
theorem dX5_sheet_26 : decode cX5_sheet 26 = .ok (.aload_n 0, 1) := by decide +kernel
theorem dX5_sheet_27 : decode cX5_sheet 27 = .ok (.getfield 44, 3) := by decide +kernel
theorem dX5_sheet_30 : decode cX5_sheet 30 = .ok (.iload_n 1, 1) := by decide +kernel
theorem dX5_sheet_31 : decode cX5_sheet 31 = .ok (.aaload, 1) := by decide +kernel
theorem dX5_sheet_32 : decode cX5_sheet 32 = .ok (.iconst (-1), 1) := by decide +kernel
theorem dX5_sheet_33 : decode cX5_sheet 33 = .ok (.iconst 0, 1) := by decide +kernel
theorem dX5_sheet_34 : decode cX5_sheet 34 = .ok (.invokevirtual 291, 3) := by decide +kernel
theorem dX5_sheet_37 : decode cX5_sheet 37 = .ok (.iconst 1, 1) := by decide +kernel
theorem dX5_sheet_38 : decode cX5_sheet 38 = .ok (.ireturn, 1) := by decide +kernel
theorem dX5_sheet_39 : decode cX5_sheet 39 = .ok (.iload_n 3, 1) := by decide +kernel
theorem dX5_sheet_40 : decode cX5_sheet 40 = .ok (.bipush 40, 2) := by decide +kernel
theorem dX5_sheet_42 : decode cX5_sheet 42 = .ok (.if_icmp .le 6, 3) := by decide +kernel
theorem dX5_sheet_45 : decode cX5_sheet 45 = .ok (.bipush (-2), 2) := by decide +kernel
theorem dX5_sheet_47 : decode cX5_sheet 47 = .ok (.ireturn, 1) := by decide +kernel
theorem dX5_sheet_48 : decode cX5_sheet 48 = .ok (.iload_n 3, 1) := by decide +kernel
theorem dX5_sheet_49 : decode cX5_sheet 49 = .ok (.ifCond .ge 6, 3) := by decide +kernel
theorem dX5_sheet_52 : decode cX5_sheet 52 = .ok (.bipush (-14), 2) := by decide +kernel
theorem dX5_sheet_54 : decode cX5_sheet 54 = .ok (.ireturn, 1) := by decide +kernel
theorem dX5_sheet_55 : decode cX5_sheet 55 = .ok (.aload_n 0, 1) := by decide +kernel
theorem dX5_sheet_56 : decode cX5_sheet 56 = .ok (.getfield 44, 3) := by decide +kernel
theorem dX5_sheet_59 : decode cX5_sheet 59 = .ok (.iload_n 1, 1) := by decide +kernel
theorem dX5_sheet_60 : decode cX5_sheet 60 = .ok (.aaload, 1) := by decide +kernel
theorem dX5_sheet_61 : decode cX5_sheet 61 = .ok (.iload_n 2, 1) := by decide +kernel
theorem dX5_sheet_62 : decode cX5_sheet 62 = .ok (.iload_n 3, 1) := by decide +kernel
theorem dX5_sheet_63 : decode cX5_sheet 63 = .ok (.invokevirtual 291, 3) := by decide +kernel
theorem dX5_sheet_66 : decode cX5_sheet 66 = .ok (.iconst 1, 1) := by decide +kernel
theorem dX5_sheet_67 : decode cX5_sheet 67 = .ok (.ireturn, 1) := by decide +kernel
theorem dX5_cell_0 : decode cX5_cell 0 = .ok (.iload_n 1, 1) := by decide +kernel
theorem dX5_cell_1 : decode cX5_cell 1 = .ok (.iconst 4, 1) := by decide +kernel
theorem dX5_cell_2 : decode cX5_cell 2 = .ok (.invokestatic 81, 3) := by decide +kernel
theorem dX5_cell_5 : decode cX5_cell 5 = .ok (.ifCond .ne 6, 3) := by decide +kernel
theorem dX5_cell_8 : decode cX5_cell 8 = .ok (.bipush (-2), 2) := by decide +kernel
theorem dX5_cell_10 : decode cX5_cell 10 = .ok (.ireturn, 1) := by decide +kernel
theorem dX5_cell_11 : decode cX5_cell 11 = .ok (.aload_n 0, 1) := by decide +kernel
theorem dX5_cell_12 : decode cX5_cell 12 = .ok (.getfield 44, 3) := by decide +kernel
theorem dX5_cell_15 : decode cX5_cell 15 = .ok (.iload_n 1, 1) := by decide +kernel
theorem dX5_cell_16 : decode cX5_cell 16 = .ok (.aaload, 1) := by decide +kernel
theorem dX5_cell_17 : decode cX5_cell 17 = .ok (.astore 4, 2) := by decide +kernel
theorem dX5_cell_19 : decode cX5_cell 19 = .ok (.aload 4, 2) := by decide +kernel
theorem dX5_cell_21 : decode cX5_cell 21 = .ok (.invokevirtual 254, 3) := by decide +kernel
theorem dX5_cell_24 : decode cX5_cell 24 = .ok (.ifCond .eq 6, 3) := by decide +kernel
theorem dX5_cell_27 : decode cX5_cell 27 = .ok (.bipush (-11), 2) := by decide +kernel
theorem dX5_cell_29 : decode cX5_cell 29 = .ok (.ireturn, 1) := by decide +kernel
theorem dX5_cell_30 : decode cX5_cell 30 = .ok (.iload_n 2, 1) := by decide +kernel
theorem dX5_cell_31 : decode cX5_cell 31 = .ok (.aload 4, 2) := by decide +kernel
theorem dX5_cell_33 : decode cX5_cell 33 = .ok (.getfield 257, 3) := by decide +kernel
theorem dX5_cell_36 : decode cX5_cell 36 = .ok (.invokestatic 81, 3) := by decide +kernel
theorem dX5_cell_39 : decode cX5_cell 39 = .ok (.ifCond .ne 6, 3) := by decide +kernel
theorem dX5_cell_42 : decode cX5_cell 42 = .ok (.bipush (-12), 2) := by decide +kernel
theorem dX5_cell_44 : decode cX5_cell 44 = .ok (.ireturn, 1) := by decide +kernel
theorem dX5_cell_45 : decode cX5_cell 45 = .ok (.aload 4, 2) := by decide +kernel
theorem dX5_cell_47 : decode cX5_cell 47 = .ok (.iload_n 2, 1) := by decide +kernel
theorem dX5_cell_48 : decode cX5_cell 48 = .ok (.iload_n 3, 1) := by decide +kernel
theorem dX5_cell_49 : decode cX5_cell 49 = .ok (.invokevirtual 293, 3) := by decide +kernel
theorem dX5_cell_52 : decode cX5_cell 52 = .ok (.iconst 1, 1) := by decide +kernel
theorem dX5_cell_53 : decode cX5_cell 53 = .ok (.ireturn, 1) := by decide +kernel
theorem dX5_copy_0 : decode cX5_copy 0 = .ok (.iload_n 1, 1) := by decide +kernel
theorem dX5_copy_1 : decode cX5_copy 1 = .ok (.iconst 4, 1) := by decide +kernel
theorem dX5_copy_2 : decode cX5_copy 2 = .ok (.invokestatic 81, 3) := by decide +kernel
theorem dX5_copy_5 : decode cX5_copy 5 = .ok (.ifCond .eq 11, 3) := by decide +kernel
theorem dX5_copy_8 : decode cX5_copy 8 = .ok (.iload_n 3, 1) := by decide +kernel
theorem dX5_copy_9 : decode cX5_copy 9 = .ok (.iconst 4, 1) := by decide +kernel
theorem dX5_copy_10 : decode cX5_copy 10 = .ok (.invokestatic 81, 3) := by decide +kernel
theorem dX5_copy_13 : decode cX5_copy 13 = .ok (.ifCond .ne 6, 3) := by decide +kernel
theorem dX5_copy_16 : decode cX5_copy 16 = .ok (.bipush (-2), 2) := by decide +kernel
theorem dX5_copy_18 : decode cX5_copy 18 = .ok (.ireturn, 1) := by decide +kernel
theorem dX5_copy_19 : decode cX5_copy 19 = .ok (.aload_n 0, 1) := by decide +kernel
theorem dX5_copy_20 : decode cX5_copy 20 = .ok (.getfield 44, 3) := by decide +kernel
theorem dX5_copy_23 : decode cX5_copy 23 = .ok (.iload_n 1, 1) := by decide +kernel
theorem dX5_copy_24 : decode cX5_copy 24 = .ok (.aaload, 1) := by decide +kernel
theorem dX5_copy_25 : decode cX5_copy 25 = .ok (.astore 6, 2) := by decide +kernel
theorem dX5_copy_27 : decode cX5_copy 27 = .ok (.aload_n 0, 1) := by decide +kernel
theorem dX5_copy_28 : decode cX5_copy 28 = .ok (.getfield 44, 3) := by decide +kernel
theorem dX5_copy_31 : decode cX5_copy 31 = .ok (.iload_n 3, 1) := by decide +kernel
theorem dX5_copy_32 : decode cX5_copy 32 = .ok (.aaload, 1) := by decide +kernel
theorem dX5_copy_33 : decode cX5_copy 33 = .ok (.astore 7, 2) := by decide +kernel
theorem dX5_copy_35 : decode cX5_copy 35 = .ok (.aload 6, 2) := by decide +kernel
theorem dX5_copy_37 : decode cX5_copy 37 = .ok (.invokevirtual 254, 3) := by decide +kernel
theorem dX5_copy_40 : decode cX5_copy 40 = .ok (.ifCond .ne 11, 3) := by decide +kernel
theorem dX5_copy_43 : decode cX5_copy 43 = .ok (.aload 7, 2) := by decide +kernel
theorem dX5_copy_45 : decode cX5_copy 45 = .ok (.invokevirtual 254, 3) := by decide +kernel
theorem dX5_copy_48 : decode cX5_copy 48 = .ok (.ifCond .eq 6, 3) := by decide +kernel
theorem dX5_copy_51 : decode cX5_copy 51 = .ok (.bipush (-11), 2) := by decide +kernel
theorem dX5_copy_53 : decode cX5_copy 53 = .ok (.ireturn, 1) := by decide +kernel
theorem dX5_copy_54 : decode cX5_copy 54 = .ok (.aload 6, 2) := by decide +kernel
theorem dX5_copy_56 : decode cX5_copy 56 = .ok (.getfield 296, 3) := by decide +kernel
theorem dX5_copy_59 : decode cX5_copy 59 = .ok (.aload 7, 2) := by decide +kernel
theorem dX5_copy_61 : decode cX5_copy 61 = .ok (.getfield 296, 3) := by decide +kernel
theorem dX5_copy_64 : decode cX5_copy 64 = .ok (.if_icmp .eq 6, 3) := by decide +kernel
theorem dX5_copy_67 : decode cX5_copy 67 = .ok (.bipush (-13), 2) := by decide +kernel
theorem dX5_copy_69 : decode cX5_copy 69 = .ok (.ireturn, 1) := by decide +kernel
theorem dX5_copy_70 : decode cX5_copy 70 = .ok (.aload 6, 2) := by decide +kernel
theorem dX5_copy_72 : decode cX5_copy 72 = .ok (.iload_n 2, 1) := by decide +kernel
theorem dX5_copy_73 : decode cX5_copy 73 = .ok (.iload 5, 2) := by decide +kernel
theorem dX5_copy_75 : decode cX5_copy 75 = .ok (.invokevirtual 299, 3) := by decide +kernel
theorem dX5_copy_78 : decode cX5_copy 78 = .ok (.ifCond .eq 15, 3) := by decide +kernel
theorem dX5_copy_81 : decode cX5_copy 81 = .ok (.aload 7, 2) := by decide +kernel
theorem dX5_copy_83 : decode cX5_copy 83 = .ok (.iload 4, 2) := by decide +kernel
theorem dX5_copy_85 : decode cX5_copy 85 = .ok (.iload 5, 2) := by decide +kernel
theorem dX5_copy_87 : decode cX5_copy 87 = .ok (.invokevirtual 299, 3) := by decide +kernel
theorem dX5_copy_90 : decode cX5_copy 90 = .ok (.ifCond .ne 6, 3) := by decide +kernel
theorem dX5_copy_93 : decode cX5_copy 93 = .ok (.bipush (-12), 2) := by decide +kernel
theorem dX5_copy_95 : decode cX5_copy 95 = .ok (.ireturn, 1) := by decide +kernel
theorem dX5_copy_96 : decode cX5_copy 96 = .ok (.aload 6, 2) := by decide +kernel
theorem dX5_copy_98 : decode cX5_copy 98 = .ok (.getfield 258, 3) := by decide +kernel
theorem dX5_copy_101 : decode cX5_copy 101 = .ok (.iload_n 2, 1) := by decide +kernel
theorem dX5_copy_102 : decode cX5_copy 102 = .ok (.aload 7, 2) := by decide +kernel
theorem dX5_copy_104 : decode cX5_copy 104 = .ok (.getfield 258, 3) := by decide +kernel
theorem dX5_copy_107 : decode cX5_copy 107 = .ok (.iload 4, 2) := by decide +kernel
theorem dX5_copy_109 : decode cX5_copy 109 = .ok (.iload 5, 2) := by decide +kernel
theorem dX5_copy_111 : decode cX5_copy 111 = .ok (.invokestatic 302, 3) := by decide +kernel
theorem dX5_copy_114 : decode cX5_copy 114 = .ok (.iload 5, 2) := by decide +kernel
theorem dX5_copy_116 : decode cX5_copy 116 = .ok (.ireturn, 1) := by decide +kernel
theorem dX5_things_0 : decode cX5_things 0 = .ok (.iload_n 1, 1) := by decide +kernel
theorem dX5_things_1 : decode cX5_things 1 = .ok (.iconst 4, 1) := by decide +kernel
theorem dX5_things_2 : decode cX5_things 2 = .ok (.invokestatic 81, 3) := by decide +kernel
theorem dX5_things_5 : decode cX5_things 5 = .ok (.ifCond .eq 22, 3) := by decide +kernel
theorem dX5_things_8 : decode cX5_things 8 = .ok (.iload_n 2, 1) := by decide +kernel
theorem dX5_things_9 : decode cX5_things 9 = .ok (.iconst 3, 1) := by decide +kernel
theorem dX5_things_10 : decode cX5_things 10 = .ok (.invokestatic 81, 3) := by decide +kernel
theorem dX5_things_13 : decode cX5_things 13 = .ok (.ifCond .eq 14, 3) := by decide +kernel
theorem dX5_things_16 : decode cX5_things 16 = .ok (.iload 4, 2) := by decide +kernel
theorem dX5_things_18 : decode cX5_things 18 = .ok (.ifCond .lt 9, 3) := by decide +kernel
theorem dX5_things_21 : decode cX5_things 21 = .ok (.iload 4, 2) := by decide +kernel
theorem dX5_things_23 : decode cX5_things 23 = .ok (.iconst 5, 1) := by decide +kernel
theorem dX5_things_24 : decode cX5_things 24 = .ok (.if_icmp .le 6, 3) := by decide +kernel
theorem dX5_things_27 : decode cX5_things 27 = .ok (.bipush (-2), 2) := by decide +kernel
theorem dX5_things_29 : decode cX5_things 29 = .ok (.ireturn, 1) := by decide +kernel
theorem dX5_things_30 : decode cX5_things 30 = .ok (.aload_n 0, 1) := by decide +kernel
theorem dX5_things_31 : decode cX5_things 31 = .ok (.getfield 44, 3) := by decide +kernel
theorem dX5_things_34 : decode cX5_things 34 = .ok (.iload_n 1, 1) := by decide +kernel
theorem dX5_things_35 : decode cX5_things 35 = .ok (.aaload, 1) := by decide +kernel
theorem dX5_things_36 : decode cX5_things 36 = .ok (.astore 5, 2) := by decide +kernel
theorem dX5_things_38 : decode cX5_things 38 = .ok (.aload 5, 2) := by decide +kernel
theorem dX5_things_40 : decode cX5_things 40 = .ok (.invokevirtual 254, 3) := by decide +kernel
theorem dX5_things_43 : decode cX5_things 43 = .ok (.ifCond .eq 6, 3) := by decide +kernel
theorem dX5_things_46 : decode cX5_things 46 = .ok (.bipush (-11), 2) := by decide +kernel
theorem dX5_things_48 : decode cX5_things 48 = .ok (.ireturn, 1) := by decide +kernel
theorem dX5_things_49 : decode cX5_things 49 = .ok (.aload 5, 2) := by decide +kernel
theorem dX5_things_51 : decode cX5_things 51 = .ok (.getfield 296, 3) := by decide +kernel
theorem dX5_things_54 : decode cX5_things 54 = .ok (.iload_n 2, 1) := by decide +kernel
theorem dX5_things_55 : decode cX5_things 55 = .ok (.if_icmp .eq 6, 3) := by decide +kernel
theorem dX5_things_58 : decode cX5_things 58 = .ok (.bipush (-13), 2) := by decide +kernel
theorem dX5_things_60 : decode cX5_things 60 = .ok (.ireturn, 1) := by decide +kernel
theorem dX5_things_61 : decode cX5_things 61 = .ok (.iconst 0, 1) := by decide +kernel
theorem dX5_things_62 : decode cX5_things 62 = .ok (.istore 6, 2) := by decide +kernel
theorem dX5_things_64 : decode cX5_things 64 = .ok (.iconst 0, 1) := by decide +kernel
theorem dX5_things_65 : decode cX5_things 65 = .ok (.istore 7, 2) := by decide +kernel
theorem dX5_things_67 : decode cX5_things 67 = .ok (.iload 7, 2) := by decide +kernel
theorem dX5_things_69 : decode cX5_things 69 = .ok (.iload 4, 2) := by decide +kernel
theorem dX5_things_71 : decode cX5_things 71 = .ok (.if_icmp .ge 63, 3) := by decide +kernel
theorem dX5_things_74 : decode cX5_things 74 = .ok (.aload 5, 2) := by decide +kernel
theorem dX5_things_76 : decode cX5_things 76 = .ok (.iload_n 3, 1) := by decide +kernel
theorem dX5_things_77 : decode cX5_things 77 = .ok (.iconst 2, 1) := by decide +kernel
theorem dX5_things_78 : decode cX5_things 78 = .ok (.iload 7, 2) := by decide +kernel
theorem dX5_things_80 : decode cX5_things 80 = .ok (.imul, 1) := by decide +kernel
theorem dX5_things_81 : decode cX5_things 81 = .ok (.iconst 2, 1) := by decide +kernel
theorem dX5_things_82 : decode cX5_things 82 = .ok (.iadd, 1) := by decide +kernel
theorem dX5_things_83 : decode cX5_things 83 = .ok (.invokevirtual 299, 3) := by decide +kernel
theorem dX5_things_86 : decode cX5_things 86 = .ok (.ifCond .ne 6, 3) := by decide +kernel
theorem dX5_things_89 : decode cX5_things 89 = .ok (.bipush (-12), 2) := by decide +kernel
theorem dX5_things_91 : decode cX5_things 91 = .ok (.ireturn, 1) := by decide +kernel
theorem dX5_things_92 : decode cX5_things 92 = .ok (.aload_n 0, 1) := by decide +kernel
theorem dX5_things_93 : decode cX5_things 93 = .ok (.aload 5, 2) := by decide +kernel
theorem dX5_things_95 : decode cX5_things 95 = .ok (.getfield 258, 3) := by decide +kernel
theorem dX5_things_98 : decode cX5_things 98 = .ok (.iload_n 3, 1) := by decide +kernel
theorem dX5_things_99 : decode cX5_things 99 = .ok (.iconst 2, 1) := by decide +kernel
theorem dX5_things_100 : decode cX5_things 100 = .ok (.iload 7, 2) := by decide +kernel
theorem dX5_things_102 : decode cX5_things 102 = .ok (.imul, 1) := by decide +kernel
theorem dX5_things_103 : decode cX5_things 103 = .ok (.iadd, 1) := by decide +kernel
theorem dX5_things_104 : decode cX5_things 104 = .ok (.iaload, 1) := by decide +kernel
theorem dX5_things_105 : decode cX5_things 105 = .ok (.aload 5, 2) := by decide +kernel
theorem dX5_things_107 : decode cX5_things 107 = .ok (.getfield 258, 3) := by decide +kernel
theorem dX5_things_110 : decode cX5_things 110 = .ok (.iload_n 3, 1) := by decide +kernel
theorem dX5_things_111 : decode cX5_things 111 = .ok (.iconst 2, 1) := by decide +kernel
theorem dX5_things_112 : decode cX5_things 112 = .ok (.iload 7, 2) := by decide +kernel
theorem dX5_things_114 : decode cX5_things 114 = .ok (.imul, 1) := by decide +kernel
theorem dX5_things_115 : decode cX5_things 115 = .ok (.iadd, 1) := by decide +kernel
theorem dX5_things_116 : decode cX5_things 116 = .ok (.iconst 1, 1) := by decide +kernel
theorem dX5_things_117 : decode cX5_things 117 = .ok (.iadd, 1) := by decide +kernel
theorem dX5_things_118 : decode cX5_things 118 = .ok (.iaload, 1) := by decide +kernel
theorem dX5_things_119 : decode cX5_things 119 = .ok (.invokevirtual 308, 3) := by decide +kernel
theorem dX5_things_122 : decode cX5_things 122 = .ok (.ifCond .lt 6, 3) := by decide +kernel
theorem dX5_things_125 : decode cX5_things 125 = .ok (.iinc 6 1, 3) := by decide +kernel
theorem dX5_things_128 : decode cX5_things 128 = .ok (.iinc 7 1, 3) := by decide +kernel
theorem dX5_things_131 : decode cX5_things 131 = .ok (.goto (-64), 3) := by decide +kernel
theorem dX5_things_134 : decode cX5_things 134 = .ok (.iload 6, 2) := by decide +kernel
theorem dX5_things_136 : decode cX5_things 136 = .ok (.ireturn, 1) := by decide +kernel
theorem dX5_taken_0 : decode cX5_taken 0 = .ok (.iload_n 2, 1) := by decide +kernel
theorem dX5_taken_1 : decode cX5_taken 1 = .ok (.bipush 6, 2) := by decide +kernel
theorem dX5_taken_3 : decode cX5_taken 3 = .ok (.invokestatic 81, 3) := by decide +kernel
theorem dX5_taken_6 : decode cX5_taken 6 = .ok (.ifCond .ne 6, 3) := by decide +kernel
theorem dX5_taken_9 : decode cX5_taken 9 = .ok (.bipush (-2), 2) := by decide +kernel
theorem dX5_taken_11 : decode cX5_taken 11 = .ok (.ireturn, 1) := by decide +kernel
theorem dX5_taken_12 : decode cX5_taken 12 = .ok (.aload_n 0, 1) := by decide +kernel
theorem dX5_taken_13 : decode cX5_taken 13 = .ok (.getfield 10, 3) := by decide +kernel
theorem dX5_taken_16 : decode cX5_taken 16 = .ok (.iload_n 1, 1) := by decide +kernel
theorem dX5_taken_17 : decode cX5_taken 17 = .ok (.invokevirtual 95, 3) := by decide +kernel
theorem dX5_taken_20 : decode cX5_taken 20 = .ok (.ifCond .ne 6, 3) := by decide +kernel
theorem dX5_taken_23 : decode cX5_taken 23 = .ok (.bipush (-11), 2) := by decide +kernel
theorem dX5_taken_25 : decode cX5_taken 25 = .ok (.ireturn, 1) := by decide +kernel
theorem dX5_taken_26 : decode cX5_taken 26 = .ok (.aload_n 0, 1) := by decide +kernel
theorem dX5_taken_27 : decode cX5_taken 27 = .ok (.getfield 10, 3) := by decide +kernel
theorem dX5_taken_30 : decode cX5_taken 30 = .ok (.getfield 88, 3) := by decide +kernel
theorem dX5_taken_33 : decode cX5_taken 33 = .ok (.iload_n 1, 1) := by decide +kernel
theorem dX5_taken_34 : decode cX5_taken 34 = .ok (.iaload, 1) := by decide +kernel
theorem dX5_taken_35 : decode cX5_taken 35 = .ok (.istore_n 3, 1) := by decide +kernel
theorem dX5_taken_36 : decode cX5_taken 36 = .ok (.iconst 0, 1) := by decide +kernel
theorem dX5_taken_37 : decode cX5_taken 37 = .ok (.istore 4, 2) := by decide +kernel
theorem dX5_taken_39 : decode cX5_taken 39 = .ok (.iload 4, 2) := by decide +kernel
theorem dX5_taken_41 : decode cX5_taken 41 = .ok (.bipush 6, 2) := by decide +kernel
theorem dX5_taken_43 : decode cX5_taken 43 = .ok (.if_icmp .ge 35, 3) := by decide +kernel
theorem dX5_taken_46 : decode cX5_taken 46 = .ok (.iload_n 3, 1) := by decide +kernel
theorem dX5_taken_47 : decode cX5_taken 47 = .ok (.iconst (-1), 1) := by decide +kernel
theorem dX5_taken_48 : decode cX5_taken 48 = .ok (.if_icmp .eq 30, 3) := by decide +kernel
theorem dX5_taken_51 : decode cX5_taken 51 = .ok (.iload_n 3, 1) := by decide +kernel
theorem dX5_taken_52 : decode cX5_taken 52 = .ok (.iload_n 2, 1) := by decide +kernel
theorem dX5_taken_53 : decode cX5_taken 53 = .ok (.if_icmp .ne 13, 3) := by decide +kernel
theorem dX5_taken_56 : decode cX5_taken 56 = .ok (.aload_n 0, 1) := by decide +kernel
theorem dX5_taken_57 : decode cX5_taken 57 = .ok (.getfield 10, 3) := by decide +kernel
theorem dX5_taken_60 : decode cX5_taken 60 = .ok (.getfield 140, 3) := by decide +kernel
theorem dX5_taken_63 : decode cX5_taken 63 = .ok (.iload_n 1, 1) := by decide +kernel
theorem dX5_taken_64 : decode cX5_taken 64 = .ok (.iaload, 1) := by decide +kernel
theorem dX5_taken_65 : decode cX5_taken 65 = .ok (.ireturn, 1) := by decide +kernel
theorem dX5_taken_66 : decode cX5_taken 66 = .ok (.getstatic 311, 3) := by decide +kernel
theorem dX5_taken_69 : decode cX5_taken 69 = .ok (.iload_n 3, 1) := by decide +kernel
theorem dX5_taken_70 : decode cX5_taken 70 = .ok (.iaload, 1) := by decide +kernel
theorem dX5_taken_71 : decode cX5_taken 71 = .ok (.istore_n 3, 1) := by decide +kernel
theorem dX5_taken_72 : decode cX5_taken 72 = .ok (.iinc 4 1, 3) := by decide +kernel
theorem dX5_taken_75 : decode cX5_taken 75 = .ok (.goto (-36), 3) := by decide +kernel
theorem dX5_taken_78 : decode cX5_taken 78 = .ok (.bipush (-13), 2) := by decide +kernel
theorem dX5_taken_80 : decode cX5_taken 80 = .ok (.ireturn, 1) := by decide +kernel
theorem dX5_within_0 : decode cX5_within 0 = .ok (.iload_n 0, 1) := by decide +kernel
theorem dX5_within_1 : decode cX5_within 1 = .ok (.ifCond .lt 12, 3) := by decide +kernel
theorem dX5_within_4 : decode cX5_within 4 = .ok (.iload_n 0, 1) := by decide +kernel
theorem dX5_within_5 : decode cX5_within 5 = .ok (.iload_n 1, 1) := by decide +kernel
theorem dX5_within_6 : decode cX5_within 6 = .ok (.if_icmp .ge 7, 3) := by decide +kernel
theorem dX5_within_9 : decode cX5_within 9 = .ok (.iconst 1, 1) := by decide +kernel
theorem dX5_within_10 : decode cX5_within 10 = .ok (.goto 4, 3) := by decide +kernel
theorem dX5_within_13 : decode cX5_within 13 = .ok (.iconst 0, 1) := by decide +kernel
theorem dX5_within_14 : decode cX5_within 14 = .ok (.ireturn, 1) := by decide +kernel
theorem dX5_bounded_0 : decode cX5_bounded 0 = .ok (.iconst 0, 1) := by decide +kernel
theorem dX5_bounded_1 : decode cX5_bounded 1 = .ok (.iload_n 0, 1) := by decide +kernel
theorem dX5_bounded_2 : decode cX5_bounded 2 = .ok (.iload_n 1, 1) := by decide +kernel
theorem dX5_bounded_3 : decode cX5_bounded 3 = .ok (.invokestatic 314, 3) := by decide +kernel
theorem dX5_bounded_6 : decode cX5_bounded 6 = .ok (.invokestatic 319, 3) := by decide +kernel
theorem dX5_bounded_9 : decode cX5_bounded 9 = .ok (.ireturn, 1) := by decide +kernel
theorem dX5_withBit_0 : decode cX5_withBit 0 = .ok (.iload_n 2, 1) := by decide +kernel
theorem dX5_withBit_1 : decode cX5_withBit 1 = .ok (.iconst 1, 1) := by decide +kernel
theorem dX5_withBit_2 : decode cX5_withBit 2 = .ok (.if_icmp .ne 11, 3) := by decide +kernel
theorem dX5_withBit_5 : decode cX5_withBit 5 = .ok (.iload_n 0, 1) := by decide +kernel
theorem dX5_withBit_6 : decode cX5_withBit 6 = .ok (.iconst 1, 1) := by decide +kernel
theorem dX5_withBit_7 : decode cX5_withBit 7 = .ok (.iload_n 1, 1) := by decide +kernel
theorem dX5_withBit_8 : decode cX5_withBit 8 = .ok (.ishl, 1) := by decide +kernel
theorem dX5_withBit_9 : decode cX5_withBit 9 = .ok (.ior, 1) := by decide +kernel
theorem dX5_withBit_10 : decode cX5_withBit 10 = .ok (.goto 10, 3) := by decide +kernel
theorem dX5_withBit_13 : decode cX5_withBit 13 = .ok (.iload_n 0, 1) := by decide +kernel
theorem dX5_withBit_14 : decode cX5_withBit 14 = .ok (.iconst 1, 1) := by decide +kernel
theorem dX5_withBit_15 : decode cX5_withBit 15 = .ok (.iload_n 1, 1) := by decide +kernel
theorem dX5_withBit_16 : decode cX5_withBit 16 = .ok (.ishl, 1) := by decide +kernel
theorem dX5_withBit_17 : decode cX5_withBit 17 = .ok (.iconst (-1), 1) := by decide +kernel
theorem dX5_withBit_18 : decode cX5_withBit 18 = .ok (.ixor, 1) := by decide +kernel
theorem dX5_withBit_19 : decode cX5_withBit 19 = .ok (.iand, 1) := by decide +kernel
theorem dX5_withBit_20 : decode cX5_withBit 20 = .ok (.ireturn, 1) := by decide +kernel
theorem dX5_roomOf_0 : decode cX5_roomOf 0 = .ok (.iload_n 1, 1) := by decide +kernel
theorem dX5_roomOf_1 : decode cX5_roomOf 1 = .ok (.bipush 6, 2) := by decide +kernel
theorem dX5_roomOf_3 : decode cX5_roomOf 3 = .ok (.iadd, 1) := by decide +kernel
theorem dX5_roomOf_4 : decode cX5_roomOf 4 = .ok (.istore_n 2, 1) := by decide +kernel
theorem dX5_roomOf_5 : decode cX5_roomOf 5 = .ok (.iload_n 2, 1) := by decide +kernel
theorem dX5_roomOf_6 : decode cX5_roomOf 6 = .ok (.iconst 3, 1) := by decide +kernel
theorem dX5_roomOf_7 : decode cX5_roomOf 7 = .ok (.isub, 1) := by decide +kernel
theorem dX5_roomOf_8 : decode cX5_roomOf 8 = .ok (.istore_n 3, 1) := by decide +kernel
theorem dX5_roomOf_9 : decode cX5_roomOf 9 = .ok (.iload_n 0, 1) := by decide +kernel
theorem dX5_roomOf_10 : decode cX5_roomOf 10 = .ok (.tableswitch 48 1 5 #[34, 36, 40, 44, 36], 34) := by decide +kernel
theorem dX5_roomOf_44 : decode cX5_roomOf 44 = .ok (.iload_n 3, 1) := by decide +kernel
theorem dX5_roomOf_45 : decode cX5_roomOf 45 = .ok (.ireturn, 1) := by decide +kernel
theorem dX5_roomOf_46 : decode cX5_roomOf 46 = .ok (.iconst 2, 1) := by decide +kernel
theorem dX5_roomOf_47 : decode cX5_roomOf 47 = .ok (.iload_n 2, 1) := by decide +kernel
theorem dX5_roomOf_48 : decode cX5_roomOf 48 = .ok (.imul, 1) := by decide +kernel
theorem dX5_roomOf_49 : decode cX5_roomOf 49 = .ok (.ireturn, 1) := by decide +kernel
theorem dX5_roomOf_50 : decode cX5_roomOf 50 = .ok (.iload_n 3, 1) := by decide +kernel
theorem dX5_roomOf_51 : decode cX5_roomOf 51 = .ok (.iconst 2, 1) := by decide +kernel
theorem dX5_roomOf_52 : decode cX5_roomOf 52 = .ok (.idiv, 1) := by decide +kernel
theorem dX5_roomOf_53 : decode cX5_roomOf 53 = .ok (.ireturn, 1) := by decide +kernel
theorem dX5_roomOf_54 : decode cX5_roomOf 54 = .ok (.iload_n 1, 1) := by decide +kernel
theorem dX5_roomOf_55 : decode cX5_roomOf 55 = .ok (.iconst 1, 1) := by decide +kernel
theorem dX5_roomOf_56 : decode cX5_roomOf 56 = .ok (.iadd, 1) := by decide +kernel
theorem dX5_roomOf_57 : decode cX5_roomOf 57 = .ok (.ireturn, 1) := by decide +kernel
theorem dX5_roomOf_58 : decode cX5_roomOf 58 = .ok (.iload_n 2, 1) := by decide +kernel
theorem dX5_roomOf_59 : decode cX5_roomOf 59 = .ok (.ireturn, 1) := by decide +kernel
theorem dX6_in_0 : decode cX6_in 0 = .ok (.lload_n 0, 1) := by decide +kernel
theorem dX6_in_1 : decode cX6_in 1 = .ok (.lload_n 2, 1) := by decide +kernel
theorem dX6_in_2 : decode cX6_in 2 = .ok (.lcmp, 1) := by decide +kernel
theorem dX6_in_3 : decode cX6_in 3 = .ok (.ifCond .lt 14, 3) := by decide +kernel
theorem dX6_in_6 : decode cX6_in 6 = .ok (.lload_n 0, 1) := by decide +kernel
theorem dX6_in_7 : decode cX6_in 7 = .ok (.lload 4, 2) := by decide +kernel
theorem dX6_in_9 : decode cX6_in 9 = .ok (.lcmp, 1) := by decide +kernel
theorem dX6_in_10 : decode cX6_in 10 = .ok (.ifCond .gt 7, 3) := by decide +kernel
theorem dX6_in_13 : decode cX6_in 13 = .ok (.iconst 1, 1) := by decide +kernel
theorem dX6_in_14 : decode cX6_in 14 = .ok (.goto 4, 3) := by decide +kernel
theorem dX6_in_17 : decode cX6_in 17 = .ok (.iconst 0, 1) := by decide +kernel
theorem dX6_in_18 : decode cX6_in 18 = .ok (.ireturn, 1) := by decide +kernel
theorem dX6_within_0 : decode cX6_within 0 = .ok (.iload_n 0, 1) := by decide +kernel
theorem dX6_within_1 : decode cX6_within 1 = .ok (.iload_n 1, 1) := by decide +kernel
theorem dX6_within_2 : decode cX6_within 2 = .ok (.if_icmp .ge 7, 3) := by decide +kernel
theorem dX6_within_5 : decode cX6_within 5 = .ok (.iload_n 1, 1) := by decide +kernel
theorem dX6_within_6 : decode cX6_within 6 = .ok (.goto 13, 3) := by decide +kernel
theorem dX6_within_9 : decode cX6_within 9 = .ok (.iload_n 0, 1) := by decide +kernel
theorem dX6_within_10 : decode cX6_within 10 = .ok (.iload_n 2, 1) := by decide +kernel
theorem dX6_within_11 : decode cX6_within 11 = .ok (.if_icmp .le 7, 3) := by decide +kernel
theorem dX6_within_14 : decode cX6_within 14 = .ok (.iload_n 2, 1) := by decide +kernel
theorem dX6_within_15 : decode cX6_within 15 = .ok (.goto 4, 3) := by decide +kernel
theorem dX6_within_18 : decode cX6_within 18 = .ok (.iload_n 0, 1) := by decide +kernel
theorem dX6_within_19 : decode cX6_within 19 = .ok (.ireturn, 1) := by decide +kernel
theorem dX6_bitsOf_0 : decode cX6_bitsOf 0 = .ok (.iconst 0, 1) := by decide +kernel
theorem dX6_bitsOf_1 : decode cX6_bitsOf 1 = .ok (.istore_n 1, 1) := by decide +kernel
theorem dX6_bitsOf_2 : decode cX6_bitsOf 2 = .ok (.iload_n 0, 1) := by decide +kernel
theorem dX6_bitsOf_3 : decode cX6_bitsOf 3 = .ok (.istore_n 2, 1) := by decide +kernel
theorem dX6_bitsOf_4 : decode cX6_bitsOf 4 = .ok (.iload_n 2, 1) := by decide +kernel
theorem dX6_bitsOf_5 : decode cX6_bitsOf 5 = .ok (.ifCond .eq 15, 3) := by decide +kernel
theorem dX6_bitsOf_8 : decode cX6_bitsOf 8 = .ok (.iinc 1 1, 3) := by decide +kernel
theorem dX6_bitsOf_11 : decode cX6_bitsOf 11 = .ok (.iload_n 2, 1) := by decide +kernel
theorem dX6_bitsOf_12 : decode cX6_bitsOf 12 = .ok (.iload_n 2, 1) := by decide +kernel
theorem dX6_bitsOf_13 : decode cX6_bitsOf 13 = .ok (.iconst 1, 1) := by decide +kernel
theorem dX6_bitsOf_14 : decode cX6_bitsOf 14 = .ok (.isub, 1) := by decide +kernel
theorem dX6_bitsOf_15 : decode cX6_bitsOf 15 = .ok (.iand, 1) := by decide +kernel
theorem dX6_bitsOf_16 : decode cX6_bitsOf 16 = .ok (.istore_n 2, 1) := by decide +kernel
theorem dX6_bitsOf_17 : decode cX6_bitsOf 17 = .ok (.goto (-13), 3) := by decide +kernel
theorem dX6_bitsOf_20 : decode cX6_bitsOf 20 = .ok (.iload_n 1, 1) := by decide +kernel
theorem dX6_bitsOf_21 : decode cX6_bitsOf 21 = .ok (.ireturn, 1) := by decide +kernel
theorem dX6_init_0 : decode cX6_init 0 = .ok (.aload_n 0, 1) := by decide +kernel
theorem dX6_init_1 : decode cX6_init 1 = .ok (.invokespecial 7, 3) := by decide +kernel
theorem dX6_init_4 : decode cX6_init 4 = .ok (.aload_n 0, 1) := by decide +kernel
theorem dX6_init_5 : decode cX6_init 5 = .ok (.sipush 960, 3) := by decide +kernel
theorem dX6_init_8 : decode cX6_init 8 = .ok (.newarray .int, 2) := by decide +kernel
theorem dX6_init_10 : decode cX6_init 10 = .ok (.putfield 13, 3) := by decide +kernel
theorem dX6_init_13 : decode cX6_init 13 = .ok (.aload_n 0, 1) := by decide +kernel
theorem dX6_init_14 : decode cX6_init 14 = .ok (.bipush 6, 2) := by decide +kernel
theorem dX6_init_16 : decode cX6_init 16 = .ok (.newarray .int, 2) := by decide +kernel
theorem dX6_init_18 : decode cX6_init 18 = .ok (.putfield 17, 3) := by decide +kernel
theorem dX6_init_21 : decode cX6_init 21 = .ok (.aload_n 0, 1) := by decide +kernel
theorem dX6_init_22 : decode cX6_init 22 = .ok (.sipush 160, 3) := by decide +kernel
theorem dX6_init_25 : decode cX6_init 25 = .ok (.newarray .int, 2) := by decide +kernel
theorem dX6_init_27 : decode cX6_init 27 = .ok (.putfield 20, 3) := by decide +kernel
theorem dX6_init_30 : decode cX6_init 30 = .ok (.aload_n 0, 1) := by decide +kernel
theorem dX6_init_31 : decode cX6_init 31 = .ok (.iconst 5, 1) := by decide +kernel
theorem dX6_init_32 : decode cX6_init 32 = .ok (.newarray .int, 2) := by decide +kernel
theorem dX6_init_34 : decode cX6_init 34 = .ok (.putfield 23, 3) := by decide +kernel
theorem dX6_init_37 : decode cX6_init 37 = .ok (.aload_n 0, 1) := by decide +kernel
theorem dX6_init_38 : decode cX6_init 38 = .ok (.iconst 5, 1) := by decide +kernel
theorem dX6_init_39 : decode cX6_init 39 = .ok (.newarray .int, 2) := by decide +kernel
theorem dX6_init_41 : decode cX6_init 41 = .ok (.putfield 26, 3) := by decide +kernel
theorem dX6_init_44 : decode cX6_init 44 = .ok (.aload_n 0, 1) := by decide +kernel
theorem dX6_init_45 : decode cX6_init 45 = .ok (.iconst 5, 1) := by decide +kernel
theorem dX6_init_46 : decode cX6_init 46 = .ok (.newarray .int, 2) := by decide +kernel
theorem dX6_init_48 : decode cX6_init 48 = .ok (.putfield 29, 3) := by decide +kernel
theorem dX6_init_51 : decode cX6_init 51 = .ok (.aload_n 0, 1) := by decide +kernel
theorem dX6_init_52 : decode cX6_init 52 = .ok (.iconst 5, 1) := by decide +kernel
theorem dX6_init_53 : decode cX6_init 53 = .ok (.newarray .int, 2) := by decide +kernel
theorem dX6_init_55 : decode cX6_init 55 = .ok (.putfield 32, 3) := by decide +kernel
theorem dX6_init_58 : decode cX6_init 58 = .ok (.aload_n 0, 1) := by decide +kernel
theorem dX6_init_59 : decode cX6_init 59 = .ok (.iconst 5, 1) := by decide +kernel
theorem dX6_init_60 : decode cX6_init 60 = .ok (.newarray .int, 2) := by decide +kernel
theorem dX6_init_62 : decode cX6_init 62 = .ok (.putfield 35, 3) := by decide +kernel
theorem dX6_init_65 : decode cX6_init 65 = .ok (.aload_n 0, 1) := by decide +kernel
theorem dX6_init_66 : decode cX6_init 66 = .ok (.iconst 5, 1) := by decide +kernel
theorem dX6_init_67 : decode cX6_init 67 = .ok (.newarray .int, 2) := by decide +kernel
theorem dX6_init_69 : decode cX6_init 69 = .ok (.putfield 38, 3) := by decide +kernel
theorem dX6_init_72 : decode cX6_init 72 = .ok (.aload_n 0, 1) := by decide +kernel
theorem dX6_init_73 : decode cX6_init 73 = .ok (.iconst (-1), 1) := by decide +kernel
theorem dX6_init_74 : decode cX6_init 74 = .ok (.putfield 41, 3) := by decide +kernel
theorem dX6_init_77 : decode cX6_init 77 = .ok (.aload_n 0, 1) := by decide +kernel
theorem dX6_init_78 : decode cX6_init 78 = .ok (.iconst 1, 1) := by decide +kernel
theorem dX6_init_79 : decode cX6_init 79 = .ok (.putfield 44, 3) := by decide +kernel
theorem dX6_init_82 : decode cX6_init 82 = .ok (.aload_n 0, 1) := by decide +kernel
theorem dX6_init_83 : decode cX6_init 83 = .ok (.iconst (-1), 1) := by decide +kernel
theorem dX6_init_84 : decode cX6_init 84 = .ok (.putfield 47, 3) := by decide +kernel
theorem dX6_init_87 : decode cX6_init 87 = .ok (.aload_n 0, 1) := by decide +kernel
theorem dX6_init_88 : decode cX6_init 88 = .ok (.iconst (-1), 1) := by decide +kernel
theorem dX6_init_89 : decode cX6_init 89 = .ok (.putfield 50, 3) := by decide +kernel
theorem dX6_init_92 : decode cX6_init 92 = .ok (.aload_n 0, 1) := by decide +kernel
theorem dX6_init_93 : decode cX6_init 93 = .ok (.iconst 5, 1) := by decide +kernel
theorem dX6_init_94 : decode cX6_init 94 = .ok (.newarray .int, 2) := by decide +kernel
theorem dX6_init_96 : decode cX6_init 96 = .ok (.putfield 53, 3) := by decide +kernel
theorem dX6_init_99 : decode cX6_init 99 = .ok (.aload_n 0, 1) := by decide +kernel
theorem dX6_init_100 : decode cX6_init 100 = .ok (.sipush 3125, 3) := by decide +kernel
theorem dX6_init_103 : decode cX6_init 103 = .ok (.newarray .int, 2) := by decide +kernel
theorem dX6_init_105 : decode cX6_init 105 = .ok (.putfield 56, 3) := by decide +kernel
theorem dX6_init_108 : decode cX6_init 108 = .ok (.aload_n 0, 1) := by decide +kernel
theorem dX6_init_109 : decode cX6_init 109 = .ok (.sipush 3125, 3) := by decide +kernel
theorem dX6_init_112 : decode cX6_init 112 = .ok (.newarray .int, 2) := by decide +kernel
theorem dX6_init_114 : decode cX6_init 114 = .ok (.putfield 59, 3) := by decide +kernel
theorem dX6_init_117 : decode cX6_init 117 = .ok (.aload_n 0, 1) := by decide +kernel
theorem dX6_init_118 : decode cX6_init 118 = .ok (.sipush 3125, 3) := by decide +kernel
theorem dX6_init_121 : decode cX6_init 121 = .ok (.newarray .int, 2) := by decide +kernel
theorem dX6_init_123 : decode cX6_init 123 = .ok (.putfield 62, 3) := by decide +kernel
theorem dX6_init_126 : decode cX6_init 126 = .ok (.aload_n 0, 1) := by decide +kernel
theorem dX6_init_127 : decode cX6_init 127 = .ok (.bipush 125, 2) := by decide +kernel
theorem dX6_init_129 : decode cX6_init 129 = .ok (.newarray .int, 2) := by decide +kernel
theorem dX6_init_131 : decode cX6_init 131 = .ok (.putfield 65, 3) := by decide +kernel
theorem dX6_init_134 : decode cX6_init 134 = .ok (.aload_n 0, 1) := by decide +kernel
theorem dX6_init_135 : decode cX6_init 135 = .ok (.sipush 3125, 3) := by decide +kernel
theorem dX6_init_138 : decode cX6_init 138 = .ok (.newarray .int, 2) := by decide +kernel
theorem dX6_init_140 : decode cX6_init 140 = .ok (.putfield 68, 3) := by decide +kernel
theorem dX6_init_143 : decode cX6_init 143 = .ok (.aload_n 0, 1) := by decide +kernel
theorem dX6_init_144 : decode cX6_init 144 = .ok (.sipush 3125, 3) := by decide +kernel
theorem dX6_init_147 : decode cX6_init 147 = .ok (.newarray .long, 2) := by decide +kernel
theorem dX6_init_149 : decode cX6_init 149 = .ok (.putfield 71, 3) := by decide +kernel
theorem dX6_init_152 : decode cX6_init 152 = .ok (.aload_n 0, 1) := by decide +kernel
theorem dX6_init_153 : decode cX6_init 153 = .ok (.sipush 3125, 3) := by decide +kernel
theorem dX6_init_156 : decode cX6_init 156 = .ok (.newarray .long, 2) := by decide +kernel
theorem dX6_init_158 : decode cX6_init 158 = .ok (.putfield 75, 3) := by decide +kernel
theorem dX6_init_161 : decode cX6_init 161 = .ok (.aload_n 0, 1) := by decide +kernel
theorem dX6_init_162 : decode cX6_init 162 = .ok (.bipush 20, 2) := by decide +kernel
theorem dX6_init_164 : decode cX6_init 164 = .ok (.newarray .int, 2) := by decide +kernel
theorem dX6_init_166 : decode cX6_init 166 = .ok (.putfield 78, 3) := by decide +kernel
theorem dX6_init_169 : decode cX6_init 169 = .ok (.aload_n 0, 1) := by decide +kernel
theorem dX6_init_170 : decode cX6_init 170 = .ok (.iconst (-1), 1) := by decide +kernel
theorem dX6_init_171 : decode cX6_init 171 = .ok (.putfield 81, 3) := by decide +kernel
theorem dX6_init_174 : decode cX6_init 174 = .ok (.aload_n 0, 1) := by decide +kernel
theorem dX6_init_175 : decode cX6_init 175 = .ok (.iconst 4, 1) := by decide +kernel
theorem dX6_init_176 : decode cX6_init 176 = .ok (.newarray .boolean, 2) := by decide +kernel
theorem dX6_init_178 : decode cX6_init 178 = .ok (.putfield 84, 3) := by decide +kernel
theorem dX6_init_181 : decode cX6_init 181 = .ok (.aload_n 0, 1) := by decide +kernel
theorem dX6_init_182 : decode cX6_init 182 = .ok (.iconst 4, 1) := by decide +kernel
theorem dX6_init_183 : decode cX6_init 183 = .ok (.newarray .int, 2) := by decide +kernel
theorem dX6_init_185 : decode cX6_init 185 = .ok (.putfield 88, 3) := by decide +kernel
theorem dX6_init_188 : decode cX6_init 188 = .ok (.aload_n 0, 1) := by decide +kernel
theorem dX6_init_189 : decode cX6_init 189 = .ok (.iconst 4, 1) := by decide +kernel
theorem dX6_init_190 : decode cX6_init 190 = .ok (.newarray .int, 2) := by decide +kernel
theorem dX6_init_192 : decode cX6_init 192 = .ok (.putfield 91, 3) := by decide +kernel
theorem dX6_init_195 : decode cX6_init 195 = .ok (.aload_n 0, 1) := by decide +kernel
theorem dX6_init_196 : decode cX6_init 196 = .ok (.sipush 160, 3) := by decide +kernel
theorem dX6_init_199 : decode cX6_init 199 = .ok (.newarray .int, 2) := by decide +kernel
theorem dX6_init_201 : decode cX6_init 201 = .ok (.putfield 94, 3) := by decide +kernel
theorem dX6_init_204 : decode cX6_init 204 = .ok (.aload_n 0, 1) := by decide +kernel
theorem dX6_init_205 : decode cX6_init 205 = .ok (.iconst 0, 1) := by decide +kernel
theorem dX6_init_206 : decode cX6_init 206 = .ok (.bipush 99, 2) := by decide +kernel
theorem dX6_init_208 : decode cX6_init 208 = .ok (.bipush 111, 2) := by decide +kernel
theorem dX6_init_210 : decode cX6_init 210 = .ok (.bipush 115, 2) := by decide +kernel
theorem dX6_init_212 : decode cX6_init 212 = .ok (.bipush 116, 2) := by decide +kernel
theorem dX6_init_214 : decode cX6_init 214 = .ok (.bipush 115, 2) := by decide +kernel
theorem dX6_init_216 : decode cX6_init 216 = .ok (.bipush 32, 2) := by decide +kernel
theorem dX6_init_218 : decode cX6_init 218 = .ok (.bipush 115, 2) := by decide +kernel
theorem dX6_init_220 : decode cX6_init 220 = .ok (.bipush 105, 2) := by decide +kernel
theorem dX6_init_222 : decode cX6_init 222 = .ok (.invokevirtual 97, 3) := by decide +kernel
theorem dX6_init_225 : decode cX6_init 225 = .ok (.aload_n 0, 1) := by decide +kernel
theorem dX6_init_226 : decode cX6_init 226 = .ok (.bipush 8, 2) := by decide +kernel
theorem dX6_init_228 : decode cX6_init 228 = .ok (.bipush 122, 2) := by decide +kernel
theorem dX6_init_230 : decode cX6_init 230 = .ok (.bipush 101, 2) := by decide +kernel
theorem dX6_init_232 : decode cX6_init 232 = .ok (.bipush 32, 2) := by decide +kernel
theorem dX6_init_234 : decode cX6_init 234 = .ok (.bipush 59, 2) := by decide +kernel
theorem dX6_init_236 : decode cX6_init 236 = .ok (.bipush 32, 2) := by decide +kernel
theorem dX6_init_238 : decode cX6_init 238 = .ok (.bipush 98, 2) := by decide +kernel
theorem dX6_init_240 : decode cX6_init 240 = .ok (.bipush 101, 2) := by decide +kernel
theorem dX6_init_242 : decode cX6_init 242 = .ok (.bipush 108, 2) := by decide +kernel
theorem dX6_init_244 : decode cX6_init 244 = .ok (.invokevirtual 97, 3) := by decide +kernel
theorem dX6_init_247 : decode cX6_init 247 = .ok (.aload_n 0, 1) := by decide +kernel
theorem dX6_init_248 : decode cX6_init 248 = .ok (.bipush 16, 2) := by decide +kernel
theorem dX6_init_250 : decode cX6_init 250 = .ok (.bipush 108, 2) := by decide +kernel
theorem dX6_init_252 : decode cX6_init 252 = .ok (.bipush 32, 2) := by decide +kernel
theorem dX6_init_254 : decode cX6_init 254 = .ok (.bipush 50, 2) := by decide +kernel
theorem dX6_init_256 : decode cX6_init 256 = .ok (.bipush 48, 2) := by decide +kernel
theorem dX6_init_258 : decode cX6_init 258 = .ok (.bipush 32, 2) := by decide +kernel
theorem dX6_init_260 : decode cX6_init 260 = .ok (.bipush 59, 2) := by decide +kernel
theorem dX6_init_262 : decode cX6_init 262 = .ok (.bipush 32, 2) := by decide +kernel
theorem dX6_init_264 : decode cX6_init 264 = .ok (.bipush 119, 2) := by decide +kernel
theorem dX6_init_266 : decode cX6_init 266 = .ok (.invokevirtual 97, 3) := by decide +kernel
theorem dX6_init_269 : decode cX6_init 269 = .ok (.aload_n 0, 1) := by decide +kernel
theorem dX6_init_270 : decode cX6_init 270 = .ok (.bipush 24, 2) := by decide +kernel
theorem dX6_init_272 : decode cX6_init 272 = .ok (.bipush 111, 2) := by decide +kernel
theorem dX6_init_274 : decode cX6_init 274 = .ok (.bipush 114, 2) := by decide +kernel
theorem dX6_init_276 : decode cX6_init 276 = .ok (.bipush 116, 2) := by decide +kernel
theorem dX6_init_278 : decode cX6_init 278 = .ok (.bipush 104, 2) := by decide +kernel
theorem dX6_init_280 : decode cX6_init 280 = .ok (.bipush 32, 2) := by decide +kernel
theorem dX6_init_282 : decode cX6_init 282 = .ok (.bipush 49, 2) := by decide +kernel
theorem dX6_init_284 : decode cX6_init 284 = .ok (.bipush 48, 2) := by decide +kernel
theorem dX6_init_286 : decode cX6_init 286 = .ok (.bipush 32, 2) := by decide +kernel
theorem dX6_init_288 : decode cX6_init 288 = .ok (.invokevirtual 97, 3) := by decide +kernel
theorem dX6_init_291 : decode cX6_init 291 = .ok (.aload_n 0, 1) := by decide +kernel
theorem dX6_init_292 : decode cX6_init 292 = .ok (.bipush 32, 2) := by decide +kernel
theorem dX6_init_294 : decode cX6_init 294 = .ok (.bipush 59, 2) := by decide +kernel
theorem dX6_init_296 : decode cX6_init 296 = .ok (.bipush 32, 2) := by decide +kernel
theorem dX6_init_298 : decode cX6_init 298 = .ok (.bipush 32, 2) := by decide +kernel
theorem dX6_init_300 : decode cX6_init 300 = .ok (.bipush 32, 2) := by decide +kernel
theorem dX6_init_302 : decode cX6_init 302 = .ok (.bipush 32, 2) := by decide +kernel
theorem dX6_init_304 : decode cX6_init 304 = .ok (.bipush 32, 2) := by decide +kernel
theorem dX6_init_306 : decode cX6_init 306 = .ok (.bipush 32, 2) := by decide +kernel
theorem dX6_init_308 : decode cX6_init 308 = .ok (.bipush 32, 2) := by decide +kernel
theorem dX6_init_310 : decode cX6_init 310 = .ok (.invokevirtual 97, 3) := by decide +kernel
theorem dX6_init_313 : decode cX6_init 313 = .ok (.aload_n 0, 1) := by decide +kernel
theorem dX6_init_314 : decode cX6_init 314 = .ok (.getfield 17, 3) := by decide +kernel
theorem dX6_init_317 : decode cX6_init 317 = .ok (.iconst 0, 1) := by decide +kernel
theorem dX6_init_318 : decode cX6_init 318 = .ok (.bipush 40, 2) := by decide +kernel
theorem dX6_init_320 : decode cX6_init 320 = .ok (.iastore, 1) := by decide +kernel
theorem dX6_init_321 : decode cX6_init 321 = .ok (.aload_n 0, 1) := by decide +kernel
theorem dX6_init_322 : decode cX6_init 322 = .ok (.iconst 1, 1) := by decide +kernel
theorem dX6_init_323 : decode cX6_init 323 = .ok (.putfield 101, 3) := by decide +kernel
theorem dX6_init_326 : decode cX6_init 326 = .ok (.return_, 1) := by decide +kernel
theorem dX6_spell_0 : decode cX6_spell 0 = .ok (.aload_n 0, 1) := by decide +kernel
theorem dX6_spell_1 : decode cX6_spell 1 = .ok (.getfield 13, 3) := by decide +kernel
theorem dX6_spell_4 : decode cX6_spell 4 = .ok (.iload_n 1, 1) := by decide +kernel
theorem dX6_spell_5 : decode cX6_spell 5 = .ok (.iload_n 2, 1) := by decide +kernel
theorem dX6_spell_6 : decode cX6_spell 6 = .ok (.iastore, 1) := by decide +kernel
theorem dX6_spell_7 : decode cX6_spell 7 = .ok (.aload_n 0, 1) := by decide +kernel
theorem dX6_spell_8 : decode cX6_spell 8 = .ok (.getfield 13, 3) := by decide +kernel
theorem dX6_spell_11 : decode cX6_spell 11 = .ok (.iload_n 1, 1) := by decide +kernel
theorem dX6_spell_12 : decode cX6_spell 12 = .ok (.iconst 1, 1) := by decide +kernel
theorem dX6_spell_13 : decode cX6_spell 13 = .ok (.iadd, 1) := by decide +kernel
theorem dX6_spell_14 : decode cX6_spell 14 = .ok (.iload_n 3, 1) := by decide +kernel
theorem dX6_spell_15 : decode cX6_spell 15 = .ok (.iastore, 1) := by decide +kernel
theorem dX6_spell_16 : decode cX6_spell 16 = .ok (.aload_n 0, 1) := by decide +kernel
theorem dX6_spell_17 : decode cX6_spell 17 = .ok (.getfield 13, 3) := by decide +kernel
theorem dX6_spell_20 : decode cX6_spell 20 = .ok (.iload_n 1, 1) := by decide +kernel
theorem dX6_spell_21 : decode cX6_spell 21 = .ok (.iconst 2, 1) := by decide +kernel
theorem dX6_spell_22 : decode cX6_spell 22 = .ok (.iadd, 1) := by decide +kernel
theorem dX6_spell_23 : decode cX6_spell 23 = .ok (.iload 4, 2) := by decide +kernel
theorem dX6_spell_25 : decode cX6_spell 25 = .ok (.iastore, 1) := by decide +kernel
theorem dX6_spell_26 : decode cX6_spell 26 = .ok (.aload_n 0, 1) := by decide +kernel
theorem dX6_spell_27 : decode cX6_spell 27 = .ok (.getfield 13, 3) := by decide +kernel
theorem dX6_spell_30 : decode cX6_spell 30 = .ok (.iload_n 1, 1) := by decide +kernel
theorem dX6_spell_31 : decode cX6_spell 31 = .ok (.iconst 3, 1) := by decide +kernel
theorem dX6_spell_32 : decode cX6_spell 32 = .ok (.iadd, 1) := by decide +kernel
theorem dX6_spell_33 : decode cX6_spell 33 = .ok (.iload 5, 2) := by decide +kernel
theorem dX6_spell_35 : decode cX6_spell 35 = .ok (.iastore, 1) := by decide +kernel
theorem dX6_spell_36 : decode cX6_spell 36 = .ok (.aload_n 0, 1) := by decide +kernel
theorem dX6_spell_37 : decode cX6_spell 37 = .ok (.getfield 13, 3) := by decide +kernel
theorem dX6_spell_40 : decode cX6_spell 40 = .ok (.iload_n 1, 1) := by decide +kernel
theorem dX6_spell_41 : decode cX6_spell 41 = .ok (.iconst 4, 1) := by decide +kernel
theorem dX6_spell_42 : decode cX6_spell 42 = .ok (.iadd, 1) := by decide +kernel
theorem dX6_spell_43 : decode cX6_spell 43 = .ok (.iload 6, 2) := by decide +kernel
theorem dX6_spell_45 : decode cX6_spell 45 = .ok (.iastore, 1) := by decide +kernel
theorem dX6_spell_46 : decode cX6_spell 46 = .ok (.aload_n 0, 1) := by decide +kernel
theorem dX6_spell_47 : decode cX6_spell 47 = .ok (.getfield 13, 3) := by decide +kernel
theorem dX6_spell_50 : decode cX6_spell 50 = .ok (.iload_n 1, 1) := by decide +kernel
theorem dX6_spell_51 : decode cX6_spell 51 = .ok (.iconst 5, 1) := by decide +kernel
theorem dX6_spell_52 : decode cX6_spell 52 = .ok (.iadd, 1) := by decide +kernel
theorem dX6_spell_53 : decode cX6_spell 53 = .ok (.iload 7, 2) := by decide +kernel
theorem dX6_spell_55 : decode cX6_spell 55 = .ok (.iastore, 1) := by decide +kernel
theorem dX6_spell_56 : decode cX6_spell 56 = .ok (.aload_n 0, 1) := by decide +kernel
theorem dX6_spell_57 : decode cX6_spell 57 = .ok (.getfield 13, 3) := by decide +kernel
theorem dX6_spell_60 : decode cX6_spell 60 = .ok (.iload_n 1, 1) := by decide +kernel
theorem dX6_spell_61 : decode cX6_spell 61 = .ok (.bipush 6, 2) := by decide +kernel
theorem dX6_spell_63 : decode cX6_spell 63 = .ok (.iadd, 1) := by decide +kernel
theorem dX6_spell_64 : decode cX6_spell 64 = .ok (.iload 8, 2) := by decide +kernel
theorem dX6_spell_66 : decode cX6_spell 66 = .ok (.iastore, 1) := by decide +kernel
theorem dX6_spell_67 : decode cX6_spell 67 = .ok (.aload_n 0, 1) := by decide +kernel
theorem dX6_spell_68 : decode cX6_spell 68 = .ok (.getfield 13, 3) := by decide +kernel
theorem dX6_spell_71 : decode cX6_spell 71 = .ok (.iload_n 1, 1) := by decide +kernel
theorem dX6_spell_72 : decode cX6_spell 72 = .ok (.bipush 7, 2) := by decide +kernel
theorem dX6_spell_74 : decode cX6_spell 74 = .ok (.iadd, 1) := by decide +kernel
theorem dX6_spell_75 : decode cX6_spell 75 = .ok (.iload 9, 2) := by decide +kernel
theorem dX6_spell_77 : decode cX6_spell 77 = .ok (.iastore, 1) := by decide +kernel
theorem dX6_spell_78 : decode cX6_spell 78 = .ok (.return_, 1) := by decide +kernel
theorem dX6_isHold_0 : decode cX6_isHold 0 = .ok (.iload_n 1, 1) := by decide +kernel
theorem dX6_isHold_1 : decode cX6_isHold 1 = .ok (.i2l, 1) := by decide +kernel
theorem dX6_isHold_2 : decode cX6_isHold 2 = .ok (.lconst 0, 1) := by decide +kernel
theorem dX6_isHold_3 : decode cX6_isHold 3 = .ok (.aload_n 0, 1) := by decide +kernel
theorem dX6_isHold_4 : decode cX6_isHold 4 = .ok (.getfield 104, 3) := by decide +kernel
theorem dX6_isHold_7 : decode cX6_isHold 7 = .ok (.iconst 1, 1) := by decide +kernel
theorem dX6_isHold_8 : decode cX6_isHold 8 = .ok (.isub, 1) := by decide +kernel
theorem dX6_isHold_9 : decode cX6_isHold 9 = .ok (.i2l, 1) := by decide +kernel
theorem dX6_isHold_10 : decode cX6_isHold 10 = .ok (.invokestatic 107, 3) := by decide +kernel
theorem dX6_isHold_13 : decode cX6_isHold 13 = .ok (.ireturn, 1) := by decide +kernel
theorem dX6_isThing_0 : decode cX6_isThing 0 = .ok (.iload_n 1, 1) := by decide +kernel
theorem dX6_isThing_1 : decode cX6_isThing 1 = .ok (.i2l, 1) := by decide +kernel
theorem dX6_isThing_2 : decode cX6_isThing 2 = .ok (.lconst 0, 1) := by decide +kernel
theorem dX6_isThing_3 : decode cX6_isThing 3 = .ok (.aload_n 0, 1) := by decide +kernel
theorem dX6_isThing_4 : decode cX6_isThing 4 = .ok (.getfield 111, 3) := by decide +kernel
theorem dX6_isThing_7 : decode cX6_isThing 7 = .ok (.iconst 1, 1) := by decide +kernel
theorem dX6_isThing_8 : decode cX6_isThing 8 = .ok (.isub, 1) := by decide +kernel
theorem dX6_isThing_9 : decode cX6_isThing 9 = .ok (.i2l, 1) := by decide +kernel
theorem dX6_isThing_10 : decode cX6_isThing 10 = .ok (.invokestatic 107, 3) := by decide +kernel
theorem dX6_isThing_13 : decode cX6_isThing 13 = .ok (.ireturn, 1) := by decide +kernel
theorem dX6_roomOf_0 : decode cX6_roomOf 0 = .ok (.aload_n 0, 1) := by decide +kernel
theorem dX6_roomOf_1 : decode cX6_roomOf 1 = .ok (.getfield 23, 3) := by decide +kernel
theorem dX6_roomOf_4 : decode cX6_roomOf 4 = .ok (.iload_n 1, 1) := by decide +kernel
theorem dX6_roomOf_5 : decode cX6_roomOf 5 = .ok (.iaload, 1) := by decide +kernel
theorem dX6_roomOf_6 : decode cX6_roomOf 6 = .ok (.istore_n 2, 1) := by decide +kernel
theorem dX6_roomOf_7 : decode cX6_roomOf 7 = .ok (.aload_n 0, 1) := by decide +kernel
theorem dX6_roomOf_8 : decode cX6_roomOf 8 = .ok (.getfield 26, 3) := by decide +kernel
theorem dX6_roomOf_11 : decode cX6_roomOf 11 = .ok (.iload_n 1, 1) := by decide +kernel
theorem dX6_roomOf_12 : decode cX6_roomOf 12 = .ok (.iaload, 1) := by decide +kernel
theorem dX6_roomOf_13 : decode cX6_roomOf 13 = .ok (.bipush 6, 2) := by decide +kernel
theorem dX6_roomOf_15 : decode cX6_roomOf 15 = .ok (.iadd, 1) := by decide +kernel
theorem dX6_roomOf_16 : decode cX6_roomOf 16 = .ok (.istore_n 3, 1) := by decide +kernel
theorem dX6_roomOf_17 : decode cX6_roomOf 17 = .ok (.iload_n 2, 1) := by decide +kernel
theorem dX6_roomOf_18 : decode cX6_roomOf 18 = .ok (.ifCond .ne 7, 3) := by decide +kernel
theorem dX6_roomOf_21 : decode cX6_roomOf 21 = .ok (.iload_n 3, 1) := by decide +kernel
theorem dX6_roomOf_22 : decode cX6_roomOf 22 = .ok (.goto 51, 3) := by decide +kernel
theorem dX6_roomOf_25 : decode cX6_roomOf 25 = .ok (.iload_n 2, 1) := by decide +kernel
theorem dX6_roomOf_26 : decode cX6_roomOf 26 = .ok (.iconst 1, 1) := by decide +kernel
theorem dX6_roomOf_27 : decode cX6_roomOf 27 = .ok (.if_icmp .ne 9, 3) := by decide +kernel
theorem dX6_roomOf_30 : decode cX6_roomOf 30 = .ok (.iload_n 3, 1) := by decide +kernel
theorem dX6_roomOf_31 : decode cX6_roomOf 31 = .ok (.iconst 3, 1) := by decide +kernel
theorem dX6_roomOf_32 : decode cX6_roomOf 32 = .ok (.isub, 1) := by decide +kernel
theorem dX6_roomOf_33 : decode cX6_roomOf 33 = .ok (.goto 40, 3) := by decide +kernel
theorem dX6_roomOf_36 : decode cX6_roomOf 36 = .ok (.iload_n 2, 1) := by decide +kernel
theorem dX6_roomOf_37 : decode cX6_roomOf 37 = .ok (.iconst 2, 1) := by decide +kernel
theorem dX6_roomOf_38 : decode cX6_roomOf 38 = .ok (.if_icmp .eq 8, 3) := by decide +kernel
theorem dX6_roomOf_41 : decode cX6_roomOf 41 = .ok (.iload_n 2, 1) := by decide +kernel
theorem dX6_roomOf_42 : decode cX6_roomOf 42 = .ok (.iconst 5, 1) := by decide +kernel
theorem dX6_roomOf_43 : decode cX6_roomOf 43 = .ok (.if_icmp .ne 9, 3) := by decide +kernel
theorem dX6_roomOf_46 : decode cX6_roomOf 46 = .ok (.iconst 2, 1) := by decide +kernel
theorem dX6_roomOf_47 : decode cX6_roomOf 47 = .ok (.iload_n 3, 1) := by decide +kernel
theorem dX6_roomOf_48 : decode cX6_roomOf 48 = .ok (.imul, 1) := by decide +kernel
theorem dX6_roomOf_49 : decode cX6_roomOf 49 = .ok (.goto 24, 3) := by decide +kernel
theorem dX6_roomOf_52 : decode cX6_roomOf 52 = .ok (.iload_n 2, 1) := by decide +kernel
theorem dX6_roomOf_53 : decode cX6_roomOf 53 = .ok (.iconst 3, 1) := by decide +kernel
theorem dX6_roomOf_54 : decode cX6_roomOf 54 = .ok (.if_icmp .ne 11, 3) := by decide +kernel
theorem dX6_roomOf_57 : decode cX6_roomOf 57 = .ok (.iload_n 3, 1) := by decide +kernel
theorem dX6_roomOf_58 : decode cX6_roomOf 58 = .ok (.iconst 3, 1) := by decide +kernel
theorem dX6_roomOf_59 : decode cX6_roomOf 59 = .ok (.isub, 1) := by decide +kernel
theorem dX6_roomOf_60 : decode cX6_roomOf 60 = .ok (.iconst 2, 1) := by decide +kernel
theorem dX6_roomOf_61 : decode cX6_roomOf 61 = .ok (.idiv, 1) := by decide +kernel
theorem dX6_roomOf_62 : decode cX6_roomOf 62 = .ok (.goto 11, 3) := by decide +kernel
theorem dX6_roomOf_65 : decode cX6_roomOf 65 = .ok (.aload_n 0, 1) := by decide +kernel
theorem dX6_roomOf_66 : decode cX6_roomOf 66 = .ok (.getfield 26, 3) := by decide +kernel
theorem dX6_roomOf_69 : decode cX6_roomOf 69 = .ok (.iload_n 1, 1) := by decide +kernel
theorem dX6_roomOf_70 : decode cX6_roomOf 70 = .ok (.iaload, 1) := by decide +kernel
theorem dX6_roomOf_71 : decode cX6_roomOf 71 = .ok (.iconst 1, 1) := by decide +kernel
theorem dX6_roomOf_72 : decode cX6_roomOf 72 = .ok (.iadd, 1) := by decide +kernel
theorem dX6_roomOf_73 : decode cX6_roomOf 73 = .ok (.istore 4, 2) := by decide +kernel
theorem dX6_roomOf_75 : decode cX6_roomOf 75 = .ok (.iload_n 1, 1) := by decide +kernel
theorem dX6_roomOf_76 : decode cX6_roomOf 76 = .ok (.aload_n 0, 1) := by decide +kernel
theorem dX6_roomOf_77 : decode cX6_roomOf 77 = .ok (.getfield 47, 3) := by decide +kernel
theorem dX6_roomOf_80 : decode cX6_roomOf 80 = .ok (.if_icmp .ne 10, 3) := by decide +kernel
theorem dX6_roomOf_83 : decode cX6_roomOf 83 = .ok (.iload 4, 2) := by decide +kernel
theorem dX6_roomOf_85 : decode cX6_roomOf 85 = .ok (.iconst 1, 1) := by decide +kernel
theorem dX6_roomOf_86 : decode cX6_roomOf 86 = .ok (.iadd, 1) := by decide +kernel
theorem dX6_roomOf_87 : decode cX6_roomOf 87 = .ok (.goto 5, 3) := by decide +kernel
theorem dX6_roomOf_90 : decode cX6_roomOf 90 = .ok (.iload 4, 2) := by decide +kernel
theorem dX6_roomOf_92 : decode cX6_roomOf 92 = .ok (.ireturn, 1) := by decide +kernel
theorem dX6_mostOf_0 : decode cX6_mostOf 0 = .ok (.aload_n 0, 1) := by decide +kernel
theorem dX6_mostOf_1 : decode cX6_mostOf 1 = .ok (.getfield 23, 3) := by decide +kernel
theorem dX6_mostOf_4 : decode cX6_mostOf 4 = .ok (.iload_n 1, 1) := by decide +kernel
theorem dX6_mostOf_5 : decode cX6_mostOf 5 = .ok (.iaload, 1) := by decide +kernel
theorem dX6_mostOf_6 : decode cX6_mostOf 6 = .ok (.istore_n 2, 1) := by decide +kernel
theorem dX6_mostOf_7 : decode cX6_mostOf 7 = .ok (.iload_n 2, 1) := by decide +kernel
theorem dX6_mostOf_8 : decode cX6_mostOf 8 = .ok (.iconst 1, 1) := by decide +kernel
theorem dX6_mostOf_9 : decode cX6_mostOf 9 = .ok (.if_icmp .ne 7, 3) := by decide +kernel
theorem dX6_mostOf_12 : decode cX6_mostOf 12 = .ok (.iconst 3, 1) := by decide +kernel
theorem dX6_mostOf_13 : decode cX6_mostOf 13 = .ok (.goto 18, 3) := by decide +kernel
theorem dX6_mostOf_16 : decode cX6_mostOf 16 = .ok (.iload_n 2, 1) := by decide +kernel
theorem dX6_mostOf_17 : decode cX6_mostOf 17 = .ok (.iconst 3, 1) := by decide +kernel
theorem dX6_mostOf_18 : decode cX6_mostOf 18 = .ok (.if_icmp .eq 8, 3) := by decide +kernel
theorem dX6_mostOf_21 : decode cX6_mostOf 21 = .ok (.iload_n 2, 1) := by decide +kernel
theorem dX6_mostOf_22 : decode cX6_mostOf 22 = .ok (.iconst 4, 1) := by decide +kernel
theorem dX6_mostOf_23 : decode cX6_mostOf 23 = .ok (.if_icmp .ne 7, 3) := by decide +kernel
theorem dX6_mostOf_26 : decode cX6_mostOf 26 = .ok (.iconst 1, 1) := by decide +kernel
theorem dX6_mostOf_27 : decode cX6_mostOf 27 = .ok (.goto 4, 3) := by decide +kernel
theorem dX6_mostOf_30 : decode cX6_mostOf 30 = .ok (.iconst 5, 1) := by decide +kernel
theorem dX6_mostOf_31 : decode cX6_mostOf 31 = .ok (.ireturn, 1) := by decide +kernel
theorem dX6_wetOf_0 : decode cX6_wetOf 0 = .ok (.aload_n 0, 1) := by decide +kernel
theorem dX6_wetOf_1 : decode cX6_wetOf 1 = .ok (.getfield 23, 3) := by decide +kernel
theorem dX6_wetOf_4 : decode cX6_wetOf 4 = .ok (.iload_n 1, 1) := by decide +kernel
theorem dX6_wetOf_5 : decode cX6_wetOf 5 = .ok (.iaload, 1) := by decide +kernel
theorem dX6_wetOf_6 : decode cX6_wetOf 6 = .ok (.iconst 5, 1) := by decide +kernel
theorem dX6_wetOf_7 : decode cX6_wetOf 7 = .ok (.if_icmp .ne 7, 3) := by decide +kernel
theorem dX6_wetOf_10 : decode cX6_wetOf 10 = .ok (.iconst 1, 1) := by decide +kernel
theorem dX6_wetOf_11 : decode cX6_wetOf 11 = .ok (.goto 4, 3) := by decide +kernel
theorem dX6_wetOf_14 : decode cX6_wetOf 14 = .ok (.iconst 0, 1) := by decide +kernel
theorem dX6_wetOf_15 : decode cX6_wetOf 15 = .ok (.ireturn, 1) := by decide +kernel
theorem dX6_opensOf_0 : decode cX6_opensOf 0 = .ok (.aload_n 0, 1) := by decide +kernel
theorem dX6_opensOf_1 : decode cX6_opensOf 1 = .ok (.getfield 23, 3) := by decide +kernel
theorem dX6_opensOf_4 : decode cX6_opensOf 4 = .ok (.iload_n 1, 1) := by decide +kernel
theorem dX6_opensOf_5 : decode cX6_opensOf 5 = .ok (.iaload, 1) := by decide +kernel
theorem dX6_opensOf_6 : decode cX6_opensOf 6 = .ok (.iconst 1, 1) := by decide +kernel
theorem dX6_opensOf_7 : decode cX6_opensOf 7 = .ok (.if_icmp .ne 7, 3) := by decide +kernel
theorem dX6_opensOf_10 : decode cX6_opensOf 10 = .ok (.iconst 1, 1) := by decide +kernel
theorem dX6_opensOf_11 : decode cX6_opensOf 11 = .ok (.goto 4, 3) := by decide +kernel
theorem dX6_opensOf_14 : decode cX6_opensOf 14 = .ok (.iconst 0, 1) := by decide +kernel
theorem dX6_opensOf_15 : decode cX6_opensOf 15 = .ok (.ireturn, 1) := by decide +kernel
theorem dX6_inside_0 : decode cX6_inside 0 = .ok (.iconst 0, 1) := by decide +kernel
theorem dX6_inside_1 : decode cX6_inside 1 = .ok (.istore_n 2, 1) := by decide +kernel
theorem dX6_inside_2 : decode cX6_inside 2 = .ok (.iconst 0, 1) := by decide +kernel
theorem dX6_inside_3 : decode cX6_inside 3 = .ok (.istore_n 3, 1) := by decide +kernel
theorem dX6_inside_4 : decode cX6_inside 4 = .ok (.iload_n 3, 1) := by decide +kernel
theorem dX6_inside_5 : decode cX6_inside 5 = .ok (.aload_n 0, 1) := by decide +kernel
theorem dX6_inside_6 : decode cX6_inside 6 = .ok (.getfield 111, 3) := by decide +kernel
theorem dX6_inside_9 : decode cX6_inside 9 = .ok (.if_icmp .ge 37, 3) := by decide +kernel
theorem dX6_inside_12 : decode cX6_inside 12 = .ok (.iload_n 2, 1) := by decide +kernel
theorem dX6_inside_13 : decode cX6_inside 13 = .ok (.iload_n 3, 1) := by decide +kernel
theorem dX6_inside_14 : decode cX6_inside 14 = .ok (.aload_n 0, 1) := by decide +kernel
theorem dX6_inside_15 : decode cX6_inside 15 = .ok (.getfield 50, 3) := by decide +kernel
theorem dX6_inside_18 : decode cX6_inside 18 = .ok (.if_icmp .eq 17, 3) := by decide +kernel
theorem dX6_inside_21 : decode cX6_inside 21 = .ok (.aload_n 0, 1) := by decide +kernel
theorem dX6_inside_22 : decode cX6_inside 22 = .ok (.getfield 35, 3) := by decide +kernel
theorem dX6_inside_25 : decode cX6_inside 25 = .ok (.iload_n 3, 1) := by decide +kernel
theorem dX6_inside_26 : decode cX6_inside 26 = .ok (.iaload, 1) := by decide +kernel
theorem dX6_inside_27 : decode cX6_inside 27 = .ok (.iload_n 1, 1) := by decide +kernel
theorem dX6_inside_28 : decode cX6_inside 28 = .ok (.if_icmp .ne 7, 3) := by decide +kernel
theorem dX6_inside_31 : decode cX6_inside 31 = .ok (.iconst 1, 1) := by decide +kernel
theorem dX6_inside_32 : decode cX6_inside 32 = .ok (.goto 4, 3) := by decide +kernel
theorem dX6_inside_35 : decode cX6_inside 35 = .ok (.iconst 0, 1) := by decide +kernel
theorem dX6_inside_36 : decode cX6_inside 36 = .ok (.iload_n 3, 1) := by decide +kernel
theorem dX6_inside_37 : decode cX6_inside 37 = .ok (.ishl, 1) := by decide +kernel
theorem dX6_inside_38 : decode cX6_inside 38 = .ok (.ior, 1) := by decide +kernel
theorem dX6_inside_39 : decode cX6_inside 39 = .ok (.istore_n 2, 1) := by decide +kernel
theorem dX6_inside_40 : decode cX6_inside 40 = .ok (.iinc 3 1, 3) := by decide +kernel
theorem dX6_inside_43 : decode cX6_inside 43 = .ok (.goto (-39), 3) := by decide +kernel
theorem dX6_inside_46 : decode cX6_inside 46 = .ok (.iload_n 2, 1) := by decide +kernel
theorem dX6_inside_47 : decode cX6_inside 47 = .ok (.ireturn, 1) := by decide +kernel
theorem dX6_sizeOf_0 : decode cX6_sizeOf 0 = .ok (.iconst 0, 1) := by decide +kernel
theorem dX6_sizeOf_1 : decode cX6_sizeOf 1 = .ok (.istore_n 2, 1) := by decide +kernel
theorem dX6_sizeOf_2 : decode cX6_sizeOf 2 = .ok (.iconst 0, 1) := by decide +kernel
theorem dX6_sizeOf_3 : decode cX6_sizeOf 3 = .ok (.istore_n 3, 1) := by decide +kernel
theorem dX6_sizeOf_4 : decode cX6_sizeOf 4 = .ok (.iload_n 3, 1) := by decide +kernel
theorem dX6_sizeOf_5 : decode cX6_sizeOf 5 = .ok (.aload_n 0, 1) := by decide +kernel
theorem dX6_sizeOf_6 : decode cX6_sizeOf 6 = .ok (.getfield 111, 3) := by decide +kernel
theorem dX6_sizeOf_9 : decode cX6_sizeOf 9 = .ok (.if_icmp .ge 31, 3) := by decide +kernel
theorem dX6_sizeOf_12 : decode cX6_sizeOf 12 = .ok (.iload_n 2, 1) := by decide +kernel
theorem dX6_sizeOf_13 : decode cX6_sizeOf 13 = .ok (.iload_n 1, 1) := by decide +kernel
theorem dX6_sizeOf_14 : decode cX6_sizeOf 14 = .ok (.iload_n 3, 1) := by decide +kernel
theorem dX6_sizeOf_15 : decode cX6_sizeOf 15 = .ok (.ishr, 1) := by decide +kernel
theorem dX6_sizeOf_16 : decode cX6_sizeOf 16 = .ok (.iconst 1, 1) := by decide +kernel
theorem dX6_sizeOf_17 : decode cX6_sizeOf 17 = .ok (.iand, 1) := by decide +kernel
theorem dX6_sizeOf_18 : decode cX6_sizeOf 18 = .ok (.iconst 1, 1) := by decide +kernel
theorem dX6_sizeOf_19 : decode cX6_sizeOf 19 = .ok (.if_icmp .ne 12, 3) := by decide +kernel
theorem dX6_sizeOf_22 : decode cX6_sizeOf 22 = .ok (.aload_n 0, 1) := by decide +kernel
theorem dX6_sizeOf_23 : decode cX6_sizeOf 23 = .ok (.getfield 29, 3) := by decide +kernel
theorem dX6_sizeOf_26 : decode cX6_sizeOf 26 = .ok (.iload_n 3, 1) := by decide +kernel
theorem dX6_sizeOf_27 : decode cX6_sizeOf 27 = .ok (.iaload, 1) := by decide +kernel
theorem dX6_sizeOf_28 : decode cX6_sizeOf 28 = .ok (.goto 4, 3) := by decide +kernel
theorem dX6_sizeOf_31 : decode cX6_sizeOf 31 = .ok (.iconst 0, 1) := by decide +kernel
theorem dX6_sizeOf_32 : decode cX6_sizeOf 32 = .ok (.iadd, 1) := by decide +kernel
theorem dX6_sizeOf_33 : decode cX6_sizeOf 33 = .ok (.istore_n 2, 1) := by decide +kernel
theorem dX6_sizeOf_34 : decode cX6_sizeOf 34 = .ok (.iinc 3 1, 3) := by decide +kernel
theorem dX6_sizeOf_37 : decode cX6_sizeOf 37 = .ok (.goto (-33), 3) := by decide +kernel
theorem dX6_sizeOf_40 : decode cX6_sizeOf 40 = .ok (.iload_n 2, 1) := by decide +kernel
theorem dX6_sizeOf_41 : decode cX6_sizeOf 41 = .ok (.ireturn, 1) := by decide +kernel
theorem dX6_bars_0 : decode cX6_bars 0 = .ok (.aload_n 0, 1) := by decide +kernel
theorem dX6_bars_1 : decode cX6_bars 1 = .ok (.iload 5, 2) := by decide +kernel
theorem dX6_bars_3 : decode cX6_bars 3 = .ok (.invokevirtual 114, 3) := by decide +kernel
theorem dX6_bars_6 : decode cX6_bars 6 = .ok (.iload_n 1, 1) := by decide +kernel
theorem dX6_bars_7 : decode cX6_bars 7 = .ok (.iadd, 1) := by decide +kernel
theorem dX6_bars_8 : decode cX6_bars 8 = .ok (.aload_n 0, 1) := by decide +kernel
theorem dX6_bars_9 : decode cX6_bars 9 = .ok (.iload 4, 2) := by decide +kernel
theorem dX6_bars_11 : decode cX6_bars 11 = .ok (.invokevirtual 118, 3) := by decide +kernel
theorem dX6_bars_14 : decode cX6_bars 14 = .ok (.if_icmp .le 5, 3) := by decide +kernel
theorem dX6_bars_17 : decode cX6_bars 17 = .ok (.iconst 2, 1) := by decide +kernel
theorem dX6_bars_18 : decode cX6_bars 18 = .ok (.ireturn, 1) := by decide +kernel
theorem dX6_bars_19 : decode cX6_bars 19 = .ok (.iload 5, 2) := by decide +kernel
theorem dX6_bars_21 : decode cX6_bars 21 = .ok (.invokestatic 121, 3) := by decide +kernel
theorem dX6_bars_24 : decode cX6_bars 24 = .ok (.iconst 1, 1) := by decide +kernel
theorem dX6_bars_25 : decode cX6_bars 25 = .ok (.iadd, 1) := by decide +kernel
theorem dX6_bars_26 : decode cX6_bars 26 = .ok (.aload_n 0, 1) := by decide +kernel
theorem dX6_bars_27 : decode cX6_bars 27 = .ok (.iload 4, 2) := by decide +kernel
theorem dX6_bars_29 : decode cX6_bars 29 = .ok (.invokevirtual 124, 3) := by decide +kernel
theorem dX6_bars_32 : decode cX6_bars 32 = .ok (.if_icmp .le 5, 3) := by decide +kernel
theorem dX6_bars_35 : decode cX6_bars 35 = .ok (.iconst 3, 1) := by decide +kernel
theorem dX6_bars_36 : decode cX6_bars 36 = .ok (.ireturn, 1) := by decide +kernel
theorem dX6_bars_37 : decode cX6_bars 37 = .ok (.iload_n 2, 1) := by decide +kernel
theorem dX6_bars_38 : decode cX6_bars 38 = .ok (.iconst 1, 1) := by decide +kernel
theorem dX6_bars_39 : decode cX6_bars 39 = .ok (.if_icmp .ne 15, 3) := by decide +kernel
theorem dX6_bars_42 : decode cX6_bars 42 = .ok (.aload_n 0, 1) := by decide +kernel
theorem dX6_bars_43 : decode cX6_bars 43 = .ok (.iload 4, 2) := by decide +kernel
theorem dX6_bars_45 : decode cX6_bars 45 = .ok (.invokevirtual 127, 3) := by decide +kernel
theorem dX6_bars_48 : decode cX6_bars 48 = .ok (.iconst 1, 1) := by decide +kernel
theorem dX6_bars_49 : decode cX6_bars 49 = .ok (.if_icmp .ne 5, 3) := by decide +kernel
theorem dX6_bars_52 : decode cX6_bars 52 = .ok (.iconst 4, 1) := by decide +kernel
theorem dX6_bars_53 : decode cX6_bars 53 = .ok (.ireturn, 1) := by decide +kernel
theorem dX6_bars_54 : decode cX6_bars 54 = .ok (.iload 5, 2) := by decide +kernel
theorem dX6_bars_56 : decode cX6_bars 56 = .ok (.iload_n 3, 1) := by decide +kernel
theorem dX6_bars_57 : decode cX6_bars 57 = .ok (.iand, 1) := by decide +kernel
theorem dX6_bars_58 : decode cX6_bars 58 = .ok (.ifCond .eq 7, 3) := by decide +kernel
theorem dX6_bars_61 : decode cX6_bars 61 = .ok (.iconst 5, 1) := by decide +kernel
theorem dX6_bars_62 : decode cX6_bars 62 = .ok (.goto 4, 3) := by decide +kernel
theorem dX6_bars_65 : decode cX6_bars 65 = .ok (.iconst 0, 1) := by decide +kernel
theorem dX6_bars_66 : decode cX6_bars 66 = .ok (.ireturn, 1) := by decide +kernel
theorem dX6_barsThing_0 : decode cX6_barsThing 0 = .ok (.aload_n 0, 1) := by decide +kernel
theorem dX6_barsThing_1 : decode cX6_barsThing 1 = .ok (.aload_n 0, 1) := by decide +kernel
theorem dX6_barsThing_2 : decode cX6_barsThing 2 = .ok (.getfield 29, 3) := by decide +kernel
theorem dX6_barsThing_5 : decode cX6_barsThing 5 = .ok (.iload_n 1, 1) := by decide +kernel
theorem dX6_barsThing_6 : decode cX6_barsThing 6 = .ok (.iaload, 1) := by decide +kernel
theorem dX6_barsThing_7 : decode cX6_barsThing 7 = .ok (.aload_n 0, 1) := by decide +kernel
theorem dX6_barsThing_8 : decode cX6_barsThing 8 = .ok (.getfield 32, 3) := by decide +kernel
theorem dX6_barsThing_11 : decode cX6_barsThing 11 = .ok (.iload_n 1, 1) := by decide +kernel
theorem dX6_barsThing_12 : decode cX6_barsThing 12 = .ok (.iaload, 1) := by decide +kernel
theorem dX6_barsThing_13 : decode cX6_barsThing 13 = .ok (.aload_n 0, 1) := by decide +kernel
theorem dX6_barsThing_14 : decode cX6_barsThing 14 = .ok (.getfield 38, 3) := by decide +kernel
theorem dX6_barsThing_17 : decode cX6_barsThing 17 = .ok (.iload_n 1, 1) := by decide +kernel
theorem dX6_barsThing_18 : decode cX6_barsThing 18 = .ok (.iaload, 1) := by decide +kernel
theorem dX6_barsThing_19 : decode cX6_barsThing 19 = .ok (.iload_n 2, 1) := by decide +kernel
theorem dX6_barsThing_20 : decode cX6_barsThing 20 = .ok (.aload_n 0, 1) := by decide +kernel
theorem dX6_barsThing_21 : decode cX6_barsThing 21 = .ok (.iload_n 2, 1) := by decide +kernel
theorem dX6_barsThing_22 : decode cX6_barsThing 22 = .ok (.invokevirtual 130, 3) := by decide +kernel
theorem dX6_barsThing_25 : decode cX6_barsThing 25 = .ok (.iconst 1, 1) := by decide +kernel
theorem dX6_barsThing_26 : decode cX6_barsThing 26 = .ok (.iload_n 1, 1) := by decide +kernel
theorem dX6_barsThing_27 : decode cX6_barsThing 27 = .ok (.ishl, 1) := by decide +kernel
theorem dX6_barsThing_28 : decode cX6_barsThing 28 = .ok (.iconst (-1), 1) := by decide +kernel
theorem dX6_barsThing_29 : decode cX6_barsThing 29 = .ok (.ixor, 1) := by decide +kernel
theorem dX6_barsThing_30 : decode cX6_barsThing 30 = .ok (.iand, 1) := by decide +kernel
theorem dX6_barsThing_31 : decode cX6_barsThing 31 = .ok (.invokevirtual 133, 3) := by decide +kernel
theorem dX6_barsThing_34 : decode cX6_barsThing 34 = .ok (.ireturn, 1) := by decide +kernel
theorem dX6_canGo_0 : decode cX6_canGo 0 = .ok (.iload_n 1, 1) := by decide +kernel
theorem dX6_canGo_1 : decode cX6_canGo 1 = .ok (.aload_n 0, 1) := by decide +kernel
theorem dX6_canGo_2 : decode cX6_canGo 2 = .ok (.getfield 50, 3) := by decide +kernel
theorem dX6_canGo_5 : decode cX6_canGo 5 = .ok (.if_icmp .eq 26, 3) := by decide +kernel
theorem dX6_canGo_8 : decode cX6_canGo 8 = .ok (.aload_n 0, 1) := by decide +kernel
theorem dX6_canGo_9 : decode cX6_canGo 9 = .ok (.getfield 35, 3) := by decide +kernel
theorem dX6_canGo_12 : decode cX6_canGo 12 = .ok (.iload_n 1, 1) := by decide +kernel
theorem dX6_canGo_13 : decode cX6_canGo 13 = .ok (.iaload, 1) := by decide +kernel
theorem dX6_canGo_14 : decode cX6_canGo 14 = .ok (.iload_n 2, 1) := by decide +kernel
theorem dX6_canGo_15 : decode cX6_canGo 15 = .ok (.if_icmp .eq 16, 3) := by decide +kernel
theorem dX6_canGo_18 : decode cX6_canGo 18 = .ok (.aload_n 0, 1) := by decide +kernel
theorem dX6_canGo_19 : decode cX6_canGo 19 = .ok (.iload_n 1, 1) := by decide +kernel
theorem dX6_canGo_20 : decode cX6_canGo 20 = .ok (.iload_n 2, 1) := by decide +kernel
theorem dX6_canGo_21 : decode cX6_canGo 21 = .ok (.invokevirtual 137, 3) := by decide +kernel
theorem dX6_canGo_24 : decode cX6_canGo 24 = .ok (.ifCond .ne 7, 3) := by decide +kernel
theorem dX6_canGo_27 : decode cX6_canGo 27 = .ok (.iconst 1, 1) := by decide +kernel
theorem dX6_canGo_28 : decode cX6_canGo 28 = .ok (.goto 4, 3) := by decide +kernel
theorem dX6_canGo_31 : decode cX6_canGo 31 = .ok (.iconst 0, 1) := by decide +kernel
theorem dX6_canGo_32 : decode cX6_canGo 32 = .ok (.ireturn, 1) := by decide +kernel
theorem dX6_hold_0 : decode cX6_hold 0 = .ok (.iload_n 1, 1) := by decide +kernel
theorem dX6_hold_1 : decode cX6_hold 1 = .ok (.i2l, 1) := by decide +kernel
theorem dX6_hold_2 : decode cX6_hold 2 = .ok (.lconst 0, 1) := by decide +kernel
theorem dX6_hold_3 : decode cX6_hold 3 = .ok (.ldc2_w 141, 3) := by decide +kernel
theorem dX6_hold_6 : decode cX6_hold 6 = .ok (.invokestatic 107, 3) := by decide +kernel
theorem dX6_hold_9 : decode cX6_hold 9 = .ok (.ifCond .eq 15, 3) := by decide +kernel
theorem dX6_hold_12 : decode cX6_hold 12 = .ok (.iload_n 2, 1) := by decide +kernel
theorem dX6_hold_13 : decode cX6_hold 13 = .ok (.i2l, 1) := by decide +kernel
theorem dX6_hold_14 : decode cX6_hold 14 = .ok (.lconst 0, 1) := by decide +kernel
theorem dX6_hold_15 : decode cX6_hold 15 = .ok (.ldc2_w 143, 3) := by decide +kernel
theorem dX6_hold_18 : decode cX6_hold 18 = .ok (.invokestatic 107, 3) := by decide +kernel
theorem dX6_hold_21 : decode cX6_hold 21 = .ok (.ifCond .ne 6, 3) := by decide +kernel
theorem dX6_hold_24 : decode cX6_hold 24 = .ok (.bipush (-2), 2) := by decide +kernel
theorem dX6_hold_26 : decode cX6_hold 26 = .ok (.ireturn, 1) := by decide +kernel
theorem dX6_hold_27 : decode cX6_hold 27 = .ok (.aload_n 0, 1) := by decide +kernel
theorem dX6_hold_28 : decode cX6_hold 28 = .ok (.getfield 104, 3) := by decide +kernel
theorem dX6_hold_31 : decode cX6_hold 31 = .ok (.iconst 5, 1) := by decide +kernel
theorem dX6_hold_32 : decode cX6_hold 32 = .ok (.if_icmp .ne 6, 3) := by decide +kernel
theorem dX6_hold_35 : decode cX6_hold 35 = .ok (.bipush (-4), 2) := by decide +kernel
theorem dX6_hold_37 : decode cX6_hold 37 = .ok (.ireturn, 1) := by decide +kernel
theorem dX6_hold_38 : decode cX6_hold 38 = .ok (.aload_n 0, 1) := by decide +kernel
theorem dX6_hold_39 : decode cX6_hold 39 = .ok (.getfield 23, 3) := by decide +kernel
theorem dX6_hold_42 : decode cX6_hold 42 = .ok (.aload_n 0, 1) := by decide +kernel
theorem dX6_hold_43 : decode cX6_hold 43 = .ok (.getfield 104, 3) := by decide +kernel
theorem dX6_hold_46 : decode cX6_hold 46 = .ok (.iload_n 1, 1) := by decide +kernel
theorem dX6_hold_47 : decode cX6_hold 47 = .ok (.iastore, 1) := by decide +kernel
theorem dX6_hold_48 : decode cX6_hold 48 = .ok (.aload_n 0, 1) := by decide +kernel
theorem dX6_hold_49 : decode cX6_hold 49 = .ok (.getfield 26, 3) := by decide +kernel
theorem dX6_hold_52 : decode cX6_hold 52 = .ok (.aload_n 0, 1) := by decide +kernel
theorem dX6_hold_53 : decode cX6_hold 53 = .ok (.getfield 104, 3) := by decide +kernel
theorem dX6_hold_56 : decode cX6_hold 56 = .ok (.iload_n 2, 1) := by decide +kernel
theorem dX6_hold_57 : decode cX6_hold 57 = .ok (.iastore, 1) := by decide +kernel
theorem dX6_hold_58 : decode cX6_hold 58 = .ok (.aload_n 0, 1) := by decide +kernel
theorem dX6_hold_59 : decode cX6_hold 59 = .ok (.dup, 1) := by decide +kernel
theorem dX6_hold_60 : decode cX6_hold 60 = .ok (.getfield 104, 3) := by decide +kernel
theorem dX6_hold_63 : decode cX6_hold 63 = .ok (.iconst 1, 1) := by decide +kernel
theorem dX6_hold_64 : decode cX6_hold 64 = .ok (.iadd, 1) := by decide +kernel
theorem dX6_hold_65 : decode cX6_hold 65 = .ok (.putfield 104, 3) := by decide +kernel
theorem dX6_hold_68 : decode cX6_hold 68 = .ok (.aload_n 0, 1) := by decide +kernel
theorem dX6_hold_69 : decode cX6_hold 69 = .ok (.getfield 104, 3) := by decide +kernel
theorem dX6_hold_72 : decode cX6_hold 72 = .ok (.iconst 1, 1) := by decide +kernel
theorem dX6_hold_73 : decode cX6_hold 73 = .ok (.isub, 1) := by decide +kernel
theorem dX6_hold_74 : decode cX6_hold 74 = .ok (.ireturn, 1) := by decide +kernel
theorem dX6_thing_0 : decode cX6_thing 0 = .ok (.iload_n 1, 1) := by decide +kernel
theorem dX6_thing_1 : decode cX6_thing 1 = .ok (.i2l, 1) := by decide +kernel
theorem dX6_thing_2 : decode cX6_thing 2 = .ok (.ldc2_w 145, 3) := by decide +kernel
theorem dX6_thing_5 : decode cX6_thing 5 = .ok (.ldc2_w 147, 3) := by decide +kernel
theorem dX6_thing_8 : decode cX6_thing 8 = .ok (.invokestatic 107, 3) := by decide +kernel
theorem dX6_thing_11 : decode cX6_thing 11 = .ok (.ifCond .eq 19, 3) := by decide +kernel
theorem dX6_thing_14 : decode cX6_thing 14 = .ok (.iload_n 1, 1) := by decide +kernel
theorem dX6_thing_15 : decode cX6_thing 15 = .ok (.bipush 10, 2) := by decide +kernel
theorem dX6_thing_17 : decode cX6_thing 17 = .ok (.irem, 1) := by decide +kernel
theorem dX6_thing_18 : decode cX6_thing 18 = .ok (.iconst 1, 1) := by decide +kernel
theorem dX6_thing_19 : decode cX6_thing 19 = .ok (.if_icmp .gt 11, 3) := by decide +kernel
theorem dX6_thing_22 : decode cX6_thing 22 = .ok (.aload_n 0, 1) := by decide +kernel
theorem dX6_thing_23 : decode cX6_thing 23 = .ok (.iload_n 2, 1) := by decide +kernel
theorem dX6_thing_24 : decode cX6_thing 24 = .ok (.invokevirtual 149, 3) := by decide +kernel
theorem dX6_thing_27 : decode cX6_thing 27 = .ok (.ifCond .ne 6, 3) := by decide +kernel
theorem dX6_thing_30 : decode cX6_thing 30 = .ok (.bipush (-2), 2) := by decide +kernel
theorem dX6_thing_32 : decode cX6_thing 32 = .ok (.ireturn, 1) := by decide +kernel
theorem dX6_thing_33 : decode cX6_thing 33 = .ok (.aload_n 0, 1) := by decide +kernel
theorem dX6_thing_34 : decode cX6_thing 34 = .ok (.getfield 111, 3) := by decide +kernel
theorem dX6_thing_37 : decode cX6_thing 37 = .ok (.iconst 5, 1) := by decide +kernel
theorem dX6_thing_38 : decode cX6_thing 38 = .ok (.if_icmp .ne 6, 3) := by decide +kernel
theorem dX6_thing_41 : decode cX6_thing 41 = .ok (.bipush (-4), 2) := by decide +kernel
theorem dX6_thing_43 : decode cX6_thing 43 = .ok (.ireturn, 1) := by decide +kernel
theorem dX6_thing_44 : decode cX6_thing 44 = .ok (.aload_n 0, 1) := by decide +kernel
theorem dX6_thing_45 : decode cX6_thing 45 = .ok (.iload_n 1, 1) := by decide +kernel
theorem dX6_thing_46 : decode cX6_thing 46 = .ok (.bipush 10, 2) := by decide +kernel
theorem dX6_thing_48 : decode cX6_thing 48 = .ok (.idiv, 1) := by decide +kernel
theorem dX6_thing_49 : decode cX6_thing 49 = .ok (.iload_n 1, 1) := by decide +kernel
theorem dX6_thing_50 : decode cX6_thing 50 = .ok (.bipush 10, 2) := by decide +kernel
theorem dX6_thing_52 : decode cX6_thing 52 = .ok (.irem, 1) := by decide +kernel
theorem dX6_thing_53 : decode cX6_thing 53 = .ok (.iconst 0, 1) := by decide +kernel
theorem dX6_thing_54 : decode cX6_thing 54 = .ok (.iload_n 2, 1) := by decide +kernel
theorem dX6_thing_55 : decode cX6_thing 55 = .ok (.aload_n 0, 1) := by decide +kernel
theorem dX6_thing_56 : decode cX6_thing 56 = .ok (.iload_n 2, 1) := by decide +kernel
theorem dX6_thing_57 : decode cX6_thing 57 = .ok (.invokevirtual 130, 3) := by decide +kernel
theorem dX6_thing_60 : decode cX6_thing 60 = .ok (.invokevirtual 133, 3) := by decide +kernel
theorem dX6_thing_63 : decode cX6_thing 63 = .ok (.ifCond .eq 6, 3) := by decide +kernel
theorem dX6_thing_66 : decode cX6_thing 66 = .ok (.bipush (-3), 2) := by decide +kernel
theorem dX6_thing_68 : decode cX6_thing 68 = .ok (.ireturn, 1) := by decide +kernel
theorem dX6_thing_69 : decode cX6_thing 69 = .ok (.aload_n 0, 1) := by decide +kernel
theorem dX6_thing_70 : decode cX6_thing 70 = .ok (.getfield 29, 3) := by decide +kernel
theorem dX6_thing_73 : decode cX6_thing 73 = .ok (.aload_n 0, 1) := by decide +kernel
theorem dX6_thing_74 : decode cX6_thing 74 = .ok (.getfield 111, 3) := by decide +kernel
theorem dX6_thing_77 : decode cX6_thing 77 = .ok (.iload_n 1, 1) := by decide +kernel
theorem dX6_thing_78 : decode cX6_thing 78 = .ok (.bipush 10, 2) := by decide +kernel
theorem dX6_thing_80 : decode cX6_thing 80 = .ok (.idiv, 1) := by decide +kernel
theorem dX6_thing_81 : decode cX6_thing 81 = .ok (.iastore, 1) := by decide +kernel
theorem dX6_thing_82 : decode cX6_thing 82 = .ok (.aload_n 0, 1) := by decide +kernel
theorem dX6_thing_83 : decode cX6_thing 83 = .ok (.getfield 32, 3) := by decide +kernel
theorem dX6_thing_86 : decode cX6_thing 86 = .ok (.aload_n 0, 1) := by decide +kernel
theorem dX6_thing_87 : decode cX6_thing 87 = .ok (.getfield 111, 3) := by decide +kernel
theorem dX6_thing_90 : decode cX6_thing 90 = .ok (.iload_n 1, 1) := by decide +kernel
theorem dX6_thing_91 : decode cX6_thing 91 = .ok (.bipush 10, 2) := by decide +kernel
theorem dX6_thing_93 : decode cX6_thing 93 = .ok (.irem, 1) := by decide +kernel
theorem dX6_thing_94 : decode cX6_thing 94 = .ok (.iastore, 1) := by decide +kernel
theorem dX6_thing_95 : decode cX6_thing 95 = .ok (.aload_n 0, 1) := by decide +kernel
theorem dX6_thing_96 : decode cX6_thing 96 = .ok (.getfield 35, 3) := by decide +kernel
theorem dX6_thing_99 : decode cX6_thing 99 = .ok (.aload_n 0, 1) := by decide +kernel
theorem dX6_thing_100 : decode cX6_thing 100 = .ok (.getfield 111, 3) := by decide +kernel
theorem dX6_thing_103 : decode cX6_thing 103 = .ok (.iload_n 2, 1) := by decide +kernel
theorem dX6_thing_104 : decode cX6_thing 104 = .ok (.iastore, 1) := by decide +kernel
theorem dX6_thing_105 : decode cX6_thing 105 = .ok (.aload_n 0, 1) := by decide +kernel
theorem dX6_thing_106 : decode cX6_thing 106 = .ok (.getfield 38, 3) := by decide +kernel
theorem dX6_thing_109 : decode cX6_thing 109 = .ok (.aload_n 0, 1) := by decide +kernel
theorem dX6_thing_110 : decode cX6_thing 110 = .ok (.getfield 111, 3) := by decide +kernel
theorem dX6_thing_113 : decode cX6_thing 113 = .ok (.iconst 0, 1) := by decide +kernel
theorem dX6_thing_114 : decode cX6_thing 114 = .ok (.iastore, 1) := by decide +kernel
theorem dX6_thing_115 : decode cX6_thing 115 = .ok (.iconst 0, 1) := by decide +kernel
theorem dX6_thing_116 : decode cX6_thing 116 = .ok (.istore_n 3, 1) := by decide +kernel
theorem dX6_thing_117 : decode cX6_thing 117 = .ok (.iload_n 3, 1) := by decide +kernel
theorem dX6_thing_118 : decode cX6_thing 118 = .ok (.iconst 5, 1) := by decide +kernel
theorem dX6_thing_119 : decode cX6_thing 119 = .ok (.if_icmp .ge 26, 3) := by decide +kernel
theorem dX6_thing_122 : decode cX6_thing 122 = .ok (.aload_n 0, 1) := by decide +kernel
theorem dX6_thing_123 : decode cX6_thing 123 = .ok (.getfield 38, 3) := by decide +kernel
theorem dX6_thing_126 : decode cX6_thing 126 = .ok (.iload_n 3, 1) := by decide +kernel
theorem dX6_thing_127 : decode cX6_thing 127 = .ok (.dup2, 1) := by decide +kernel
theorem dX6_thing_128 : decode cX6_thing 128 = .ok (.iaload, 1) := by decide +kernel
theorem dX6_thing_129 : decode cX6_thing 129 = .ok (.iconst 1, 1) := by decide +kernel
theorem dX6_thing_130 : decode cX6_thing 130 = .ok (.aload_n 0, 1) := by decide +kernel
theorem dX6_thing_131 : decode cX6_thing 131 = .ok (.getfield 111, 3) := by decide +kernel
theorem dX6_thing_134 : decode cX6_thing 134 = .ok (.ishl, 1) := by decide +kernel
theorem dX6_thing_135 : decode cX6_thing 135 = .ok (.iconst (-1), 1) := by decide +kernel
theorem dX6_thing_136 : decode cX6_thing 136 = .ok (.ixor, 1) := by decide +kernel
theorem dX6_thing_137 : decode cX6_thing 137 = .ok (.iand, 1) := by decide +kernel
theorem dX6_thing_138 : decode cX6_thing 138 = .ok (.iastore, 1) := by decide +kernel
theorem dX6_thing_139 : decode cX6_thing 139 = .ok (.iinc 3 1, 3) := by decide +kernel
theorem dX6_thing_142 : decode cX6_thing 142 = .ok (.goto (-25), 3) := by decide +kernel
theorem dX6_thing_145 : decode cX6_thing 145 = .ok (.aload_n 0, 1) := by decide +kernel
theorem dX6_thing_146 : decode cX6_thing 146 = .ok (.dup, 1) := by decide +kernel
theorem dX6_thing_147 : decode cX6_thing 147 = .ok (.getfield 111, 3) := by decide +kernel
theorem dX6_thing_150 : decode cX6_thing 150 = .ok (.iconst 1, 1) := by decide +kernel
theorem dX6_thing_151 : decode cX6_thing 151 = .ok (.iadd, 1) := by decide +kernel
theorem dX6_thing_152 : decode cX6_thing 152 = .ok (.putfield 111, 3) := by decide +kernel
theorem dX6_thing_155 : decode cX6_thing 155 = .ok (.aload_n 0, 1) := by decide +kernel
theorem dX6_thing_156 : decode cX6_thing 156 = .ok (.getfield 111, 3) := by decide +kernel
theorem dX6_thing_159 : decode cX6_thing 159 = .ok (.iconst 1, 1) := by decide +kernel
theorem dX6_thing_160 : decode cX6_thing 160 = .ok (.isub, 1) := by decide +kernel
theorem dX6_thing_161 : decode cX6_thing 161 = .ok (.ireturn, 1) := by decide +kernel
theorem dX6_set_0 : decode cX6_set 0 = .ok (.iload_n 1, 1) := by decide +kernel
theorem dX6_set_1 : decode cX6_set 1 = .ok (.i2l, 1) := by decide +kernel
theorem dX6_set_2 : decode cX6_set 2 = .ok (.lconst 0, 1) := by decide +kernel
theorem dX6_set_3 : decode cX6_set 3 = .ok (.ldc2_w 153, 3) := by decide +kernel
theorem dX6_set_6 : decode cX6_set 6 = .ok (.invokestatic 107, 3) := by decide +kernel
theorem dX6_set_9 : decode cX6_set 9 = .ok (.ifCond .eq 29, 3) := by decide +kernel
theorem dX6_set_12 : decode cX6_set 12 = .ok (.iload_n 1, 1) := by decide +kernel
theorem dX6_set_13 : decode cX6_set 13 = .ok (.iconst 2, 1) := by decide +kernel
theorem dX6_set_14 : decode cX6_set 14 = .ok (.if_icmp .ne 11, 3) := by decide +kernel
theorem dX6_set_17 : decode cX6_set 17 = .ok (.aload_n 0, 1) := by decide +kernel
theorem dX6_set_18 : decode cX6_set 18 = .ok (.iload_n 2, 1) := by decide +kernel
theorem dX6_set_19 : decode cX6_set 19 = .ok (.invokevirtual 149, 3) := by decide +kernel
theorem dX6_set_22 : decode cX6_set 22 = .ok (.ifCond .eq 16, 3) := by decide +kernel
theorem dX6_set_25 : decode cX6_set 25 = .ok (.iload_n 1, 1) := by decide +kernel
theorem dX6_set_26 : decode cX6_set 26 = .ok (.iconst 3, 1) := by decide +kernel
theorem dX6_set_27 : decode cX6_set 27 = .ok (.if_icmp .ne 14, 3) := by decide +kernel
theorem dX6_set_30 : decode cX6_set 30 = .ok (.aload_n 0, 1) := by decide +kernel
theorem dX6_set_31 : decode cX6_set 31 = .ok (.iload_n 2, 1) := by decide +kernel
theorem dX6_set_32 : decode cX6_set 32 = .ok (.invokevirtual 155, 3) := by decide +kernel
theorem dX6_set_35 : decode cX6_set 35 = .ok (.ifCond .ne 6, 3) := by decide +kernel
theorem dX6_set_38 : decode cX6_set 38 = .ok (.bipush (-100), 2) := by decide +kernel
theorem dX6_set_40 : decode cX6_set 40 = .ok (.ireturn, 1) := by decide +kernel
theorem dX6_set_41 : decode cX6_set 41 = .ok (.iload_n 1, 1) := by decide +kernel
theorem dX6_set_42 : decode cX6_set 42 = .ok (.iconst 1, 1) := by decide +kernel
theorem dX6_set_43 : decode cX6_set 43 = .ok (.if_icmp .ne 19, 3) := by decide +kernel
theorem dX6_set_46 : decode cX6_set 46 = .ok (.iload_n 3, 1) := by decide +kernel
theorem dX6_set_47 : decode cX6_set 47 = .ok (.iconst (-1), 1) := by decide +kernel
theorem dX6_set_48 : decode cX6_set 48 = .ok (.if_icmp .eq 48, 3) := by decide +kernel
theorem dX6_set_51 : decode cX6_set 51 = .ok (.aload_n 0, 1) := by decide +kernel
theorem dX6_set_52 : decode cX6_set 52 = .ok (.iload_n 3, 1) := by decide +kernel
theorem dX6_set_53 : decode cX6_set 53 = .ok (.invokevirtual 155, 3) := by decide +kernel
theorem dX6_set_56 : decode cX6_set 56 = .ok (.ifCond .ne 40, 3) := by decide +kernel
theorem dX6_set_59 : decode cX6_set 59 = .ok (.goto 34, 3) := by decide +kernel
theorem dX6_set_62 : decode cX6_set 62 = .ok (.iload_n 3, 1) := by decide +kernel
theorem dX6_set_63 : decode cX6_set 63 = .ok (.i2l, 1) := by decide +kernel
theorem dX6_set_64 : decode cX6_set 64 = .ok (.lconst 0, 1) := by decide +kernel
theorem dX6_set_65 : decode cX6_set 65 = .ok (.iload_n 1, 1) := by decide +kernel
theorem dX6_set_66 : decode cX6_set 66 = .ok (.ifCond .ne 9, 3) := by decide +kernel
theorem dX6_set_69 : decode cX6_set 69 = .ok (.ldc2_w 153, 3) := by decide +kernel
theorem dX6_set_72 : decode cX6_set 72 = .ok (.goto 15, 3) := by decide +kernel
theorem dX6_set_75 : decode cX6_set 75 = .ok (.iload_n 1, 1) := by decide +kernel
theorem dX6_set_76 : decode cX6_set 76 = .ok (.iconst 2, 1) := by decide +kernel
theorem dX6_set_77 : decode cX6_set 77 = .ok (.if_icmp .ne 9, 3) := by decide +kernel
theorem dX6_set_80 : decode cX6_set 80 = .ok (.ldc2_w 143, 3) := by decide +kernel
theorem dX6_set_83 : decode cX6_set 83 = .ok (.goto 4, 3) := by decide +kernel
theorem dX6_set_86 : decode cX6_set 86 = .ok (.lconst 1, 1) := by decide +kernel
theorem dX6_set_87 : decode cX6_set 87 = .ok (.invokestatic 107, 3) := by decide +kernel
theorem dX6_set_90 : decode cX6_set 90 = .ok (.ifCond .ne 6, 3) := by decide +kernel
theorem dX6_set_93 : decode cX6_set 93 = .ok (.bipush (-100), 2) := by decide +kernel
theorem dX6_set_95 : decode cX6_set 95 = .ok (.ireturn, 1) := by decide +kernel
theorem dX6_set_96 : decode cX6_set 96 = .ok (.iload_n 1, 1) := by decide +kernel
theorem dX6_set_97 : decode cX6_set 97 = .ok (.ifCond .ne 10, 3) := by decide +kernel
theorem dX6_set_100 : decode cX6_set 100 = .ok (.aload_n 0, 1) := by decide +kernel
theorem dX6_set_101 : decode cX6_set 101 = .ok (.getfield 44, 3) := by decide +kernel
theorem dX6_set_104 : decode cX6_set 104 = .ok (.goto 35, 3) := by decide +kernel
theorem dX6_set_107 : decode cX6_set 107 = .ok (.iload_n 1, 1) := by decide +kernel
theorem dX6_set_108 : decode cX6_set 108 = .ok (.iconst 1, 1) := by decide +kernel
theorem dX6_set_109 : decode cX6_set 109 = .ok (.if_icmp .ne 10, 3) := by decide +kernel
theorem dX6_set_112 : decode cX6_set 112 = .ok (.aload_n 0, 1) := by decide +kernel
theorem dX6_set_113 : decode cX6_set 113 = .ok (.getfield 41, 3) := by decide +kernel
theorem dX6_set_116 : decode cX6_set 116 = .ok (.goto 23, 3) := by decide +kernel
theorem dX6_set_119 : decode cX6_set 119 = .ok (.iload_n 1, 1) := by decide +kernel
theorem dX6_set_120 : decode cX6_set 120 = .ok (.iconst 2, 1) := by decide +kernel
theorem dX6_set_121 : decode cX6_set 121 = .ok (.if_icmp .ne 12, 3) := by decide +kernel
theorem dX6_set_124 : decode cX6_set 124 = .ok (.aload_n 0, 1) := by decide +kernel
theorem dX6_set_125 : decode cX6_set 125 = .ok (.getfield 26, 3) := by decide +kernel
theorem dX6_set_128 : decode cX6_set 128 = .ok (.iload_n 2, 1) := by decide +kernel
theorem dX6_set_129 : decode cX6_set 129 = .ok (.iaload, 1) := by decide +kernel
theorem dX6_set_130 : decode cX6_set 130 = .ok (.goto 9, 3) := by decide +kernel
theorem dX6_set_133 : decode cX6_set 133 = .ok (.aload_n 0, 1) := by decide +kernel
theorem dX6_set_134 : decode cX6_set 134 = .ok (.getfield 32, 3) := by decide +kernel
theorem dX6_set_137 : decode cX6_set 137 = .ok (.iload_n 2, 1) := by decide +kernel
theorem dX6_set_138 : decode cX6_set 138 = .ok (.iaload, 1) := by decide +kernel
theorem dX6_set_139 : decode cX6_set 139 = .ok (.istore 4, 2) := by decide +kernel
theorem dX6_set_141 : decode cX6_set 141 = .ok (.iload_n 1, 1) := by decide +kernel
theorem dX6_set_142 : decode cX6_set 142 = .ok (.ifCond .ne 11, 3) := by decide +kernel
theorem dX6_set_145 : decode cX6_set 145 = .ok (.aload_n 0, 1) := by decide +kernel
theorem dX6_set_146 : decode cX6_set 146 = .ok (.iload_n 3, 1) := by decide +kernel
theorem dX6_set_147 : decode cX6_set 147 = .ok (.putfield 44, 3) := by decide +kernel
theorem dX6_set_150 : decode cX6_set 150 = .ok (.goto 85, 3) := by decide +kernel
theorem dX6_set_153 : decode cX6_set 153 = .ok (.iload_n 1, 1) := by decide +kernel
theorem dX6_set_154 : decode cX6_set 154 = .ok (.iconst 1, 1) := by decide +kernel
theorem dX6_set_155 : decode cX6_set 155 = .ok (.if_icmp .ne 11, 3) := by decide +kernel
theorem dX6_set_158 : decode cX6_set 158 = .ok (.aload_n 0, 1) := by decide +kernel
theorem dX6_set_159 : decode cX6_set 159 = .ok (.iload_n 3, 1) := by decide +kernel
theorem dX6_set_160 : decode cX6_set 160 = .ok (.putfield 41, 3) := by decide +kernel
theorem dX6_set_163 : decode cX6_set 163 = .ok (.goto 72, 3) := by decide +kernel
theorem dX6_set_166 : decode cX6_set 166 = .ok (.iload_n 1, 1) := by decide +kernel
theorem dX6_set_167 : decode cX6_set 167 = .ok (.iconst 2, 1) := by decide +kernel
theorem dX6_set_168 : decode cX6_set 168 = .ok (.if_icmp .ne 38, 3) := by decide +kernel
theorem dX6_set_171 : decode cX6_set 171 = .ok (.aload_n 0, 1) := by decide +kernel
theorem dX6_set_172 : decode cX6_set 172 = .ok (.getfield 26, 3) := by decide +kernel
theorem dX6_set_175 : decode cX6_set 175 = .ok (.iload_n 2, 1) := by decide +kernel
theorem dX6_set_176 : decode cX6_set 176 = .ok (.iload_n 3, 1) := by decide +kernel
theorem dX6_set_177 : decode cX6_set 177 = .ok (.iastore, 1) := by decide +kernel
theorem dX6_set_178 : decode cX6_set 178 = .ok (.aload_n 0, 1) := by decide +kernel
theorem dX6_set_179 : decode cX6_set 179 = .ok (.aload_n 0, 1) := by decide +kernel
theorem dX6_set_180 : decode cX6_set 180 = .ok (.iload_n 2, 1) := by decide +kernel
theorem dX6_set_181 : decode cX6_set 181 = .ok (.invokevirtual 130, 3) := by decide +kernel
theorem dX6_set_184 : decode cX6_set 184 = .ok (.invokevirtual 114, 3) := by decide +kernel
theorem dX6_set_187 : decode cX6_set 187 = .ok (.aload_n 0, 1) := by decide +kernel
theorem dX6_set_188 : decode cX6_set 188 = .ok (.iload_n 2, 1) := by decide +kernel
theorem dX6_set_189 : decode cX6_set 189 = .ok (.invokevirtual 118, 3) := by decide +kernel
theorem dX6_set_192 : decode cX6_set 192 = .ok (.if_icmp .le 43, 3) := by decide +kernel
theorem dX6_set_195 : decode cX6_set 195 = .ok (.aload_n 0, 1) := by decide +kernel
theorem dX6_set_196 : decode cX6_set 196 = .ok (.getfield 26, 3) := by decide +kernel
theorem dX6_set_199 : decode cX6_set 199 = .ok (.iload_n 2, 1) := by decide +kernel
theorem dX6_set_200 : decode cX6_set 200 = .ok (.iload 4, 2) := by decide +kernel
theorem dX6_set_202 : decode cX6_set 202 = .ok (.iastore, 1) := by decide +kernel
theorem dX6_set_203 : decode cX6_set 203 = .ok (.bipush (-3), 2) := by decide +kernel
theorem dX6_set_205 : decode cX6_set 205 = .ok (.ireturn, 1) := by decide +kernel
theorem dX6_set_206 : decode cX6_set 206 = .ok (.iload_n 3, 1) := by decide +kernel
theorem dX6_set_207 : decode cX6_set 207 = .ok (.iconst 1, 1) := by decide +kernel
theorem dX6_set_208 : decode cX6_set 208 = .ok (.if_icmp .ne 20, 3) := by decide +kernel
theorem dX6_set_211 : decode cX6_set 211 = .ok (.aload_n 0, 1) := by decide +kernel
theorem dX6_set_212 : decode cX6_set 212 = .ok (.aload_n 0, 1) := by decide +kernel
theorem dX6_set_213 : decode cX6_set 213 = .ok (.getfield 35, 3) := by decide +kernel
theorem dX6_set_216 : decode cX6_set 216 = .ok (.iload_n 2, 1) := by decide +kernel
theorem dX6_set_217 : decode cX6_set 217 = .ok (.iaload, 1) := by decide +kernel
theorem dX6_set_218 : decode cX6_set 218 = .ok (.invokevirtual 127, 3) := by decide +kernel
theorem dX6_set_221 : decode cX6_set 221 = .ok (.iconst 1, 1) := by decide +kernel
theorem dX6_set_222 : decode cX6_set 222 = .ok (.if_icmp .ne 6, 3) := by decide +kernel
theorem dX6_set_225 : decode cX6_set 225 = .ok (.bipush (-3), 2) := by decide +kernel
theorem dX6_set_227 : decode cX6_set 227 = .ok (.ireturn, 1) := by decide +kernel
theorem dX6_set_228 : decode cX6_set 228 = .ok (.aload_n 0, 1) := by decide +kernel
theorem dX6_set_229 : decode cX6_set 229 = .ok (.getfield 32, 3) := by decide +kernel
theorem dX6_set_232 : decode cX6_set 232 = .ok (.iload_n 2, 1) := by decide +kernel
theorem dX6_set_233 : decode cX6_set 233 = .ok (.iload_n 3, 1) := by decide +kernel
theorem dX6_set_234 : decode cX6_set 234 = .ok (.iastore, 1) := by decide +kernel
theorem dX6_set_235 : decode cX6_set 235 = .ok (.iload 4, 2) := by decide +kernel
theorem dX6_set_237 : decode cX6_set 237 = .ok (.ireturn, 1) := by decide +kernel
theorem dX6_part_0 : decode cX6_part 0 = .ok (.aload_n 0, 1) := by decide +kernel
theorem dX6_part_1 : decode cX6_part 1 = .ok (.iload_n 1, 1) := by decide +kernel
theorem dX6_part_2 : decode cX6_part 2 = .ok (.invokevirtual 155, 3) := by decide +kernel
theorem dX6_part_5 : decode cX6_part 5 = .ok (.ifCond .eq 26, 3) := by decide +kernel
theorem dX6_part_8 : decode cX6_part 8 = .ok (.aload_n 0, 1) := by decide +kernel
theorem dX6_part_9 : decode cX6_part 9 = .ok (.iload_n 2, 1) := by decide +kernel
theorem dX6_part_10 : decode cX6_part 10 = .ok (.invokevirtual 155, 3) := by decide +kernel
theorem dX6_part_13 : decode cX6_part 13 = .ok (.ifCond .eq 18, 3) := by decide +kernel
theorem dX6_part_16 : decode cX6_part 16 = .ok (.iload_n 1, 1) := by decide +kernel
theorem dX6_part_17 : decode cX6_part 17 = .ok (.iload_n 2, 1) := by decide +kernel
theorem dX6_part_18 : decode cX6_part 18 = .ok (.if_icmp .eq 13, 3) := by decide +kernel
theorem dX6_part_21 : decode cX6_part 21 = .ok (.iload_n 3, 1) := by decide +kernel
theorem dX6_part_22 : decode cX6_part 22 = .ok (.i2l, 1) := by decide +kernel
theorem dX6_part_23 : decode cX6_part 23 = .ok (.lconst 0, 1) := by decide +kernel
theorem dX6_part_24 : decode cX6_part 24 = .ok (.lconst 1, 1) := by decide +kernel
theorem dX6_part_25 : decode cX6_part 25 = .ok (.invokestatic 107, 3) := by decide +kernel
theorem dX6_part_28 : decode cX6_part 28 = .ok (.ifCond .ne 6, 3) := by decide +kernel
theorem dX6_part_31 : decode cX6_part 31 = .ok (.bipush (-2), 2) := by decide +kernel
theorem dX6_part_33 : decode cX6_part 33 = .ok (.ireturn, 1) := by decide +kernel
theorem dX6_part_34 : decode cX6_part 34 = .ok (.iload_n 3, 1) := by decide +kernel
theorem dX6_part_35 : decode cX6_part 35 = .ok (.iconst 1, 1) := by decide +kernel
theorem dX6_part_36 : decode cX6_part 36 = .ok (.if_icmp .ne 21, 3) := by decide +kernel
theorem dX6_part_39 : decode cX6_part 39 = .ok (.aload_n 0, 1) := by decide +kernel
theorem dX6_part_40 : decode cX6_part 40 = .ok (.getfield 35, 3) := by decide +kernel
theorem dX6_part_43 : decode cX6_part 43 = .ok (.iload_n 1, 1) := by decide +kernel
theorem dX6_part_44 : decode cX6_part 44 = .ok (.iaload, 1) := by decide +kernel
theorem dX6_part_45 : decode cX6_part 45 = .ok (.aload_n 0, 1) := by decide +kernel
theorem dX6_part_46 : decode cX6_part 46 = .ok (.getfield 35, 3) := by decide +kernel
theorem dX6_part_49 : decode cX6_part 49 = .ok (.iload_n 2, 1) := by decide +kernel
theorem dX6_part_50 : decode cX6_part 50 = .ok (.iaload, 1) := by decide +kernel
theorem dX6_part_51 : decode cX6_part 51 = .ok (.if_icmp .ne 6, 3) := by decide +kernel
theorem dX6_part_54 : decode cX6_part 54 = .ok (.bipush (-3), 2) := by decide +kernel
theorem dX6_part_56 : decode cX6_part 56 = .ok (.ireturn, 1) := by decide +kernel
theorem dX6_part_57 : decode cX6_part 57 = .ok (.aload_n 0, 1) := by decide +kernel
theorem dX6_part_58 : decode cX6_part 58 = .ok (.getfield 38, 3) := by decide +kernel
theorem dX6_part_61 : decode cX6_part 61 = .ok (.iload_n 1, 1) := by decide +kernel
theorem dX6_part_62 : decode cX6_part 62 = .ok (.iaload, 1) := by decide +kernel
theorem dX6_part_63 : decode cX6_part 63 = .ok (.iload_n 2, 1) := by decide +kernel
theorem dX6_part_64 : decode cX6_part 64 = .ok (.ishr, 1) := by decide +kernel
theorem dX6_part_65 : decode cX6_part 65 = .ok (.iconst 1, 1) := by decide +kernel
theorem dX6_part_66 : decode cX6_part 66 = .ok (.iand, 1) := by decide +kernel
theorem dX6_part_67 : decode cX6_part 67 = .ok (.istore 4, 2) := by decide +kernel
theorem dX6_part_69 : decode cX6_part 69 = .ok (.aload_n 0, 1) := by decide +kernel
theorem dX6_part_70 : decode cX6_part 70 = .ok (.getfield 38, 3) := by decide +kernel
theorem dX6_part_73 : decode cX6_part 73 = .ok (.iload_n 1, 1) := by decide +kernel
theorem dX6_part_74 : decode cX6_part 74 = .ok (.aload_n 0, 1) := by decide +kernel
theorem dX6_part_75 : decode cX6_part 75 = .ok (.getfield 38, 3) := by decide +kernel
theorem dX6_part_78 : decode cX6_part 78 = .ok (.iload_n 1, 1) := by decide +kernel
theorem dX6_part_79 : decode cX6_part 79 = .ok (.iaload, 1) := by decide +kernel
theorem dX6_part_80 : decode cX6_part 80 = .ok (.iconst 1, 1) := by decide +kernel
theorem dX6_part_81 : decode cX6_part 81 = .ok (.iload_n 2, 1) := by decide +kernel
theorem dX6_part_82 : decode cX6_part 82 = .ok (.ishl, 1) := by decide +kernel
theorem dX6_part_83 : decode cX6_part 83 = .ok (.iconst (-1), 1) := by decide +kernel
theorem dX6_part_84 : decode cX6_part 84 = .ok (.ixor, 1) := by decide +kernel
theorem dX6_part_85 : decode cX6_part 85 = .ok (.iand, 1) := by decide +kernel
theorem dX6_part_86 : decode cX6_part 86 = .ok (.iload_n 3, 1) := by decide +kernel
theorem dX6_part_87 : decode cX6_part 87 = .ok (.iload_n 2, 1) := by decide +kernel
theorem dX6_part_88 : decode cX6_part 88 = .ok (.ishl, 1) := by decide +kernel
theorem dX6_part_89 : decode cX6_part 89 = .ok (.ior, 1) := by decide +kernel
theorem dX6_part_90 : decode cX6_part 90 = .ok (.iastore, 1) := by decide +kernel
theorem dX6_part_91 : decode cX6_part 91 = .ok (.aload_n 0, 1) := by decide +kernel
theorem dX6_part_92 : decode cX6_part 92 = .ok (.getfield 38, 3) := by decide +kernel
theorem dX6_part_95 : decode cX6_part 95 = .ok (.iload_n 2, 1) := by decide +kernel
theorem dX6_part_96 : decode cX6_part 96 = .ok (.aload_n 0, 1) := by decide +kernel
theorem dX6_part_97 : decode cX6_part 97 = .ok (.getfield 38, 3) := by decide +kernel
theorem dX6_part_100 : decode cX6_part 100 = .ok (.iload_n 2, 1) := by decide +kernel
theorem dX6_part_101 : decode cX6_part 101 = .ok (.iaload, 1) := by decide +kernel
theorem dX6_part_102 : decode cX6_part 102 = .ok (.iconst 1, 1) := by decide +kernel
theorem dX6_part_103 : decode cX6_part 103 = .ok (.iload_n 1, 1) := by decide +kernel
theorem dX6_part_104 : decode cX6_part 104 = .ok (.ishl, 1) := by decide +kernel
theorem dX6_part_105 : decode cX6_part 105 = .ok (.iconst (-1), 1) := by decide +kernel
theorem dX6_part_106 : decode cX6_part 106 = .ok (.ixor, 1) := by decide +kernel
theorem dX6_part_107 : decode cX6_part 107 = .ok (.iand, 1) := by decide +kernel
theorem dX6_part_108 : decode cX6_part 108 = .ok (.iload_n 3, 1) := by decide +kernel
theorem dX6_part_109 : decode cX6_part 109 = .ok (.iload_n 1, 1) := by decide +kernel
theorem dX6_part_110 : decode cX6_part 110 = .ok (.ishl, 1) := by decide +kernel
theorem dX6_part_111 : decode cX6_part 111 = .ok (.ior, 1) := by decide +kernel
theorem dX6_part_112 : decode cX6_part 112 = .ok (.iastore, 1) := by decide +kernel
theorem dX6_part_113 : decode cX6_part 113 = .ok (.iload 4, 2) := by decide +kernel
theorem dX6_part_115 : decode cX6_part 115 = .ok (.ireturn, 1) := by decide +kernel
theorem dX6_told_0 : decode cX6_told 0 = .ok (.iload_n 2, 1) := by decide +kernel
theorem dX6_told_1 : decode cX6_told 1 = .ok (.i2l, 1) := by decide +kernel
theorem dX6_told_2 : decode cX6_told 2 = .ok (.lconst 0, 1) := by decide +kernel
theorem dX6_told_3 : decode cX6_told 3 = .ok (.ldc2_w 158, 3) := by decide +kernel
theorem dX6_told_6 : decode cX6_told 6 = .ok (.invokestatic 107, 3) := by decide +kernel
theorem dX6_told_9 : decode cX6_told 9 = .ok (.ifCond .eq 28, 3) := by decide +kernel
theorem dX6_told_12 : decode cX6_told 12 = .ok (.iload_n 2, 1) := by decide +kernel
theorem dX6_told_13 : decode cX6_told 13 = .ok (.bipush 8, 2) := by decide +kernel
theorem dX6_told_15 : decode cX6_told 15 = .ok (.if_icmp .ge 14, 3) := by decide +kernel
theorem dX6_told_18 : decode cX6_told 18 = .ok (.aload_n 0, 1) := by decide +kernel
theorem dX6_told_19 : decode cX6_told 19 = .ok (.iload_n 1, 1) := by decide +kernel
theorem dX6_told_20 : decode cX6_told 20 = .ok (.invokevirtual 149, 3) := by decide +kernel
theorem dX6_told_23 : decode cX6_told 23 = .ok (.ifCond .eq 14, 3) := by decide +kernel
theorem dX6_told_26 : decode cX6_told 26 = .ok (.goto 14, 3) := by decide +kernel
theorem dX6_told_29 : decode cX6_told 29 = .ok (.aload_n 0, 1) := by decide +kernel
theorem dX6_told_30 : decode cX6_told 30 = .ok (.iload_n 1, 1) := by decide +kernel
theorem dX6_told_31 : decode cX6_told 31 = .ok (.invokevirtual 155, 3) := by decide +kernel
theorem dX6_told_34 : decode cX6_told 34 = .ok (.ifCond .ne 6, 3) := by decide +kernel
theorem dX6_told_37 : decode cX6_told 37 = .ok (.bipush (-100), 2) := by decide +kernel
theorem dX6_told_39 : decode cX6_told 39 = .ok (.ireturn, 1) := by decide +kernel
theorem dX6_told_40 : decode cX6_told 40 = .ok (.iload_n 2, 1) := by decide +kernel
theorem dX6_told_41 : decode cX6_told 41 = .ok (.bipush 6, 2) := by decide +kernel
theorem dX6_told_43 : decode cX6_told 43 = .ok (.if_icmp .ge 75, 3) := by decide +kernel
theorem dX6_told_46 : decode cX6_told 46 = .ok (.iload_n 2, 1) := by decide +kernel
theorem dX6_told_47 : decode cX6_told 47 = .ok (.ifCond .ne 12, 3) := by decide +kernel
theorem dX6_told_50 : decode cX6_told 50 = .ok (.aload_n 0, 1) := by decide +kernel
theorem dX6_told_51 : decode cX6_told 51 = .ok (.getfield 23, 3) := by decide +kernel
theorem dX6_told_54 : decode cX6_told 54 = .ok (.iload_n 1, 1) := by decide +kernel
theorem dX6_told_55 : decode cX6_told 55 = .ok (.iaload, 1) := by decide +kernel
theorem dX6_told_56 : decode cX6_told 56 = .ok (.goto 61, 3) := by decide +kernel
theorem dX6_told_59 : decode cX6_told 59 = .ok (.iload_n 2, 1) := by decide +kernel
theorem dX6_told_60 : decode cX6_told 60 = .ok (.iconst 1, 1) := by decide +kernel
theorem dX6_told_61 : decode cX6_told 61 = .ok (.if_icmp .ne 12, 3) := by decide +kernel
theorem dX6_told_64 : decode cX6_told 64 = .ok (.aload_n 0, 1) := by decide +kernel
theorem dX6_told_65 : decode cX6_told 65 = .ok (.getfield 26, 3) := by decide +kernel
theorem dX6_told_68 : decode cX6_told 68 = .ok (.iload_n 1, 1) := by decide +kernel
theorem dX6_told_69 : decode cX6_told 69 = .ok (.iaload, 1) := by decide +kernel
theorem dX6_told_70 : decode cX6_told 70 = .ok (.goto 47, 3) := by decide +kernel
theorem dX6_told_73 : decode cX6_told 73 = .ok (.iload_n 2, 1) := by decide +kernel
theorem dX6_told_74 : decode cX6_told 74 = .ok (.iconst 2, 1) := by decide +kernel
theorem dX6_told_75 : decode cX6_told 75 = .ok (.if_icmp .ne 11, 3) := by decide +kernel
theorem dX6_told_78 : decode cX6_told 78 = .ok (.aload_n 0, 1) := by decide +kernel
theorem dX6_told_79 : decode cX6_told 79 = .ok (.iload_n 1, 1) := by decide +kernel
theorem dX6_told_80 : decode cX6_told 80 = .ok (.invokevirtual 118, 3) := by decide +kernel
theorem dX6_told_83 : decode cX6_told 83 = .ok (.goto 34, 3) := by decide +kernel
theorem dX6_told_86 : decode cX6_told 86 = .ok (.iload_n 2, 1) := by decide +kernel
theorem dX6_told_87 : decode cX6_told 87 = .ok (.iconst 3, 1) := by decide +kernel
theorem dX6_told_88 : decode cX6_told 88 = .ok (.if_icmp .ne 11, 3) := by decide +kernel
theorem dX6_told_91 : decode cX6_told 91 = .ok (.aload_n 0, 1) := by decide +kernel
theorem dX6_told_92 : decode cX6_told 92 = .ok (.iload_n 1, 1) := by decide +kernel
theorem dX6_told_93 : decode cX6_told 93 = .ok (.invokevirtual 124, 3) := by decide +kernel
theorem dX6_told_96 : decode cX6_told 96 = .ok (.goto 21, 3) := by decide +kernel
theorem dX6_told_99 : decode cX6_told 99 = .ok (.iload_n 2, 1) := by decide +kernel
theorem dX6_told_100 : decode cX6_told 100 = .ok (.iconst 4, 1) := by decide +kernel
theorem dX6_told_101 : decode cX6_told 101 = .ok (.if_icmp .ne 11, 3) := by decide +kernel
theorem dX6_told_104 : decode cX6_told 104 = .ok (.aload_n 0, 1) := by decide +kernel
theorem dX6_told_105 : decode cX6_told 105 = .ok (.iload_n 1, 1) := by decide +kernel
theorem dX6_told_106 : decode cX6_told 106 = .ok (.invokevirtual 127, 3) := by decide +kernel
theorem dX6_told_109 : decode cX6_told 109 = .ok (.goto 8, 3) := by decide +kernel
theorem dX6_told_112 : decode cX6_told 112 = .ok (.aload_n 0, 1) := by decide +kernel
theorem dX6_told_113 : decode cX6_told 113 = .ok (.iload_n 1, 1) := by decide +kernel
theorem dX6_told_114 : decode cX6_told 114 = .ok (.invokevirtual 160, 3) := by decide +kernel
theorem dX6_told_117 : decode cX6_told 117 = .ok (.ireturn, 1) := by decide +kernel
theorem dX6_told_118 : decode cX6_told 118 = .ok (.iload_n 2, 1) := by decide +kernel
theorem dX6_told_119 : decode cX6_told 119 = .ok (.bipush 8, 2) := by decide +kernel
theorem dX6_told_121 : decode cX6_told 121 = .ok (.if_icmp .ge 33, 3) := by decide +kernel
theorem dX6_told_124 : decode cX6_told 124 = .ok (.iload_n 2, 1) := by decide +kernel
theorem dX6_told_125 : decode cX6_told 125 = .ok (.bipush 6, 2) := by decide +kernel
theorem dX6_told_127 : decode cX6_told 127 = .ok (.if_icmp .ne 11, 3) := by decide +kernel
theorem dX6_told_130 : decode cX6_told 130 = .ok (.aload_n 0, 1) := by decide +kernel
theorem dX6_told_131 : decode cX6_told 131 = .ok (.iload_n 1, 1) := by decide +kernel
theorem dX6_told_132 : decode cX6_told 132 = .ok (.invokevirtual 130, 3) := by decide +kernel
theorem dX6_told_135 : decode cX6_told 135 = .ok (.goto 18, 3) := by decide +kernel
theorem dX6_told_138 : decode cX6_told 138 = .ok (.aload_n 0, 1) := by decide +kernel
theorem dX6_told_139 : decode cX6_told 139 = .ok (.iload_n 1, 1) := by decide +kernel
theorem dX6_told_140 : decode cX6_told 140 = .ok (.invokevirtual 118, 3) := by decide +kernel
theorem dX6_told_143 : decode cX6_told 143 = .ok (.aload_n 0, 1) := by decide +kernel
theorem dX6_told_144 : decode cX6_told 144 = .ok (.aload_n 0, 1) := by decide +kernel
theorem dX6_told_145 : decode cX6_told 145 = .ok (.iload_n 1, 1) := by decide +kernel
theorem dX6_told_146 : decode cX6_told 146 = .ok (.invokevirtual 130, 3) := by decide +kernel
theorem dX6_told_149 : decode cX6_told 149 = .ok (.invokevirtual 114, 3) := by decide +kernel
theorem dX6_told_152 : decode cX6_told 152 = .ok (.isub, 1) := by decide +kernel
theorem dX6_told_153 : decode cX6_told 153 = .ok (.ireturn, 1) := by decide +kernel
theorem dX6_told_154 : decode cX6_told 154 = .ok (.iload_n 2, 1) := by decide +kernel
theorem dX6_told_155 : decode cX6_told 155 = .ok (.bipush 8, 2) := by decide +kernel
theorem dX6_told_157 : decode cX6_told 157 = .ok (.if_icmp .ne 12, 3) := by decide +kernel
theorem dX6_told_160 : decode cX6_told 160 = .ok (.aload_n 0, 1) := by decide +kernel
theorem dX6_told_161 : decode cX6_told 161 = .ok (.getfield 29, 3) := by decide +kernel
theorem dX6_told_164 : decode cX6_told 164 = .ok (.iload_n 1, 1) := by decide +kernel
theorem dX6_told_165 : decode cX6_told 165 = .ok (.iaload, 1) := by decide +kernel
theorem dX6_told_166 : decode cX6_told 166 = .ok (.goto 39, 3) := by decide +kernel
theorem dX6_told_169 : decode cX6_told 169 = .ok (.iload_n 2, 1) := by decide +kernel
theorem dX6_told_170 : decode cX6_told 170 = .ok (.bipush 9, 2) := by decide +kernel
theorem dX6_told_172 : decode cX6_told 172 = .ok (.if_icmp .ne 12, 3) := by decide +kernel
theorem dX6_told_175 : decode cX6_told 175 = .ok (.aload_n 0, 1) := by decide +kernel
theorem dX6_told_176 : decode cX6_told 176 = .ok (.getfield 32, 3) := by decide +kernel
theorem dX6_told_179 : decode cX6_told 179 = .ok (.iload_n 1, 1) := by decide +kernel
theorem dX6_told_180 : decode cX6_told 180 = .ok (.iaload, 1) := by decide +kernel
theorem dX6_told_181 : decode cX6_told 181 = .ok (.goto 24, 3) := by decide +kernel
theorem dX6_told_184 : decode cX6_told 184 = .ok (.iload_n 2, 1) := by decide +kernel
theorem dX6_told_185 : decode cX6_told 185 = .ok (.bipush 10, 2) := by decide +kernel
theorem dX6_told_187 : decode cX6_told 187 = .ok (.if_icmp .ne 12, 3) := by decide +kernel
theorem dX6_told_190 : decode cX6_told 190 = .ok (.aload_n 0, 1) := by decide +kernel
theorem dX6_told_191 : decode cX6_told 191 = .ok (.getfield 35, 3) := by decide +kernel
theorem dX6_told_194 : decode cX6_told 194 = .ok (.iload_n 1, 1) := by decide +kernel
theorem dX6_told_195 : decode cX6_told 195 = .ok (.iaload, 1) := by decide +kernel
theorem dX6_told_196 : decode cX6_told 196 = .ok (.goto 9, 3) := by decide +kernel
theorem dX6_told_199 : decode cX6_told 199 = .ok (.aload_n 0, 1) := by decide +kernel
theorem dX6_told_200 : decode cX6_told 200 = .ok (.getfield 38, 3) := by decide +kernel
theorem dX6_told_203 : decode cX6_told 203 = .ok (.iload_n 1, 1) := by decide +kernel
theorem dX6_told_204 : decode cX6_told 204 = .ok (.iaload, 1) := by decide +kernel
theorem dX6_told_205 : decode cX6_told 205 = .ok (.ireturn, 1) := by decide +kernel
theorem dX6_feed_0 : decode cX6_feed 0 = .ok (.iload_n 1, 1) := by decide +kernel
theorem dX6_feed_1 : decode cX6_feed 1 = .ok (.i2l, 1) := by decide +kernel
theorem dX6_feed_2 : decode cX6_feed 2 = .ok (.lconst 0, 1) := by decide +kernel
theorem dX6_feed_3 : decode cX6_feed 3 = .ok (.ldc2_w 163, 3) := by decide +kernel
theorem dX6_feed_6 : decode cX6_feed 6 = .ok (.invokestatic 107, 3) := by decide +kernel
theorem dX6_feed_9 : decode cX6_feed 9 = .ok (.ifCond .ne 6, 3) := by decide +kernel
theorem dX6_feed_12 : decode cX6_feed 12 = .ok (.bipush (-2), 2) := by decide +kernel
theorem dX6_feed_14 : decode cX6_feed 14 = .ok (.ireturn, 1) := by decide +kernel
theorem dX6_feed_15 : decode cX6_feed 15 = .ok (.aload_n 0, 1) := by decide +kernel
theorem dX6_feed_16 : decode cX6_feed 16 = .ok (.getfield 165, 3) := by decide +kernel
theorem dX6_feed_19 : decode cX6_feed 19 = .ok (.sipush 160, 3) := by decide +kernel
theorem dX6_feed_22 : decode cX6_feed 22 = .ok (.if_icmp .ne 6, 3) := by decide +kernel
theorem dX6_feed_25 : decode cX6_feed 25 = .ok (.bipush (-4), 2) := by decide +kernel
theorem dX6_feed_27 : decode cX6_feed 27 = .ok (.ireturn, 1) := by decide +kernel
theorem dX6_feed_28 : decode cX6_feed 28 = .ok (.aload_n 0, 1) := by decide +kernel
theorem dX6_feed_29 : decode cX6_feed 29 = .ok (.getfield 20, 3) := by decide +kernel
theorem dX6_feed_32 : decode cX6_feed 32 = .ok (.aload_n 0, 1) := by decide +kernel
theorem dX6_feed_33 : decode cX6_feed 33 = .ok (.getfield 165, 3) := by decide +kernel
theorem dX6_feed_36 : decode cX6_feed 36 = .ok (.iload_n 1, 1) := by decide +kernel
theorem dX6_feed_37 : decode cX6_feed 37 = .ok (.iastore, 1) := by decide +kernel
theorem dX6_feed_38 : decode cX6_feed 38 = .ok (.aload_n 0, 1) := by decide +kernel
theorem dX6_feed_39 : decode cX6_feed 39 = .ok (.dup, 1) := by decide +kernel
theorem dX6_feed_40 : decode cX6_feed 40 = .ok (.getfield 165, 3) := by decide +kernel
theorem dX6_feed_43 : decode cX6_feed 43 = .ok (.iconst 1, 1) := by decide +kernel
theorem dX6_feed_44 : decode cX6_feed 44 = .ok (.iadd, 1) := by decide +kernel
theorem dX6_feed_45 : decode cX6_feed 45 = .ok (.putfield 165, 3) := by decide +kernel
theorem dX6_feed_48 : decode cX6_feed 48 = .ok (.aload_n 0, 1) := by decide +kernel
theorem dX6_feed_49 : decode cX6_feed 49 = .ok (.getfield 165, 3) := by decide +kernel
theorem dX6_feed_52 : decode cX6_feed 52 = .ok (.ireturn, 1) := by decide +kernel
theorem dX6_byteAt_0 : decode cX6_byteAt 0 = .ok (.iload_n 1, 1) := by decide +kernel
theorem dX6_byteAt_1 : decode cX6_byteAt 1 = .ok (.aload_n 0, 1) := by decide +kernel
theorem dX6_byteAt_2 : decode cX6_byteAt 2 = .ok (.getfield 168, 3) := by decide +kernel
theorem dX6_byteAt_5 : decode cX6_byteAt 5 = .ok (.if_icmp .ge 17, 3) := by decide +kernel
theorem dX6_byteAt_8 : decode cX6_byteAt 8 = .ok (.aload_n 0, 1) := by decide +kernel
theorem dX6_byteAt_9 : decode cX6_byteAt 9 = .ok (.getfield 13, 3) := by decide +kernel
theorem dX6_byteAt_12 : decode cX6_byteAt 12 = .ok (.aload_n 0, 1) := by decide +kernel
theorem dX6_byteAt_13 : decode cX6_byteAt 13 = .ok (.getfield 171, 3) := by decide +kernel
theorem dX6_byteAt_16 : decode cX6_byteAt 16 = .ok (.iload_n 1, 1) := by decide +kernel
theorem dX6_byteAt_17 : decode cX6_byteAt 17 = .ok (.iadd, 1) := by decide +kernel
theorem dX6_byteAt_18 : decode cX6_byteAt 18 = .ok (.iaload, 1) := by decide +kernel
theorem dX6_byteAt_19 : decode cX6_byteAt 19 = .ok (.goto 4, 3) := by decide +kernel
theorem dX6_byteAt_22 : decode cX6_byteAt 22 = .ok (.iconst (-1), 1) := by decide +kernel
theorem dX6_byteAt_23 : decode cX6_byteAt 23 = .ok (.ireturn, 1) := by decide +kernel
theorem dX6_next_0 : decode cX6_next 0 = .ok (.aload_n 0, 1) := by decide +kernel
theorem dX6_next_1 : decode cX6_next 1 = .ok (.aload_n 0, 1) := by decide +kernel
theorem dX6_next_2 : decode cX6_next 2 = .ok (.getfield 174, 3) := by decide +kernel
theorem dX6_next_5 : decode cX6_next 5 = .ok (.invokevirtual 177, 3) := by decide +kernel
theorem dX6_next_8 : decode cX6_next 8 = .ok (.bipush 32, 2) := by decide +kernel
theorem dX6_next_10 : decode cX6_next 10 = .ok (.if_icmp .eq 16, 3) := by decide +kernel
theorem dX6_next_13 : decode cX6_next 13 = .ok (.aload_n 0, 1) := by decide +kernel
theorem dX6_next_14 : decode cX6_next 14 = .ok (.aload_n 0, 1) := by decide +kernel
theorem dX6_next_15 : decode cX6_next 15 = .ok (.getfield 174, 3) := by decide +kernel
theorem dX6_next_18 : decode cX6_next 18 = .ok (.invokevirtual 177, 3) := by decide +kernel
theorem dX6_next_21 : decode cX6_next 21 = .ok (.bipush 10, 2) := by decide +kernel
theorem dX6_next_23 : decode cX6_next 23 = .ok (.if_icmp .ne 16, 3) := by decide +kernel
theorem dX6_next_26 : decode cX6_next 26 = .ok (.aload_n 0, 1) := by decide +kernel
theorem dX6_next_27 : decode cX6_next 27 = .ok (.dup, 1) := by decide +kernel
theorem dX6_next_28 : decode cX6_next 28 = .ok (.getfield 174, 3) := by decide +kernel
theorem dX6_next_31 : decode cX6_next 31 = .ok (.iconst 1, 1) := by decide +kernel
theorem dX6_next_32 : decode cX6_next 32 = .ok (.iadd, 1) := by decide +kernel
theorem dX6_next_33 : decode cX6_next 33 = .ok (.putfield 174, 3) := by decide +kernel
theorem dX6_next_36 : decode cX6_next 36 = .ok (.goto (-36), 3) := by decide +kernel
theorem dX6_next_39 : decode cX6_next 39 = .ok (.aload_n 0, 1) := by decide +kernel
theorem dX6_next_40 : decode cX6_next 40 = .ok (.aload_n 0, 1) := by decide +kernel
theorem dX6_next_41 : decode cX6_next 41 = .ok (.getfield 174, 3) := by decide +kernel
theorem dX6_next_44 : decode cX6_next 44 = .ok (.putfield 180, 3) := by decide +kernel
theorem dX6_next_47 : decode cX6_next 47 = .ok (.aload_n 0, 1) := by decide +kernel
theorem dX6_next_48 : decode cX6_next 48 = .ok (.aload_n 0, 1) := by decide +kernel
theorem dX6_next_49 : decode cX6_next 49 = .ok (.getfield 174, 3) := by decide +kernel
theorem dX6_next_52 : decode cX6_next 52 = .ok (.invokevirtual 177, 3) := by decide +kernel
theorem dX6_next_55 : decode cX6_next 55 = .ok (.istore_n 1, 1) := by decide +kernel
theorem dX6_next_56 : decode cX6_next 56 = .ok (.aload_n 0, 1) := by decide +kernel
theorem dX6_next_57 : decode cX6_next 57 = .ok (.iconst 4, 1) := by decide +kernel
theorem dX6_next_58 : decode cX6_next 58 = .ok (.putfield 183, 3) := by decide +kernel
theorem dX6_next_61 : decode cX6_next 61 = .ok (.iload_n 1, 1) := by decide +kernel
theorem dX6_next_62 : decode cX6_next 62 = .ok (.ifCond .ge 19, 3) := by decide +kernel
theorem dX6_next_65 : decode cX6_next 65 = .ok (.aload_n 0, 1) := by decide +kernel
theorem dX6_next_66 : decode cX6_next 66 = .ok (.iconst 0, 1) := by decide +kernel
theorem dX6_next_67 : decode cX6_next 67 = .ok (.putfield 183, 3) := by decide +kernel
theorem dX6_next_70 : decode cX6_next 70 = .ok (.aload_n 0, 1) := by decide +kernel
theorem dX6_next_71 : decode cX6_next 71 = .ok (.aload_n 0, 1) := by decide +kernel
theorem dX6_next_72 : decode cX6_next 72 = .ok (.getfield 168, 3) := by decide +kernel
theorem dX6_next_75 : decode cX6_next 75 = .ok (.putfield 180, 3) := by decide +kernel
theorem dX6_next_78 : decode cX6_next 78 = .ok (.goto 243, 3) := by decide +kernel
theorem dX6_next_81 : decode cX6_next 81 = .ok (.iload_n 1, 1) := by decide +kernel
theorem dX6_next_82 : decode cX6_next 82 = .ok (.i2l, 1) := by decide +kernel
theorem dX6_next_83 : decode cX6_next 83 = .ok (.ldc2_w 186, 3) := by decide +kernel
theorem dX6_next_86 : decode cX6_next 86 = .ok (.ldc2_w 188, 3) := by decide +kernel
theorem dX6_next_89 : decode cX6_next 89 = .ok (.invokestatic 107, 3) := by decide +kernel
theorem dX6_next_92 : decode cX6_next 92 = .ok (.ifCond .eq 42, 3) := by decide +kernel
theorem dX6_next_95 : decode cX6_next 95 = .ok (.aload_n 0, 1) := by decide +kernel
theorem dX6_next_96 : decode cX6_next 96 = .ok (.iconst 1, 1) := by decide +kernel
theorem dX6_next_97 : decode cX6_next 97 = .ok (.putfield 183, 3) := by decide +kernel
theorem dX6_next_100 : decode cX6_next 100 = .ok (.aload_n 0, 1) := by decide +kernel
theorem dX6_next_101 : decode cX6_next 101 = .ok (.aload_n 0, 1) := by decide +kernel
theorem dX6_next_102 : decode cX6_next 102 = .ok (.getfield 174, 3) := by decide +kernel
theorem dX6_next_105 : decode cX6_next 105 = .ok (.invokevirtual 177, 3) := by decide +kernel
theorem dX6_next_108 : decode cX6_next 108 = .ok (.i2l, 1) := by decide +kernel
theorem dX6_next_109 : decode cX6_next 109 = .ok (.ldc2_w 186, 3) := by decide +kernel
theorem dX6_next_112 : decode cX6_next 112 = .ok (.ldc2_w 188, 3) := by decide +kernel
theorem dX6_next_115 : decode cX6_next 115 = .ok (.invokestatic 107, 3) := by decide +kernel
theorem dX6_next_118 : decode cX6_next 118 = .ok (.ifCond .eq 203, 3) := by decide +kernel
theorem dX6_next_121 : decode cX6_next 121 = .ok (.aload_n 0, 1) := by decide +kernel
theorem dX6_next_122 : decode cX6_next 122 = .ok (.dup, 1) := by decide +kernel
theorem dX6_next_123 : decode cX6_next 123 = .ok (.getfield 174, 3) := by decide +kernel
theorem dX6_next_126 : decode cX6_next 126 = .ok (.iconst 1, 1) := by decide +kernel
theorem dX6_next_127 : decode cX6_next 127 = .ok (.iadd, 1) := by decide +kernel
theorem dX6_next_128 : decode cX6_next 128 = .ok (.putfield 174, 3) := by decide +kernel
theorem dX6_next_131 : decode cX6_next 131 = .ok (.goto (-31), 3) := by decide +kernel
theorem dX6_next_134 : decode cX6_next 134 = .ok (.iload_n 1, 1) := by decide +kernel
theorem dX6_next_135 : decode cX6_next 135 = .ok (.i2l, 1) := by decide +kernel
theorem dX6_next_136 : decode cX6_next 136 = .ok (.ldc2_w 190, 3) := by decide +kernel
theorem dX6_next_139 : decode cX6_next 139 = .ok (.ldc2_w 192, 3) := by decide +kernel
theorem dX6_next_142 : decode cX6_next 142 = .ok (.invokestatic 107, 3) := by decide +kernel
theorem dX6_next_145 : decode cX6_next 145 = .ok (.ifCond .eq 107, 3) := by decide +kernel
theorem dX6_next_148 : decode cX6_next 148 = .ok (.aload_n 0, 1) := by decide +kernel
theorem dX6_next_149 : decode cX6_next 149 = .ok (.iconst 2, 1) := by decide +kernel
theorem dX6_next_150 : decode cX6_next 150 = .ok (.putfield 183, 3) := by decide +kernel
theorem dX6_next_153 : decode cX6_next 153 = .ok (.aload_n 0, 1) := by decide +kernel
theorem dX6_next_154 : decode cX6_next 154 = .ok (.lconst 0, 1) := by decide +kernel
theorem dX6_next_155 : decode cX6_next 155 = .ok (.putfield 194, 3) := by decide +kernel
theorem dX6_next_158 : decode cX6_next 158 = .ok (.iconst 0, 1) := by decide +kernel
theorem dX6_next_159 : decode cX6_next 159 = .ok (.istore_n 2, 1) := by decide +kernel
theorem dX6_next_160 : decode cX6_next 160 = .ok (.aload_n 0, 1) := by decide +kernel
theorem dX6_next_161 : decode cX6_next 161 = .ok (.aload_n 0, 1) := by decide +kernel
theorem dX6_next_162 : decode cX6_next 162 = .ok (.getfield 174, 3) := by decide +kernel
theorem dX6_next_165 : decode cX6_next 165 = .ok (.invokevirtual 177, 3) := by decide +kernel
theorem dX6_next_168 : decode cX6_next 168 = .ok (.i2l, 1) := by decide +kernel
theorem dX6_next_169 : decode cX6_next 169 = .ok (.ldc2_w 190, 3) := by decide +kernel
theorem dX6_next_172 : decode cX6_next 172 = .ok (.ldc2_w 192, 3) := by decide +kernel
theorem dX6_next_175 : decode cX6_next 175 = .ok (.invokestatic 107, 3) := by decide +kernel
theorem dX6_next_178 : decode cX6_next 178 = .ok (.ifCond .eq 57, 3) := by decide +kernel
theorem dX6_next_181 : decode cX6_next 181 = .ok (.aload_n 0, 1) := by decide +kernel
theorem dX6_next_182 : decode cX6_next 182 = .ok (.iload_n 2, 1) := by decide +kernel
theorem dX6_next_183 : decode cX6_next 183 = .ok (.iconst 4, 1) := by decide +kernel
theorem dX6_next_184 : decode cX6_next 184 = .ok (.if_icmp .ge 28, 3) := by decide +kernel
theorem dX6_next_187 : decode cX6_next 187 = .ok (.ldc2_w 145, 3) := by decide +kernel
theorem dX6_next_190 : decode cX6_next 190 = .ok (.aload_n 0, 1) := by decide +kernel
theorem dX6_next_191 : decode cX6_next 191 = .ok (.getfield 194, 3) := by decide +kernel
theorem dX6_next_194 : decode cX6_next 194 = .ok (.lmul, 1) := by decide +kernel
theorem dX6_next_195 : decode cX6_next 195 = .ok (.aload_n 0, 1) := by decide +kernel
theorem dX6_next_196 : decode cX6_next 196 = .ok (.aload_n 0, 1) := by decide +kernel
theorem dX6_next_197 : decode cX6_next 197 = .ok (.getfield 174, 3) := by decide +kernel
theorem dX6_next_200 : decode cX6_next 200 = .ok (.invokevirtual 177, 3) := by decide +kernel
theorem dX6_next_203 : decode cX6_next 203 = .ok (.i2l, 1) := by decide +kernel
theorem dX6_next_204 : decode cX6_next 204 = .ok (.ladd, 1) := by decide +kernel
theorem dX6_next_205 : decode cX6_next 205 = .ok (.ldc2_w 190, 3) := by decide +kernel
theorem dX6_next_208 : decode cX6_next 208 = .ok (.lsub, 1) := by decide +kernel
theorem dX6_next_209 : decode cX6_next 209 = .ok (.goto 7, 3) := by decide +kernel
theorem dX6_next_212 : decode cX6_next 212 = .ok (.aload_n 0, 1) := by decide +kernel
theorem dX6_next_213 : decode cX6_next 213 = .ok (.getfield 194, 3) := by decide +kernel
theorem dX6_next_216 : decode cX6_next 216 = .ok (.putfield 194, 3) := by decide +kernel
theorem dX6_next_219 : decode cX6_next 219 = .ok (.iinc 2 1, 3) := by decide +kernel
theorem dX6_next_222 : decode cX6_next 222 = .ok (.aload_n 0, 1) := by decide +kernel
theorem dX6_next_223 : decode cX6_next 223 = .ok (.dup, 1) := by decide +kernel
theorem dX6_next_224 : decode cX6_next 224 = .ok (.getfield 174, 3) := by decide +kernel
theorem dX6_next_227 : decode cX6_next 227 = .ok (.iconst 1, 1) := by decide +kernel
theorem dX6_next_228 : decode cX6_next 228 = .ok (.iadd, 1) := by decide +kernel
theorem dX6_next_229 : decode cX6_next 229 = .ok (.putfield 174, 3) := by decide +kernel
theorem dX6_next_232 : decode cX6_next 232 = .ok (.goto (-72), 3) := by decide +kernel
theorem dX6_next_235 : decode cX6_next 235 = .ok (.aload_n 0, 1) := by decide +kernel
theorem dX6_next_236 : decode cX6_next 236 = .ok (.iload_n 2, 1) := by decide +kernel
theorem dX6_next_237 : decode cX6_next 237 = .ok (.iconst 4, 1) := by decide +kernel
theorem dX6_next_238 : decode cX6_next 238 = .ok (.if_icmp .le 7, 3) := by decide +kernel
theorem dX6_next_241 : decode cX6_next 241 = .ok (.iconst 4, 1) := by decide +kernel
theorem dX6_next_242 : decode cX6_next 242 = .ok (.goto 4, 3) := by decide +kernel
theorem dX6_next_245 : decode cX6_next 245 = .ok (.iconst 2, 1) := by decide +kernel
theorem dX6_next_246 : decode cX6_next 246 = .ok (.putfield 183, 3) := by decide +kernel
theorem dX6_next_249 : decode cX6_next 249 = .ok (.goto 72, 3) := by decide +kernel
theorem dX6_next_252 : decode cX6_next 252 = .ok (.iload_n 1, 1) := by decide +kernel
theorem dX6_next_253 : decode cX6_next 253 = .ok (.bipush 40, 2) := by decide +kernel
theorem dX6_next_255 : decode cX6_next 255 = .ok (.if_icmp .eq 45, 3) := by decide +kernel
theorem dX6_next_258 : decode cX6_next 258 = .ok (.iload_n 1, 1) := by decide +kernel
theorem dX6_next_259 : decode cX6_next 259 = .ok (.bipush 41, 2) := by decide +kernel
theorem dX6_next_261 : decode cX6_next 261 = .ok (.if_icmp .eq 39, 3) := by decide +kernel
theorem dX6_next_264 : decode cX6_next 264 = .ok (.iload_n 1, 1) := by decide +kernel
theorem dX6_next_265 : decode cX6_next 265 = .ok (.bipush 59, 2) := by decide +kernel
theorem dX6_next_267 : decode cX6_next 267 = .ok (.if_icmp .eq 33, 3) := by decide +kernel
theorem dX6_next_270 : decode cX6_next 270 = .ok (.iload_n 1, 1) := by decide +kernel
theorem dX6_next_271 : decode cX6_next 271 = .ok (.bipush 43, 2) := by decide +kernel
theorem dX6_next_273 : decode cX6_next 273 = .ok (.if_icmp .eq 27, 3) := by decide +kernel
theorem dX6_next_276 : decode cX6_next 276 = .ok (.iload_n 1, 1) := by decide +kernel
theorem dX6_next_277 : decode cX6_next 277 = .ok (.bipush 45, 2) := by decide +kernel
theorem dX6_next_279 : decode cX6_next 279 = .ok (.if_icmp .eq 21, 3) := by decide +kernel
theorem dX6_next_282 : decode cX6_next 282 = .ok (.iload_n 1, 1) := by decide +kernel
theorem dX6_next_283 : decode cX6_next 283 = .ok (.bipush 42, 2) := by decide +kernel
theorem dX6_next_285 : decode cX6_next 285 = .ok (.if_icmp .eq 15, 3) := by decide +kernel
theorem dX6_next_288 : decode cX6_next 288 = .ok (.iload_n 1, 1) := by decide +kernel
theorem dX6_next_289 : decode cX6_next 289 = .ok (.bipush 60, 2) := by decide +kernel
theorem dX6_next_291 : decode cX6_next 291 = .ok (.if_icmp .eq 9, 3) := by decide +kernel
theorem dX6_next_294 : decode cX6_next 294 = .ok (.iload_n 1, 1) := by decide +kernel
theorem dX6_next_295 : decode cX6_next 295 = .ok (.bipush 61, 2) := by decide +kernel
theorem dX6_next_297 : decode cX6_next 297 = .ok (.if_icmp .ne 24, 3) := by decide +kernel
theorem dX6_next_300 : decode cX6_next 300 = .ok (.aload_n 0, 1) := by decide +kernel
theorem dX6_next_301 : decode cX6_next 301 = .ok (.iconst 3, 1) := by decide +kernel
theorem dX6_next_302 : decode cX6_next 302 = .ok (.putfield 183, 3) := by decide +kernel
theorem dX6_next_305 : decode cX6_next 305 = .ok (.aload_n 0, 1) := by decide +kernel
theorem dX6_next_306 : decode cX6_next 306 = .ok (.iload_n 1, 1) := by decide +kernel
theorem dX6_next_307 : decode cX6_next 307 = .ok (.i2l, 1) := by decide +kernel
theorem dX6_next_308 : decode cX6_next 308 = .ok (.putfield 194, 3) := by decide +kernel
theorem dX6_next_311 : decode cX6_next 311 = .ok (.aload_n 0, 1) := by decide +kernel
theorem dX6_next_312 : decode cX6_next 312 = .ok (.dup, 1) := by decide +kernel
theorem dX6_next_313 : decode cX6_next 313 = .ok (.getfield 174, 3) := by decide +kernel
theorem dX6_next_316 : decode cX6_next 316 = .ok (.iconst 1, 1) := by decide +kernel
theorem dX6_next_317 : decode cX6_next 317 = .ok (.iadd, 1) := by decide +kernel
theorem dX6_next_318 : decode cX6_next 318 = .ok (.putfield 174, 3) := by decide +kernel
theorem dX6_next_321 : decode cX6_next 321 = .ok (.return_, 1) := by decide +kernel
theorem dX6_fail_0 : decode cX6_fail 0 = .ok (.aload_n 0, 1) := by decide +kernel
theorem dX6_fail_1 : decode cX6_fail 1 = .ok (.getfield 198, 3) := by decide +kernel
theorem dX6_fail_4 : decode cX6_fail 4 = .ok (.ifCond .ne 16, 3) := by decide +kernel
theorem dX6_fail_7 : decode cX6_fail 7 = .ok (.aload_n 0, 1) := by decide +kernel
theorem dX6_fail_8 : decode cX6_fail 8 = .ok (.iconst 1, 1) := by decide +kernel
theorem dX6_fail_9 : decode cX6_fail 9 = .ok (.putfield 198, 3) := by decide +kernel
theorem dX6_fail_12 : decode cX6_fail 12 = .ok (.aload_n 0, 1) := by decide +kernel
theorem dX6_fail_13 : decode cX6_fail 13 = .ok (.aload_n 0, 1) := by decide +kernel
theorem dX6_fail_14 : decode cX6_fail 14 = .ok (.getfield 180, 3) := by decide +kernel
theorem dX6_fail_17 : decode cX6_fail 17 = .ok (.putfield 202, 3) := by decide +kernel
theorem dX6_fail_20 : decode cX6_fail 20 = .ok (.return_, 1) := by decide +kernel
theorem dX6_isLetter_0 : decode cX6_isLetter 0 = .ok (.aload_n 0, 1) := by decide +kernel
theorem dX6_isLetter_1 : decode cX6_isLetter 1 = .ok (.getfield 180, 3) := by decide +kernel
theorem dX6_isLetter_4 : decode cX6_isLetter 4 = .ok (.iload_n 1, 1) := by decide +kernel
theorem dX6_isLetter_5 : decode cX6_isLetter 5 = .ok (.iadd, 1) := by decide +kernel
theorem dX6_isLetter_6 : decode cX6_isLetter 6 = .ok (.aload_n 0, 1) := by decide +kernel
theorem dX6_isLetter_7 : decode cX6_isLetter 7 = .ok (.getfield 174, 3) := by decide +kernel
theorem dX6_isLetter_10 : decode cX6_isLetter 10 = .ok (.if_icmp .ge 25, 3) := by decide +kernel
theorem dX6_isLetter_13 : decode cX6_isLetter 13 = .ok (.aload_n 0, 1) := by decide +kernel
theorem dX6_isLetter_14 : decode cX6_isLetter 14 = .ok (.aload_n 0, 1) := by decide +kernel
theorem dX6_isLetter_15 : decode cX6_isLetter 15 = .ok (.getfield 180, 3) := by decide +kernel
theorem dX6_isLetter_18 : decode cX6_isLetter 18 = .ok (.iload_n 1, 1) := by decide +kernel
theorem dX6_isLetter_19 : decode cX6_isLetter 19 = .ok (.iadd, 1) := by decide +kernel
theorem dX6_isLetter_20 : decode cX6_isLetter 20 = .ok (.invokevirtual 177, 3) := by decide +kernel
theorem dX6_isLetter_23 : decode cX6_isLetter 23 = .ok (.iload_n 2, 1) := by decide +kernel
theorem dX6_isLetter_24 : decode cX6_isLetter 24 = .ok (.if_icmp .ne 7, 3) := by decide +kernel
theorem dX6_isLetter_27 : decode cX6_isLetter 27 = .ok (.iconst 1, 1) := by decide +kernel
theorem dX6_isLetter_28 : decode cX6_isLetter 28 = .ok (.goto 16, 3) := by decide +kernel
theorem dX6_isLetter_31 : decode cX6_isLetter 31 = .ok (.iconst 0, 1) := by decide +kernel
theorem dX6_isLetter_32 : decode cX6_isLetter 32 = .ok (.goto 12, 3) := by decide +kernel
theorem dX6_isLetter_35 : decode cX6_isLetter 35 = .ok (.iload_n 2, 1) := by decide +kernel
theorem dX6_isLetter_36 : decode cX6_isLetter 36 = .ok (.ifCond .ne 7, 3) := by decide +kernel
theorem dX6_isLetter_39 : decode cX6_isLetter 39 = .ok (.iconst 1, 1) := by decide +kernel
theorem dX6_isLetter_40 : decode cX6_isLetter 40 = .ok (.goto 4, 3) := by decide +kernel
theorem dX6_isLetter_43 : decode cX6_isLetter 43 = .ok (.iconst 0, 1) := by decide +kernel
theorem dX6_isLetter_44 : decode cX6_isLetter 44 = .ok (.ireturn, 1) := by decide +kernel
theorem dX6_isWord_0 : decode cX6_isWord 0 = .ok (.aload_n 0, 1) := by decide +kernel
theorem dX6_isWord_1 : decode cX6_isWord 1 = .ok (.getfield 198, 3) := by decide +kernel
theorem dX6_isWord_4 : decode cX6_isWord 4 = .ok (.ifCond .ne 108, 3) := by decide +kernel
theorem dX6_isWord_7 : decode cX6_isWord 7 = .ok (.aload_n 0, 1) := by decide +kernel
theorem dX6_isWord_8 : decode cX6_isWord 8 = .ok (.getfield 183, 3) := by decide +kernel
theorem dX6_isWord_11 : decode cX6_isWord 11 = .ok (.iconst 1, 1) := by decide +kernel
theorem dX6_isWord_12 : decode cX6_isWord 12 = .ok (.if_icmp .ne 100, 3) := by decide +kernel
theorem dX6_isWord_15 : decode cX6_isWord 15 = .ok (.aload_n 0, 1) := by decide +kernel
theorem dX6_isWord_16 : decode cX6_isWord 16 = .ok (.getfield 174, 3) := by decide +kernel
theorem dX6_isWord_19 : decode cX6_isWord 19 = .ok (.aload_n 0, 1) := by decide +kernel
theorem dX6_isWord_20 : decode cX6_isWord 20 = .ok (.getfield 180, 3) := by decide +kernel
theorem dX6_isWord_23 : decode cX6_isWord 23 = .ok (.bipush 8, 2) := by decide +kernel
theorem dX6_isWord_25 : decode cX6_isWord 25 = .ok (.iadd, 1) := by decide +kernel
theorem dX6_isWord_26 : decode cX6_isWord 26 = .ok (.if_icmp .gt 86, 3) := by decide +kernel
theorem dX6_isWord_29 : decode cX6_isWord 29 = .ok (.aload_n 0, 1) := by decide +kernel
theorem dX6_isWord_30 : decode cX6_isWord 30 = .ok (.iconst 0, 1) := by decide +kernel
theorem dX6_isWord_31 : decode cX6_isWord 31 = .ok (.iload_n 1, 1) := by decide +kernel
theorem dX6_isWord_32 : decode cX6_isWord 32 = .ok (.invokevirtual 205, 3) := by decide +kernel
theorem dX6_isWord_35 : decode cX6_isWord 35 = .ok (.ifCond .eq 77, 3) := by decide +kernel
theorem dX6_isWord_38 : decode cX6_isWord 38 = .ok (.aload_n 0, 1) := by decide +kernel
theorem dX6_isWord_39 : decode cX6_isWord 39 = .ok (.iconst 1, 1) := by decide +kernel
theorem dX6_isWord_40 : decode cX6_isWord 40 = .ok (.iload_n 2, 1) := by decide +kernel
theorem dX6_isWord_41 : decode cX6_isWord 41 = .ok (.invokevirtual 205, 3) := by decide +kernel
theorem dX6_isWord_44 : decode cX6_isWord 44 = .ok (.ifCond .eq 68, 3) := by decide +kernel
theorem dX6_isWord_47 : decode cX6_isWord 47 = .ok (.aload_n 0, 1) := by decide +kernel
theorem dX6_isWord_48 : decode cX6_isWord 48 = .ok (.iconst 2, 1) := by decide +kernel
theorem dX6_isWord_49 : decode cX6_isWord 49 = .ok (.iload_n 3, 1) := by decide +kernel
theorem dX6_isWord_50 : decode cX6_isWord 50 = .ok (.invokevirtual 205, 3) := by decide +kernel
theorem dX6_isWord_53 : decode cX6_isWord 53 = .ok (.ifCond .eq 59, 3) := by decide +kernel
theorem dX6_isWord_56 : decode cX6_isWord 56 = .ok (.aload_n 0, 1) := by decide +kernel
theorem dX6_isWord_57 : decode cX6_isWord 57 = .ok (.iconst 3, 1) := by decide +kernel
theorem dX6_isWord_58 : decode cX6_isWord 58 = .ok (.iload 4, 2) := by decide +kernel
theorem dX6_isWord_60 : decode cX6_isWord 60 = .ok (.invokevirtual 205, 3) := by decide +kernel
theorem dX6_isWord_63 : decode cX6_isWord 63 = .ok (.ifCond .eq 49, 3) := by decide +kernel
theorem dX6_isWord_66 : decode cX6_isWord 66 = .ok (.aload_n 0, 1) := by decide +kernel
theorem dX6_isWord_67 : decode cX6_isWord 67 = .ok (.iconst 4, 1) := by decide +kernel
theorem dX6_isWord_68 : decode cX6_isWord 68 = .ok (.iload 5, 2) := by decide +kernel
theorem dX6_isWord_70 : decode cX6_isWord 70 = .ok (.invokevirtual 205, 3) := by decide +kernel
theorem dX6_isWord_73 : decode cX6_isWord 73 = .ok (.ifCond .eq 39, 3) := by decide +kernel
theorem dX6_isWord_76 : decode cX6_isWord 76 = .ok (.aload_n 0, 1) := by decide +kernel
theorem dX6_isWord_77 : decode cX6_isWord 77 = .ok (.iconst 5, 1) := by decide +kernel
theorem dX6_isWord_78 : decode cX6_isWord 78 = .ok (.iload 6, 2) := by decide +kernel
theorem dX6_isWord_80 : decode cX6_isWord 80 = .ok (.invokevirtual 205, 3) := by decide +kernel
theorem dX6_isWord_83 : decode cX6_isWord 83 = .ok (.ifCond .eq 29, 3) := by decide +kernel
theorem dX6_isWord_86 : decode cX6_isWord 86 = .ok (.aload_n 0, 1) := by decide +kernel
theorem dX6_isWord_87 : decode cX6_isWord 87 = .ok (.bipush 6, 2) := by decide +kernel
theorem dX6_isWord_89 : decode cX6_isWord 89 = .ok (.iload 7, 2) := by decide +kernel
theorem dX6_isWord_91 : decode cX6_isWord 91 = .ok (.invokevirtual 205, 3) := by decide +kernel
theorem dX6_isWord_94 : decode cX6_isWord 94 = .ok (.ifCond .eq 18, 3) := by decide +kernel
theorem dX6_isWord_97 : decode cX6_isWord 97 = .ok (.aload_n 0, 1) := by decide +kernel
theorem dX6_isWord_98 : decode cX6_isWord 98 = .ok (.bipush 7, 2) := by decide +kernel
theorem dX6_isWord_100 : decode cX6_isWord 100 = .ok (.iload 8, 2) := by decide +kernel
theorem dX6_isWord_102 : decode cX6_isWord 102 = .ok (.invokevirtual 205, 3) := by decide +kernel
theorem dX6_isWord_105 : decode cX6_isWord 105 = .ok (.ifCond .eq 7, 3) := by decide +kernel
theorem dX6_isWord_108 : decode cX6_isWord 108 = .ok (.iconst 1, 1) := by decide +kernel
theorem dX6_isWord_109 : decode cX6_isWord 109 = .ok (.goto 4, 3) := by decide +kernel
theorem dX6_isWord_112 : decode cX6_isWord 112 = .ok (.iconst 0, 1) := by decide +kernel
theorem dX6_isWord_113 : decode cX6_isWord 113 = .ok (.ireturn, 1) := by decide +kernel
theorem dX6_isSign_0 : decode cX6_isSign 0 = .ok (.aload_n 0, 1) := by decide +kernel
theorem dX6_isSign_1 : decode cX6_isSign 1 = .ok (.getfield 198, 3) := by decide +kernel
theorem dX6_isSign_4 : decode cX6_isSign 4 = .ok (.ifCond .ne 25, 3) := by decide +kernel
theorem dX6_isSign_7 : decode cX6_isSign 7 = .ok (.aload_n 0, 1) := by decide +kernel
theorem dX6_isSign_8 : decode cX6_isSign 8 = .ok (.getfield 183, 3) := by decide +kernel
theorem dX6_isSign_11 : decode cX6_isSign 11 = .ok (.iconst 3, 1) := by decide +kernel
theorem dX6_isSign_12 : decode cX6_isSign 12 = .ok (.if_icmp .ne 17, 3) := by decide +kernel
theorem dX6_isSign_15 : decode cX6_isSign 15 = .ok (.aload_n 0, 1) := by decide +kernel
theorem dX6_isSign_16 : decode cX6_isSign 16 = .ok (.getfield 194, 3) := by decide +kernel
theorem dX6_isSign_19 : decode cX6_isSign 19 = .ok (.iload_n 1, 1) := by decide +kernel
theorem dX6_isSign_20 : decode cX6_isSign 20 = .ok (.i2l, 1) := by decide +kernel
theorem dX6_isSign_21 : decode cX6_isSign 21 = .ok (.lcmp, 1) := by decide +kernel
theorem dX6_isSign_22 : decode cX6_isSign 22 = .ok (.ifCond .ne 7, 3) := by decide +kernel
theorem dX6_isSign_25 : decode cX6_isSign 25 = .ok (.iconst 1, 1) := by decide +kernel
theorem dX6_isSign_26 : decode cX6_isSign 26 = .ok (.goto 4, 3) := by decide +kernel
theorem dX6_isSign_29 : decode cX6_isSign 29 = .ok (.iconst 0, 1) := by decide +kernel
theorem dX6_isSign_30 : decode cX6_isSign 30 = .ok (.ireturn, 1) := by decide +kernel
theorem dX6_opens_0 : decode cX6_opens 0 = .ok (.aload_n 0, 1) := by decide +kernel
theorem dX6_opens_1 : decode cX6_opens 1 = .ok (.getfield 209, 3) := by decide +kernel
theorem dX6_opens_4 : decode cX6_opens 4 = .ok (.iconst 5, 1) := by decide +kernel
theorem dX6_opens_5 : decode cX6_opens 5 = .ok (.if_icmp .ne 9, 3) := by decide +kernel
theorem dX6_opens_8 : decode cX6_opens 8 = .ok (.aload_n 0, 1) := by decide +kernel
theorem dX6_opens_9 : decode cX6_opens 9 = .ok (.invokevirtual 212, 3) := by decide +kernel
theorem dX6_opens_12 : decode cX6_opens 12 = .ok (.iconst 0, 1) := by decide +kernel
theorem dX6_opens_13 : decode cX6_opens 13 = .ok (.ireturn, 1) := by decide +kernel
theorem dX6_opens_14 : decode cX6_opens 14 = .ok (.aload_n 0, 1) := by decide +kernel
theorem dX6_opens_15 : decode cX6_opens 15 = .ok (.dup, 1) := by decide +kernel
theorem dX6_opens_16 : decode cX6_opens 16 = .ok (.getfield 209, 3) := by decide +kernel
theorem dX6_opens_19 : decode cX6_opens 19 = .ok (.iconst 1, 1) := by decide +kernel
theorem dX6_opens_20 : decode cX6_opens 20 = .ok (.iadd, 1) := by decide +kernel
theorem dX6_opens_21 : decode cX6_opens 21 = .ok (.putfield 209, 3) := by decide +kernel
theorem dX6_opens_24 : decode cX6_opens 24 = .ok (.aload_n 0, 1) := by decide +kernel
theorem dX6_opens_25 : decode cX6_opens 25 = .ok (.invokevirtual 215, 3) := by decide +kernel
theorem dX6_opens_28 : decode cX6_opens 28 = .ok (.iconst 1, 1) := by decide +kernel
theorem dX6_opens_29 : decode cX6_opens 29 = .ok (.ireturn, 1) := by decide +kernel
theorem dX6_name_0 : decode cX6_name 0 = .ok (.aload_n 0, 1) := by decide +kernel
theorem dX6_name_1 : decode cX6_name 1 = .ok (.bipush 115, 2) := by decide +kernel
theorem dX6_name_3 : decode cX6_name 3 = .ok (.bipush 105, 2) := by decide +kernel
theorem dX6_name_5 : decode cX6_name 5 = .ok (.bipush 122, 2) := by decide +kernel
theorem dX6_name_7 : decode cX6_name 7 = .ok (.bipush 101, 2) := by decide +kernel
theorem dX6_name_9 : decode cX6_name 9 = .ok (.iconst 0, 1) := by decide +kernel
theorem dX6_name_10 : decode cX6_name 10 = .ok (.iconst 0, 1) := by decide +kernel
theorem dX6_name_11 : decode cX6_name 11 = .ok (.iconst 0, 1) := by decide +kernel
theorem dX6_name_12 : decode cX6_name 12 = .ok (.iconst 0, 1) := by decide +kernel
theorem dX6_name_13 : decode cX6_name 13 = .ok (.invokevirtual 218, 3) := by decide +kernel
theorem dX6_name_16 : decode cX6_name 16 = .ok (.ifCond .eq 8, 3) := by decide +kernel
theorem dX6_name_19 : decode cX6_name 19 = .ok (.aload_n 0, 1) := by decide +kernel
theorem dX6_name_20 : decode cX6_name 20 = .ok (.getfield 222, 3) := by decide +kernel
theorem dX6_name_23 : decode cX6_name 23 = .ok (.ireturn, 1) := by decide +kernel
theorem dX6_name_24 : decode cX6_name 24 = .ok (.aload_n 0, 1) := by decide +kernel
theorem dX6_name_25 : decode cX6_name 25 = .ok (.bipush 102, 2) := by decide +kernel
theorem dX6_name_27 : decode cX6_name 27 = .ok (.bipush 114, 2) := by decide +kernel
theorem dX6_name_29 : decode cX6_name 29 = .ok (.bipush 111, 2) := by decide +kernel
theorem dX6_name_31 : decode cX6_name 31 = .ok (.bipush 109, 2) := by decide +kernel
theorem dX6_name_33 : decode cX6_name 33 = .ok (.iconst 0, 1) := by decide +kernel
theorem dX6_name_34 : decode cX6_name 34 = .ok (.iconst 0, 1) := by decide +kernel
theorem dX6_name_35 : decode cX6_name 35 = .ok (.iconst 0, 1) := by decide +kernel
theorem dX6_name_36 : decode cX6_name 36 = .ok (.iconst 0, 1) := by decide +kernel
theorem dX6_name_37 : decode cX6_name 37 = .ok (.invokevirtual 218, 3) := by decide +kernel
theorem dX6_name_40 : decode cX6_name 40 = .ok (.ifCond .eq 8, 3) := by decide +kernel
theorem dX6_name_43 : decode cX6_name 43 = .ok (.aload_n 0, 1) := by decide +kernel
theorem dX6_name_44 : decode cX6_name 44 = .ok (.getfield 225, 3) := by decide +kernel
theorem dX6_name_47 : decode cX6_name 47 = .ok (.ireturn, 1) := by decide +kernel
theorem dX6_name_48 : decode cX6_name 48 = .ok (.aload_n 0, 1) := by decide +kernel
theorem dX6_name_49 : decode cX6_name 49 = .ok (.bipush 116, 2) := by decide +kernel
theorem dX6_name_51 : decode cX6_name 51 = .ok (.bipush 111, 2) := by decide +kernel
theorem dX6_name_53 : decode cX6_name 53 = .ok (.iconst 0, 1) := by decide +kernel
theorem dX6_name_54 : decode cX6_name 54 = .ok (.iconst 0, 1) := by decide +kernel
theorem dX6_name_55 : decode cX6_name 55 = .ok (.iconst 0, 1) := by decide +kernel
theorem dX6_name_56 : decode cX6_name 56 = .ok (.iconst 0, 1) := by decide +kernel
theorem dX6_name_57 : decode cX6_name 57 = .ok (.iconst 0, 1) := by decide +kernel
theorem dX6_name_58 : decode cX6_name 58 = .ok (.iconst 0, 1) := by decide +kernel
theorem dX6_name_59 : decode cX6_name 59 = .ok (.invokevirtual 218, 3) := by decide +kernel
theorem dX6_name_62 : decode cX6_name 62 = .ok (.ifCond .eq 8, 3) := by decide +kernel
theorem dX6_name_65 : decode cX6_name 65 = .ok (.aload_n 0, 1) := by decide +kernel
theorem dX6_name_66 : decode cX6_name 66 = .ok (.getfield 228, 3) := by decide +kernel
theorem dX6_name_69 : decode cX6_name 69 = .ok (.ireturn, 1) := by decide +kernel
theorem dX6_name_70 : decode cX6_name 70 = .ok (.aload_n 0, 1) := by decide +kernel
theorem dX6_name_71 : decode cX6_name 71 = .ok (.bipush 116, 2) := by decide +kernel
theorem dX6_name_73 : decode cX6_name 73 = .ok (.bipush 104, 2) := by decide +kernel
theorem dX6_name_75 : decode cX6_name 75 = .ok (.bipush 105, 2) := by decide +kernel
theorem dX6_name_77 : decode cX6_name 77 = .ok (.bipush 110, 2) := by decide +kernel
theorem dX6_name_79 : decode cX6_name 79 = .ok (.bipush 103, 2) := by decide +kernel
theorem dX6_name_81 : decode cX6_name 81 = .ok (.iconst 0, 1) := by decide +kernel
theorem dX6_name_82 : decode cX6_name 82 = .ok (.iconst 0, 1) := by decide +kernel
theorem dX6_name_83 : decode cX6_name 83 = .ok (.iconst 0, 1) := by decide +kernel
theorem dX6_name_84 : decode cX6_name 84 = .ok (.invokevirtual 218, 3) := by decide +kernel
theorem dX6_name_87 : decode cX6_name 87 = .ok (.ifCond .eq 8, 3) := by decide +kernel
theorem dX6_name_90 : decode cX6_name 90 = .ok (.aload_n 0, 1) := by decide +kernel
theorem dX6_name_91 : decode cX6_name 91 = .ok (.getfield 231, 3) := by decide +kernel
theorem dX6_name_94 : decode cX6_name 94 = .ok (.ireturn, 1) := by decide +kernel
theorem dX6_name_95 : decode cX6_name 95 = .ok (.aload_n 0, 1) := by decide +kernel
theorem dX6_name_96 : decode cX6_name 96 = .ok (.bipush 109, 2) := by decide +kernel
theorem dX6_name_98 : decode cX6_name 98 = .ok (.bipush 97, 2) := by decide +kernel
theorem dX6_name_100 : decode cX6_name 100 = .ok (.bipush 110, 2) := by decide +kernel
theorem dX6_name_102 : decode cX6_name 102 = .ok (.bipush 121, 2) := by decide +kernel
theorem dX6_name_104 : decode cX6_name 104 = .ok (.iconst 0, 1) := by decide +kernel
theorem dX6_name_105 : decode cX6_name 105 = .ok (.iconst 0, 1) := by decide +kernel
theorem dX6_name_106 : decode cX6_name 106 = .ok (.iconst 0, 1) := by decide +kernel
theorem dX6_name_107 : decode cX6_name 107 = .ok (.iconst 0, 1) := by decide +kernel
theorem dX6_name_108 : decode cX6_name 108 = .ok (.invokevirtual 218, 3) := by decide +kernel
theorem dX6_name_111 : decode cX6_name 111 = .ok (.ifCond .eq 8, 3) := by decide +kernel
theorem dX6_name_114 : decode cX6_name 114 = .ok (.aload_n 0, 1) := by decide +kernel
theorem dX6_name_115 : decode cX6_name 115 = .ok (.getfield 234, 3) := by decide +kernel
theorem dX6_name_118 : decode cX6_name 118 = .ok (.ireturn, 1) := by decide +kernel
theorem dX6_name_119 : decode cX6_name 119 = .ok (.aload_n 0, 1) := by decide +kernel
theorem dX6_name_120 : decode cX6_name 120 = .ok (.bipush 119, 2) := by decide +kernel
theorem dX6_name_122 : decode cX6_name 122 = .ok (.bipush 101, 2) := by decide +kernel
theorem dX6_name_124 : decode cX6_name 124 = .ok (.bipush 116, 2) := by decide +kernel
theorem dX6_name_126 : decode cX6_name 126 = .ok (.iconst 0, 1) := by decide +kernel
theorem dX6_name_127 : decode cX6_name 127 = .ok (.iconst 0, 1) := by decide +kernel
theorem dX6_name_128 : decode cX6_name 128 = .ok (.iconst 0, 1) := by decide +kernel
theorem dX6_name_129 : decode cX6_name 129 = .ok (.iconst 0, 1) := by decide +kernel
theorem dX6_name_130 : decode cX6_name 130 = .ok (.iconst 0, 1) := by decide +kernel
theorem dX6_name_131 : decode cX6_name 131 = .ok (.invokevirtual 218, 3) := by decide +kernel
theorem dX6_name_134 : decode cX6_name 134 = .ok (.ifCond .eq 8, 3) := by decide +kernel
theorem dX6_name_137 : decode cX6_name 137 = .ok (.aload_n 0, 1) := by decide +kernel
theorem dX6_name_138 : decode cX6_name 138 = .ok (.getfield 237, 3) := by decide +kernel
theorem dX6_name_141 : decode cX6_name 141 = .ok (.ireturn, 1) := by decide +kernel
theorem dX6_name_142 : decode cX6_name 142 = .ok (.aload_n 0, 1) := by decide +kernel
theorem dX6_name_143 : decode cX6_name 143 = .ok (.invokevirtual 212, 3) := by decide +kernel
theorem dX6_name_146 : decode cX6_name 146 = .ok (.iconst 0, 1) := by decide +kernel
theorem dX6_name_147 : decode cX6_name 147 = .ok (.ireturn, 1) := by decide +kernel
theorem dX6_atom5_0 : decode cX6_atom5 0 = .ok (.iconst 0, 1) := by decide +kernel
theorem dX6_atom5_1 : decode cX6_atom5 1 = .ok (.istore_n 1, 1) := by decide +kernel
theorem dX6_atom5_2 : decode cX6_atom5 2 = .ok (.aload_n 0, 1) := by decide +kernel
theorem dX6_atom5_3 : decode cX6_atom5 3 = .ok (.bipush 45, 2) := by decide +kernel
theorem dX6_atom5_5 : decode cX6_atom5 5 = .ok (.invokevirtual 240, 3) := by decide +kernel
theorem dX6_atom5_8 : decode cX6_atom5 8 = .ok (.ifCond .eq 11, 3) := by decide +kernel
theorem dX6_atom5_11 : decode cX6_atom5 11 = .ok (.aload_n 0, 1) := by decide +kernel
theorem dX6_atom5_12 : decode cX6_atom5 12 = .ok (.invokevirtual 243, 3) := by decide +kernel
theorem dX6_atom5_15 : decode cX6_atom5 15 = .ok (.pop, 1) := by decide +kernel
theorem dX6_atom5_16 : decode cX6_atom5 16 = .ok (.goto 86, 3) := by decide +kernel
theorem dX6_atom5_19 : decode cX6_atom5 19 = .ok (.aload_n 0, 1) := by decide +kernel
theorem dX6_atom5_20 : decode cX6_atom5 20 = .ok (.bipush 40, 2) := by decide +kernel
theorem dX6_atom5_22 : decode cX6_atom5 22 = .ok (.invokevirtual 240, 3) := by decide +kernel
theorem dX6_atom5_25 : decode cX6_atom5 25 = .ok (.ifCond .eq 11, 3) := by decide +kernel
theorem dX6_atom5_28 : decode cX6_atom5 28 = .ok (.aload_n 0, 1) := by decide +kernel
theorem dX6_atom5_29 : decode cX6_atom5 29 = .ok (.invokevirtual 243, 3) := by decide +kernel
theorem dX6_atom5_32 : decode cX6_atom5 32 = .ok (.pop, 1) := by decide +kernel
theorem dX6_atom5_33 : decode cX6_atom5 33 = .ok (.goto 69, 3) := by decide +kernel
theorem dX6_atom5_36 : decode cX6_atom5 36 = .ok (.aload_n 0, 1) := by decide +kernel
theorem dX6_atom5_37 : decode cX6_atom5 37 = .ok (.getfield 198, 3) := by decide +kernel
theorem dX6_atom5_40 : decode cX6_atom5 40 = .ok (.ifCond .ne 24, 3) := by decide +kernel
theorem dX6_atom5_43 : decode cX6_atom5 43 = .ok (.aload_n 0, 1) := by decide +kernel
theorem dX6_atom5_44 : decode cX6_atom5 44 = .ok (.getfield 183, 3) := by decide +kernel
theorem dX6_atom5_47 : decode cX6_atom5 47 = .ok (.iconst 2, 1) := by decide +kernel
theorem dX6_atom5_48 : decode cX6_atom5 48 = .ok (.if_icmp .ne 16, 3) := by decide +kernel
theorem dX6_atom5_51 : decode cX6_atom5 51 = .ok (.aload_n 0, 1) := by decide +kernel
theorem dX6_atom5_52 : decode cX6_atom5 52 = .ok (.getfield 194, 3) := by decide +kernel
theorem dX6_atom5_55 : decode cX6_atom5 55 = .ok (.l2i, 1) := by decide +kernel
theorem dX6_atom5_56 : decode cX6_atom5 56 = .ok (.istore_n 1, 1) := by decide +kernel
theorem dX6_atom5_57 : decode cX6_atom5 57 = .ok (.aload_n 0, 1) := by decide +kernel
theorem dX6_atom5_58 : decode cX6_atom5 58 = .ok (.invokevirtual 215, 3) := by decide +kernel
theorem dX6_atom5_61 : decode cX6_atom5 61 = .ok (.goto 41, 3) := by decide +kernel
theorem dX6_atom5_64 : decode cX6_atom5 64 = .ok (.aload_n 0, 1) := by decide +kernel
theorem dX6_atom5_65 : decode cX6_atom5 65 = .ok (.getfield 198, 3) := by decide +kernel
theorem dX6_atom5_68 : decode cX6_atom5 68 = .ok (.ifCond .ne 30, 3) := by decide +kernel
theorem dX6_atom5_71 : decode cX6_atom5 71 = .ok (.aload_n 0, 1) := by decide +kernel
theorem dX6_atom5_72 : decode cX6_atom5 72 = .ok (.getfield 183, 3) := by decide +kernel
theorem dX6_atom5_75 : decode cX6_atom5 75 = .ok (.iconst 1, 1) := by decide +kernel
theorem dX6_atom5_76 : decode cX6_atom5 76 = .ok (.if_icmp .ne 22, 3) := by decide +kernel
theorem dX6_atom5_79 : decode cX6_atom5 79 = .ok (.aload_n 0, 1) := by decide +kernel
theorem dX6_atom5_80 : decode cX6_atom5 80 = .ok (.invokevirtual 247, 3) := by decide +kernel
theorem dX6_atom5_83 : decode cX6_atom5 83 = .ok (.istore_n 1, 1) := by decide +kernel
theorem dX6_atom5_84 : decode cX6_atom5 84 = .ok (.aload_n 0, 1) := by decide +kernel
theorem dX6_atom5_85 : decode cX6_atom5 85 = .ok (.getfield 198, 3) := by decide +kernel
theorem dX6_atom5_88 : decode cX6_atom5 88 = .ok (.ifCond .ne 14, 3) := by decide +kernel
theorem dX6_atom5_91 : decode cX6_atom5 91 = .ok (.aload_n 0, 1) := by decide +kernel
theorem dX6_atom5_92 : decode cX6_atom5 92 = .ok (.invokevirtual 215, 3) := by decide +kernel
theorem dX6_atom5_95 : decode cX6_atom5 95 = .ok (.goto 7, 3) := by decide +kernel
theorem dX6_atom5_98 : decode cX6_atom5 98 = .ok (.aload_n 0, 1) := by decide +kernel
theorem dX6_atom5_99 : decode cX6_atom5 99 = .ok (.invokevirtual 212, 3) := by decide +kernel
theorem dX6_atom5_102 : decode cX6_atom5 102 = .ok (.iload_n 1, 1) := by decide +kernel
theorem dX6_atom5_103 : decode cX6_atom5 103 = .ok (.ireturn, 1) := by decide +kernel
theorem dX6_term5_0 : decode cX6_term5 0 = .ok (.aload_n 0, 1) := by decide +kernel
theorem dX6_term5_1 : decode cX6_term5 1 = .ok (.invokevirtual 251, 3) := by decide +kernel
theorem dX6_term5_4 : decode cX6_term5 4 = .ok (.istore_n 1, 1) := by decide +kernel
theorem dX6_term5_5 : decode cX6_term5 5 = .ok (.aload_n 0, 1) := by decide +kernel
theorem dX6_term5_6 : decode cX6_term5 6 = .ok (.bipush 42, 2) := by decide +kernel
theorem dX6_term5_8 : decode cX6_term5 8 = .ok (.invokevirtual 240, 3) := by decide +kernel
theorem dX6_term5_11 : decode cX6_term5 11 = .ok (.ifCond .eq 17, 3) := by decide +kernel
theorem dX6_term5_14 : decode cX6_term5 14 = .ok (.aload_n 0, 1) := by decide +kernel
theorem dX6_term5_15 : decode cX6_term5 15 = .ok (.invokevirtual 215, 3) := by decide +kernel
theorem dX6_term5_18 : decode cX6_term5 18 = .ok (.iload_n 1, 1) := by decide +kernel
theorem dX6_term5_19 : decode cX6_term5 19 = .ok (.aload_n 0, 1) := by decide +kernel
theorem dX6_term5_20 : decode cX6_term5 20 = .ok (.invokevirtual 251, 3) := by decide +kernel
theorem dX6_term5_23 : decode cX6_term5 23 = .ok (.imul, 1) := by decide +kernel
theorem dX6_term5_24 : decode cX6_term5 24 = .ok (.istore_n 1, 1) := by decide +kernel
theorem dX6_term5_25 : decode cX6_term5 25 = .ok (.goto (-20), 3) := by decide +kernel
theorem dX6_term5_28 : decode cX6_term5 28 = .ok (.iload_n 1, 1) := by decide +kernel
theorem dX6_term5_29 : decode cX6_term5 29 = .ok (.ireturn, 1) := by decide +kernel
theorem dX6_added5_0 : decode cX6_added5 0 = .ok (.aload_n 0, 1) := by decide +kernel
theorem dX6_added5_1 : decode cX6_added5 1 = .ok (.invokevirtual 254, 3) := by decide +kernel
theorem dX6_added5_4 : decode cX6_added5 4 = .ok (.istore_n 1, 1) := by decide +kernel
theorem dX6_added5_5 : decode cX6_added5 5 = .ok (.aload_n 0, 1) := by decide +kernel
theorem dX6_added5_6 : decode cX6_added5 6 = .ok (.bipush 43, 2) := by decide +kernel
theorem dX6_added5_8 : decode cX6_added5 8 = .ok (.invokevirtual 240, 3) := by decide +kernel
theorem dX6_added5_11 : decode cX6_added5 11 = .ok (.ifCond .ne 12, 3) := by decide +kernel
theorem dX6_added5_14 : decode cX6_added5 14 = .ok (.aload_n 0, 1) := by decide +kernel
theorem dX6_added5_15 : decode cX6_added5 15 = .ok (.bipush 45, 2) := by decide +kernel
theorem dX6_added5_17 : decode cX6_added5 17 = .ok (.invokevirtual 240, 3) := by decide +kernel
theorem dX6_added5_20 : decode cX6_added5 20 = .ok (.ifCond .eq 46, 3) := by decide +kernel
theorem dX6_added5_23 : decode cX6_added5 23 = .ok (.aload_n 0, 1) := by decide +kernel
theorem dX6_added5_24 : decode cX6_added5 24 = .ok (.getfield 194, 3) := by decide +kernel
theorem dX6_added5_27 : decode cX6_added5 27 = .ok (.ldc2_w 257, 3) := by decide +kernel
theorem dX6_added5_30 : decode cX6_added5 30 = .ok (.lcmp, 1) := by decide +kernel
theorem dX6_added5_31 : decode cX6_added5 31 = .ok (.ifCond .ne 7, 3) := by decide +kernel
theorem dX6_added5_34 : decode cX6_added5 34 = .ok (.iconst 1, 1) := by decide +kernel
theorem dX6_added5_35 : decode cX6_added5 35 = .ok (.goto 4, 3) := by decide +kernel
theorem dX6_added5_38 : decode cX6_added5 38 = .ok (.iconst 0, 1) := by decide +kernel
theorem dX6_added5_39 : decode cX6_added5 39 = .ok (.istore_n 2, 1) := by decide +kernel
theorem dX6_added5_40 : decode cX6_added5 40 = .ok (.aload_n 0, 1) := by decide +kernel
theorem dX6_added5_41 : decode cX6_added5 41 = .ok (.invokevirtual 215, 3) := by decide +kernel
theorem dX6_added5_44 : decode cX6_added5 44 = .ok (.aload_n 0, 1) := by decide +kernel
theorem dX6_added5_45 : decode cX6_added5 45 = .ok (.invokevirtual 254, 3) := by decide +kernel
theorem dX6_added5_48 : decode cX6_added5 48 = .ok (.istore_n 3, 1) := by decide +kernel
theorem dX6_added5_49 : decode cX6_added5 49 = .ok (.iload_n 2, 1) := by decide +kernel
theorem dX6_added5_50 : decode cX6_added5 50 = .ok (.ifCond .eq 9, 3) := by decide +kernel
theorem dX6_added5_53 : decode cX6_added5 53 = .ok (.iload_n 1, 1) := by decide +kernel
theorem dX6_added5_54 : decode cX6_added5 54 = .ok (.iload_n 3, 1) := by decide +kernel
theorem dX6_added5_55 : decode cX6_added5 55 = .ok (.iadd, 1) := by decide +kernel
theorem dX6_added5_56 : decode cX6_added5 56 = .ok (.goto 6, 3) := by decide +kernel
theorem dX6_added5_59 : decode cX6_added5 59 = .ok (.iload_n 1, 1) := by decide +kernel
theorem dX6_added5_60 : decode cX6_added5 60 = .ok (.iload_n 3, 1) := by decide +kernel
theorem dX6_added5_61 : decode cX6_added5 61 = .ok (.isub, 1) := by decide +kernel
theorem dX6_added5_62 : decode cX6_added5 62 = .ok (.istore_n 1, 1) := by decide +kernel
theorem dX6_added5_63 : decode cX6_added5 63 = .ok (.goto (-58), 3) := by decide +kernel
theorem dX6_added5_66 : decode cX6_added5 66 = .ok (.iload_n 1, 1) := by decide +kernel
theorem dX6_added5_67 : decode cX6_added5 67 = .ok (.ireturn, 1) := by decide +kernel
theorem dX6_not5_0 : decode cX6_not5 0 = .ok (.aload_n 0, 1) := by decide +kernel
theorem dX6_not5_1 : decode cX6_not5 1 = .ok (.bipush 110, 2) := by decide +kernel
theorem dX6_not5_3 : decode cX6_not5 3 = .ok (.bipush 111, 2) := by decide +kernel
theorem dX6_not5_5 : decode cX6_not5 5 = .ok (.bipush 116, 2) := by decide +kernel
theorem dX6_not5_7 : decode cX6_not5 7 = .ok (.iconst 0, 1) := by decide +kernel
theorem dX6_not5_8 : decode cX6_not5 8 = .ok (.iconst 0, 1) := by decide +kernel
theorem dX6_not5_9 : decode cX6_not5 9 = .ok (.iconst 0, 1) := by decide +kernel
theorem dX6_not5_10 : decode cX6_not5 10 = .ok (.iconst 0, 1) := by decide +kernel
theorem dX6_not5_11 : decode cX6_not5 11 = .ok (.iconst 0, 1) := by decide +kernel
theorem dX6_not5_12 : decode cX6_not5 12 = .ok (.invokevirtual 218, 3) := by decide +kernel
theorem dX6_not5_15 : decode cX6_not5 15 = .ok (.ifCond .eq 10, 3) := by decide +kernel
theorem dX6_not5_18 : decode cX6_not5 18 = .ok (.aload_n 0, 1) := by decide +kernel
theorem dX6_not5_19 : decode cX6_not5 19 = .ok (.invokevirtual 243, 3) := by decide +kernel
theorem dX6_not5_22 : decode cX6_not5 22 = .ok (.pop, 1) := by decide +kernel
theorem dX6_not5_23 : decode cX6_not5 23 = .ok (.iconst 0, 1) := by decide +kernel
theorem dX6_not5_24 : decode cX6_not5 24 = .ok (.ireturn, 1) := by decide +kernel
theorem dX6_not5_25 : decode cX6_not5 25 = .ok (.aload_n 0, 1) := by decide +kernel
theorem dX6_not5_26 : decode cX6_not5 26 = .ok (.invokevirtual 259, 3) := by decide +kernel
theorem dX6_not5_29 : decode cX6_not5 29 = .ok (.istore_n 1, 1) := by decide +kernel
theorem dX6_not5_30 : decode cX6_not5 30 = .ok (.aload_n 0, 1) := by decide +kernel
theorem dX6_not5_31 : decode cX6_not5 31 = .ok (.bipush 60, 2) := by decide +kernel
theorem dX6_not5_33 : decode cX6_not5 33 = .ok (.invokevirtual 240, 3) := by decide +kernel
theorem dX6_not5_36 : decode cX6_not5 36 = .ok (.ifCond .ne 14, 3) := by decide +kernel
theorem dX6_not5_39 : decode cX6_not5 39 = .ok (.aload_n 0, 1) := by decide +kernel
theorem dX6_not5_40 : decode cX6_not5 40 = .ok (.bipush 61, 2) := by decide +kernel
theorem dX6_not5_42 : decode cX6_not5 42 = .ok (.invokevirtual 240, 3) := by decide +kernel
theorem dX6_not5_45 : decode cX6_not5 45 = .ok (.ifCond .ne 5, 3) := by decide +kernel
theorem dX6_not5_48 : decode cX6_not5 48 = .ok (.iload_n 1, 1) := by decide +kernel
theorem dX6_not5_49 : decode cX6_not5 49 = .ok (.ireturn, 1) := by decide +kernel
theorem dX6_not5_50 : decode cX6_not5 50 = .ok (.aload_n 0, 1) := by decide +kernel
theorem dX6_not5_51 : decode cX6_not5 51 = .ok (.getfield 194, 3) := by decide +kernel
theorem dX6_not5_54 : decode cX6_not5 54 = .ok (.ldc2_w 262, 3) := by decide +kernel
theorem dX6_not5_57 : decode cX6_not5 57 = .ok (.lcmp, 1) := by decide +kernel
theorem dX6_not5_58 : decode cX6_not5 58 = .ok (.ifCond .ne 7, 3) := by decide +kernel
theorem dX6_not5_61 : decode cX6_not5 61 = .ok (.iconst 1, 1) := by decide +kernel
theorem dX6_not5_62 : decode cX6_not5 62 = .ok (.goto 4, 3) := by decide +kernel
theorem dX6_not5_65 : decode cX6_not5 65 = .ok (.iconst 0, 1) := by decide +kernel
theorem dX6_not5_66 : decode cX6_not5 66 = .ok (.istore_n 2, 1) := by decide +kernel
theorem dX6_not5_67 : decode cX6_not5 67 = .ok (.aload_n 0, 1) := by decide +kernel
theorem dX6_not5_68 : decode cX6_not5 68 = .ok (.invokevirtual 215, 3) := by decide +kernel
theorem dX6_not5_71 : decode cX6_not5 71 = .ok (.aload_n 0, 1) := by decide +kernel
theorem dX6_not5_72 : decode cX6_not5 72 = .ok (.invokevirtual 259, 3) := by decide +kernel
theorem dX6_not5_75 : decode cX6_not5 75 = .ok (.istore_n 3, 1) := by decide +kernel
theorem dX6_not5_76 : decode cX6_not5 76 = .ok (.iload_n 2, 1) := by decide +kernel
theorem dX6_not5_77 : decode cX6_not5 77 = .ok (.ifCond .eq 11, 3) := by decide +kernel
theorem dX6_not5_80 : decode cX6_not5 80 = .ok (.iload_n 1, 1) := by decide +kernel
theorem dX6_not5_81 : decode cX6_not5 81 = .ok (.iload_n 3, 1) := by decide +kernel
theorem dX6_not5_82 : decode cX6_not5 82 = .ok (.if_icmp .ge 15, 3) := by decide +kernel
theorem dX6_not5_85 : decode cX6_not5 85 = .ok (.goto 8, 3) := by decide +kernel
theorem dX6_not5_88 : decode cX6_not5 88 = .ok (.iload_n 1, 1) := by decide +kernel
theorem dX6_not5_89 : decode cX6_not5 89 = .ok (.iload_n 3, 1) := by decide +kernel
theorem dX6_not5_90 : decode cX6_not5 90 = .ok (.if_icmp .ne 7, 3) := by decide +kernel
theorem dX6_not5_93 : decode cX6_not5 93 = .ok (.iconst 1, 1) := by decide +kernel
theorem dX6_not5_94 : decode cX6_not5 94 = .ok (.goto 4, 3) := by decide +kernel
theorem dX6_not5_97 : decode cX6_not5 97 = .ok (.iconst 0, 1) := by decide +kernel
theorem dX6_not5_98 : decode cX6_not5 98 = .ok (.ireturn, 1) := by decide +kernel
theorem dX6_both5_0 : decode cX6_both5 0 = .ok (.aload_n 0, 1) := by decide +kernel
theorem dX6_both5_1 : decode cX6_both5 1 = .ok (.invokevirtual 264, 3) := by decide +kernel
theorem dX6_both5_4 : decode cX6_both5 4 = .ok (.istore_n 1, 1) := by decide +kernel
theorem dX6_both5_5 : decode cX6_both5 5 = .ok (.aload_n 0, 1) := by decide +kernel
theorem dX6_both5_6 : decode cX6_both5 6 = .ok (.bipush 97, 2) := by decide +kernel
theorem dX6_both5_8 : decode cX6_both5 8 = .ok (.bipush 110, 2) := by decide +kernel
theorem dX6_both5_10 : decode cX6_both5 10 = .ok (.bipush 100, 2) := by decide +kernel
theorem dX6_both5_12 : decode cX6_both5 12 = .ok (.iconst 0, 1) := by decide +kernel
theorem dX6_both5_13 : decode cX6_both5 13 = .ok (.iconst 0, 1) := by decide +kernel
theorem dX6_both5_14 : decode cX6_both5 14 = .ok (.iconst 0, 1) := by decide +kernel
theorem dX6_both5_15 : decode cX6_both5 15 = .ok (.iconst 0, 1) := by decide +kernel
theorem dX6_both5_16 : decode cX6_both5 16 = .ok (.iconst 0, 1) := by decide +kernel
theorem dX6_both5_17 : decode cX6_both5 17 = .ok (.invokevirtual 218, 3) := by decide +kernel
theorem dX6_both5_20 : decode cX6_both5 20 = .ok (.ifCond .eq 29, 3) := by decide +kernel
theorem dX6_both5_23 : decode cX6_both5 23 = .ok (.aload_n 0, 1) := by decide +kernel
theorem dX6_both5_24 : decode cX6_both5 24 = .ok (.invokevirtual 215, 3) := by decide +kernel
theorem dX6_both5_27 : decode cX6_both5 27 = .ok (.aload_n 0, 1) := by decide +kernel
theorem dX6_both5_28 : decode cX6_both5 28 = .ok (.invokevirtual 264, 3) := by decide +kernel
theorem dX6_both5_31 : decode cX6_both5 31 = .ok (.istore_n 2, 1) := by decide +kernel
theorem dX6_both5_32 : decode cX6_both5 32 = .ok (.iload_n 1, 1) := by decide +kernel
theorem dX6_both5_33 : decode cX6_both5 33 = .ok (.ifCond .eq 11, 3) := by decide +kernel
theorem dX6_both5_36 : decode cX6_both5 36 = .ok (.iload_n 2, 1) := by decide +kernel
theorem dX6_both5_37 : decode cX6_both5 37 = .ok (.ifCond .eq 7, 3) := by decide +kernel
theorem dX6_both5_40 : decode cX6_both5 40 = .ok (.iconst 1, 1) := by decide +kernel
theorem dX6_both5_41 : decode cX6_both5 41 = .ok (.goto 4, 3) := by decide +kernel
theorem dX6_both5_44 : decode cX6_both5 44 = .ok (.iconst 0, 1) := by decide +kernel
theorem dX6_both5_45 : decode cX6_both5 45 = .ok (.istore_n 1, 1) := by decide +kernel
theorem dX6_both5_46 : decode cX6_both5 46 = .ok (.goto (-41), 3) := by decide +kernel
theorem dX6_both5_49 : decode cX6_both5 49 = .ok (.iload_n 1, 1) := by decide +kernel
theorem dX6_both5_50 : decode cX6_both5 50 = .ok (.ireturn, 1) := by decide +kernel
theorem dX6_either5_0 : decode cX6_either5 0 = .ok (.aload_n 0, 1) := by decide +kernel
theorem dX6_either5_1 : decode cX6_either5 1 = .ok (.invokevirtual 267, 3) := by decide +kernel
theorem dX6_either5_4 : decode cX6_either5 4 = .ok (.istore_n 1, 1) := by decide +kernel
theorem dX6_either5_5 : decode cX6_either5 5 = .ok (.aload_n 0, 1) := by decide +kernel
theorem dX6_either5_6 : decode cX6_either5 6 = .ok (.bipush 111, 2) := by decide +kernel
theorem dX6_either5_8 : decode cX6_either5 8 = .ok (.bipush 114, 2) := by decide +kernel
theorem dX6_either5_10 : decode cX6_either5 10 = .ok (.iconst 0, 1) := by decide +kernel
theorem dX6_either5_11 : decode cX6_either5 11 = .ok (.iconst 0, 1) := by decide +kernel
theorem dX6_either5_12 : decode cX6_either5 12 = .ok (.iconst 0, 1) := by decide +kernel
theorem dX6_either5_13 : decode cX6_either5 13 = .ok (.iconst 0, 1) := by decide +kernel
theorem dX6_either5_14 : decode cX6_either5 14 = .ok (.iconst 0, 1) := by decide +kernel
theorem dX6_either5_15 : decode cX6_either5 15 = .ok (.iconst 0, 1) := by decide +kernel
theorem dX6_either5_16 : decode cX6_either5 16 = .ok (.invokevirtual 218, 3) := by decide +kernel
theorem dX6_either5_19 : decode cX6_either5 19 = .ok (.ifCond .eq 29, 3) := by decide +kernel
theorem dX6_either5_22 : decode cX6_either5 22 = .ok (.aload_n 0, 1) := by decide +kernel
theorem dX6_either5_23 : decode cX6_either5 23 = .ok (.invokevirtual 215, 3) := by decide +kernel
theorem dX6_either5_26 : decode cX6_either5 26 = .ok (.aload_n 0, 1) := by decide +kernel
theorem dX6_either5_27 : decode cX6_either5 27 = .ok (.invokevirtual 267, 3) := by decide +kernel
theorem dX6_either5_30 : decode cX6_either5 30 = .ok (.istore_n 2, 1) := by decide +kernel
theorem dX6_either5_31 : decode cX6_either5 31 = .ok (.iload_n 1, 1) := by decide +kernel
theorem dX6_either5_32 : decode cX6_either5 32 = .ok (.ifCond .ne 7, 3) := by decide +kernel
theorem dX6_either5_35 : decode cX6_either5 35 = .ok (.iload_n 2, 1) := by decide +kernel
theorem dX6_either5_36 : decode cX6_either5 36 = .ok (.ifCond .eq 7, 3) := by decide +kernel
theorem dX6_either5_39 : decode cX6_either5 39 = .ok (.iconst 1, 1) := by decide +kernel
theorem dX6_either5_40 : decode cX6_either5 40 = .ok (.goto 4, 3) := by decide +kernel
theorem dX6_either5_43 : decode cX6_either5 43 = .ok (.iconst 0, 1) := by decide +kernel
theorem dX6_either5_44 : decode cX6_either5 44 = .ok (.istore_n 1, 1) := by decide +kernel
theorem dX6_either5_45 : decode cX6_either5 45 = .ok (.goto (-40), 3) := by decide +kernel
theorem dX6_either5_48 : decode cX6_either5 48 = .ok (.iload_n 1, 1) := by decide +kernel
theorem dX6_either5_49 : decode cX6_either5 49 = .ok (.ireturn, 1) := by decide +kernel
theorem dX6_atom4_0 : decode cX6_atom4 0 = .ok (.iconst 0, 1) := by decide +kernel
theorem dX6_atom4_1 : decode cX6_atom4 1 = .ok (.istore_n 1, 1) := by decide +kernel
theorem dX6_atom4_2 : decode cX6_atom4 2 = .ok (.aload_n 0, 1) := by decide +kernel
theorem dX6_atom4_3 : decode cX6_atom4 3 = .ok (.bipush 45, 2) := by decide +kernel
theorem dX6_atom4_5 : decode cX6_atom4 5 = .ok (.invokevirtual 240, 3) := by decide +kernel
theorem dX6_atom4_8 : decode cX6_atom4 8 = .ok (.ifCond .eq 29, 3) := by decide +kernel
theorem dX6_atom4_11 : decode cX6_atom4 11 = .ok (.aload_n 0, 1) := by decide +kernel
theorem dX6_atom4_12 : decode cX6_atom4 12 = .ok (.invokevirtual 243, 3) := by decide +kernel
theorem dX6_atom4_15 : decode cX6_atom4 15 = .ok (.ifCond .eq 146, 3) := by decide +kernel
theorem dX6_atom4_18 : decode cX6_atom4 18 = .ok (.aload_n 0, 1) := by decide +kernel
theorem dX6_atom4_19 : decode cX6_atom4 19 = .ok (.invokevirtual 251, 3) := by decide +kernel
theorem dX6_atom4_22 : decode cX6_atom4 22 = .ok (.ineg, 1) := by decide +kernel
theorem dX6_atom4_23 : decode cX6_atom4 23 = .ok (.istore_n 1, 1) := by decide +kernel
theorem dX6_atom4_24 : decode cX6_atom4 24 = .ok (.aload_n 0, 1) := by decide +kernel
theorem dX6_atom4_25 : decode cX6_atom4 25 = .ok (.dup, 1) := by decide +kernel
theorem dX6_atom4_26 : decode cX6_atom4 26 = .ok (.getfield 209, 3) := by decide +kernel
theorem dX6_atom4_29 : decode cX6_atom4 29 = .ok (.iconst 1, 1) := by decide +kernel
theorem dX6_atom4_30 : decode cX6_atom4 30 = .ok (.isub, 1) := by decide +kernel
theorem dX6_atom4_31 : decode cX6_atom4 31 = .ok (.putfield 209, 3) := by decide +kernel
theorem dX6_atom4_34 : decode cX6_atom4 34 = .ok (.goto 127, 3) := by decide +kernel
theorem dX6_atom4_37 : decode cX6_atom4 37 = .ok (.aload_n 0, 1) := by decide +kernel
theorem dX6_atom4_38 : decode cX6_atom4 38 = .ok (.bipush 40, 2) := by decide +kernel
theorem dX6_atom4_40 : decode cX6_atom4 40 = .ok (.invokevirtual 240, 3) := by decide +kernel
theorem dX6_atom4_43 : decode cX6_atom4 43 = .ok (.ifCond .eq 52, 3) := by decide +kernel
theorem dX6_atom4_46 : decode cX6_atom4 46 = .ok (.aload_n 0, 1) := by decide +kernel
theorem dX6_atom4_47 : decode cX6_atom4 47 = .ok (.invokevirtual 243, 3) := by decide +kernel
theorem dX6_atom4_50 : decode cX6_atom4 50 = .ok (.ifCond .eq 111, 3) := by decide +kernel
theorem dX6_atom4_53 : decode cX6_atom4 53 = .ok (.aload_n 0, 1) := by decide +kernel
theorem dX6_atom4_54 : decode cX6_atom4 54 = .ok (.invokevirtual 270, 3) := by decide +kernel
theorem dX6_atom4_57 : decode cX6_atom4 57 = .ok (.istore_n 1, 1) := by decide +kernel
theorem dX6_atom4_58 : decode cX6_atom4 58 = .ok (.aload_n 0, 1) := by decide +kernel
theorem dX6_atom4_59 : decode cX6_atom4 59 = .ok (.bipush 41, 2) := by decide +kernel
theorem dX6_atom4_61 : decode cX6_atom4 61 = .ok (.invokevirtual 240, 3) := by decide +kernel
theorem dX6_atom4_64 : decode cX6_atom4 64 = .ok (.ifCond .ne 7, 3) := by decide +kernel
theorem dX6_atom4_67 : decode cX6_atom4 67 = .ok (.aload_n 0, 1) := by decide +kernel
theorem dX6_atom4_68 : decode cX6_atom4 68 = .ok (.invokevirtual 212, 3) := by decide +kernel
theorem dX6_atom4_71 : decode cX6_atom4 71 = .ok (.aload_n 0, 1) := by decide +kernel
theorem dX6_atom4_72 : decode cX6_atom4 72 = .ok (.dup, 1) := by decide +kernel
theorem dX6_atom4_73 : decode cX6_atom4 73 = .ok (.getfield 209, 3) := by decide +kernel
theorem dX6_atom4_76 : decode cX6_atom4 76 = .ok (.iconst 1, 1) := by decide +kernel
theorem dX6_atom4_77 : decode cX6_atom4 77 = .ok (.isub, 1) := by decide +kernel
theorem dX6_atom4_78 : decode cX6_atom4 78 = .ok (.putfield 209, 3) := by decide +kernel
theorem dX6_atom4_81 : decode cX6_atom4 81 = .ok (.aload_n 0, 1) := by decide +kernel
theorem dX6_atom4_82 : decode cX6_atom4 82 = .ok (.getfield 198, 3) := by decide +kernel
theorem dX6_atom4_85 : decode cX6_atom4 85 = .ok (.ifCond .ne 76, 3) := by decide +kernel
theorem dX6_atom4_88 : decode cX6_atom4 88 = .ok (.aload_n 0, 1) := by decide +kernel
theorem dX6_atom4_89 : decode cX6_atom4 89 = .ok (.invokevirtual 215, 3) := by decide +kernel
theorem dX6_atom4_92 : decode cX6_atom4 92 = .ok (.goto 69, 3) := by decide +kernel
theorem dX6_atom4_95 : decode cX6_atom4 95 = .ok (.aload_n 0, 1) := by decide +kernel
theorem dX6_atom4_96 : decode cX6_atom4 96 = .ok (.getfield 198, 3) := by decide +kernel
theorem dX6_atom4_99 : decode cX6_atom4 99 = .ok (.ifCond .ne 24, 3) := by decide +kernel
theorem dX6_atom4_102 : decode cX6_atom4 102 = .ok (.aload_n 0, 1) := by decide +kernel
theorem dX6_atom4_103 : decode cX6_atom4 103 = .ok (.getfield 183, 3) := by decide +kernel
theorem dX6_atom4_106 : decode cX6_atom4 106 = .ok (.iconst 2, 1) := by decide +kernel
theorem dX6_atom4_107 : decode cX6_atom4 107 = .ok (.if_icmp .ne 16, 3) := by decide +kernel
theorem dX6_atom4_110 : decode cX6_atom4 110 = .ok (.aload_n 0, 1) := by decide +kernel
theorem dX6_atom4_111 : decode cX6_atom4 111 = .ok (.getfield 194, 3) := by decide +kernel
theorem dX6_atom4_114 : decode cX6_atom4 114 = .ok (.l2i, 1) := by decide +kernel
theorem dX6_atom4_115 : decode cX6_atom4 115 = .ok (.istore_n 1, 1) := by decide +kernel
theorem dX6_atom4_116 : decode cX6_atom4 116 = .ok (.aload_n 0, 1) := by decide +kernel
theorem dX6_atom4_117 : decode cX6_atom4 117 = .ok (.invokevirtual 215, 3) := by decide +kernel
theorem dX6_atom4_120 : decode cX6_atom4 120 = .ok (.goto 41, 3) := by decide +kernel
theorem dX6_atom4_123 : decode cX6_atom4 123 = .ok (.aload_n 0, 1) := by decide +kernel
theorem dX6_atom4_124 : decode cX6_atom4 124 = .ok (.getfield 198, 3) := by decide +kernel
theorem dX6_atom4_127 : decode cX6_atom4 127 = .ok (.ifCond .ne 30, 3) := by decide +kernel
theorem dX6_atom4_130 : decode cX6_atom4 130 = .ok (.aload_n 0, 1) := by decide +kernel
theorem dX6_atom4_131 : decode cX6_atom4 131 = .ok (.getfield 183, 3) := by decide +kernel
theorem dX6_atom4_134 : decode cX6_atom4 134 = .ok (.iconst 1, 1) := by decide +kernel
theorem dX6_atom4_135 : decode cX6_atom4 135 = .ok (.if_icmp .ne 22, 3) := by decide +kernel
theorem dX6_atom4_138 : decode cX6_atom4 138 = .ok (.aload_n 0, 1) := by decide +kernel
theorem dX6_atom4_139 : decode cX6_atom4 139 = .ok (.invokevirtual 247, 3) := by decide +kernel
theorem dX6_atom4_142 : decode cX6_atom4 142 = .ok (.istore_n 1, 1) := by decide +kernel
theorem dX6_atom4_143 : decode cX6_atom4 143 = .ok (.aload_n 0, 1) := by decide +kernel
theorem dX6_atom4_144 : decode cX6_atom4 144 = .ok (.getfield 198, 3) := by decide +kernel
theorem dX6_atom4_147 : decode cX6_atom4 147 = .ok (.ifCond .ne 14, 3) := by decide +kernel
theorem dX6_atom4_150 : decode cX6_atom4 150 = .ok (.aload_n 0, 1) := by decide +kernel
theorem dX6_atom4_151 : decode cX6_atom4 151 = .ok (.invokevirtual 215, 3) := by decide +kernel
theorem dX6_atom4_154 : decode cX6_atom4 154 = .ok (.goto 7, 3) := by decide +kernel
theorem dX6_atom4_157 : decode cX6_atom4 157 = .ok (.aload_n 0, 1) := by decide +kernel
theorem dX6_atom4_158 : decode cX6_atom4 158 = .ok (.invokevirtual 212, 3) := by decide +kernel
theorem dX6_atom4_161 : decode cX6_atom4 161 = .ok (.iload_n 1, 1) := by decide +kernel
theorem dX6_atom4_162 : decode cX6_atom4 162 = .ok (.ireturn, 1) := by decide +kernel
theorem dX6_term4_0 : decode cX6_term4 0 = .ok (.aload_n 0, 1) := by decide +kernel
theorem dX6_term4_1 : decode cX6_term4 1 = .ok (.invokevirtual 273, 3) := by decide +kernel
theorem dX6_term4_4 : decode cX6_term4 4 = .ok (.istore_n 1, 1) := by decide +kernel
theorem dX6_term4_5 : decode cX6_term4 5 = .ok (.aload_n 0, 1) := by decide +kernel
theorem dX6_term4_6 : decode cX6_term4 6 = .ok (.bipush 42, 2) := by decide +kernel
theorem dX6_term4_8 : decode cX6_term4 8 = .ok (.invokevirtual 240, 3) := by decide +kernel
theorem dX6_term4_11 : decode cX6_term4 11 = .ok (.ifCond .eq 17, 3) := by decide +kernel
theorem dX6_term4_14 : decode cX6_term4 14 = .ok (.aload_n 0, 1) := by decide +kernel
theorem dX6_term4_15 : decode cX6_term4 15 = .ok (.invokevirtual 215, 3) := by decide +kernel
theorem dX6_term4_18 : decode cX6_term4 18 = .ok (.iload_n 1, 1) := by decide +kernel
theorem dX6_term4_19 : decode cX6_term4 19 = .ok (.aload_n 0, 1) := by decide +kernel
theorem dX6_term4_20 : decode cX6_term4 20 = .ok (.invokevirtual 273, 3) := by decide +kernel
theorem dX6_term4_23 : decode cX6_term4 23 = .ok (.imul, 1) := by decide +kernel
theorem dX6_term4_24 : decode cX6_term4 24 = .ok (.istore_n 1, 1) := by decide +kernel
theorem dX6_term4_25 : decode cX6_term4 25 = .ok (.goto (-20), 3) := by decide +kernel
theorem dX6_term4_28 : decode cX6_term4 28 = .ok (.iload_n 1, 1) := by decide +kernel
theorem dX6_term4_29 : decode cX6_term4 29 = .ok (.ireturn, 1) := by decide +kernel
theorem dX6_added4_0 : decode cX6_added4 0 = .ok (.aload_n 0, 1) := by decide +kernel
theorem dX6_added4_1 : decode cX6_added4 1 = .ok (.invokevirtual 276, 3) := by decide +kernel
theorem dX6_added4_4 : decode cX6_added4 4 = .ok (.istore_n 1, 1) := by decide +kernel
theorem dX6_added4_5 : decode cX6_added4 5 = .ok (.aload_n 0, 1) := by decide +kernel
theorem dX6_added4_6 : decode cX6_added4 6 = .ok (.bipush 43, 2) := by decide +kernel
theorem dX6_added4_8 : decode cX6_added4 8 = .ok (.invokevirtual 240, 3) := by decide +kernel
theorem dX6_added4_11 : decode cX6_added4 11 = .ok (.ifCond .ne 12, 3) := by decide +kernel
theorem dX6_added4_14 : decode cX6_added4 14 = .ok (.aload_n 0, 1) := by decide +kernel
theorem dX6_added4_15 : decode cX6_added4 15 = .ok (.bipush 45, 2) := by decide +kernel
theorem dX6_added4_17 : decode cX6_added4 17 = .ok (.invokevirtual 240, 3) := by decide +kernel
theorem dX6_added4_20 : decode cX6_added4 20 = .ok (.ifCond .eq 46, 3) := by decide +kernel
theorem dX6_added4_23 : decode cX6_added4 23 = .ok (.aload_n 0, 1) := by decide +kernel
theorem dX6_added4_24 : decode cX6_added4 24 = .ok (.getfield 194, 3) := by decide +kernel
theorem dX6_added4_27 : decode cX6_added4 27 = .ok (.ldc2_w 257, 3) := by decide +kernel
theorem dX6_added4_30 : decode cX6_added4 30 = .ok (.lcmp, 1) := by decide +kernel
theorem dX6_added4_31 : decode cX6_added4 31 = .ok (.ifCond .ne 7, 3) := by decide +kernel
theorem dX6_added4_34 : decode cX6_added4 34 = .ok (.iconst 1, 1) := by decide +kernel
theorem dX6_added4_35 : decode cX6_added4 35 = .ok (.goto 4, 3) := by decide +kernel
theorem dX6_added4_38 : decode cX6_added4 38 = .ok (.iconst 0, 1) := by decide +kernel
theorem dX6_added4_39 : decode cX6_added4 39 = .ok (.istore_n 2, 1) := by decide +kernel
theorem dX6_added4_40 : decode cX6_added4 40 = .ok (.aload_n 0, 1) := by decide +kernel
theorem dX6_added4_41 : decode cX6_added4 41 = .ok (.invokevirtual 215, 3) := by decide +kernel
theorem dX6_added4_44 : decode cX6_added4 44 = .ok (.aload_n 0, 1) := by decide +kernel
theorem dX6_added4_45 : decode cX6_added4 45 = .ok (.invokevirtual 276, 3) := by decide +kernel
theorem dX6_added4_48 : decode cX6_added4 48 = .ok (.istore_n 3, 1) := by decide +kernel
theorem dX6_added4_49 : decode cX6_added4 49 = .ok (.iload_n 2, 1) := by decide +kernel
theorem dX6_added4_50 : decode cX6_added4 50 = .ok (.ifCond .eq 9, 3) := by decide +kernel
theorem dX6_added4_53 : decode cX6_added4 53 = .ok (.iload_n 1, 1) := by decide +kernel
theorem dX6_added4_54 : decode cX6_added4 54 = .ok (.iload_n 3, 1) := by decide +kernel
theorem dX6_added4_55 : decode cX6_added4 55 = .ok (.iadd, 1) := by decide +kernel
theorem dX6_added4_56 : decode cX6_added4 56 = .ok (.goto 6, 3) := by decide +kernel
theorem dX6_added4_59 : decode cX6_added4 59 = .ok (.iload_n 1, 1) := by decide +kernel
theorem dX6_added4_60 : decode cX6_added4 60 = .ok (.iload_n 3, 1) := by decide +kernel
theorem dX6_added4_61 : decode cX6_added4 61 = .ok (.isub, 1) := by decide +kernel
theorem dX6_added4_62 : decode cX6_added4 62 = .ok (.istore_n 1, 1) := by decide +kernel
theorem dX6_added4_63 : decode cX6_added4 63 = .ok (.goto (-58), 3) := by decide +kernel
theorem dX6_added4_66 : decode cX6_added4 66 = .ok (.iload_n 1, 1) := by decide +kernel
theorem dX6_added4_67 : decode cX6_added4 67 = .ok (.ireturn, 1) := by decide +kernel
theorem dX6_not4_0 : decode cX6_not4 0 = .ok (.aload_n 0, 1) := by decide +kernel
theorem dX6_not4_1 : decode cX6_not4 1 = .ok (.bipush 110, 2) := by decide +kernel
theorem dX6_not4_3 : decode cX6_not4 3 = .ok (.bipush 111, 2) := by decide +kernel
theorem dX6_not4_5 : decode cX6_not4 5 = .ok (.bipush 116, 2) := by decide +kernel
theorem dX6_not4_7 : decode cX6_not4 7 = .ok (.iconst 0, 1) := by decide +kernel
theorem dX6_not4_8 : decode cX6_not4 8 = .ok (.iconst 0, 1) := by decide +kernel
theorem dX6_not4_9 : decode cX6_not4 9 = .ok (.iconst 0, 1) := by decide +kernel
theorem dX6_not4_10 : decode cX6_not4 10 = .ok (.iconst 0, 1) := by decide +kernel
theorem dX6_not4_11 : decode cX6_not4 11 = .ok (.iconst 0, 1) := by decide +kernel
theorem dX6_not4_12 : decode cX6_not4 12 = .ok (.invokevirtual 218, 3) := by decide +kernel
theorem dX6_not4_15 : decode cX6_not4 15 = .ok (.ifCond .eq 37, 3) := by decide +kernel
theorem dX6_not4_18 : decode cX6_not4 18 = .ok (.aload_n 0, 1) := by decide +kernel
theorem dX6_not4_19 : decode cX6_not4 19 = .ok (.invokevirtual 243, 3) := by decide +kernel
theorem dX6_not4_22 : decode cX6_not4 22 = .ok (.ifCond .ne 5, 3) := by decide +kernel
theorem dX6_not4_25 : decode cX6_not4 25 = .ok (.iconst 0, 1) := by decide +kernel
theorem dX6_not4_26 : decode cX6_not4 26 = .ok (.ireturn, 1) := by decide +kernel
theorem dX6_not4_27 : decode cX6_not4 27 = .ok (.aload_n 0, 1) := by decide +kernel
theorem dX6_not4_28 : decode cX6_not4 28 = .ok (.invokevirtual 264, 3) := by decide +kernel
theorem dX6_not4_31 : decode cX6_not4 31 = .ok (.istore_n 1, 1) := by decide +kernel
theorem dX6_not4_32 : decode cX6_not4 32 = .ok (.aload_n 0, 1) := by decide +kernel
theorem dX6_not4_33 : decode cX6_not4 33 = .ok (.dup, 1) := by decide +kernel
theorem dX6_not4_34 : decode cX6_not4 34 = .ok (.getfield 209, 3) := by decide +kernel
theorem dX6_not4_37 : decode cX6_not4 37 = .ok (.iconst 1, 1) := by decide +kernel
theorem dX6_not4_38 : decode cX6_not4 38 = .ok (.isub, 1) := by decide +kernel
theorem dX6_not4_39 : decode cX6_not4 39 = .ok (.putfield 209, 3) := by decide +kernel
theorem dX6_not4_42 : decode cX6_not4 42 = .ok (.iload_n 1, 1) := by decide +kernel
theorem dX6_not4_43 : decode cX6_not4 43 = .ok (.ifCond .ne 7, 3) := by decide +kernel
theorem dX6_not4_46 : decode cX6_not4 46 = .ok (.iconst 1, 1) := by decide +kernel
theorem dX6_not4_47 : decode cX6_not4 47 = .ok (.goto 4, 3) := by decide +kernel
theorem dX6_not4_50 : decode cX6_not4 50 = .ok (.iconst 0, 1) := by decide +kernel
theorem dX6_not4_51 : decode cX6_not4 51 = .ok (.ireturn, 1) := by decide +kernel
theorem dX6_not4_52 : decode cX6_not4 52 = .ok (.aload_n 0, 1) := by decide +kernel
theorem dX6_not4_53 : decode cX6_not4 53 = .ok (.invokevirtual 279, 3) := by decide +kernel
theorem dX6_not4_56 : decode cX6_not4 56 = .ok (.istore_n 1, 1) := by decide +kernel
theorem dX6_not4_57 : decode cX6_not4 57 = .ok (.aload_n 0, 1) := by decide +kernel
theorem dX6_not4_58 : decode cX6_not4 58 = .ok (.bipush 60, 2) := by decide +kernel
theorem dX6_not4_60 : decode cX6_not4 60 = .ok (.invokevirtual 240, 3) := by decide +kernel
theorem dX6_not4_63 : decode cX6_not4 63 = .ok (.ifCond .ne 14, 3) := by decide +kernel
theorem dX6_not4_66 : decode cX6_not4 66 = .ok (.aload_n 0, 1) := by decide +kernel
theorem dX6_not4_67 : decode cX6_not4 67 = .ok (.bipush 61, 2) := by decide +kernel
theorem dX6_not4_69 : decode cX6_not4 69 = .ok (.invokevirtual 240, 3) := by decide +kernel
theorem dX6_not4_72 : decode cX6_not4 72 = .ok (.ifCond .ne 5, 3) := by decide +kernel
theorem dX6_not4_75 : decode cX6_not4 75 = .ok (.iload_n 1, 1) := by decide +kernel
theorem dX6_not4_76 : decode cX6_not4 76 = .ok (.ireturn, 1) := by decide +kernel
theorem dX6_not4_77 : decode cX6_not4 77 = .ok (.aload_n 0, 1) := by decide +kernel
theorem dX6_not4_78 : decode cX6_not4 78 = .ok (.getfield 194, 3) := by decide +kernel
theorem dX6_not4_81 : decode cX6_not4 81 = .ok (.ldc2_w 262, 3) := by decide +kernel
theorem dX6_not4_84 : decode cX6_not4 84 = .ok (.lcmp, 1) := by decide +kernel
theorem dX6_not4_85 : decode cX6_not4 85 = .ok (.ifCond .ne 7, 3) := by decide +kernel
theorem dX6_not4_88 : decode cX6_not4 88 = .ok (.iconst 1, 1) := by decide +kernel
theorem dX6_not4_89 : decode cX6_not4 89 = .ok (.goto 4, 3) := by decide +kernel
theorem dX6_not4_92 : decode cX6_not4 92 = .ok (.iconst 0, 1) := by decide +kernel
theorem dX6_not4_93 : decode cX6_not4 93 = .ok (.istore_n 2, 1) := by decide +kernel
theorem dX6_not4_94 : decode cX6_not4 94 = .ok (.aload_n 0, 1) := by decide +kernel
theorem dX6_not4_95 : decode cX6_not4 95 = .ok (.invokevirtual 215, 3) := by decide +kernel
theorem dX6_not4_98 : decode cX6_not4 98 = .ok (.aload_n 0, 1) := by decide +kernel
theorem dX6_not4_99 : decode cX6_not4 99 = .ok (.invokevirtual 279, 3) := by decide +kernel
theorem dX6_not4_102 : decode cX6_not4 102 = .ok (.istore_n 3, 1) := by decide +kernel
theorem dX6_not4_103 : decode cX6_not4 103 = .ok (.iload_n 2, 1) := by decide +kernel
theorem dX6_not4_104 : decode cX6_not4 104 = .ok (.ifCond .eq 11, 3) := by decide +kernel
theorem dX6_not4_107 : decode cX6_not4 107 = .ok (.iload_n 1, 1) := by decide +kernel
theorem dX6_not4_108 : decode cX6_not4 108 = .ok (.iload_n 3, 1) := by decide +kernel
theorem dX6_not4_109 : decode cX6_not4 109 = .ok (.if_icmp .ge 15, 3) := by decide +kernel
theorem dX6_not4_112 : decode cX6_not4 112 = .ok (.goto 8, 3) := by decide +kernel
theorem dX6_not4_115 : decode cX6_not4 115 = .ok (.iload_n 1, 1) := by decide +kernel
theorem dX6_not4_116 : decode cX6_not4 116 = .ok (.iload_n 3, 1) := by decide +kernel
theorem dX6_not4_117 : decode cX6_not4 117 = .ok (.if_icmp .ne 7, 3) := by decide +kernel
theorem dX6_not4_120 : decode cX6_not4 120 = .ok (.iconst 1, 1) := by decide +kernel
theorem dX6_not4_121 : decode cX6_not4 121 = .ok (.goto 4, 3) := by decide +kernel
theorem dX6_not4_124 : decode cX6_not4 124 = .ok (.iconst 0, 1) := by decide +kernel
theorem dX6_not4_125 : decode cX6_not4 125 = .ok (.ireturn, 1) := by decide +kernel
theorem dX6_both4_0 : decode cX6_both4 0 = .ok (.aload_n 0, 1) := by decide +kernel
theorem dX6_both4_1 : decode cX6_both4 1 = .ok (.invokevirtual 282, 3) := by decide +kernel
theorem dX6_both4_4 : decode cX6_both4 4 = .ok (.istore_n 1, 1) := by decide +kernel
theorem dX6_both4_5 : decode cX6_both4 5 = .ok (.aload_n 0, 1) := by decide +kernel
theorem dX6_both4_6 : decode cX6_both4 6 = .ok (.bipush 97, 2) := by decide +kernel
theorem dX6_both4_8 : decode cX6_both4 8 = .ok (.bipush 110, 2) := by decide +kernel
theorem dX6_both4_10 : decode cX6_both4 10 = .ok (.bipush 100, 2) := by decide +kernel
theorem dX6_both4_12 : decode cX6_both4 12 = .ok (.iconst 0, 1) := by decide +kernel
theorem dX6_both4_13 : decode cX6_both4 13 = .ok (.iconst 0, 1) := by decide +kernel
theorem dX6_both4_14 : decode cX6_both4 14 = .ok (.iconst 0, 1) := by decide +kernel
theorem dX6_both4_15 : decode cX6_both4 15 = .ok (.iconst 0, 1) := by decide +kernel
theorem dX6_both4_16 : decode cX6_both4 16 = .ok (.iconst 0, 1) := by decide +kernel
theorem dX6_both4_17 : decode cX6_both4 17 = .ok (.invokevirtual 218, 3) := by decide +kernel
theorem dX6_both4_20 : decode cX6_both4 20 = .ok (.ifCond .eq 29, 3) := by decide +kernel
theorem dX6_both4_23 : decode cX6_both4 23 = .ok (.aload_n 0, 1) := by decide +kernel
theorem dX6_both4_24 : decode cX6_both4 24 = .ok (.invokevirtual 215, 3) := by decide +kernel
theorem dX6_both4_27 : decode cX6_both4 27 = .ok (.aload_n 0, 1) := by decide +kernel
theorem dX6_both4_28 : decode cX6_both4 28 = .ok (.invokevirtual 282, 3) := by decide +kernel
theorem dX6_both4_31 : decode cX6_both4 31 = .ok (.istore_n 2, 1) := by decide +kernel
theorem dX6_both4_32 : decode cX6_both4 32 = .ok (.iload_n 1, 1) := by decide +kernel
theorem dX6_both4_33 : decode cX6_both4 33 = .ok (.ifCond .eq 11, 3) := by decide +kernel
theorem dX6_both4_36 : decode cX6_both4 36 = .ok (.iload_n 2, 1) := by decide +kernel
theorem dX6_both4_37 : decode cX6_both4 37 = .ok (.ifCond .eq 7, 3) := by decide +kernel
theorem dX6_both4_40 : decode cX6_both4 40 = .ok (.iconst 1, 1) := by decide +kernel
theorem dX6_both4_41 : decode cX6_both4 41 = .ok (.goto 4, 3) := by decide +kernel
theorem dX6_both4_44 : decode cX6_both4 44 = .ok (.iconst 0, 1) := by decide +kernel
theorem dX6_both4_45 : decode cX6_both4 45 = .ok (.istore_n 1, 1) := by decide +kernel
theorem dX6_both4_46 : decode cX6_both4 46 = .ok (.goto (-41), 3) := by decide +kernel
theorem dX6_both4_49 : decode cX6_both4 49 = .ok (.iload_n 1, 1) := by decide +kernel
theorem dX6_both4_50 : decode cX6_both4 50 = .ok (.ireturn, 1) := by decide +kernel
theorem dX6_either4_0 : decode cX6_either4 0 = .ok (.aload_n 0, 1) := by decide +kernel
theorem dX6_either4_1 : decode cX6_either4 1 = .ok (.invokevirtual 285, 3) := by decide +kernel
theorem dX6_either4_4 : decode cX6_either4 4 = .ok (.istore_n 1, 1) := by decide +kernel
theorem dX6_either4_5 : decode cX6_either4 5 = .ok (.aload_n 0, 1) := by decide +kernel
theorem dX6_either4_6 : decode cX6_either4 6 = .ok (.bipush 111, 2) := by decide +kernel
theorem dX6_either4_8 : decode cX6_either4 8 = .ok (.bipush 114, 2) := by decide +kernel
theorem dX6_either4_10 : decode cX6_either4 10 = .ok (.iconst 0, 1) := by decide +kernel
theorem dX6_either4_11 : decode cX6_either4 11 = .ok (.iconst 0, 1) := by decide +kernel
theorem dX6_either4_12 : decode cX6_either4 12 = .ok (.iconst 0, 1) := by decide +kernel
theorem dX6_either4_13 : decode cX6_either4 13 = .ok (.iconst 0, 1) := by decide +kernel
theorem dX6_either4_14 : decode cX6_either4 14 = .ok (.iconst 0, 1) := by decide +kernel
theorem dX6_either4_15 : decode cX6_either4 15 = .ok (.iconst 0, 1) := by decide +kernel
theorem dX6_either4_16 : decode cX6_either4 16 = .ok (.invokevirtual 218, 3) := by decide +kernel
theorem dX6_either4_19 : decode cX6_either4 19 = .ok (.ifCond .eq 29, 3) := by decide +kernel
theorem dX6_either4_22 : decode cX6_either4 22 = .ok (.aload_n 0, 1) := by decide +kernel
theorem dX6_either4_23 : decode cX6_either4 23 = .ok (.invokevirtual 215, 3) := by decide +kernel
theorem dX6_either4_26 : decode cX6_either4 26 = .ok (.aload_n 0, 1) := by decide +kernel
theorem dX6_either4_27 : decode cX6_either4 27 = .ok (.invokevirtual 285, 3) := by decide +kernel
theorem dX6_either4_30 : decode cX6_either4 30 = .ok (.istore_n 2, 1) := by decide +kernel
theorem dX6_either4_31 : decode cX6_either4 31 = .ok (.iload_n 1, 1) := by decide +kernel
theorem dX6_either4_32 : decode cX6_either4 32 = .ok (.ifCond .ne 7, 3) := by decide +kernel
theorem dX6_either4_35 : decode cX6_either4 35 = .ok (.iload_n 2, 1) := by decide +kernel
theorem dX6_either4_36 : decode cX6_either4 36 = .ok (.ifCond .eq 7, 3) := by decide +kernel
theorem dX6_either4_39 : decode cX6_either4 39 = .ok (.iconst 1, 1) := by decide +kernel
theorem dX6_either4_40 : decode cX6_either4 40 = .ok (.goto 4, 3) := by decide +kernel
theorem dX6_either4_43 : decode cX6_either4 43 = .ok (.iconst 0, 1) := by decide +kernel
theorem dX6_either4_44 : decode cX6_either4 44 = .ok (.istore_n 1, 1) := by decide +kernel
theorem dX6_either4_45 : decode cX6_either4 45 = .ok (.goto (-40), 3) := by decide +kernel
theorem dX6_either4_48 : decode cX6_either4 48 = .ok (.iload_n 1, 1) := by decide +kernel
theorem dX6_either4_49 : decode cX6_either4 49 = .ok (.ireturn, 1) := by decide +kernel
theorem dX6_atom3_0 : decode cX6_atom3 0 = .ok (.iconst 0, 1) := by decide +kernel
theorem dX6_atom3_1 : decode cX6_atom3 1 = .ok (.istore_n 1, 1) := by decide +kernel
theorem dX6_atom3_2 : decode cX6_atom3 2 = .ok (.aload_n 0, 1) := by decide +kernel
theorem dX6_atom3_3 : decode cX6_atom3 3 = .ok (.bipush 45, 2) := by decide +kernel
theorem dX6_atom3_5 : decode cX6_atom3 5 = .ok (.invokevirtual 240, 3) := by decide +kernel
theorem dX6_atom3_8 : decode cX6_atom3 8 = .ok (.ifCond .eq 29, 3) := by decide +kernel
theorem dX6_atom3_11 : decode cX6_atom3 11 = .ok (.aload_n 0, 1) := by decide +kernel
theorem dX6_atom3_12 : decode cX6_atom3 12 = .ok (.invokevirtual 243, 3) := by decide +kernel
theorem dX6_atom3_15 : decode cX6_atom3 15 = .ok (.ifCond .eq 146, 3) := by decide +kernel
theorem dX6_atom3_18 : decode cX6_atom3 18 = .ok (.aload_n 0, 1) := by decide +kernel
theorem dX6_atom3_19 : decode cX6_atom3 19 = .ok (.invokevirtual 273, 3) := by decide +kernel
theorem dX6_atom3_22 : decode cX6_atom3 22 = .ok (.ineg, 1) := by decide +kernel
theorem dX6_atom3_23 : decode cX6_atom3 23 = .ok (.istore_n 1, 1) := by decide +kernel
theorem dX6_atom3_24 : decode cX6_atom3 24 = .ok (.aload_n 0, 1) := by decide +kernel
theorem dX6_atom3_25 : decode cX6_atom3 25 = .ok (.dup, 1) := by decide +kernel
theorem dX6_atom3_26 : decode cX6_atom3 26 = .ok (.getfield 209, 3) := by decide +kernel
theorem dX6_atom3_29 : decode cX6_atom3 29 = .ok (.iconst 1, 1) := by decide +kernel
theorem dX6_atom3_30 : decode cX6_atom3 30 = .ok (.isub, 1) := by decide +kernel
theorem dX6_atom3_31 : decode cX6_atom3 31 = .ok (.putfield 209, 3) := by decide +kernel
theorem dX6_atom3_34 : decode cX6_atom3 34 = .ok (.goto 127, 3) := by decide +kernel
theorem dX6_atom3_37 : decode cX6_atom3 37 = .ok (.aload_n 0, 1) := by decide +kernel
theorem dX6_atom3_38 : decode cX6_atom3 38 = .ok (.bipush 40, 2) := by decide +kernel
theorem dX6_atom3_40 : decode cX6_atom3 40 = .ok (.invokevirtual 240, 3) := by decide +kernel
theorem dX6_atom3_43 : decode cX6_atom3 43 = .ok (.ifCond .eq 52, 3) := by decide +kernel
theorem dX6_atom3_46 : decode cX6_atom3 46 = .ok (.aload_n 0, 1) := by decide +kernel
theorem dX6_atom3_47 : decode cX6_atom3 47 = .ok (.invokevirtual 243, 3) := by decide +kernel
theorem dX6_atom3_50 : decode cX6_atom3 50 = .ok (.ifCond .eq 111, 3) := by decide +kernel
theorem dX6_atom3_53 : decode cX6_atom3 53 = .ok (.aload_n 0, 1) := by decide +kernel
theorem dX6_atom3_54 : decode cX6_atom3 54 = .ok (.invokevirtual 288, 3) := by decide +kernel
theorem dX6_atom3_57 : decode cX6_atom3 57 = .ok (.istore_n 1, 1) := by decide +kernel
theorem dX6_atom3_58 : decode cX6_atom3 58 = .ok (.aload_n 0, 1) := by decide +kernel
theorem dX6_atom3_59 : decode cX6_atom3 59 = .ok (.bipush 41, 2) := by decide +kernel
theorem dX6_atom3_61 : decode cX6_atom3 61 = .ok (.invokevirtual 240, 3) := by decide +kernel
theorem dX6_atom3_64 : decode cX6_atom3 64 = .ok (.ifCond .ne 7, 3) := by decide +kernel
theorem dX6_atom3_67 : decode cX6_atom3 67 = .ok (.aload_n 0, 1) := by decide +kernel
theorem dX6_atom3_68 : decode cX6_atom3 68 = .ok (.invokevirtual 212, 3) := by decide +kernel
theorem dX6_atom3_71 : decode cX6_atom3 71 = .ok (.aload_n 0, 1) := by decide +kernel
theorem dX6_atom3_72 : decode cX6_atom3 72 = .ok (.dup, 1) := by decide +kernel
theorem dX6_atom3_73 : decode cX6_atom3 73 = .ok (.getfield 209, 3) := by decide +kernel
theorem dX6_atom3_76 : decode cX6_atom3 76 = .ok (.iconst 1, 1) := by decide +kernel
theorem dX6_atom3_77 : decode cX6_atom3 77 = .ok (.isub, 1) := by decide +kernel
theorem dX6_atom3_78 : decode cX6_atom3 78 = .ok (.putfield 209, 3) := by decide +kernel
theorem dX6_atom3_81 : decode cX6_atom3 81 = .ok (.aload_n 0, 1) := by decide +kernel
theorem dX6_atom3_82 : decode cX6_atom3 82 = .ok (.getfield 198, 3) := by decide +kernel
theorem dX6_atom3_85 : decode cX6_atom3 85 = .ok (.ifCond .ne 76, 3) := by decide +kernel
theorem dX6_atom3_88 : decode cX6_atom3 88 = .ok (.aload_n 0, 1) := by decide +kernel
theorem dX6_atom3_89 : decode cX6_atom3 89 = .ok (.invokevirtual 215, 3) := by decide +kernel
theorem dX6_atom3_92 : decode cX6_atom3 92 = .ok (.goto 69, 3) := by decide +kernel
theorem dX6_atom3_95 : decode cX6_atom3 95 = .ok (.aload_n 0, 1) := by decide +kernel
theorem dX6_atom3_96 : decode cX6_atom3 96 = .ok (.getfield 198, 3) := by decide +kernel
theorem dX6_atom3_99 : decode cX6_atom3 99 = .ok (.ifCond .ne 24, 3) := by decide +kernel
theorem dX6_atom3_102 : decode cX6_atom3 102 = .ok (.aload_n 0, 1) := by decide +kernel
theorem dX6_atom3_103 : decode cX6_atom3 103 = .ok (.getfield 183, 3) := by decide +kernel
theorem dX6_atom3_106 : decode cX6_atom3 106 = .ok (.iconst 2, 1) := by decide +kernel
theorem dX6_atom3_107 : decode cX6_atom3 107 = .ok (.if_icmp .ne 16, 3) := by decide +kernel
theorem dX6_atom3_110 : decode cX6_atom3 110 = .ok (.aload_n 0, 1) := by decide +kernel
theorem dX6_atom3_111 : decode cX6_atom3 111 = .ok (.getfield 194, 3) := by decide +kernel
theorem dX6_atom3_114 : decode cX6_atom3 114 = .ok (.l2i, 1) := by decide +kernel
theorem dX6_atom3_115 : decode cX6_atom3 115 = .ok (.istore_n 1, 1) := by decide +kernel
theorem dX6_atom3_116 : decode cX6_atom3 116 = .ok (.aload_n 0, 1) := by decide +kernel
theorem dX6_atom3_117 : decode cX6_atom3 117 = .ok (.invokevirtual 215, 3) := by decide +kernel
theorem dX6_atom3_120 : decode cX6_atom3 120 = .ok (.goto 41, 3) := by decide +kernel
theorem dX6_atom3_123 : decode cX6_atom3 123 = .ok (.aload_n 0, 1) := by decide +kernel
theorem dX6_atom3_124 : decode cX6_atom3 124 = .ok (.getfield 198, 3) := by decide +kernel
theorem dX6_atom3_127 : decode cX6_atom3 127 = .ok (.ifCond .ne 30, 3) := by decide +kernel
theorem dX6_atom3_130 : decode cX6_atom3 130 = .ok (.aload_n 0, 1) := by decide +kernel
theorem dX6_atom3_131 : decode cX6_atom3 131 = .ok (.getfield 183, 3) := by decide +kernel
theorem dX6_atom3_134 : decode cX6_atom3 134 = .ok (.iconst 1, 1) := by decide +kernel
theorem dX6_atom3_135 : decode cX6_atom3 135 = .ok (.if_icmp .ne 22, 3) := by decide +kernel
theorem dX6_atom3_138 : decode cX6_atom3 138 = .ok (.aload_n 0, 1) := by decide +kernel
theorem dX6_atom3_139 : decode cX6_atom3 139 = .ok (.invokevirtual 247, 3) := by decide +kernel
theorem dX6_atom3_142 : decode cX6_atom3 142 = .ok (.istore_n 1, 1) := by decide +kernel
theorem dX6_atom3_143 : decode cX6_atom3 143 = .ok (.aload_n 0, 1) := by decide +kernel
theorem dX6_atom3_144 : decode cX6_atom3 144 = .ok (.getfield 198, 3) := by decide +kernel
theorem dX6_atom3_147 : decode cX6_atom3 147 = .ok (.ifCond .ne 14, 3) := by decide +kernel
theorem dX6_atom3_150 : decode cX6_atom3 150 = .ok (.aload_n 0, 1) := by decide +kernel
theorem dX6_atom3_151 : decode cX6_atom3 151 = .ok (.invokevirtual 215, 3) := by decide +kernel
theorem dX6_atom3_154 : decode cX6_atom3 154 = .ok (.goto 7, 3) := by decide +kernel
theorem dX6_atom3_157 : decode cX6_atom3 157 = .ok (.aload_n 0, 1) := by decide +kernel
theorem dX6_atom3_158 : decode cX6_atom3 158 = .ok (.invokevirtual 212, 3) := by decide +kernel
theorem dX6_atom3_161 : decode cX6_atom3 161 = .ok (.iload_n 1, 1) := by decide +kernel
theorem dX6_atom3_162 : decode cX6_atom3 162 = .ok (.ireturn, 1) := by decide +kernel
theorem dX6_term3_0 : decode cX6_term3 0 = .ok (.aload_n 0, 1) := by decide +kernel
theorem dX6_term3_1 : decode cX6_term3 1 = .ok (.invokevirtual 291, 3) := by decide +kernel
theorem dX6_term3_4 : decode cX6_term3 4 = .ok (.istore_n 1, 1) := by decide +kernel
theorem dX6_term3_5 : decode cX6_term3 5 = .ok (.aload_n 0, 1) := by decide +kernel
theorem dX6_term3_6 : decode cX6_term3 6 = .ok (.bipush 42, 2) := by decide +kernel
theorem dX6_term3_8 : decode cX6_term3 8 = .ok (.invokevirtual 240, 3) := by decide +kernel
theorem dX6_term3_11 : decode cX6_term3 11 = .ok (.ifCond .eq 17, 3) := by decide +kernel
theorem dX6_term3_14 : decode cX6_term3 14 = .ok (.aload_n 0, 1) := by decide +kernel
theorem dX6_term3_15 : decode cX6_term3 15 = .ok (.invokevirtual 215, 3) := by decide +kernel
theorem dX6_term3_18 : decode cX6_term3 18 = .ok (.iload_n 1, 1) := by decide +kernel
theorem dX6_term3_19 : decode cX6_term3 19 = .ok (.aload_n 0, 1) := by decide +kernel
theorem dX6_term3_20 : decode cX6_term3 20 = .ok (.invokevirtual 291, 3) := by decide +kernel
theorem dX6_term3_23 : decode cX6_term3 23 = .ok (.imul, 1) := by decide +kernel
theorem dX6_term3_24 : decode cX6_term3 24 = .ok (.istore_n 1, 1) := by decide +kernel
theorem dX6_term3_25 : decode cX6_term3 25 = .ok (.goto (-20), 3) := by decide +kernel
theorem dX6_term3_28 : decode cX6_term3 28 = .ok (.iload_n 1, 1) := by decide +kernel
theorem dX6_term3_29 : decode cX6_term3 29 = .ok (.ireturn, 1) := by decide +kernel
theorem dX6_added3_0 : decode cX6_added3 0 = .ok (.aload_n 0, 1) := by decide +kernel
theorem dX6_added3_1 : decode cX6_added3 1 = .ok (.invokevirtual 294, 3) := by decide +kernel
theorem dX6_added3_4 : decode cX6_added3 4 = .ok (.istore_n 1, 1) := by decide +kernel
theorem dX6_added3_5 : decode cX6_added3 5 = .ok (.aload_n 0, 1) := by decide +kernel
theorem dX6_added3_6 : decode cX6_added3 6 = .ok (.bipush 43, 2) := by decide +kernel
theorem dX6_added3_8 : decode cX6_added3 8 = .ok (.invokevirtual 240, 3) := by decide +kernel
theorem dX6_added3_11 : decode cX6_added3 11 = .ok (.ifCond .ne 12, 3) := by decide +kernel
theorem dX6_added3_14 : decode cX6_added3 14 = .ok (.aload_n 0, 1) := by decide +kernel
theorem dX6_added3_15 : decode cX6_added3 15 = .ok (.bipush 45, 2) := by decide +kernel
theorem dX6_added3_17 : decode cX6_added3 17 = .ok (.invokevirtual 240, 3) := by decide +kernel
theorem dX6_added3_20 : decode cX6_added3 20 = .ok (.ifCond .eq 46, 3) := by decide +kernel
theorem dX6_added3_23 : decode cX6_added3 23 = .ok (.aload_n 0, 1) := by decide +kernel
theorem dX6_added3_24 : decode cX6_added3 24 = .ok (.getfield 194, 3) := by decide +kernel
theorem dX6_added3_27 : decode cX6_added3 27 = .ok (.ldc2_w 257, 3) := by decide +kernel
theorem dX6_added3_30 : decode cX6_added3 30 = .ok (.lcmp, 1) := by decide +kernel
theorem dX6_added3_31 : decode cX6_added3 31 = .ok (.ifCond .ne 7, 3) := by decide +kernel
theorem dX6_added3_34 : decode cX6_added3 34 = .ok (.iconst 1, 1) := by decide +kernel
theorem dX6_added3_35 : decode cX6_added3 35 = .ok (.goto 4, 3) := by decide +kernel
theorem dX6_added3_38 : decode cX6_added3 38 = .ok (.iconst 0, 1) := by decide +kernel
theorem dX6_added3_39 : decode cX6_added3 39 = .ok (.istore_n 2, 1) := by decide +kernel
theorem dX6_added3_40 : decode cX6_added3 40 = .ok (.aload_n 0, 1) := by decide +kernel
theorem dX6_added3_41 : decode cX6_added3 41 = .ok (.invokevirtual 215, 3) := by decide +kernel
theorem dX6_added3_44 : decode cX6_added3 44 = .ok (.aload_n 0, 1) := by decide +kernel
theorem dX6_added3_45 : decode cX6_added3 45 = .ok (.invokevirtual 294, 3) := by decide +kernel
theorem dX6_added3_48 : decode cX6_added3 48 = .ok (.istore_n 3, 1) := by decide +kernel
theorem dX6_added3_49 : decode cX6_added3 49 = .ok (.iload_n 2, 1) := by decide +kernel
theorem dX6_added3_50 : decode cX6_added3 50 = .ok (.ifCond .eq 9, 3) := by decide +kernel
theorem dX6_added3_53 : decode cX6_added3 53 = .ok (.iload_n 1, 1) := by decide +kernel
theorem dX6_added3_54 : decode cX6_added3 54 = .ok (.iload_n 3, 1) := by decide +kernel
theorem dX6_added3_55 : decode cX6_added3 55 = .ok (.iadd, 1) := by decide +kernel
theorem dX6_added3_56 : decode cX6_added3 56 = .ok (.goto 6, 3) := by decide +kernel
theorem dX6_added3_59 : decode cX6_added3 59 = .ok (.iload_n 1, 1) := by decide +kernel
theorem dX6_added3_60 : decode cX6_added3 60 = .ok (.iload_n 3, 1) := by decide +kernel
theorem dX6_added3_61 : decode cX6_added3 61 = .ok (.isub, 1) := by decide +kernel
theorem dX6_added3_62 : decode cX6_added3 62 = .ok (.istore_n 1, 1) := by decide +kernel
theorem dX6_added3_63 : decode cX6_added3 63 = .ok (.goto (-58), 3) := by decide +kernel
theorem dX6_added3_66 : decode cX6_added3 66 = .ok (.iload_n 1, 1) := by decide +kernel
theorem dX6_added3_67 : decode cX6_added3 67 = .ok (.ireturn, 1) := by decide +kernel
theorem dX6_not3_0 : decode cX6_not3 0 = .ok (.aload_n 0, 1) := by decide +kernel
theorem dX6_not3_1 : decode cX6_not3 1 = .ok (.bipush 110, 2) := by decide +kernel
theorem dX6_not3_3 : decode cX6_not3 3 = .ok (.bipush 111, 2) := by decide +kernel
theorem dX6_not3_5 : decode cX6_not3 5 = .ok (.bipush 116, 2) := by decide +kernel
theorem dX6_not3_7 : decode cX6_not3 7 = .ok (.iconst 0, 1) := by decide +kernel
theorem dX6_not3_8 : decode cX6_not3 8 = .ok (.iconst 0, 1) := by decide +kernel
theorem dX6_not3_9 : decode cX6_not3 9 = .ok (.iconst 0, 1) := by decide +kernel
theorem dX6_not3_10 : decode cX6_not3 10 = .ok (.iconst 0, 1) := by decide +kernel
theorem dX6_not3_11 : decode cX6_not3 11 = .ok (.iconst 0, 1) := by decide +kernel
theorem dX6_not3_12 : decode cX6_not3 12 = .ok (.invokevirtual 218, 3) := by decide +kernel
theorem dX6_not3_15 : decode cX6_not3 15 = .ok (.ifCond .eq 37, 3) := by decide +kernel
theorem dX6_not3_18 : decode cX6_not3 18 = .ok (.aload_n 0, 1) := by decide +kernel
theorem dX6_not3_19 : decode cX6_not3 19 = .ok (.invokevirtual 243, 3) := by decide +kernel
theorem dX6_not3_22 : decode cX6_not3 22 = .ok (.ifCond .ne 5, 3) := by decide +kernel
theorem dX6_not3_25 : decode cX6_not3 25 = .ok (.iconst 0, 1) := by decide +kernel
theorem dX6_not3_26 : decode cX6_not3 26 = .ok (.ireturn, 1) := by decide +kernel
theorem dX6_not3_27 : decode cX6_not3 27 = .ok (.aload_n 0, 1) := by decide +kernel
theorem dX6_not3_28 : decode cX6_not3 28 = .ok (.invokevirtual 282, 3) := by decide +kernel
theorem dX6_not3_31 : decode cX6_not3 31 = .ok (.istore_n 1, 1) := by decide +kernel
theorem dX6_not3_32 : decode cX6_not3 32 = .ok (.aload_n 0, 1) := by decide +kernel
theorem dX6_not3_33 : decode cX6_not3 33 = .ok (.dup, 1) := by decide +kernel
theorem dX6_not3_34 : decode cX6_not3 34 = .ok (.getfield 209, 3) := by decide +kernel
theorem dX6_not3_37 : decode cX6_not3 37 = .ok (.iconst 1, 1) := by decide +kernel
theorem dX6_not3_38 : decode cX6_not3 38 = .ok (.isub, 1) := by decide +kernel
theorem dX6_not3_39 : decode cX6_not3 39 = .ok (.putfield 209, 3) := by decide +kernel
theorem dX6_not3_42 : decode cX6_not3 42 = .ok (.iload_n 1, 1) := by decide +kernel
theorem dX6_not3_43 : decode cX6_not3 43 = .ok (.ifCond .ne 7, 3) := by decide +kernel
theorem dX6_not3_46 : decode cX6_not3 46 = .ok (.iconst 1, 1) := by decide +kernel
theorem dX6_not3_47 : decode cX6_not3 47 = .ok (.goto 4, 3) := by decide +kernel
theorem dX6_not3_50 : decode cX6_not3 50 = .ok (.iconst 0, 1) := by decide +kernel
theorem dX6_not3_51 : decode cX6_not3 51 = .ok (.ireturn, 1) := by decide +kernel
theorem dX6_not3_52 : decode cX6_not3 52 = .ok (.aload_n 0, 1) := by decide +kernel
theorem dX6_not3_53 : decode cX6_not3 53 = .ok (.invokevirtual 297, 3) := by decide +kernel
theorem dX6_not3_56 : decode cX6_not3 56 = .ok (.istore_n 1, 1) := by decide +kernel
theorem dX6_not3_57 : decode cX6_not3 57 = .ok (.aload_n 0, 1) := by decide +kernel
theorem dX6_not3_58 : decode cX6_not3 58 = .ok (.bipush 60, 2) := by decide +kernel
theorem dX6_not3_60 : decode cX6_not3 60 = .ok (.invokevirtual 240, 3) := by decide +kernel
theorem dX6_not3_63 : decode cX6_not3 63 = .ok (.ifCond .ne 14, 3) := by decide +kernel
theorem dX6_not3_66 : decode cX6_not3 66 = .ok (.aload_n 0, 1) := by decide +kernel
theorem dX6_not3_67 : decode cX6_not3 67 = .ok (.bipush 61, 2) := by decide +kernel
theorem dX6_not3_69 : decode cX6_not3 69 = .ok (.invokevirtual 240, 3) := by decide +kernel
theorem dX6_not3_72 : decode cX6_not3 72 = .ok (.ifCond .ne 5, 3) := by decide +kernel
theorem dX6_not3_75 : decode cX6_not3 75 = .ok (.iload_n 1, 1) := by decide +kernel
theorem dX6_not3_76 : decode cX6_not3 76 = .ok (.ireturn, 1) := by decide +kernel
theorem dX6_not3_77 : decode cX6_not3 77 = .ok (.aload_n 0, 1) := by decide +kernel
theorem dX6_not3_78 : decode cX6_not3 78 = .ok (.getfield 194, 3) := by decide +kernel
theorem dX6_not3_81 : decode cX6_not3 81 = .ok (.ldc2_w 262, 3) := by decide +kernel
theorem dX6_not3_84 : decode cX6_not3 84 = .ok (.lcmp, 1) := by decide +kernel
theorem dX6_not3_85 : decode cX6_not3 85 = .ok (.ifCond .ne 7, 3) := by decide +kernel
theorem dX6_not3_88 : decode cX6_not3 88 = .ok (.iconst 1, 1) := by decide +kernel
theorem dX6_not3_89 : decode cX6_not3 89 = .ok (.goto 4, 3) := by decide +kernel
theorem dX6_not3_92 : decode cX6_not3 92 = .ok (.iconst 0, 1) := by decide +kernel
theorem dX6_not3_93 : decode cX6_not3 93 = .ok (.istore_n 2, 1) := by decide +kernel
theorem dX6_not3_94 : decode cX6_not3 94 = .ok (.aload_n 0, 1) := by decide +kernel
theorem dX6_not3_95 : decode cX6_not3 95 = .ok (.invokevirtual 215, 3) := by decide +kernel
theorem dX6_not3_98 : decode cX6_not3 98 = .ok (.aload_n 0, 1) := by decide +kernel
theorem dX6_not3_99 : decode cX6_not3 99 = .ok (.invokevirtual 297, 3) := by decide +kernel
theorem dX6_not3_102 : decode cX6_not3 102 = .ok (.istore_n 3, 1) := by decide +kernel
theorem dX6_not3_103 : decode cX6_not3 103 = .ok (.iload_n 2, 1) := by decide +kernel
theorem dX6_not3_104 : decode cX6_not3 104 = .ok (.ifCond .eq 11, 3) := by decide +kernel
theorem dX6_not3_107 : decode cX6_not3 107 = .ok (.iload_n 1, 1) := by decide +kernel
theorem dX6_not3_108 : decode cX6_not3 108 = .ok (.iload_n 3, 1) := by decide +kernel
theorem dX6_not3_109 : decode cX6_not3 109 = .ok (.if_icmp .ge 15, 3) := by decide +kernel
theorem dX6_not3_112 : decode cX6_not3 112 = .ok (.goto 8, 3) := by decide +kernel
theorem dX6_not3_115 : decode cX6_not3 115 = .ok (.iload_n 1, 1) := by decide +kernel
theorem dX6_not3_116 : decode cX6_not3 116 = .ok (.iload_n 3, 1) := by decide +kernel
theorem dX6_not3_117 : decode cX6_not3 117 = .ok (.if_icmp .ne 7, 3) := by decide +kernel
theorem dX6_not3_120 : decode cX6_not3 120 = .ok (.iconst 1, 1) := by decide +kernel
theorem dX6_not3_121 : decode cX6_not3 121 = .ok (.goto 4, 3) := by decide +kernel
theorem dX6_not3_124 : decode cX6_not3 124 = .ok (.iconst 0, 1) := by decide +kernel
theorem dX6_not3_125 : decode cX6_not3 125 = .ok (.ireturn, 1) := by decide +kernel
theorem dX6_both3_0 : decode cX6_both3 0 = .ok (.aload_n 0, 1) := by decide +kernel
theorem dX6_both3_1 : decode cX6_both3 1 = .ok (.invokevirtual 300, 3) := by decide +kernel
theorem dX6_both3_4 : decode cX6_both3 4 = .ok (.istore_n 1, 1) := by decide +kernel
theorem dX6_both3_5 : decode cX6_both3 5 = .ok (.aload_n 0, 1) := by decide +kernel
theorem dX6_both3_6 : decode cX6_both3 6 = .ok (.bipush 97, 2) := by decide +kernel
theorem dX6_both3_8 : decode cX6_both3 8 = .ok (.bipush 110, 2) := by decide +kernel
theorem dX6_both3_10 : decode cX6_both3 10 = .ok (.bipush 100, 2) := by decide +kernel
theorem dX6_both3_12 : decode cX6_both3 12 = .ok (.iconst 0, 1) := by decide +kernel
theorem dX6_both3_13 : decode cX6_both3 13 = .ok (.iconst 0, 1) := by decide +kernel
theorem dX6_both3_14 : decode cX6_both3 14 = .ok (.iconst 0, 1) := by decide +kernel
theorem dX6_both3_15 : decode cX6_both3 15 = .ok (.iconst 0, 1) := by decide +kernel
theorem dX6_both3_16 : decode cX6_both3 16 = .ok (.iconst 0, 1) := by decide +kernel
theorem dX6_both3_17 : decode cX6_both3 17 = .ok (.invokevirtual 218, 3) := by decide +kernel
theorem dX6_both3_20 : decode cX6_both3 20 = .ok (.ifCond .eq 29, 3) := by decide +kernel
theorem dX6_both3_23 : decode cX6_both3 23 = .ok (.aload_n 0, 1) := by decide +kernel
theorem dX6_both3_24 : decode cX6_both3 24 = .ok (.invokevirtual 215, 3) := by decide +kernel
theorem dX6_both3_27 : decode cX6_both3 27 = .ok (.aload_n 0, 1) := by decide +kernel
theorem dX6_both3_28 : decode cX6_both3 28 = .ok (.invokevirtual 300, 3) := by decide +kernel
theorem dX6_both3_31 : decode cX6_both3 31 = .ok (.istore_n 2, 1) := by decide +kernel
theorem dX6_both3_32 : decode cX6_both3 32 = .ok (.iload_n 1, 1) := by decide +kernel
theorem dX6_both3_33 : decode cX6_both3 33 = .ok (.ifCond .eq 11, 3) := by decide +kernel
theorem dX6_both3_36 : decode cX6_both3 36 = .ok (.iload_n 2, 1) := by decide +kernel
theorem dX6_both3_37 : decode cX6_both3 37 = .ok (.ifCond .eq 7, 3) := by decide +kernel
theorem dX6_both3_40 : decode cX6_both3 40 = .ok (.iconst 1, 1) := by decide +kernel
theorem dX6_both3_41 : decode cX6_both3 41 = .ok (.goto 4, 3) := by decide +kernel
theorem dX6_both3_44 : decode cX6_both3 44 = .ok (.iconst 0, 1) := by decide +kernel
theorem dX6_both3_45 : decode cX6_both3 45 = .ok (.istore_n 1, 1) := by decide +kernel
theorem dX6_both3_46 : decode cX6_both3 46 = .ok (.goto (-41), 3) := by decide +kernel
theorem dX6_both3_49 : decode cX6_both3 49 = .ok (.iload_n 1, 1) := by decide +kernel
theorem dX6_both3_50 : decode cX6_both3 50 = .ok (.ireturn, 1) := by decide +kernel
theorem dX6_either3_0 : decode cX6_either3 0 = .ok (.aload_n 0, 1) := by decide +kernel
theorem dX6_either3_1 : decode cX6_either3 1 = .ok (.invokevirtual 303, 3) := by decide +kernel
theorem dX6_either3_4 : decode cX6_either3 4 = .ok (.istore_n 1, 1) := by decide +kernel
theorem dX6_either3_5 : decode cX6_either3 5 = .ok (.aload_n 0, 1) := by decide +kernel
theorem dX6_either3_6 : decode cX6_either3 6 = .ok (.bipush 111, 2) := by decide +kernel
theorem dX6_either3_8 : decode cX6_either3 8 = .ok (.bipush 114, 2) := by decide +kernel
theorem dX6_either3_10 : decode cX6_either3 10 = .ok (.iconst 0, 1) := by decide +kernel
theorem dX6_either3_11 : decode cX6_either3 11 = .ok (.iconst 0, 1) := by decide +kernel
theorem dX6_either3_12 : decode cX6_either3 12 = .ok (.iconst 0, 1) := by decide +kernel
theorem dX6_either3_13 : decode cX6_either3 13 = .ok (.iconst 0, 1) := by decide +kernel
theorem dX6_either3_14 : decode cX6_either3 14 = .ok (.iconst 0, 1) := by decide +kernel
theorem dX6_either3_15 : decode cX6_either3 15 = .ok (.iconst 0, 1) := by decide +kernel
theorem dX6_either3_16 : decode cX6_either3 16 = .ok (.invokevirtual 218, 3) := by decide +kernel
theorem dX6_either3_19 : decode cX6_either3 19 = .ok (.ifCond .eq 29, 3) := by decide +kernel
theorem dX6_either3_22 : decode cX6_either3 22 = .ok (.aload_n 0, 1) := by decide +kernel
theorem dX6_either3_23 : decode cX6_either3 23 = .ok (.invokevirtual 215, 3) := by decide +kernel
theorem dX6_either3_26 : decode cX6_either3 26 = .ok (.aload_n 0, 1) := by decide +kernel
theorem dX6_either3_27 : decode cX6_either3 27 = .ok (.invokevirtual 303, 3) := by decide +kernel
theorem dX6_either3_30 : decode cX6_either3 30 = .ok (.istore_n 2, 1) := by decide +kernel
theorem dX6_either3_31 : decode cX6_either3 31 = .ok (.iload_n 1, 1) := by decide +kernel
theorem dX6_either3_32 : decode cX6_either3 32 = .ok (.ifCond .ne 7, 3) := by decide +kernel
theorem dX6_either3_35 : decode cX6_either3 35 = .ok (.iload_n 2, 1) := by decide +kernel
theorem dX6_either3_36 : decode cX6_either3 36 = .ok (.ifCond .eq 7, 3) := by decide +kernel
theorem dX6_either3_39 : decode cX6_either3 39 = .ok (.iconst 1, 1) := by decide +kernel
theorem dX6_either3_40 : decode cX6_either3 40 = .ok (.goto 4, 3) := by decide +kernel
theorem dX6_either3_43 : decode cX6_either3 43 = .ok (.iconst 0, 1) := by decide +kernel
theorem dX6_either3_44 : decode cX6_either3 44 = .ok (.istore_n 1, 1) := by decide +kernel
theorem dX6_either3_45 : decode cX6_either3 45 = .ok (.goto (-40), 3) := by decide +kernel
theorem dX6_either3_48 : decode cX6_either3 48 = .ok (.iload_n 1, 1) := by decide +kernel
theorem dX6_either3_49 : decode cX6_either3 49 = .ok (.ireturn, 1) := by decide +kernel
theorem dX6_atom2_0 : decode cX6_atom2 0 = .ok (.iconst 0, 1) := by decide +kernel
theorem dX6_atom2_1 : decode cX6_atom2 1 = .ok (.istore_n 1, 1) := by decide +kernel
theorem dX6_atom2_2 : decode cX6_atom2 2 = .ok (.aload_n 0, 1) := by decide +kernel
theorem dX6_atom2_3 : decode cX6_atom2 3 = .ok (.bipush 45, 2) := by decide +kernel
theorem dX6_atom2_5 : decode cX6_atom2 5 = .ok (.invokevirtual 240, 3) := by decide +kernel
theorem dX6_atom2_8 : decode cX6_atom2 8 = .ok (.ifCond .eq 29, 3) := by decide +kernel
theorem dX6_atom2_11 : decode cX6_atom2 11 = .ok (.aload_n 0, 1) := by decide +kernel
theorem dX6_atom2_12 : decode cX6_atom2 12 = .ok (.invokevirtual 243, 3) := by decide +kernel
theorem dX6_atom2_15 : decode cX6_atom2 15 = .ok (.ifCond .eq 146, 3) := by decide +kernel
theorem dX6_atom2_18 : decode cX6_atom2 18 = .ok (.aload_n 0, 1) := by decide +kernel
theorem dX6_atom2_19 : decode cX6_atom2 19 = .ok (.invokevirtual 291, 3) := by decide +kernel
theorem dX6_atom2_22 : decode cX6_atom2 22 = .ok (.ineg, 1) := by decide +kernel
theorem dX6_atom2_23 : decode cX6_atom2 23 = .ok (.istore_n 1, 1) := by decide +kernel
theorem dX6_atom2_24 : decode cX6_atom2 24 = .ok (.aload_n 0, 1) := by decide +kernel
theorem dX6_atom2_25 : decode cX6_atom2 25 = .ok (.dup, 1) := by decide +kernel
theorem dX6_atom2_26 : decode cX6_atom2 26 = .ok (.getfield 209, 3) := by decide +kernel
theorem dX6_atom2_29 : decode cX6_atom2 29 = .ok (.iconst 1, 1) := by decide +kernel
theorem dX6_atom2_30 : decode cX6_atom2 30 = .ok (.isub, 1) := by decide +kernel
theorem dX6_atom2_31 : decode cX6_atom2 31 = .ok (.putfield 209, 3) := by decide +kernel
theorem dX6_atom2_34 : decode cX6_atom2 34 = .ok (.goto 127, 3) := by decide +kernel
theorem dX6_atom2_37 : decode cX6_atom2 37 = .ok (.aload_n 0, 1) := by decide +kernel
theorem dX6_atom2_38 : decode cX6_atom2 38 = .ok (.bipush 40, 2) := by decide +kernel
theorem dX6_atom2_40 : decode cX6_atom2 40 = .ok (.invokevirtual 240, 3) := by decide +kernel
theorem dX6_atom2_43 : decode cX6_atom2 43 = .ok (.ifCond .eq 52, 3) := by decide +kernel
theorem dX6_atom2_46 : decode cX6_atom2 46 = .ok (.aload_n 0, 1) := by decide +kernel
theorem dX6_atom2_47 : decode cX6_atom2 47 = .ok (.invokevirtual 243, 3) := by decide +kernel
theorem dX6_atom2_50 : decode cX6_atom2 50 = .ok (.ifCond .eq 111, 3) := by decide +kernel
theorem dX6_atom2_53 : decode cX6_atom2 53 = .ok (.aload_n 0, 1) := by decide +kernel
theorem dX6_atom2_54 : decode cX6_atom2 54 = .ok (.invokevirtual 306, 3) := by decide +kernel
theorem dX6_atom2_57 : decode cX6_atom2 57 = .ok (.istore_n 1, 1) := by decide +kernel
theorem dX6_atom2_58 : decode cX6_atom2 58 = .ok (.aload_n 0, 1) := by decide +kernel
theorem dX6_atom2_59 : decode cX6_atom2 59 = .ok (.bipush 41, 2) := by decide +kernel
theorem dX6_atom2_61 : decode cX6_atom2 61 = .ok (.invokevirtual 240, 3) := by decide +kernel
theorem dX6_atom2_64 : decode cX6_atom2 64 = .ok (.ifCond .ne 7, 3) := by decide +kernel
theorem dX6_atom2_67 : decode cX6_atom2 67 = .ok (.aload_n 0, 1) := by decide +kernel
theorem dX6_atom2_68 : decode cX6_atom2 68 = .ok (.invokevirtual 212, 3) := by decide +kernel
theorem dX6_atom2_71 : decode cX6_atom2 71 = .ok (.aload_n 0, 1) := by decide +kernel
theorem dX6_atom2_72 : decode cX6_atom2 72 = .ok (.dup, 1) := by decide +kernel
theorem dX6_atom2_73 : decode cX6_atom2 73 = .ok (.getfield 209, 3) := by decide +kernel
theorem dX6_atom2_76 : decode cX6_atom2 76 = .ok (.iconst 1, 1) := by decide +kernel
theorem dX6_atom2_77 : decode cX6_atom2 77 = .ok (.isub, 1) := by decide +kernel
theorem dX6_atom2_78 : decode cX6_atom2 78 = .ok (.putfield 209, 3) := by decide +kernel
theorem dX6_atom2_81 : decode cX6_atom2 81 = .ok (.aload_n 0, 1) := by decide +kernel
theorem dX6_atom2_82 : decode cX6_atom2 82 = .ok (.getfield 198, 3) := by decide +kernel
theorem dX6_atom2_85 : decode cX6_atom2 85 = .ok (.ifCond .ne 76, 3) := by decide +kernel
theorem dX6_atom2_88 : decode cX6_atom2 88 = .ok (.aload_n 0, 1) := by decide +kernel
theorem dX6_atom2_89 : decode cX6_atom2 89 = .ok (.invokevirtual 215, 3) := by decide +kernel
theorem dX6_atom2_92 : decode cX6_atom2 92 = .ok (.goto 69, 3) := by decide +kernel
theorem dX6_atom2_95 : decode cX6_atom2 95 = .ok (.aload_n 0, 1) := by decide +kernel
theorem dX6_atom2_96 : decode cX6_atom2 96 = .ok (.getfield 198, 3) := by decide +kernel
theorem dX6_atom2_99 : decode cX6_atom2 99 = .ok (.ifCond .ne 24, 3) := by decide +kernel
theorem dX6_atom2_102 : decode cX6_atom2 102 = .ok (.aload_n 0, 1) := by decide +kernel
theorem dX6_atom2_103 : decode cX6_atom2 103 = .ok (.getfield 183, 3) := by decide +kernel
theorem dX6_atom2_106 : decode cX6_atom2 106 = .ok (.iconst 2, 1) := by decide +kernel
theorem dX6_atom2_107 : decode cX6_atom2 107 = .ok (.if_icmp .ne 16, 3) := by decide +kernel
theorem dX6_atom2_110 : decode cX6_atom2 110 = .ok (.aload_n 0, 1) := by decide +kernel
theorem dX6_atom2_111 : decode cX6_atom2 111 = .ok (.getfield 194, 3) := by decide +kernel
theorem dX6_atom2_114 : decode cX6_atom2 114 = .ok (.l2i, 1) := by decide +kernel
theorem dX6_atom2_115 : decode cX6_atom2 115 = .ok (.istore_n 1, 1) := by decide +kernel
theorem dX6_atom2_116 : decode cX6_atom2 116 = .ok (.aload_n 0, 1) := by decide +kernel
theorem dX6_atom2_117 : decode cX6_atom2 117 = .ok (.invokevirtual 215, 3) := by decide +kernel
theorem dX6_atom2_120 : decode cX6_atom2 120 = .ok (.goto 41, 3) := by decide +kernel
theorem dX6_atom2_123 : decode cX6_atom2 123 = .ok (.aload_n 0, 1) := by decide +kernel
theorem dX6_atom2_124 : decode cX6_atom2 124 = .ok (.getfield 198, 3) := by decide +kernel
theorem dX6_atom2_127 : decode cX6_atom2 127 = .ok (.ifCond .ne 30, 3) := by decide +kernel
theorem dX6_atom2_130 : decode cX6_atom2 130 = .ok (.aload_n 0, 1) := by decide +kernel
theorem dX6_atom2_131 : decode cX6_atom2 131 = .ok (.getfield 183, 3) := by decide +kernel
theorem dX6_atom2_134 : decode cX6_atom2 134 = .ok (.iconst 1, 1) := by decide +kernel
theorem dX6_atom2_135 : decode cX6_atom2 135 = .ok (.if_icmp .ne 22, 3) := by decide +kernel
theorem dX6_atom2_138 : decode cX6_atom2 138 = .ok (.aload_n 0, 1) := by decide +kernel
theorem dX6_atom2_139 : decode cX6_atom2 139 = .ok (.invokevirtual 247, 3) := by decide +kernel
theorem dX6_atom2_142 : decode cX6_atom2 142 = .ok (.istore_n 1, 1) := by decide +kernel
theorem dX6_atom2_143 : decode cX6_atom2 143 = .ok (.aload_n 0, 1) := by decide +kernel
theorem dX6_atom2_144 : decode cX6_atom2 144 = .ok (.getfield 198, 3) := by decide +kernel
theorem dX6_atom2_147 : decode cX6_atom2 147 = .ok (.ifCond .ne 14, 3) := by decide +kernel
theorem dX6_atom2_150 : decode cX6_atom2 150 = .ok (.aload_n 0, 1) := by decide +kernel
theorem dX6_atom2_151 : decode cX6_atom2 151 = .ok (.invokevirtual 215, 3) := by decide +kernel
theorem dX6_atom2_154 : decode cX6_atom2 154 = .ok (.goto 7, 3) := by decide +kernel
theorem dX6_atom2_157 : decode cX6_atom2 157 = .ok (.aload_n 0, 1) := by decide +kernel
theorem dX6_atom2_158 : decode cX6_atom2 158 = .ok (.invokevirtual 212, 3) := by decide +kernel
theorem dX6_atom2_161 : decode cX6_atom2 161 = .ok (.iload_n 1, 1) := by decide +kernel
theorem dX6_atom2_162 : decode cX6_atom2 162 = .ok (.ireturn, 1) := by decide +kernel
theorem dX6_term2_0 : decode cX6_term2 0 = .ok (.aload_n 0, 1) := by decide +kernel
theorem dX6_term2_1 : decode cX6_term2 1 = .ok (.invokevirtual 309, 3) := by decide +kernel
theorem dX6_term2_4 : decode cX6_term2 4 = .ok (.istore_n 1, 1) := by decide +kernel
theorem dX6_term2_5 : decode cX6_term2 5 = .ok (.aload_n 0, 1) := by decide +kernel
theorem dX6_term2_6 : decode cX6_term2 6 = .ok (.bipush 42, 2) := by decide +kernel
theorem dX6_term2_8 : decode cX6_term2 8 = .ok (.invokevirtual 240, 3) := by decide +kernel
theorem dX6_term2_11 : decode cX6_term2 11 = .ok (.ifCond .eq 17, 3) := by decide +kernel
theorem dX6_term2_14 : decode cX6_term2 14 = .ok (.aload_n 0, 1) := by decide +kernel
theorem dX6_term2_15 : decode cX6_term2 15 = .ok (.invokevirtual 215, 3) := by decide +kernel
theorem dX6_term2_18 : decode cX6_term2 18 = .ok (.iload_n 1, 1) := by decide +kernel
theorem dX6_term2_19 : decode cX6_term2 19 = .ok (.aload_n 0, 1) := by decide +kernel
theorem dX6_term2_20 : decode cX6_term2 20 = .ok (.invokevirtual 309, 3) := by decide +kernel
theorem dX6_term2_23 : decode cX6_term2 23 = .ok (.imul, 1) := by decide +kernel
theorem dX6_term2_24 : decode cX6_term2 24 = .ok (.istore_n 1, 1) := by decide +kernel
theorem dX6_term2_25 : decode cX6_term2 25 = .ok (.goto (-20), 3) := by decide +kernel
theorem dX6_term2_28 : decode cX6_term2 28 = .ok (.iload_n 1, 1) := by decide +kernel
theorem dX6_term2_29 : decode cX6_term2 29 = .ok (.ireturn, 1) := by decide +kernel
theorem dX6_added2_0 : decode cX6_added2 0 = .ok (.aload_n 0, 1) := by decide +kernel
theorem dX6_added2_1 : decode cX6_added2 1 = .ok (.invokevirtual 312, 3) := by decide +kernel
theorem dX6_added2_4 : decode cX6_added2 4 = .ok (.istore_n 1, 1) := by decide +kernel
theorem dX6_added2_5 : decode cX6_added2 5 = .ok (.aload_n 0, 1) := by decide +kernel
theorem dX6_added2_6 : decode cX6_added2 6 = .ok (.bipush 43, 2) := by decide +kernel
theorem dX6_added2_8 : decode cX6_added2 8 = .ok (.invokevirtual 240, 3) := by decide +kernel
theorem dX6_added2_11 : decode cX6_added2 11 = .ok (.ifCond .ne 12, 3) := by decide +kernel
theorem dX6_added2_14 : decode cX6_added2 14 = .ok (.aload_n 0, 1) := by decide +kernel
theorem dX6_added2_15 : decode cX6_added2 15 = .ok (.bipush 45, 2) := by decide +kernel
theorem dX6_added2_17 : decode cX6_added2 17 = .ok (.invokevirtual 240, 3) := by decide +kernel
theorem dX6_added2_20 : decode cX6_added2 20 = .ok (.ifCond .eq 46, 3) := by decide +kernel
theorem dX6_added2_23 : decode cX6_added2 23 = .ok (.aload_n 0, 1) := by decide +kernel
theorem dX6_added2_24 : decode cX6_added2 24 = .ok (.getfield 194, 3) := by decide +kernel
theorem dX6_added2_27 : decode cX6_added2 27 = .ok (.ldc2_w 257, 3) := by decide +kernel
theorem dX6_added2_30 : decode cX6_added2 30 = .ok (.lcmp, 1) := by decide +kernel
theorem dX6_added2_31 : decode cX6_added2 31 = .ok (.ifCond .ne 7, 3) := by decide +kernel
theorem dX6_added2_34 : decode cX6_added2 34 = .ok (.iconst 1, 1) := by decide +kernel
theorem dX6_added2_35 : decode cX6_added2 35 = .ok (.goto 4, 3) := by decide +kernel
theorem dX6_added2_38 : decode cX6_added2 38 = .ok (.iconst 0, 1) := by decide +kernel
theorem dX6_added2_39 : decode cX6_added2 39 = .ok (.istore_n 2, 1) := by decide +kernel
theorem dX6_added2_40 : decode cX6_added2 40 = .ok (.aload_n 0, 1) := by decide +kernel
theorem dX6_added2_41 : decode cX6_added2 41 = .ok (.invokevirtual 215, 3) := by decide +kernel
theorem dX6_added2_44 : decode cX6_added2 44 = .ok (.aload_n 0, 1) := by decide +kernel
theorem dX6_added2_45 : decode cX6_added2 45 = .ok (.invokevirtual 312, 3) := by decide +kernel
theorem dX6_added2_48 : decode cX6_added2 48 = .ok (.istore_n 3, 1) := by decide +kernel
theorem dX6_added2_49 : decode cX6_added2 49 = .ok (.iload_n 2, 1) := by decide +kernel
theorem dX6_added2_50 : decode cX6_added2 50 = .ok (.ifCond .eq 9, 3) := by decide +kernel
theorem dX6_added2_53 : decode cX6_added2 53 = .ok (.iload_n 1, 1) := by decide +kernel
theorem dX6_added2_54 : decode cX6_added2 54 = .ok (.iload_n 3, 1) := by decide +kernel
theorem dX6_added2_55 : decode cX6_added2 55 = .ok (.iadd, 1) := by decide +kernel
theorem dX6_added2_56 : decode cX6_added2 56 = .ok (.goto 6, 3) := by decide +kernel
theorem dX6_added2_59 : decode cX6_added2 59 = .ok (.iload_n 1, 1) := by decide +kernel
theorem dX6_added2_60 : decode cX6_added2 60 = .ok (.iload_n 3, 1) := by decide +kernel
theorem dX6_added2_61 : decode cX6_added2 61 = .ok (.isub, 1) := by decide +kernel
theorem dX6_added2_62 : decode cX6_added2 62 = .ok (.istore_n 1, 1) := by decide +kernel
theorem dX6_added2_63 : decode cX6_added2 63 = .ok (.goto (-58), 3) := by decide +kernel
theorem dX6_added2_66 : decode cX6_added2 66 = .ok (.iload_n 1, 1) := by decide +kernel
theorem dX6_added2_67 : decode cX6_added2 67 = .ok (.ireturn, 1) := by decide +kernel
theorem dX6_not2_0 : decode cX6_not2 0 = .ok (.aload_n 0, 1) := by decide +kernel
theorem dX6_not2_1 : decode cX6_not2 1 = .ok (.bipush 110, 2) := by decide +kernel
theorem dX6_not2_3 : decode cX6_not2 3 = .ok (.bipush 111, 2) := by decide +kernel
theorem dX6_not2_5 : decode cX6_not2 5 = .ok (.bipush 116, 2) := by decide +kernel
theorem dX6_not2_7 : decode cX6_not2 7 = .ok (.iconst 0, 1) := by decide +kernel
theorem dX6_not2_8 : decode cX6_not2 8 = .ok (.iconst 0, 1) := by decide +kernel
theorem dX6_not2_9 : decode cX6_not2 9 = .ok (.iconst 0, 1) := by decide +kernel
theorem dX6_not2_10 : decode cX6_not2 10 = .ok (.iconst 0, 1) := by decide +kernel
theorem dX6_not2_11 : decode cX6_not2 11 = .ok (.iconst 0, 1) := by decide +kernel
theorem dX6_not2_12 : decode cX6_not2 12 = .ok (.invokevirtual 218, 3) := by decide +kernel
theorem dX6_not2_15 : decode cX6_not2 15 = .ok (.ifCond .eq 37, 3) := by decide +kernel
theorem dX6_not2_18 : decode cX6_not2 18 = .ok (.aload_n 0, 1) := by decide +kernel
theorem dX6_not2_19 : decode cX6_not2 19 = .ok (.invokevirtual 243, 3) := by decide +kernel
theorem dX6_not2_22 : decode cX6_not2 22 = .ok (.ifCond .ne 5, 3) := by decide +kernel
theorem dX6_not2_25 : decode cX6_not2 25 = .ok (.iconst 0, 1) := by decide +kernel
theorem dX6_not2_26 : decode cX6_not2 26 = .ok (.ireturn, 1) := by decide +kernel
theorem dX6_not2_27 : decode cX6_not2 27 = .ok (.aload_n 0, 1) := by decide +kernel
theorem dX6_not2_28 : decode cX6_not2 28 = .ok (.invokevirtual 300, 3) := by decide +kernel
theorem dX6_not2_31 : decode cX6_not2 31 = .ok (.istore_n 1, 1) := by decide +kernel
theorem dX6_not2_32 : decode cX6_not2 32 = .ok (.aload_n 0, 1) := by decide +kernel
theorem dX6_not2_33 : decode cX6_not2 33 = .ok (.dup, 1) := by decide +kernel
theorem dX6_not2_34 : decode cX6_not2 34 = .ok (.getfield 209, 3) := by decide +kernel
theorem dX6_not2_37 : decode cX6_not2 37 = .ok (.iconst 1, 1) := by decide +kernel
theorem dX6_not2_38 : decode cX6_not2 38 = .ok (.isub, 1) := by decide +kernel
theorem dX6_not2_39 : decode cX6_not2 39 = .ok (.putfield 209, 3) := by decide +kernel
theorem dX6_not2_42 : decode cX6_not2 42 = .ok (.iload_n 1, 1) := by decide +kernel
theorem dX6_not2_43 : decode cX6_not2 43 = .ok (.ifCond .ne 7, 3) := by decide +kernel
theorem dX6_not2_46 : decode cX6_not2 46 = .ok (.iconst 1, 1) := by decide +kernel
theorem dX6_not2_47 : decode cX6_not2 47 = .ok (.goto 4, 3) := by decide +kernel
theorem dX6_not2_50 : decode cX6_not2 50 = .ok (.iconst 0, 1) := by decide +kernel
theorem dX6_not2_51 : decode cX6_not2 51 = .ok (.ireturn, 1) := by decide +kernel
theorem dX6_not2_52 : decode cX6_not2 52 = .ok (.aload_n 0, 1) := by decide +kernel
theorem dX6_not2_53 : decode cX6_not2 53 = .ok (.invokevirtual 315, 3) := by decide +kernel
theorem dX6_not2_56 : decode cX6_not2 56 = .ok (.istore_n 1, 1) := by decide +kernel
theorem dX6_not2_57 : decode cX6_not2 57 = .ok (.aload_n 0, 1) := by decide +kernel
theorem dX6_not2_58 : decode cX6_not2 58 = .ok (.bipush 60, 2) := by decide +kernel
theorem dX6_not2_60 : decode cX6_not2 60 = .ok (.invokevirtual 240, 3) := by decide +kernel
theorem dX6_not2_63 : decode cX6_not2 63 = .ok (.ifCond .ne 14, 3) := by decide +kernel
theorem dX6_not2_66 : decode cX6_not2 66 = .ok (.aload_n 0, 1) := by decide +kernel
theorem dX6_not2_67 : decode cX6_not2 67 = .ok (.bipush 61, 2) := by decide +kernel
theorem dX6_not2_69 : decode cX6_not2 69 = .ok (.invokevirtual 240, 3) := by decide +kernel
theorem dX6_not2_72 : decode cX6_not2 72 = .ok (.ifCond .ne 5, 3) := by decide +kernel
theorem dX6_not2_75 : decode cX6_not2 75 = .ok (.iload_n 1, 1) := by decide +kernel
theorem dX6_not2_76 : decode cX6_not2 76 = .ok (.ireturn, 1) := by decide +kernel
theorem dX6_not2_77 : decode cX6_not2 77 = .ok (.aload_n 0, 1) := by decide +kernel
theorem dX6_not2_78 : decode cX6_not2 78 = .ok (.getfield 194, 3) := by decide +kernel
theorem dX6_not2_81 : decode cX6_not2 81 = .ok (.ldc2_w 262, 3) := by decide +kernel
theorem dX6_not2_84 : decode cX6_not2 84 = .ok (.lcmp, 1) := by decide +kernel
theorem dX6_not2_85 : decode cX6_not2 85 = .ok (.ifCond .ne 7, 3) := by decide +kernel
theorem dX6_not2_88 : decode cX6_not2 88 = .ok (.iconst 1, 1) := by decide +kernel
theorem dX6_not2_89 : decode cX6_not2 89 = .ok (.goto 4, 3) := by decide +kernel
theorem dX6_not2_92 : decode cX6_not2 92 = .ok (.iconst 0, 1) := by decide +kernel
theorem dX6_not2_93 : decode cX6_not2 93 = .ok (.istore_n 2, 1) := by decide +kernel
theorem dX6_not2_94 : decode cX6_not2 94 = .ok (.aload_n 0, 1) := by decide +kernel
theorem dX6_not2_95 : decode cX6_not2 95 = .ok (.invokevirtual 215, 3) := by decide +kernel
theorem dX6_not2_98 : decode cX6_not2 98 = .ok (.aload_n 0, 1) := by decide +kernel
theorem dX6_not2_99 : decode cX6_not2 99 = .ok (.invokevirtual 315, 3) := by decide +kernel
theorem dX6_not2_102 : decode cX6_not2 102 = .ok (.istore_n 3, 1) := by decide +kernel
theorem dX6_not2_103 : decode cX6_not2 103 = .ok (.iload_n 2, 1) := by decide +kernel
theorem dX6_not2_104 : decode cX6_not2 104 = .ok (.ifCond .eq 11, 3) := by decide +kernel
theorem dX6_not2_107 : decode cX6_not2 107 = .ok (.iload_n 1, 1) := by decide +kernel
theorem dX6_not2_108 : decode cX6_not2 108 = .ok (.iload_n 3, 1) := by decide +kernel
theorem dX6_not2_109 : decode cX6_not2 109 = .ok (.if_icmp .ge 15, 3) := by decide +kernel
theorem dX6_not2_112 : decode cX6_not2 112 = .ok (.goto 8, 3) := by decide +kernel
theorem dX6_not2_115 : decode cX6_not2 115 = .ok (.iload_n 1, 1) := by decide +kernel
theorem dX6_not2_116 : decode cX6_not2 116 = .ok (.iload_n 3, 1) := by decide +kernel
theorem dX6_not2_117 : decode cX6_not2 117 = .ok (.if_icmp .ne 7, 3) := by decide +kernel
theorem dX6_not2_120 : decode cX6_not2 120 = .ok (.iconst 1, 1) := by decide +kernel
theorem dX6_not2_121 : decode cX6_not2 121 = .ok (.goto 4, 3) := by decide +kernel
theorem dX6_not2_124 : decode cX6_not2 124 = .ok (.iconst 0, 1) := by decide +kernel
theorem dX6_not2_125 : decode cX6_not2 125 = .ok (.ireturn, 1) := by decide +kernel
theorem dX6_both2_0 : decode cX6_both2 0 = .ok (.aload_n 0, 1) := by decide +kernel
theorem dX6_both2_1 : decode cX6_both2 1 = .ok (.invokevirtual 318, 3) := by decide +kernel
theorem dX6_both2_4 : decode cX6_both2 4 = .ok (.istore_n 1, 1) := by decide +kernel
theorem dX6_both2_5 : decode cX6_both2 5 = .ok (.aload_n 0, 1) := by decide +kernel
theorem dX6_both2_6 : decode cX6_both2 6 = .ok (.bipush 97, 2) := by decide +kernel
theorem dX6_both2_8 : decode cX6_both2 8 = .ok (.bipush 110, 2) := by decide +kernel
theorem dX6_both2_10 : decode cX6_both2 10 = .ok (.bipush 100, 2) := by decide +kernel
theorem dX6_both2_12 : decode cX6_both2 12 = .ok (.iconst 0, 1) := by decide +kernel
theorem dX6_both2_13 : decode cX6_both2 13 = .ok (.iconst 0, 1) := by decide +kernel
theorem dX6_both2_14 : decode cX6_both2 14 = .ok (.iconst 0, 1) := by decide +kernel
theorem dX6_both2_15 : decode cX6_both2 15 = .ok (.iconst 0, 1) := by decide +kernel
theorem dX6_both2_16 : decode cX6_both2 16 = .ok (.iconst 0, 1) := by decide +kernel
theorem dX6_both2_17 : decode cX6_both2 17 = .ok (.invokevirtual 218, 3) := by decide +kernel
theorem dX6_both2_20 : decode cX6_both2 20 = .ok (.ifCond .eq 29, 3) := by decide +kernel
theorem dX6_both2_23 : decode cX6_both2 23 = .ok (.aload_n 0, 1) := by decide +kernel
theorem dX6_both2_24 : decode cX6_both2 24 = .ok (.invokevirtual 215, 3) := by decide +kernel
theorem dX6_both2_27 : decode cX6_both2 27 = .ok (.aload_n 0, 1) := by decide +kernel
theorem dX6_both2_28 : decode cX6_both2 28 = .ok (.invokevirtual 318, 3) := by decide +kernel
theorem dX6_both2_31 : decode cX6_both2 31 = .ok (.istore_n 2, 1) := by decide +kernel
theorem dX6_both2_32 : decode cX6_both2 32 = .ok (.iload_n 1, 1) := by decide +kernel
theorem dX6_both2_33 : decode cX6_both2 33 = .ok (.ifCond .eq 11, 3) := by decide +kernel
theorem dX6_both2_36 : decode cX6_both2 36 = .ok (.iload_n 2, 1) := by decide +kernel
theorem dX6_both2_37 : decode cX6_both2 37 = .ok (.ifCond .eq 7, 3) := by decide +kernel
theorem dX6_both2_40 : decode cX6_both2 40 = .ok (.iconst 1, 1) := by decide +kernel
theorem dX6_both2_41 : decode cX6_both2 41 = .ok (.goto 4, 3) := by decide +kernel
theorem dX6_both2_44 : decode cX6_both2 44 = .ok (.iconst 0, 1) := by decide +kernel
theorem dX6_both2_45 : decode cX6_both2 45 = .ok (.istore_n 1, 1) := by decide +kernel
theorem dX6_both2_46 : decode cX6_both2 46 = .ok (.goto (-41), 3) := by decide +kernel
theorem dX6_both2_49 : decode cX6_both2 49 = .ok (.iload_n 1, 1) := by decide +kernel
theorem dX6_both2_50 : decode cX6_both2 50 = .ok (.ireturn, 1) := by decide +kernel
theorem dX6_either2_0 : decode cX6_either2 0 = .ok (.aload_n 0, 1) := by decide +kernel
theorem dX6_either2_1 : decode cX6_either2 1 = .ok (.invokevirtual 321, 3) := by decide +kernel
theorem dX6_either2_4 : decode cX6_either2 4 = .ok (.istore_n 1, 1) := by decide +kernel
theorem dX6_either2_5 : decode cX6_either2 5 = .ok (.aload_n 0, 1) := by decide +kernel
theorem dX6_either2_6 : decode cX6_either2 6 = .ok (.bipush 111, 2) := by decide +kernel
theorem dX6_either2_8 : decode cX6_either2 8 = .ok (.bipush 114, 2) := by decide +kernel
theorem dX6_either2_10 : decode cX6_either2 10 = .ok (.iconst 0, 1) := by decide +kernel
theorem dX6_either2_11 : decode cX6_either2 11 = .ok (.iconst 0, 1) := by decide +kernel
theorem dX6_either2_12 : decode cX6_either2 12 = .ok (.iconst 0, 1) := by decide +kernel
theorem dX6_either2_13 : decode cX6_either2 13 = .ok (.iconst 0, 1) := by decide +kernel
theorem dX6_either2_14 : decode cX6_either2 14 = .ok (.iconst 0, 1) := by decide +kernel
theorem dX6_either2_15 : decode cX6_either2 15 = .ok (.iconst 0, 1) := by decide +kernel
theorem dX6_either2_16 : decode cX6_either2 16 = .ok (.invokevirtual 218, 3) := by decide +kernel
theorem dX6_either2_19 : decode cX6_either2 19 = .ok (.ifCond .eq 29, 3) := by decide +kernel
theorem dX6_either2_22 : decode cX6_either2 22 = .ok (.aload_n 0, 1) := by decide +kernel
theorem dX6_either2_23 : decode cX6_either2 23 = .ok (.invokevirtual 215, 3) := by decide +kernel
theorem dX6_either2_26 : decode cX6_either2 26 = .ok (.aload_n 0, 1) := by decide +kernel
theorem dX6_either2_27 : decode cX6_either2 27 = .ok (.invokevirtual 321, 3) := by decide +kernel
theorem dX6_either2_30 : decode cX6_either2 30 = .ok (.istore_n 2, 1) := by decide +kernel
theorem dX6_either2_31 : decode cX6_either2 31 = .ok (.iload_n 1, 1) := by decide +kernel
theorem dX6_either2_32 : decode cX6_either2 32 = .ok (.ifCond .ne 7, 3) := by decide +kernel
theorem dX6_either2_35 : decode cX6_either2 35 = .ok (.iload_n 2, 1) := by decide +kernel
theorem dX6_either2_36 : decode cX6_either2 36 = .ok (.ifCond .eq 7, 3) := by decide +kernel
theorem dX6_either2_39 : decode cX6_either2 39 = .ok (.iconst 1, 1) := by decide +kernel
theorem dX6_either2_40 : decode cX6_either2 40 = .ok (.goto 4, 3) := by decide +kernel
theorem dX6_either2_43 : decode cX6_either2 43 = .ok (.iconst 0, 1) := by decide +kernel
theorem dX6_either2_44 : decode cX6_either2 44 = .ok (.istore_n 1, 1) := by decide +kernel
theorem dX6_either2_45 : decode cX6_either2 45 = .ok (.goto (-40), 3) := by decide +kernel
theorem dX6_either2_48 : decode cX6_either2 48 = .ok (.iload_n 1, 1) := by decide +kernel
theorem dX6_either2_49 : decode cX6_either2 49 = .ok (.ireturn, 1) := by decide +kernel
theorem dX6_atom1_0 : decode cX6_atom1 0 = .ok (.iconst 0, 1) := by decide +kernel
theorem dX6_atom1_1 : decode cX6_atom1 1 = .ok (.istore_n 1, 1) := by decide +kernel
theorem dX6_atom1_2 : decode cX6_atom1 2 = .ok (.aload_n 0, 1) := by decide +kernel
theorem dX6_atom1_3 : decode cX6_atom1 3 = .ok (.bipush 45, 2) := by decide +kernel
theorem dX6_atom1_5 : decode cX6_atom1 5 = .ok (.invokevirtual 240, 3) := by decide +kernel
theorem dX6_atom1_8 : decode cX6_atom1 8 = .ok (.ifCond .eq 29, 3) := by decide +kernel
theorem dX6_atom1_11 : decode cX6_atom1 11 = .ok (.aload_n 0, 1) := by decide +kernel
theorem dX6_atom1_12 : decode cX6_atom1 12 = .ok (.invokevirtual 243, 3) := by decide +kernel
theorem dX6_atom1_15 : decode cX6_atom1 15 = .ok (.ifCond .eq 146, 3) := by decide +kernel
theorem dX6_atom1_18 : decode cX6_atom1 18 = .ok (.aload_n 0, 1) := by decide +kernel
theorem dX6_atom1_19 : decode cX6_atom1 19 = .ok (.invokevirtual 309, 3) := by decide +kernel
theorem dX6_atom1_22 : decode cX6_atom1 22 = .ok (.ineg, 1) := by decide +kernel
theorem dX6_atom1_23 : decode cX6_atom1 23 = .ok (.istore_n 1, 1) := by decide +kernel
theorem dX6_atom1_24 : decode cX6_atom1 24 = .ok (.aload_n 0, 1) := by decide +kernel
theorem dX6_atom1_25 : decode cX6_atom1 25 = .ok (.dup, 1) := by decide +kernel
theorem dX6_atom1_26 : decode cX6_atom1 26 = .ok (.getfield 209, 3) := by decide +kernel
theorem dX6_atom1_29 : decode cX6_atom1 29 = .ok (.iconst 1, 1) := by decide +kernel
theorem dX6_atom1_30 : decode cX6_atom1 30 = .ok (.isub, 1) := by decide +kernel
theorem dX6_atom1_31 : decode cX6_atom1 31 = .ok (.putfield 209, 3) := by decide +kernel
theorem dX6_atom1_34 : decode cX6_atom1 34 = .ok (.goto 127, 3) := by decide +kernel
theorem dX6_atom1_37 : decode cX6_atom1 37 = .ok (.aload_n 0, 1) := by decide +kernel
theorem dX6_atom1_38 : decode cX6_atom1 38 = .ok (.bipush 40, 2) := by decide +kernel
theorem dX6_atom1_40 : decode cX6_atom1 40 = .ok (.invokevirtual 240, 3) := by decide +kernel
theorem dX6_atom1_43 : decode cX6_atom1 43 = .ok (.ifCond .eq 52, 3) := by decide +kernel
theorem dX6_atom1_46 : decode cX6_atom1 46 = .ok (.aload_n 0, 1) := by decide +kernel
theorem dX6_atom1_47 : decode cX6_atom1 47 = .ok (.invokevirtual 243, 3) := by decide +kernel
theorem dX6_atom1_50 : decode cX6_atom1 50 = .ok (.ifCond .eq 111, 3) := by decide +kernel
theorem dX6_atom1_53 : decode cX6_atom1 53 = .ok (.aload_n 0, 1) := by decide +kernel
theorem dX6_atom1_54 : decode cX6_atom1 54 = .ok (.invokevirtual 324, 3) := by decide +kernel
theorem dX6_atom1_57 : decode cX6_atom1 57 = .ok (.istore_n 1, 1) := by decide +kernel
theorem dX6_atom1_58 : decode cX6_atom1 58 = .ok (.aload_n 0, 1) := by decide +kernel
theorem dX6_atom1_59 : decode cX6_atom1 59 = .ok (.bipush 41, 2) := by decide +kernel
theorem dX6_atom1_61 : decode cX6_atom1 61 = .ok (.invokevirtual 240, 3) := by decide +kernel
theorem dX6_atom1_64 : decode cX6_atom1 64 = .ok (.ifCond .ne 7, 3) := by decide +kernel
theorem dX6_atom1_67 : decode cX6_atom1 67 = .ok (.aload_n 0, 1) := by decide +kernel
theorem dX6_atom1_68 : decode cX6_atom1 68 = .ok (.invokevirtual 212, 3) := by decide +kernel
theorem dX6_atom1_71 : decode cX6_atom1 71 = .ok (.aload_n 0, 1) := by decide +kernel
theorem dX6_atom1_72 : decode cX6_atom1 72 = .ok (.dup, 1) := by decide +kernel
theorem dX6_atom1_73 : decode cX6_atom1 73 = .ok (.getfield 209, 3) := by decide +kernel
theorem dX6_atom1_76 : decode cX6_atom1 76 = .ok (.iconst 1, 1) := by decide +kernel
theorem dX6_atom1_77 : decode cX6_atom1 77 = .ok (.isub, 1) := by decide +kernel
theorem dX6_atom1_78 : decode cX6_atom1 78 = .ok (.putfield 209, 3) := by decide +kernel
theorem dX6_atom1_81 : decode cX6_atom1 81 = .ok (.aload_n 0, 1) := by decide +kernel
theorem dX6_atom1_82 : decode cX6_atom1 82 = .ok (.getfield 198, 3) := by decide +kernel
theorem dX6_atom1_85 : decode cX6_atom1 85 = .ok (.ifCond .ne 76, 3) := by decide +kernel
theorem dX6_atom1_88 : decode cX6_atom1 88 = .ok (.aload_n 0, 1) := by decide +kernel
theorem dX6_atom1_89 : decode cX6_atom1 89 = .ok (.invokevirtual 215, 3) := by decide +kernel
theorem dX6_atom1_92 : decode cX6_atom1 92 = .ok (.goto 69, 3) := by decide +kernel
theorem dX6_atom1_95 : decode cX6_atom1 95 = .ok (.aload_n 0, 1) := by decide +kernel
theorem dX6_atom1_96 : decode cX6_atom1 96 = .ok (.getfield 198, 3) := by decide +kernel
theorem dX6_atom1_99 : decode cX6_atom1 99 = .ok (.ifCond .ne 24, 3) := by decide +kernel
theorem dX6_atom1_102 : decode cX6_atom1 102 = .ok (.aload_n 0, 1) := by decide +kernel
theorem dX6_atom1_103 : decode cX6_atom1 103 = .ok (.getfield 183, 3) := by decide +kernel
theorem dX6_atom1_106 : decode cX6_atom1 106 = .ok (.iconst 2, 1) := by decide +kernel
theorem dX6_atom1_107 : decode cX6_atom1 107 = .ok (.if_icmp .ne 16, 3) := by decide +kernel
theorem dX6_atom1_110 : decode cX6_atom1 110 = .ok (.aload_n 0, 1) := by decide +kernel
theorem dX6_atom1_111 : decode cX6_atom1 111 = .ok (.getfield 194, 3) := by decide +kernel
theorem dX6_atom1_114 : decode cX6_atom1 114 = .ok (.l2i, 1) := by decide +kernel
theorem dX6_atom1_115 : decode cX6_atom1 115 = .ok (.istore_n 1, 1) := by decide +kernel
theorem dX6_atom1_116 : decode cX6_atom1 116 = .ok (.aload_n 0, 1) := by decide +kernel
theorem dX6_atom1_117 : decode cX6_atom1 117 = .ok (.invokevirtual 215, 3) := by decide +kernel
theorem dX6_atom1_120 : decode cX6_atom1 120 = .ok (.goto 41, 3) := by decide +kernel
theorem dX6_atom1_123 : decode cX6_atom1 123 = .ok (.aload_n 0, 1) := by decide +kernel
theorem dX6_atom1_124 : decode cX6_atom1 124 = .ok (.getfield 198, 3) := by decide +kernel
theorem dX6_atom1_127 : decode cX6_atom1 127 = .ok (.ifCond .ne 30, 3) := by decide +kernel
theorem dX6_atom1_130 : decode cX6_atom1 130 = .ok (.aload_n 0, 1) := by decide +kernel
theorem dX6_atom1_131 : decode cX6_atom1 131 = .ok (.getfield 183, 3) := by decide +kernel
theorem dX6_atom1_134 : decode cX6_atom1 134 = .ok (.iconst 1, 1) := by decide +kernel
theorem dX6_atom1_135 : decode cX6_atom1 135 = .ok (.if_icmp .ne 22, 3) := by decide +kernel
theorem dX6_atom1_138 : decode cX6_atom1 138 = .ok (.aload_n 0, 1) := by decide +kernel
theorem dX6_atom1_139 : decode cX6_atom1 139 = .ok (.invokevirtual 247, 3) := by decide +kernel
theorem dX6_atom1_142 : decode cX6_atom1 142 = .ok (.istore_n 1, 1) := by decide +kernel
theorem dX6_atom1_143 : decode cX6_atom1 143 = .ok (.aload_n 0, 1) := by decide +kernel
theorem dX6_atom1_144 : decode cX6_atom1 144 = .ok (.getfield 198, 3) := by decide +kernel
theorem dX6_atom1_147 : decode cX6_atom1 147 = .ok (.ifCond .ne 14, 3) := by decide +kernel
theorem dX6_atom1_150 : decode cX6_atom1 150 = .ok (.aload_n 0, 1) := by decide +kernel
theorem dX6_atom1_151 : decode cX6_atom1 151 = .ok (.invokevirtual 215, 3) := by decide +kernel
theorem dX6_atom1_154 : decode cX6_atom1 154 = .ok (.goto 7, 3) := by decide +kernel
theorem dX6_atom1_157 : decode cX6_atom1 157 = .ok (.aload_n 0, 1) := by decide +kernel
theorem dX6_atom1_158 : decode cX6_atom1 158 = .ok (.invokevirtual 212, 3) := by decide +kernel
theorem dX6_atom1_161 : decode cX6_atom1 161 = .ok (.iload_n 1, 1) := by decide +kernel
theorem dX6_atom1_162 : decode cX6_atom1 162 = .ok (.ireturn, 1) := by decide +kernel
theorem dX6_term1_0 : decode cX6_term1 0 = .ok (.aload_n 0, 1) := by decide +kernel
theorem dX6_term1_1 : decode cX6_term1 1 = .ok (.invokevirtual 327, 3) := by decide +kernel
theorem dX6_term1_4 : decode cX6_term1 4 = .ok (.istore_n 1, 1) := by decide +kernel
theorem dX6_term1_5 : decode cX6_term1 5 = .ok (.aload_n 0, 1) := by decide +kernel
theorem dX6_term1_6 : decode cX6_term1 6 = .ok (.bipush 42, 2) := by decide +kernel
theorem dX6_term1_8 : decode cX6_term1 8 = .ok (.invokevirtual 240, 3) := by decide +kernel
theorem dX6_term1_11 : decode cX6_term1 11 = .ok (.ifCond .eq 17, 3) := by decide +kernel
theorem dX6_term1_14 : decode cX6_term1 14 = .ok (.aload_n 0, 1) := by decide +kernel
theorem dX6_term1_15 : decode cX6_term1 15 = .ok (.invokevirtual 215, 3) := by decide +kernel
theorem dX6_term1_18 : decode cX6_term1 18 = .ok (.iload_n 1, 1) := by decide +kernel
theorem dX6_term1_19 : decode cX6_term1 19 = .ok (.aload_n 0, 1) := by decide +kernel
theorem dX6_term1_20 : decode cX6_term1 20 = .ok (.invokevirtual 327, 3) := by decide +kernel
theorem dX6_term1_23 : decode cX6_term1 23 = .ok (.imul, 1) := by decide +kernel
theorem dX6_term1_24 : decode cX6_term1 24 = .ok (.istore_n 1, 1) := by decide +kernel
theorem dX6_term1_25 : decode cX6_term1 25 = .ok (.goto (-20), 3) := by decide +kernel
theorem dX6_term1_28 : decode cX6_term1 28 = .ok (.iload_n 1, 1) := by decide +kernel
theorem dX6_term1_29 : decode cX6_term1 29 = .ok (.ireturn, 1) := by decide +kernel
theorem dX6_added1_0 : decode cX6_added1 0 = .ok (.aload_n 0, 1) := by decide +kernel
theorem dX6_added1_1 : decode cX6_added1 1 = .ok (.invokevirtual 330, 3) := by decide +kernel
theorem dX6_added1_4 : decode cX6_added1 4 = .ok (.istore_n 1, 1) := by decide +kernel
theorem dX6_added1_5 : decode cX6_added1 5 = .ok (.aload_n 0, 1) := by decide +kernel
theorem dX6_added1_6 : decode cX6_added1 6 = .ok (.bipush 43, 2) := by decide +kernel
theorem dX6_added1_8 : decode cX6_added1 8 = .ok (.invokevirtual 240, 3) := by decide +kernel
theorem dX6_added1_11 : decode cX6_added1 11 = .ok (.ifCond .ne 12, 3) := by decide +kernel
theorem dX6_added1_14 : decode cX6_added1 14 = .ok (.aload_n 0, 1) := by decide +kernel
theorem dX6_added1_15 : decode cX6_added1 15 = .ok (.bipush 45, 2) := by decide +kernel
theorem dX6_added1_17 : decode cX6_added1 17 = .ok (.invokevirtual 240, 3) := by decide +kernel
theorem dX6_added1_20 : decode cX6_added1 20 = .ok (.ifCond .eq 46, 3) := by decide +kernel
theorem dX6_added1_23 : decode cX6_added1 23 = .ok (.aload_n 0, 1) := by decide +kernel
theorem dX6_added1_24 : decode cX6_added1 24 = .ok (.getfield 194, 3) := by decide +kernel
theorem dX6_added1_27 : decode cX6_added1 27 = .ok (.ldc2_w 257, 3) := by decide +kernel
theorem dX6_added1_30 : decode cX6_added1 30 = .ok (.lcmp, 1) := by decide +kernel
theorem dX6_added1_31 : decode cX6_added1 31 = .ok (.ifCond .ne 7, 3) := by decide +kernel
theorem dX6_added1_34 : decode cX6_added1 34 = .ok (.iconst 1, 1) := by decide +kernel
theorem dX6_added1_35 : decode cX6_added1 35 = .ok (.goto 4, 3) := by decide +kernel
theorem dX6_added1_38 : decode cX6_added1 38 = .ok (.iconst 0, 1) := by decide +kernel
theorem dX6_added1_39 : decode cX6_added1 39 = .ok (.istore_n 2, 1) := by decide +kernel
theorem dX6_added1_40 : decode cX6_added1 40 = .ok (.aload_n 0, 1) := by decide +kernel
theorem dX6_added1_41 : decode cX6_added1 41 = .ok (.invokevirtual 215, 3) := by decide +kernel
theorem dX6_added1_44 : decode cX6_added1 44 = .ok (.aload_n 0, 1) := by decide +kernel
theorem dX6_added1_45 : decode cX6_added1 45 = .ok (.invokevirtual 330, 3) := by decide +kernel
theorem dX6_added1_48 : decode cX6_added1 48 = .ok (.istore_n 3, 1) := by decide +kernel
theorem dX6_added1_49 : decode cX6_added1 49 = .ok (.iload_n 2, 1) := by decide +kernel
theorem dX6_added1_50 : decode cX6_added1 50 = .ok (.ifCond .eq 9, 3) := by decide +kernel
theorem dX6_added1_53 : decode cX6_added1 53 = .ok (.iload_n 1, 1) := by decide +kernel
theorem dX6_added1_54 : decode cX6_added1 54 = .ok (.iload_n 3, 1) := by decide +kernel
theorem dX6_added1_55 : decode cX6_added1 55 = .ok (.iadd, 1) := by decide +kernel
theorem dX6_added1_56 : decode cX6_added1 56 = .ok (.goto 6, 3) := by decide +kernel
theorem dX6_added1_59 : decode cX6_added1 59 = .ok (.iload_n 1, 1) := by decide +kernel
theorem dX6_added1_60 : decode cX6_added1 60 = .ok (.iload_n 3, 1) := by decide +kernel
theorem dX6_added1_61 : decode cX6_added1 61 = .ok (.isub, 1) := by decide +kernel
theorem dX6_added1_62 : decode cX6_added1 62 = .ok (.istore_n 1, 1) := by decide +kernel
theorem dX6_added1_63 : decode cX6_added1 63 = .ok (.goto (-58), 3) := by decide +kernel
theorem dX6_added1_66 : decode cX6_added1 66 = .ok (.iload_n 1, 1) := by decide +kernel
theorem dX6_added1_67 : decode cX6_added1 67 = .ok (.ireturn, 1) := by decide +kernel
theorem dX6_not1_0 : decode cX6_not1 0 = .ok (.aload_n 0, 1) := by decide +kernel
theorem dX6_not1_1 : decode cX6_not1 1 = .ok (.bipush 110, 2) := by decide +kernel
theorem dX6_not1_3 : decode cX6_not1 3 = .ok (.bipush 111, 2) := by decide +kernel
theorem dX6_not1_5 : decode cX6_not1 5 = .ok (.bipush 116, 2) := by decide +kernel
theorem dX6_not1_7 : decode cX6_not1 7 = .ok (.iconst 0, 1) := by decide +kernel
theorem dX6_not1_8 : decode cX6_not1 8 = .ok (.iconst 0, 1) := by decide +kernel
theorem dX6_not1_9 : decode cX6_not1 9 = .ok (.iconst 0, 1) := by decide +kernel
theorem dX6_not1_10 : decode cX6_not1 10 = .ok (.iconst 0, 1) := by decide +kernel
theorem dX6_not1_11 : decode cX6_not1 11 = .ok (.iconst 0, 1) := by decide +kernel
theorem dX6_not1_12 : decode cX6_not1 12 = .ok (.invokevirtual 218, 3) := by decide +kernel
theorem dX6_not1_15 : decode cX6_not1 15 = .ok (.ifCond .eq 37, 3) := by decide +kernel
theorem dX6_not1_18 : decode cX6_not1 18 = .ok (.aload_n 0, 1) := by decide +kernel
theorem dX6_not1_19 : decode cX6_not1 19 = .ok (.invokevirtual 243, 3) := by decide +kernel
theorem dX6_not1_22 : decode cX6_not1 22 = .ok (.ifCond .ne 5, 3) := by decide +kernel
theorem dX6_not1_25 : decode cX6_not1 25 = .ok (.iconst 0, 1) := by decide +kernel
theorem dX6_not1_26 : decode cX6_not1 26 = .ok (.ireturn, 1) := by decide +kernel
theorem dX6_not1_27 : decode cX6_not1 27 = .ok (.aload_n 0, 1) := by decide +kernel
theorem dX6_not1_28 : decode cX6_not1 28 = .ok (.invokevirtual 318, 3) := by decide +kernel
theorem dX6_not1_31 : decode cX6_not1 31 = .ok (.istore_n 1, 1) := by decide +kernel
theorem dX6_not1_32 : decode cX6_not1 32 = .ok (.aload_n 0, 1) := by decide +kernel
theorem dX6_not1_33 : decode cX6_not1 33 = .ok (.dup, 1) := by decide +kernel
theorem dX6_not1_34 : decode cX6_not1 34 = .ok (.getfield 209, 3) := by decide +kernel
theorem dX6_not1_37 : decode cX6_not1 37 = .ok (.iconst 1, 1) := by decide +kernel
theorem dX6_not1_38 : decode cX6_not1 38 = .ok (.isub, 1) := by decide +kernel
theorem dX6_not1_39 : decode cX6_not1 39 = .ok (.putfield 209, 3) := by decide +kernel
theorem dX6_not1_42 : decode cX6_not1 42 = .ok (.iload_n 1, 1) := by decide +kernel
theorem dX6_not1_43 : decode cX6_not1 43 = .ok (.ifCond .ne 7, 3) := by decide +kernel
theorem dX6_not1_46 : decode cX6_not1 46 = .ok (.iconst 1, 1) := by decide +kernel
theorem dX6_not1_47 : decode cX6_not1 47 = .ok (.goto 4, 3) := by decide +kernel
theorem dX6_not1_50 : decode cX6_not1 50 = .ok (.iconst 0, 1) := by decide +kernel
theorem dX6_not1_51 : decode cX6_not1 51 = .ok (.ireturn, 1) := by decide +kernel
theorem dX6_not1_52 : decode cX6_not1 52 = .ok (.aload_n 0, 1) := by decide +kernel
theorem dX6_not1_53 : decode cX6_not1 53 = .ok (.invokevirtual 333, 3) := by decide +kernel
theorem dX6_not1_56 : decode cX6_not1 56 = .ok (.istore_n 1, 1) := by decide +kernel
theorem dX6_not1_57 : decode cX6_not1 57 = .ok (.aload_n 0, 1) := by decide +kernel
theorem dX6_not1_58 : decode cX6_not1 58 = .ok (.bipush 60, 2) := by decide +kernel
theorem dX6_not1_60 : decode cX6_not1 60 = .ok (.invokevirtual 240, 3) := by decide +kernel
theorem dX6_not1_63 : decode cX6_not1 63 = .ok (.ifCond .ne 14, 3) := by decide +kernel
theorem dX6_not1_66 : decode cX6_not1 66 = .ok (.aload_n 0, 1) := by decide +kernel
theorem dX6_not1_67 : decode cX6_not1 67 = .ok (.bipush 61, 2) := by decide +kernel
theorem dX6_not1_69 : decode cX6_not1 69 = .ok (.invokevirtual 240, 3) := by decide +kernel
theorem dX6_not1_72 : decode cX6_not1 72 = .ok (.ifCond .ne 5, 3) := by decide +kernel
theorem dX6_not1_75 : decode cX6_not1 75 = .ok (.iload_n 1, 1) := by decide +kernel
theorem dX6_not1_76 : decode cX6_not1 76 = .ok (.ireturn, 1) := by decide +kernel
theorem dX6_not1_77 : decode cX6_not1 77 = .ok (.aload_n 0, 1) := by decide +kernel
theorem dX6_not1_78 : decode cX6_not1 78 = .ok (.getfield 194, 3) := by decide +kernel
theorem dX6_not1_81 : decode cX6_not1 81 = .ok (.ldc2_w 262, 3) := by decide +kernel
theorem dX6_not1_84 : decode cX6_not1 84 = .ok (.lcmp, 1) := by decide +kernel
theorem dX6_not1_85 : decode cX6_not1 85 = .ok (.ifCond .ne 7, 3) := by decide +kernel
theorem dX6_not1_88 : decode cX6_not1 88 = .ok (.iconst 1, 1) := by decide +kernel
theorem dX6_not1_89 : decode cX6_not1 89 = .ok (.goto 4, 3) := by decide +kernel
theorem dX6_not1_92 : decode cX6_not1 92 = .ok (.iconst 0, 1) := by decide +kernel
theorem dX6_not1_93 : decode cX6_not1 93 = .ok (.istore_n 2, 1) := by decide +kernel
theorem dX6_not1_94 : decode cX6_not1 94 = .ok (.aload_n 0, 1) := by decide +kernel
theorem dX6_not1_95 : decode cX6_not1 95 = .ok (.invokevirtual 215, 3) := by decide +kernel
theorem dX6_not1_98 : decode cX6_not1 98 = .ok (.aload_n 0, 1) := by decide +kernel
theorem dX6_not1_99 : decode cX6_not1 99 = .ok (.invokevirtual 333, 3) := by decide +kernel
theorem dX6_not1_102 : decode cX6_not1 102 = .ok (.istore_n 3, 1) := by decide +kernel
theorem dX6_not1_103 : decode cX6_not1 103 = .ok (.iload_n 2, 1) := by decide +kernel
theorem dX6_not1_104 : decode cX6_not1 104 = .ok (.ifCond .eq 11, 3) := by decide +kernel
theorem dX6_not1_107 : decode cX6_not1 107 = .ok (.iload_n 1, 1) := by decide +kernel
theorem dX6_not1_108 : decode cX6_not1 108 = .ok (.iload_n 3, 1) := by decide +kernel
theorem dX6_not1_109 : decode cX6_not1 109 = .ok (.if_icmp .ge 15, 3) := by decide +kernel
theorem dX6_not1_112 : decode cX6_not1 112 = .ok (.goto 8, 3) := by decide +kernel
theorem dX6_not1_115 : decode cX6_not1 115 = .ok (.iload_n 1, 1) := by decide +kernel
theorem dX6_not1_116 : decode cX6_not1 116 = .ok (.iload_n 3, 1) := by decide +kernel
theorem dX6_not1_117 : decode cX6_not1 117 = .ok (.if_icmp .ne 7, 3) := by decide +kernel
theorem dX6_not1_120 : decode cX6_not1 120 = .ok (.iconst 1, 1) := by decide +kernel
theorem dX6_not1_121 : decode cX6_not1 121 = .ok (.goto 4, 3) := by decide +kernel
theorem dX6_not1_124 : decode cX6_not1 124 = .ok (.iconst 0, 1) := by decide +kernel
theorem dX6_not1_125 : decode cX6_not1 125 = .ok (.ireturn, 1) := by decide +kernel
theorem dX6_both1_0 : decode cX6_both1 0 = .ok (.aload_n 0, 1) := by decide +kernel
theorem dX6_both1_1 : decode cX6_both1 1 = .ok (.invokevirtual 336, 3) := by decide +kernel
theorem dX6_both1_4 : decode cX6_both1 4 = .ok (.istore_n 1, 1) := by decide +kernel
theorem dX6_both1_5 : decode cX6_both1 5 = .ok (.aload_n 0, 1) := by decide +kernel
theorem dX6_both1_6 : decode cX6_both1 6 = .ok (.bipush 97, 2) := by decide +kernel
theorem dX6_both1_8 : decode cX6_both1 8 = .ok (.bipush 110, 2) := by decide +kernel
theorem dX6_both1_10 : decode cX6_both1 10 = .ok (.bipush 100, 2) := by decide +kernel
theorem dX6_both1_12 : decode cX6_both1 12 = .ok (.iconst 0, 1) := by decide +kernel
theorem dX6_both1_13 : decode cX6_both1 13 = .ok (.iconst 0, 1) := by decide +kernel
theorem dX6_both1_14 : decode cX6_both1 14 = .ok (.iconst 0, 1) := by decide +kernel
theorem dX6_both1_15 : decode cX6_both1 15 = .ok (.iconst 0, 1) := by decide +kernel
theorem dX6_both1_16 : decode cX6_both1 16 = .ok (.iconst 0, 1) := by decide +kernel
theorem dX6_both1_17 : decode cX6_both1 17 = .ok (.invokevirtual 218, 3) := by decide +kernel
theorem dX6_both1_20 : decode cX6_both1 20 = .ok (.ifCond .eq 29, 3) := by decide +kernel
theorem dX6_both1_23 : decode cX6_both1 23 = .ok (.aload_n 0, 1) := by decide +kernel
theorem dX6_both1_24 : decode cX6_both1 24 = .ok (.invokevirtual 215, 3) := by decide +kernel
theorem dX6_both1_27 : decode cX6_both1 27 = .ok (.aload_n 0, 1) := by decide +kernel
theorem dX6_both1_28 : decode cX6_both1 28 = .ok (.invokevirtual 336, 3) := by decide +kernel
theorem dX6_both1_31 : decode cX6_both1 31 = .ok (.istore_n 2, 1) := by decide +kernel
theorem dX6_both1_32 : decode cX6_both1 32 = .ok (.iload_n 1, 1) := by decide +kernel
theorem dX6_both1_33 : decode cX6_both1 33 = .ok (.ifCond .eq 11, 3) := by decide +kernel
theorem dX6_both1_36 : decode cX6_both1 36 = .ok (.iload_n 2, 1) := by decide +kernel
theorem dX6_both1_37 : decode cX6_both1 37 = .ok (.ifCond .eq 7, 3) := by decide +kernel
theorem dX6_both1_40 : decode cX6_both1 40 = .ok (.iconst 1, 1) := by decide +kernel
theorem dX6_both1_41 : decode cX6_both1 41 = .ok (.goto 4, 3) := by decide +kernel
theorem dX6_both1_44 : decode cX6_both1 44 = .ok (.iconst 0, 1) := by decide +kernel
theorem dX6_both1_45 : decode cX6_both1 45 = .ok (.istore_n 1, 1) := by decide +kernel
theorem dX6_both1_46 : decode cX6_both1 46 = .ok (.goto (-41), 3) := by decide +kernel
theorem dX6_both1_49 : decode cX6_both1 49 = .ok (.iload_n 1, 1) := by decide +kernel
theorem dX6_both1_50 : decode cX6_both1 50 = .ok (.ireturn, 1) := by decide +kernel
theorem dX6_either1_0 : decode cX6_either1 0 = .ok (.aload_n 0, 1) := by decide +kernel
theorem dX6_either1_1 : decode cX6_either1 1 = .ok (.invokevirtual 339, 3) := by decide +kernel
theorem dX6_either1_4 : decode cX6_either1 4 = .ok (.istore_n 1, 1) := by decide +kernel
theorem dX6_either1_5 : decode cX6_either1 5 = .ok (.aload_n 0, 1) := by decide +kernel
theorem dX6_either1_6 : decode cX6_either1 6 = .ok (.bipush 111, 2) := by decide +kernel
theorem dX6_either1_8 : decode cX6_either1 8 = .ok (.bipush 114, 2) := by decide +kernel
theorem dX6_either1_10 : decode cX6_either1 10 = .ok (.iconst 0, 1) := by decide +kernel
theorem dX6_either1_11 : decode cX6_either1 11 = .ok (.iconst 0, 1) := by decide +kernel
theorem dX6_either1_12 : decode cX6_either1 12 = .ok (.iconst 0, 1) := by decide +kernel
theorem dX6_either1_13 : decode cX6_either1 13 = .ok (.iconst 0, 1) := by decide +kernel
theorem dX6_either1_14 : decode cX6_either1 14 = .ok (.iconst 0, 1) := by decide +kernel
theorem dX6_either1_15 : decode cX6_either1 15 = .ok (.iconst 0, 1) := by decide +kernel
theorem dX6_either1_16 : decode cX6_either1 16 = .ok (.invokevirtual 218, 3) := by decide +kernel
theorem dX6_either1_19 : decode cX6_either1 19 = .ok (.ifCond .eq 29, 3) := by decide +kernel
theorem dX6_either1_22 : decode cX6_either1 22 = .ok (.aload_n 0, 1) := by decide +kernel
theorem dX6_either1_23 : decode cX6_either1 23 = .ok (.invokevirtual 215, 3) := by decide +kernel
theorem dX6_either1_26 : decode cX6_either1 26 = .ok (.aload_n 0, 1) := by decide +kernel
theorem dX6_either1_27 : decode cX6_either1 27 = .ok (.invokevirtual 339, 3) := by decide +kernel
theorem dX6_either1_30 : decode cX6_either1 30 = .ok (.istore_n 2, 1) := by decide +kernel
theorem dX6_either1_31 : decode cX6_either1 31 = .ok (.iload_n 1, 1) := by decide +kernel
theorem dX6_either1_32 : decode cX6_either1 32 = .ok (.ifCond .ne 7, 3) := by decide +kernel
theorem dX6_either1_35 : decode cX6_either1 35 = .ok (.iload_n 2, 1) := by decide +kernel
theorem dX6_either1_36 : decode cX6_either1 36 = .ok (.ifCond .eq 7, 3) := by decide +kernel
theorem dX6_either1_39 : decode cX6_either1 39 = .ok (.iconst 1, 1) := by decide +kernel
theorem dX6_either1_40 : decode cX6_either1 40 = .ok (.goto 4, 3) := by decide +kernel
theorem dX6_either1_43 : decode cX6_either1 43 = .ok (.iconst 0, 1) := by decide +kernel
theorem dX6_either1_44 : decode cX6_either1 44 = .ok (.istore_n 1, 1) := by decide +kernel
theorem dX6_either1_45 : decode cX6_either1 45 = .ok (.goto (-40), 3) := by decide +kernel
theorem dX6_either1_48 : decode cX6_either1 48 = .ok (.iload_n 1, 1) := by decide +kernel
theorem dX6_either1_49 : decode cX6_either1 49 = .ok (.ireturn, 1) := by decide +kernel
theorem dX6_atom0_0 : decode cX6_atom0 0 = .ok (.iconst 0, 1) := by decide +kernel
theorem dX6_atom0_1 : decode cX6_atom0 1 = .ok (.istore_n 1, 1) := by decide +kernel
theorem dX6_atom0_2 : decode cX6_atom0 2 = .ok (.aload_n 0, 1) := by decide +kernel
theorem dX6_atom0_3 : decode cX6_atom0 3 = .ok (.bipush 45, 2) := by decide +kernel
theorem dX6_atom0_5 : decode cX6_atom0 5 = .ok (.invokevirtual 240, 3) := by decide +kernel
theorem dX6_atom0_8 : decode cX6_atom0 8 = .ok (.ifCond .eq 29, 3) := by decide +kernel
theorem dX6_atom0_11 : decode cX6_atom0 11 = .ok (.aload_n 0, 1) := by decide +kernel
theorem dX6_atom0_12 : decode cX6_atom0 12 = .ok (.invokevirtual 243, 3) := by decide +kernel
theorem dX6_atom0_15 : decode cX6_atom0 15 = .ok (.ifCond .eq 146, 3) := by decide +kernel
theorem dX6_atom0_18 : decode cX6_atom0 18 = .ok (.aload_n 0, 1) := by decide +kernel
theorem dX6_atom0_19 : decode cX6_atom0 19 = .ok (.invokevirtual 327, 3) := by decide +kernel
theorem dX6_atom0_22 : decode cX6_atom0 22 = .ok (.ineg, 1) := by decide +kernel
theorem dX6_atom0_23 : decode cX6_atom0 23 = .ok (.istore_n 1, 1) := by decide +kernel
theorem dX6_atom0_24 : decode cX6_atom0 24 = .ok (.aload_n 0, 1) := by decide +kernel
theorem dX6_atom0_25 : decode cX6_atom0 25 = .ok (.dup, 1) := by decide +kernel
theorem dX6_atom0_26 : decode cX6_atom0 26 = .ok (.getfield 209, 3) := by decide +kernel
theorem dX6_atom0_29 : decode cX6_atom0 29 = .ok (.iconst 1, 1) := by decide +kernel
theorem dX6_atom0_30 : decode cX6_atom0 30 = .ok (.isub, 1) := by decide +kernel
theorem dX6_atom0_31 : decode cX6_atom0 31 = .ok (.putfield 209, 3) := by decide +kernel
theorem dX6_atom0_34 : decode cX6_atom0 34 = .ok (.goto 127, 3) := by decide +kernel
theorem dX6_atom0_37 : decode cX6_atom0 37 = .ok (.aload_n 0, 1) := by decide +kernel
theorem dX6_atom0_38 : decode cX6_atom0 38 = .ok (.bipush 40, 2) := by decide +kernel
theorem dX6_atom0_40 : decode cX6_atom0 40 = .ok (.invokevirtual 240, 3) := by decide +kernel
theorem dX6_atom0_43 : decode cX6_atom0 43 = .ok (.ifCond .eq 52, 3) := by decide +kernel
theorem dX6_atom0_46 : decode cX6_atom0 46 = .ok (.aload_n 0, 1) := by decide +kernel
theorem dX6_atom0_47 : decode cX6_atom0 47 = .ok (.invokevirtual 243, 3) := by decide +kernel
theorem dX6_atom0_50 : decode cX6_atom0 50 = .ok (.ifCond .eq 111, 3) := by decide +kernel
theorem dX6_atom0_53 : decode cX6_atom0 53 = .ok (.aload_n 0, 1) := by decide +kernel
theorem dX6_atom0_54 : decode cX6_atom0 54 = .ok (.invokevirtual 342, 3) := by decide +kernel
theorem dX6_atom0_57 : decode cX6_atom0 57 = .ok (.istore_n 1, 1) := by decide +kernel
theorem dX6_atom0_58 : decode cX6_atom0 58 = .ok (.aload_n 0, 1) := by decide +kernel
theorem dX6_atom0_59 : decode cX6_atom0 59 = .ok (.bipush 41, 2) := by decide +kernel
theorem dX6_atom0_61 : decode cX6_atom0 61 = .ok (.invokevirtual 240, 3) := by decide +kernel
theorem dX6_atom0_64 : decode cX6_atom0 64 = .ok (.ifCond .ne 7, 3) := by decide +kernel
theorem dX6_atom0_67 : decode cX6_atom0 67 = .ok (.aload_n 0, 1) := by decide +kernel
theorem dX6_atom0_68 : decode cX6_atom0 68 = .ok (.invokevirtual 212, 3) := by decide +kernel
theorem dX6_atom0_71 : decode cX6_atom0 71 = .ok (.aload_n 0, 1) := by decide +kernel
theorem dX6_atom0_72 : decode cX6_atom0 72 = .ok (.dup, 1) := by decide +kernel
theorem dX6_atom0_73 : decode cX6_atom0 73 = .ok (.getfield 209, 3) := by decide +kernel
theorem dX6_atom0_76 : decode cX6_atom0 76 = .ok (.iconst 1, 1) := by decide +kernel
theorem dX6_atom0_77 : decode cX6_atom0 77 = .ok (.isub, 1) := by decide +kernel
theorem dX6_atom0_78 : decode cX6_atom0 78 = .ok (.putfield 209, 3) := by decide +kernel
theorem dX6_atom0_81 : decode cX6_atom0 81 = .ok (.aload_n 0, 1) := by decide +kernel
theorem dX6_atom0_82 : decode cX6_atom0 82 = .ok (.getfield 198, 3) := by decide +kernel
theorem dX6_atom0_85 : decode cX6_atom0 85 = .ok (.ifCond .ne 76, 3) := by decide +kernel
theorem dX6_atom0_88 : decode cX6_atom0 88 = .ok (.aload_n 0, 1) := by decide +kernel
theorem dX6_atom0_89 : decode cX6_atom0 89 = .ok (.invokevirtual 215, 3) := by decide +kernel
theorem dX6_atom0_92 : decode cX6_atom0 92 = .ok (.goto 69, 3) := by decide +kernel
theorem dX6_atom0_95 : decode cX6_atom0 95 = .ok (.aload_n 0, 1) := by decide +kernel
theorem dX6_atom0_96 : decode cX6_atom0 96 = .ok (.getfield 198, 3) := by decide +kernel
theorem dX6_atom0_99 : decode cX6_atom0 99 = .ok (.ifCond .ne 24, 3) := by decide +kernel
theorem dX6_atom0_102 : decode cX6_atom0 102 = .ok (.aload_n 0, 1) := by decide +kernel
theorem dX6_atom0_103 : decode cX6_atom0 103 = .ok (.getfield 183, 3) := by decide +kernel
theorem dX6_atom0_106 : decode cX6_atom0 106 = .ok (.iconst 2, 1) := by decide +kernel
theorem dX6_atom0_107 : decode cX6_atom0 107 = .ok (.if_icmp .ne 16, 3) := by decide +kernel
theorem dX6_atom0_110 : decode cX6_atom0 110 = .ok (.aload_n 0, 1) := by decide +kernel
theorem dX6_atom0_111 : decode cX6_atom0 111 = .ok (.getfield 194, 3) := by decide +kernel
theorem dX6_atom0_114 : decode cX6_atom0 114 = .ok (.l2i, 1) := by decide +kernel
theorem dX6_atom0_115 : decode cX6_atom0 115 = .ok (.istore_n 1, 1) := by decide +kernel
theorem dX6_atom0_116 : decode cX6_atom0 116 = .ok (.aload_n 0, 1) := by decide +kernel
theorem dX6_atom0_117 : decode cX6_atom0 117 = .ok (.invokevirtual 215, 3) := by decide +kernel
theorem dX6_atom0_120 : decode cX6_atom0 120 = .ok (.goto 41, 3) := by decide +kernel
theorem dX6_atom0_123 : decode cX6_atom0 123 = .ok (.aload_n 0, 1) := by decide +kernel
theorem dX6_atom0_124 : decode cX6_atom0 124 = .ok (.getfield 198, 3) := by decide +kernel
theorem dX6_atom0_127 : decode cX6_atom0 127 = .ok (.ifCond .ne 30, 3) := by decide +kernel
theorem dX6_atom0_130 : decode cX6_atom0 130 = .ok (.aload_n 0, 1) := by decide +kernel
theorem dX6_atom0_131 : decode cX6_atom0 131 = .ok (.getfield 183, 3) := by decide +kernel
theorem dX6_atom0_134 : decode cX6_atom0 134 = .ok (.iconst 1, 1) := by decide +kernel
theorem dX6_atom0_135 : decode cX6_atom0 135 = .ok (.if_icmp .ne 22, 3) := by decide +kernel
theorem dX6_atom0_138 : decode cX6_atom0 138 = .ok (.aload_n 0, 1) := by decide +kernel
theorem dX6_atom0_139 : decode cX6_atom0 139 = .ok (.invokevirtual 247, 3) := by decide +kernel
theorem dX6_atom0_142 : decode cX6_atom0 142 = .ok (.istore_n 1, 1) := by decide +kernel
theorem dX6_atom0_143 : decode cX6_atom0 143 = .ok (.aload_n 0, 1) := by decide +kernel
theorem dX6_atom0_144 : decode cX6_atom0 144 = .ok (.getfield 198, 3) := by decide +kernel
theorem dX6_atom0_147 : decode cX6_atom0 147 = .ok (.ifCond .ne 14, 3) := by decide +kernel
theorem dX6_atom0_150 : decode cX6_atom0 150 = .ok (.aload_n 0, 1) := by decide +kernel
theorem dX6_atom0_151 : decode cX6_atom0 151 = .ok (.invokevirtual 215, 3) := by decide +kernel
theorem dX6_atom0_154 : decode cX6_atom0 154 = .ok (.goto 7, 3) := by decide +kernel
theorem dX6_atom0_157 : decode cX6_atom0 157 = .ok (.aload_n 0, 1) := by decide +kernel
theorem dX6_atom0_158 : decode cX6_atom0 158 = .ok (.invokevirtual 212, 3) := by decide +kernel
theorem dX6_atom0_161 : decode cX6_atom0 161 = .ok (.iload_n 1, 1) := by decide +kernel
theorem dX6_atom0_162 : decode cX6_atom0 162 = .ok (.ireturn, 1) := by decide +kernel
theorem dX6_term0_0 : decode cX6_term0 0 = .ok (.aload_n 0, 1) := by decide +kernel
theorem dX6_term0_1 : decode cX6_term0 1 = .ok (.invokevirtual 345, 3) := by decide +kernel
theorem dX6_term0_4 : decode cX6_term0 4 = .ok (.istore_n 1, 1) := by decide +kernel
theorem dX6_term0_5 : decode cX6_term0 5 = .ok (.aload_n 0, 1) := by decide +kernel
theorem dX6_term0_6 : decode cX6_term0 6 = .ok (.bipush 42, 2) := by decide +kernel
theorem dX6_term0_8 : decode cX6_term0 8 = .ok (.invokevirtual 240, 3) := by decide +kernel
theorem dX6_term0_11 : decode cX6_term0 11 = .ok (.ifCond .eq 17, 3) := by decide +kernel
theorem dX6_term0_14 : decode cX6_term0 14 = .ok (.aload_n 0, 1) := by decide +kernel
theorem dX6_term0_15 : decode cX6_term0 15 = .ok (.invokevirtual 215, 3) := by decide +kernel
theorem dX6_term0_18 : decode cX6_term0 18 = .ok (.iload_n 1, 1) := by decide +kernel
theorem dX6_term0_19 : decode cX6_term0 19 = .ok (.aload_n 0, 1) := by decide +kernel
theorem dX6_term0_20 : decode cX6_term0 20 = .ok (.invokevirtual 345, 3) := by decide +kernel
theorem dX6_term0_23 : decode cX6_term0 23 = .ok (.imul, 1) := by decide +kernel
theorem dX6_term0_24 : decode cX6_term0 24 = .ok (.istore_n 1, 1) := by decide +kernel
theorem dX6_term0_25 : decode cX6_term0 25 = .ok (.goto (-20), 3) := by decide +kernel
theorem dX6_term0_28 : decode cX6_term0 28 = .ok (.iload_n 1, 1) := by decide +kernel
theorem dX6_term0_29 : decode cX6_term0 29 = .ok (.ireturn, 1) := by decide +kernel
theorem dX6_added0_0 : decode cX6_added0 0 = .ok (.aload_n 0, 1) := by decide +kernel
theorem dX6_added0_1 : decode cX6_added0 1 = .ok (.invokevirtual 348, 3) := by decide +kernel
theorem dX6_added0_4 : decode cX6_added0 4 = .ok (.istore_n 1, 1) := by decide +kernel
theorem dX6_added0_5 : decode cX6_added0 5 = .ok (.aload_n 0, 1) := by decide +kernel
theorem dX6_added0_6 : decode cX6_added0 6 = .ok (.bipush 43, 2) := by decide +kernel
theorem dX6_added0_8 : decode cX6_added0 8 = .ok (.invokevirtual 240, 3) := by decide +kernel
theorem dX6_added0_11 : decode cX6_added0 11 = .ok (.ifCond .ne 12, 3) := by decide +kernel
theorem dX6_added0_14 : decode cX6_added0 14 = .ok (.aload_n 0, 1) := by decide +kernel
theorem dX6_added0_15 : decode cX6_added0 15 = .ok (.bipush 45, 2) := by decide +kernel
theorem dX6_added0_17 : decode cX6_added0 17 = .ok (.invokevirtual 240, 3) := by decide +kernel
theorem dX6_added0_20 : decode cX6_added0 20 = .ok (.ifCond .eq 46, 3) := by decide +kernel
theorem dX6_added0_23 : decode cX6_added0 23 = .ok (.aload_n 0, 1) := by decide +kernel
theorem dX6_added0_24 : decode cX6_added0 24 = .ok (.getfield 194, 3) := by decide +kernel
theorem dX6_added0_27 : decode cX6_added0 27 = .ok (.ldc2_w 257, 3) := by decide +kernel
theorem dX6_added0_30 : decode cX6_added0 30 = .ok (.lcmp, 1) := by decide +kernel
theorem dX6_added0_31 : decode cX6_added0 31 = .ok (.ifCond .ne 7, 3) := by decide +kernel
theorem dX6_added0_34 : decode cX6_added0 34 = .ok (.iconst 1, 1) := by decide +kernel
theorem dX6_added0_35 : decode cX6_added0 35 = .ok (.goto 4, 3) := by decide +kernel
theorem dX6_added0_38 : decode cX6_added0 38 = .ok (.iconst 0, 1) := by decide +kernel
theorem dX6_added0_39 : decode cX6_added0 39 = .ok (.istore_n 2, 1) := by decide +kernel
theorem dX6_added0_40 : decode cX6_added0 40 = .ok (.aload_n 0, 1) := by decide +kernel
theorem dX6_added0_41 : decode cX6_added0 41 = .ok (.invokevirtual 215, 3) := by decide +kernel
theorem dX6_added0_44 : decode cX6_added0 44 = .ok (.aload_n 0, 1) := by decide +kernel
theorem dX6_added0_45 : decode cX6_added0 45 = .ok (.invokevirtual 348, 3) := by decide +kernel
theorem dX6_added0_48 : decode cX6_added0 48 = .ok (.istore_n 3, 1) := by decide +kernel
theorem dX6_added0_49 : decode cX6_added0 49 = .ok (.iload_n 2, 1) := by decide +kernel
theorem dX6_added0_50 : decode cX6_added0 50 = .ok (.ifCond .eq 9, 3) := by decide +kernel
theorem dX6_added0_53 : decode cX6_added0 53 = .ok (.iload_n 1, 1) := by decide +kernel
theorem dX6_added0_54 : decode cX6_added0 54 = .ok (.iload_n 3, 1) := by decide +kernel
theorem dX6_added0_55 : decode cX6_added0 55 = .ok (.iadd, 1) := by decide +kernel
theorem dX6_added0_56 : decode cX6_added0 56 = .ok (.goto 6, 3) := by decide +kernel
theorem dX6_added0_59 : decode cX6_added0 59 = .ok (.iload_n 1, 1) := by decide +kernel
theorem dX6_added0_60 : decode cX6_added0 60 = .ok (.iload_n 3, 1) := by decide +kernel
theorem dX6_added0_61 : decode cX6_added0 61 = .ok (.isub, 1) := by decide +kernel
theorem dX6_added0_62 : decode cX6_added0 62 = .ok (.istore_n 1, 1) := by decide +kernel
theorem dX6_added0_63 : decode cX6_added0 63 = .ok (.goto (-58), 3) := by decide +kernel
theorem dX6_added0_66 : decode cX6_added0 66 = .ok (.iload_n 1, 1) := by decide +kernel
theorem dX6_added0_67 : decode cX6_added0 67 = .ok (.ireturn, 1) := by decide +kernel
theorem dX6_not0_0 : decode cX6_not0 0 = .ok (.aload_n 0, 1) := by decide +kernel
theorem dX6_not0_1 : decode cX6_not0 1 = .ok (.bipush 110, 2) := by decide +kernel
theorem dX6_not0_3 : decode cX6_not0 3 = .ok (.bipush 111, 2) := by decide +kernel
theorem dX6_not0_5 : decode cX6_not0 5 = .ok (.bipush 116, 2) := by decide +kernel
theorem dX6_not0_7 : decode cX6_not0 7 = .ok (.iconst 0, 1) := by decide +kernel
theorem dX6_not0_8 : decode cX6_not0 8 = .ok (.iconst 0, 1) := by decide +kernel
theorem dX6_not0_9 : decode cX6_not0 9 = .ok (.iconst 0, 1) := by decide +kernel
theorem dX6_not0_10 : decode cX6_not0 10 = .ok (.iconst 0, 1) := by decide +kernel
theorem dX6_not0_11 : decode cX6_not0 11 = .ok (.iconst 0, 1) := by decide +kernel
theorem dX6_not0_12 : decode cX6_not0 12 = .ok (.invokevirtual 218, 3) := by decide +kernel
theorem dX6_not0_15 : decode cX6_not0 15 = .ok (.ifCond .eq 37, 3) := by decide +kernel
theorem dX6_not0_18 : decode cX6_not0 18 = .ok (.aload_n 0, 1) := by decide +kernel
theorem dX6_not0_19 : decode cX6_not0 19 = .ok (.invokevirtual 243, 3) := by decide +kernel
theorem dX6_not0_22 : decode cX6_not0 22 = .ok (.ifCond .ne 5, 3) := by decide +kernel
theorem dX6_not0_25 : decode cX6_not0 25 = .ok (.iconst 0, 1) := by decide +kernel
theorem dX6_not0_26 : decode cX6_not0 26 = .ok (.ireturn, 1) := by decide +kernel
theorem dX6_not0_27 : decode cX6_not0 27 = .ok (.aload_n 0, 1) := by decide +kernel
theorem dX6_not0_28 : decode cX6_not0 28 = .ok (.invokevirtual 336, 3) := by decide +kernel
