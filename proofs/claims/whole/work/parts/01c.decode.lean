theorem dX0_init_0 : decode cX0_init 0 = .ok (.aload_n 0, 1) := by decide +kernel
theorem dX0_init_1 : decode cX0_init 1 = .ok (.invokespecial 3, 3) := by decide +kernel
theorem dX0_init_4 : decode cX0_init 4 = .ok (.aload_n 0, 1) := by decide +kernel
theorem dX0_init_5 : decode cX0_init 5 = .ok (.iconst 5, 1) := by decide +kernel
theorem dX0_init_6 : decode cX0_init 6 = .ok (.newarray .int, 2) := by decide +kernel
theorem dX0_init_8 : decode cX0_init 8 = .ok (.putfield 9, 3) := by decide +kernel
theorem dX0_init_11 : decode cX0_init 11 = .ok (.aload_n 0, 1) := by decide +kernel
theorem dX0_init_12 : decode cX0_init 12 = .ok (.iconst 5, 1) := by decide +kernel
theorem dX0_init_13 : decode cX0_init 13 = .ok (.newarray .int, 2) := by decide +kernel
theorem dX0_init_15 : decode cX0_init 15 = .ok (.putfield 15, 3) := by decide +kernel
theorem dX0_init_18 : decode cX0_init 18 = .ok (.aload_n 0, 1) := by decide +kernel
theorem dX0_init_19 : decode cX0_init 19 = .ok (.iconst 5, 1) := by decide +kernel
theorem dX0_init_20 : decode cX0_init 20 = .ok (.newarray .int, 2) := by decide +kernel
theorem dX0_init_22 : decode cX0_init 22 = .ok (.putfield 18, 3) := by decide +kernel
theorem dX0_init_25 : decode cX0_init 25 = .ok (.aload_n 0, 1) := by decide +kernel
theorem dX0_init_26 : decode cX0_init 26 = .ok (.iconst 5, 1) := by decide +kernel
theorem dX0_init_27 : decode cX0_init 27 = .ok (.newarray .int, 2) := by decide +kernel
theorem dX0_init_29 : decode cX0_init 29 = .ok (.putfield 21, 3) := by decide +kernel
theorem dX0_init_32 : decode cX0_init 32 = .ok (.aload_n 0, 1) := by decide +kernel
theorem dX0_init_33 : decode cX0_init 33 = .ok (.iconst 5, 1) := by decide +kernel
theorem dX0_init_34 : decode cX0_init 34 = .ok (.newarray .int, 2) := by decide +kernel
theorem dX0_init_36 : decode cX0_init 36 = .ok (.putfield 24, 3) := by decide +kernel
theorem dX0_init_39 : decode cX0_init 39 = .ok (.aload_n 0, 1) := by decide +kernel
theorem dX0_init_40 : decode cX0_init 40 = .ok (.iconst 5, 1) := by decide +kernel
theorem dX0_init_41 : decode cX0_init 41 = .ok (.newarray .int, 2) := by decide +kernel
theorem dX0_init_43 : decode cX0_init 43 = .ok (.putfield 27, 3) := by decide +kernel
theorem dX0_init_46 : decode cX0_init 46 = .ok (.aload_n 0, 1) := by decide +kernel
theorem dX0_init_47 : decode cX0_init 47 = .ok (.iconst 5, 1) := by decide +kernel
theorem dX0_init_48 : decode cX0_init 48 = .ok (.newarray .int, 2) := by decide +kernel
theorem dX0_init_50 : decode cX0_init 50 = .ok (.putfield 30, 3) := by decide +kernel
theorem dX0_init_53 : decode cX0_init 53 = .ok (.aload_n 0, 1) := by decide +kernel
theorem dX0_init_54 : decode cX0_init 54 = .ok (.iconst (-1), 1) := by decide +kernel
theorem dX0_init_55 : decode cX0_init 55 = .ok (.putfield 33, 3) := by decide +kernel
theorem dX0_init_58 : decode cX0_init 58 = .ok (.aload_n 0, 1) := by decide +kernel
theorem dX0_init_59 : decode cX0_init 59 = .ok (.iconst 1, 1) := by decide +kernel
theorem dX0_init_60 : decode cX0_init 60 = .ok (.putfield 37, 3) := by decide +kernel
theorem dX0_init_63 : decode cX0_init 63 = .ok (.aload_n 0, 1) := by decide +kernel
theorem dX0_init_64 : decode cX0_init 64 = .ok (.iconst (-1), 1) := by decide +kernel
theorem dX0_init_65 : decode cX0_init 65 = .ok (.putfield 40, 3) := by decide +kernel
theorem dX0_init_68 : decode cX0_init 68 = .ok (.return_, 1) := by decide +kernel
theorem dX0_become_0 : decode cX0_become 0 = .ok (.aload_n 1, 1) := by decide +kernel
theorem dX0_become_1 : decode cX0_become 1 = .ok (.getfield 9, 3) := by decide +kernel
theorem dX0_become_4 : decode cX0_become 4 = .ok (.iconst 0, 1) := by decide +kernel
theorem dX0_become_5 : decode cX0_become 5 = .ok (.aload_n 0, 1) := by decide +kernel
theorem dX0_become_6 : decode cX0_become 6 = .ok (.getfield 9, 3) := by decide +kernel
theorem dX0_become_9 : decode cX0_become 9 = .ok (.iconst 0, 1) := by decide +kernel
theorem dX0_become_10 : decode cX0_become 10 = .ok (.iconst 5, 1) := by decide +kernel
theorem dX0_become_11 : decode cX0_become 11 = .ok (.invokestatic 43, 3) := by decide +kernel
theorem dX0_become_14 : decode cX0_become 14 = .ok (.aload_n 1, 1) := by decide +kernel
theorem dX0_become_15 : decode cX0_become 15 = .ok (.getfield 15, 3) := by decide +kernel
theorem dX0_become_18 : decode cX0_become 18 = .ok (.iconst 0, 1) := by decide +kernel
theorem dX0_become_19 : decode cX0_become 19 = .ok (.aload_n 0, 1) := by decide +kernel
theorem dX0_become_20 : decode cX0_become 20 = .ok (.getfield 15, 3) := by decide +kernel
theorem dX0_become_23 : decode cX0_become 23 = .ok (.iconst 0, 1) := by decide +kernel
theorem dX0_become_24 : decode cX0_become 24 = .ok (.iconst 5, 1) := by decide +kernel
theorem dX0_become_25 : decode cX0_become 25 = .ok (.invokestatic 43, 3) := by decide +kernel
theorem dX0_become_28 : decode cX0_become 28 = .ok (.aload_n 1, 1) := by decide +kernel
theorem dX0_become_29 : decode cX0_become 29 = .ok (.getfield 18, 3) := by decide +kernel
theorem dX0_become_32 : decode cX0_become 32 = .ok (.iconst 0, 1) := by decide +kernel
theorem dX0_become_33 : decode cX0_become 33 = .ok (.aload_n 0, 1) := by decide +kernel
theorem dX0_become_34 : decode cX0_become 34 = .ok (.getfield 18, 3) := by decide +kernel
theorem dX0_become_37 : decode cX0_become 37 = .ok (.iconst 0, 1) := by decide +kernel
theorem dX0_become_38 : decode cX0_become 38 = .ok (.iconst 5, 1) := by decide +kernel
theorem dX0_become_39 : decode cX0_become 39 = .ok (.invokestatic 43, 3) := by decide +kernel
theorem dX0_become_42 : decode cX0_become 42 = .ok (.aload_n 1, 1) := by decide +kernel
theorem dX0_become_43 : decode cX0_become 43 = .ok (.getfield 21, 3) := by decide +kernel
theorem dX0_become_46 : decode cX0_become 46 = .ok (.iconst 0, 1) := by decide +kernel
theorem dX0_become_47 : decode cX0_become 47 = .ok (.aload_n 0, 1) := by decide +kernel
theorem dX0_become_48 : decode cX0_become 48 = .ok (.getfield 21, 3) := by decide +kernel
theorem dX0_become_51 : decode cX0_become 51 = .ok (.iconst 0, 1) := by decide +kernel
theorem dX0_become_52 : decode cX0_become 52 = .ok (.iconst 5, 1) := by decide +kernel
theorem dX0_become_53 : decode cX0_become 53 = .ok (.invokestatic 43, 3) := by decide +kernel
theorem dX0_become_56 : decode cX0_become 56 = .ok (.aload_n 1, 1) := by decide +kernel
theorem dX0_become_57 : decode cX0_become 57 = .ok (.getfield 24, 3) := by decide +kernel
theorem dX0_become_60 : decode cX0_become 60 = .ok (.iconst 0, 1) := by decide +kernel
theorem dX0_become_61 : decode cX0_become 61 = .ok (.aload_n 0, 1) := by decide +kernel
theorem dX0_become_62 : decode cX0_become 62 = .ok (.getfield 24, 3) := by decide +kernel
theorem dX0_become_65 : decode cX0_become 65 = .ok (.iconst 0, 1) := by decide +kernel
theorem dX0_become_66 : decode cX0_become 66 = .ok (.iconst 5, 1) := by decide +kernel
theorem dX0_become_67 : decode cX0_become 67 = .ok (.invokestatic 43, 3) := by decide +kernel
theorem dX0_become_70 : decode cX0_become 70 = .ok (.aload_n 1, 1) := by decide +kernel
theorem dX0_become_71 : decode cX0_become 71 = .ok (.getfield 27, 3) := by decide +kernel
theorem dX0_become_74 : decode cX0_become 74 = .ok (.iconst 0, 1) := by decide +kernel
theorem dX0_become_75 : decode cX0_become 75 = .ok (.aload_n 0, 1) := by decide +kernel
theorem dX0_become_76 : decode cX0_become 76 = .ok (.getfield 27, 3) := by decide +kernel
theorem dX0_become_79 : decode cX0_become 79 = .ok (.iconst 0, 1) := by decide +kernel
theorem dX0_become_80 : decode cX0_become 80 = .ok (.iconst 5, 1) := by decide +kernel
theorem dX0_become_81 : decode cX0_become 81 = .ok (.invokestatic 43, 3) := by decide +kernel
theorem dX0_become_84 : decode cX0_become 84 = .ok (.aload_n 1, 1) := by decide +kernel
theorem dX0_become_85 : decode cX0_become 85 = .ok (.getfield 30, 3) := by decide +kernel
theorem dX0_become_88 : decode cX0_become 88 = .ok (.iconst 0, 1) := by decide +kernel
theorem dX0_become_89 : decode cX0_become 89 = .ok (.aload_n 0, 1) := by decide +kernel
theorem dX0_become_90 : decode cX0_become 90 = .ok (.getfield 30, 3) := by decide +kernel
theorem dX0_become_93 : decode cX0_become 93 = .ok (.iconst 0, 1) := by decide +kernel
theorem dX0_become_94 : decode cX0_become 94 = .ok (.iconst 5, 1) := by decide +kernel
theorem dX0_become_95 : decode cX0_become 95 = .ok (.invokestatic 43, 3) := by decide +kernel
theorem dX0_become_98 : decode cX0_become 98 = .ok (.aload_n 0, 1) := by decide +kernel
theorem dX0_become_99 : decode cX0_become 99 = .ok (.aload_n 1, 1) := by decide +kernel
theorem dX0_become_100 : decode cX0_become 100 = .ok (.getfield 49, 3) := by decide +kernel
theorem dX0_become_103 : decode cX0_become 103 = .ok (.putfield 49, 3) := by decide +kernel
theorem dX0_become_106 : decode cX0_become 106 = .ok (.aload_n 0, 1) := by decide +kernel
theorem dX0_become_107 : decode cX0_become 107 = .ok (.aload_n 1, 1) := by decide +kernel
theorem dX0_become_108 : decode cX0_become 108 = .ok (.getfield 52, 3) := by decide +kernel
theorem dX0_become_111 : decode cX0_become 111 = .ok (.putfield 52, 3) := by decide +kernel
theorem dX0_become_114 : decode cX0_become 114 = .ok (.aload_n 0, 1) := by decide +kernel
theorem dX0_become_115 : decode cX0_become 115 = .ok (.aload_n 1, 1) := by decide +kernel
theorem dX0_become_116 : decode cX0_become 116 = .ok (.getfield 33, 3) := by decide +kernel
theorem dX0_become_119 : decode cX0_become 119 = .ok (.putfield 33, 3) := by decide +kernel
theorem dX0_become_122 : decode cX0_become 122 = .ok (.aload_n 0, 1) := by decide +kernel
theorem dX0_become_123 : decode cX0_become 123 = .ok (.aload_n 1, 1) := by decide +kernel
theorem dX0_become_124 : decode cX0_become 124 = .ok (.getfield 37, 3) := by decide +kernel
theorem dX0_become_127 : decode cX0_become 127 = .ok (.putfield 37, 3) := by decide +kernel
theorem dX0_become_130 : decode cX0_become 130 = .ok (.aload_n 0, 1) := by decide +kernel
theorem dX0_become_131 : decode cX0_become 131 = .ok (.aload_n 1, 1) := by decide +kernel
theorem dX0_become_132 : decode cX0_become 132 = .ok (.getfield 55, 3) := by decide +kernel
theorem dX0_become_135 : decode cX0_become 135 = .ok (.putfield 55, 3) := by decide +kernel
theorem dX0_become_138 : decode cX0_become 138 = .ok (.aload_n 0, 1) := by decide +kernel
theorem dX0_become_139 : decode cX0_become 139 = .ok (.iconst (-1), 1) := by decide +kernel
theorem dX0_become_140 : decode cX0_become 140 = .ok (.putfield 40, 3) := by decide +kernel
theorem dX0_become_143 : decode cX0_become 143 = .ok (.return_, 1) := by decide +kernel
theorem dX0_hasHold_0 : decode cX0_hasHold 0 = .ok (.iload_n 1, 1) := by decide +kernel
theorem dX0_hasHold_1 : decode cX0_hasHold 1 = .ok (.aload_n 0, 1) := by decide +kernel
theorem dX0_hasHold_2 : decode cX0_hasHold 2 = .ok (.getfield 49, 3) := by decide +kernel
theorem dX0_hasHold_5 : decode cX0_hasHold 5 = .ok (.invokestatic 58, 3) := by decide +kernel
theorem dX0_hasHold_8 : decode cX0_hasHold 8 = .ok (.ireturn, 1) := by decide +kernel
theorem dX0_hasThing_0 : decode cX0_hasThing 0 = .ok (.iload_n 1, 1) := by decide +kernel
theorem dX0_hasThing_1 : decode cX0_hasThing 1 = .ok (.aload_n 0, 1) := by decide +kernel
theorem dX0_hasThing_2 : decode cX0_hasThing 2 = .ok (.getfield 52, 3) := by decide +kernel
theorem dX0_hasThing_5 : decode cX0_hasThing 5 = .ok (.invokestatic 58, 3) := by decide +kernel
theorem dX0_hasThing_8 : decode cX0_hasThing 8 = .ok (.ireturn, 1) := by decide +kernel
theorem dX0_wet_0 : decode cX0_wet 0 = .ok (.getstatic 62, 3) := by decide +kernel
theorem dX0_wet_3 : decode cX0_wet 3 = .ok (.aload_n 0, 1) := by decide +kernel
theorem dX0_wet_4 : decode cX0_wet 4 = .ok (.getfield 9, 3) := by decide +kernel
theorem dX0_wet_7 : decode cX0_wet 7 = .ok (.iload_n 1, 1) := by decide +kernel
theorem dX0_wet_8 : decode cX0_wet 8 = .ok (.iaload, 1) := by decide +kernel
theorem dX0_wet_9 : decode cX0_wet 9 = .ok (.iaload, 1) := by decide +kernel
theorem dX0_wet_10 : decode cX0_wet 10 = .ok (.ireturn, 1) := by decide +kernel
theorem dX0_renumber_0 : decode cX0_renumber 0 = .ok (.aload_n 0, 1) := by decide +kernel
theorem dX0_renumber_1 : decode cX0_renumber 1 = .ok (.getfield 15, 3) := by decide +kernel
theorem dX0_renumber_4 : decode cX0_renumber 4 = .ok (.iload_n 1, 1) := by decide +kernel
theorem dX0_renumber_5 : decode cX0_renumber 5 = .ok (.iload_n 2, 1) := by decide +kernel
theorem dX0_renumber_6 : decode cX0_renumber 6 = .ok (.iastore, 1) := by decide +kernel
theorem dX0_renumber_7 : decode cX0_renumber 7 = .ok (.aload_n 0, 1) := by decide +kernel
theorem dX0_renumber_8 : decode cX0_renumber 8 = .ok (.getfield 18, 3) := by decide +kernel
theorem dX0_renumber_11 : decode cX0_renumber 11 = .ok (.iload_n 1, 1) := by decide +kernel
theorem dX0_renumber_12 : decode cX0_renumber 12 = .ok (.aload_n 0, 1) := by decide +kernel
theorem dX0_renumber_13 : decode cX0_renumber 13 = .ok (.getfield 9, 3) := by decide +kernel
theorem dX0_renumber_16 : decode cX0_renumber 16 = .ok (.iload_n 1, 1) := by decide +kernel
theorem dX0_renumber_17 : decode cX0_renumber 17 = .ok (.iaload, 1) := by decide +kernel
theorem dX0_renumber_18 : decode cX0_renumber 18 = .ok (.iload_n 2, 1) := by decide +kernel
theorem dX0_renumber_19 : decode cX0_renumber 19 = .ok (.invokestatic 65, 3) := by decide +kernel
theorem dX0_renumber_22 : decode cX0_renumber 22 = .ok (.iastore, 1) := by decide +kernel
theorem dX0_renumber_23 : decode cX0_renumber 23 = .ok (.return_, 1) := by decide +kernel
theorem dX0_lying_0 : decode cX0_lying 0 = .ok (.iconst 0, 1) := by decide +kernel
theorem dX0_lying_1 : decode cX0_lying 1 = .ok (.istore_n 2, 1) := by decide +kernel
theorem dX0_lying_2 : decode cX0_lying 2 = .ok (.iconst 0, 1) := by decide +kernel
theorem dX0_lying_3 : decode cX0_lying 3 = .ok (.istore_n 3, 1) := by decide +kernel
theorem dX0_lying_4 : decode cX0_lying 4 = .ok (.iload_n 3, 1) := by decide +kernel
theorem dX0_lying_5 : decode cX0_lying 5 = .ok (.aload_n 0, 1) := by decide +kernel
theorem dX0_lying_6 : decode cX0_lying 6 = .ok (.getfield 52, 3) := by decide +kernel
theorem dX0_lying_9 : decode cX0_lying 9 = .ok (.if_icmp .ge 25, 3) := by decide +kernel
theorem dX0_lying_12 : decode cX0_lying 12 = .ok (.aload_n 0, 1) := by decide +kernel
theorem dX0_lying_13 : decode cX0_lying 13 = .ok (.getfield 30, 3) := by decide +kernel
theorem dX0_lying_16 : decode cX0_lying 16 = .ok (.iload_n 3, 1) := by decide +kernel
theorem dX0_lying_17 : decode cX0_lying 17 = .ok (.iaload, 1) := by decide +kernel
theorem dX0_lying_18 : decode cX0_lying 18 = .ok (.iload_n 1, 1) := by decide +kernel
theorem dX0_lying_19 : decode cX0_lying 19 = .ok (.if_icmp .ne 9, 3) := by decide +kernel
theorem dX0_lying_22 : decode cX0_lying 22 = .ok (.iload_n 2, 1) := by decide +kernel
theorem dX0_lying_23 : decode cX0_lying 23 = .ok (.iconst 1, 1) := by decide +kernel
theorem dX0_lying_24 : decode cX0_lying 24 = .ok (.iload_n 3, 1) := by decide +kernel
theorem dX0_lying_25 : decode cX0_lying 25 = .ok (.ishl, 1) := by decide +kernel
theorem dX0_lying_26 : decode cX0_lying 26 = .ok (.ior, 1) := by decide +kernel
theorem dX0_lying_27 : decode cX0_lying 27 = .ok (.istore_n 2, 1) := by decide +kernel
theorem dX0_lying_28 : decode cX0_lying 28 = .ok (.iinc 3 1, 3) := by decide +kernel
theorem dX0_lying_31 : decode cX0_lying 31 = .ok (.goto (-27), 3) := by decide +kernel
theorem dX0_lying_34 : decode cX0_lying 34 = .ok (.iload_n 2, 1) := by decide +kernel
theorem dX0_lying_35 : decode cX0_lying 35 = .ok (.ireturn, 1) := by decide +kernel
theorem dX0_left_0 : decode cX0_left 0 = .ok (.aload_n 0, 1) := by decide +kernel
theorem dX0_left_1 : decode cX0_left 1 = .ok (.getfield 18, 3) := by decide +kernel
theorem dX0_left_4 : decode cX0_left 4 = .ok (.iload_n 1, 1) := by decide +kernel
theorem dX0_left_5 : decode cX0_left 5 = .ok (.iaload, 1) := by decide +kernel
theorem dX0_left_6 : decode cX0_left 6 = .ok (.istore_n 2, 1) := by decide +kernel
theorem dX0_left_7 : decode cX0_left 7 = .ok (.iconst 0, 1) := by decide +kernel
theorem dX0_left_8 : decode cX0_left 8 = .ok (.istore_n 3, 1) := by decide +kernel
theorem dX0_left_9 : decode cX0_left 9 = .ok (.iload_n 3, 1) := by decide +kernel
theorem dX0_left_10 : decode cX0_left 10 = .ok (.aload_n 0, 1) := by decide +kernel
theorem dX0_left_11 : decode cX0_left 11 = .ok (.getfield 52, 3) := by decide +kernel
theorem dX0_left_14 : decode cX0_left 14 = .ok (.if_icmp .ge 28, 3) := by decide +kernel
theorem dX0_left_17 : decode cX0_left 17 = .ok (.aload_n 0, 1) := by decide +kernel
theorem dX0_left_18 : decode cX0_left 18 = .ok (.getfield 30, 3) := by decide +kernel
theorem dX0_left_21 : decode cX0_left 21 = .ok (.iload_n 3, 1) := by decide +kernel
theorem dX0_left_22 : decode cX0_left 22 = .ok (.iaload, 1) := by decide +kernel
theorem dX0_left_23 : decode cX0_left 23 = .ok (.iload_n 1, 1) := by decide +kernel
theorem dX0_left_24 : decode cX0_left 24 = .ok (.if_icmp .ne 12, 3) := by decide +kernel
theorem dX0_left_27 : decode cX0_left 27 = .ok (.iload_n 2, 1) := by decide +kernel
theorem dX0_left_28 : decode cX0_left 28 = .ok (.aload_n 0, 1) := by decide +kernel
theorem dX0_left_29 : decode cX0_left 29 = .ok (.getfield 21, 3) := by decide +kernel
theorem dX0_left_32 : decode cX0_left 32 = .ok (.iload_n 3, 1) := by decide +kernel
theorem dX0_left_33 : decode cX0_left 33 = .ok (.iaload, 1) := by decide +kernel
theorem dX0_left_34 : decode cX0_left 34 = .ok (.isub, 1) := by decide +kernel
theorem dX0_left_35 : decode cX0_left 35 = .ok (.istore_n 2, 1) := by decide +kernel
theorem dX0_left_36 : decode cX0_left 36 = .ok (.iinc 3 1, 3) := by decide +kernel
theorem dX0_left_39 : decode cX0_left 39 = .ok (.goto (-30), 3) := by decide +kernel
theorem dX0_left_42 : decode cX0_left 42 = .ok (.iload_n 2, 1) := by decide +kernel
theorem dX0_left_43 : decode cX0_left 43 = .ok (.ireturn, 1) := by decide +kernel
theorem dX0_refusal_0 : decode cX0_refusal 0 = .ok (.aload_n 0, 1) := by decide +kernel
theorem dX0_refusal_1 : decode cX0_refusal 1 = .ok (.getfield 30, 3) := by decide +kernel
theorem dX0_refusal_4 : decode cX0_refusal 4 = .ok (.iload_n 1, 1) := by decide +kernel
theorem dX0_refusal_5 : decode cX0_refusal 5 = .ok (.iaload, 1) := by decide +kernel
theorem dX0_refusal_6 : decode cX0_refusal 6 = .ok (.iload_n 2, 1) := by decide +kernel
theorem dX0_refusal_7 : decode cX0_refusal 7 = .ok (.if_icmp .ne 5, 3) := by decide +kernel
theorem dX0_refusal_10 : decode cX0_refusal 10 = .ok (.iconst 1, 1) := by decide +kernel
theorem dX0_refusal_11 : decode cX0_refusal 11 = .ok (.ireturn, 1) := by decide +kernel
theorem dX0_refusal_12 : decode cX0_refusal 12 = .ok (.aload_n 0, 1) := by decide +kernel
theorem dX0_refusal_13 : decode cX0_refusal 13 = .ok (.getfield 21, 3) := by decide +kernel
theorem dX0_refusal_16 : decode cX0_refusal 16 = .ok (.iload_n 1, 1) := by decide +kernel
theorem dX0_refusal_17 : decode cX0_refusal 17 = .ok (.iaload, 1) := by decide +kernel
theorem dX0_refusal_18 : decode cX0_refusal 18 = .ok (.istore_n 3, 1) := by decide +kernel
theorem dX0_refusal_19 : decode cX0_refusal 19 = .ok (.iconst 1, 1) := by decide +kernel
theorem dX0_refusal_20 : decode cX0_refusal 20 = .ok (.istore 4, 2) := by decide +kernel
theorem dX0_refusal_22 : decode cX0_refusal 22 = .ok (.iconst 0, 1) := by decide +kernel
theorem dX0_refusal_23 : decode cX0_refusal 23 = .ok (.istore 5, 2) := by decide +kernel
theorem dX0_refusal_25 : decode cX0_refusal 25 = .ok (.iconst 0, 1) := by decide +kernel
theorem dX0_refusal_26 : decode cX0_refusal 26 = .ok (.istore 6, 2) := by decide +kernel
theorem dX0_refusal_28 : decode cX0_refusal 28 = .ok (.iload 6, 2) := by decide +kernel
theorem dX0_refusal_30 : decode cX0_refusal 30 = .ok (.aload_n 0, 1) := by decide +kernel
theorem dX0_refusal_31 : decode cX0_refusal 31 = .ok (.getfield 52, 3) := by decide +kernel
theorem dX0_refusal_34 : decode cX0_refusal 34 = .ok (.if_icmp .ge 42, 3) := by decide +kernel
theorem dX0_refusal_37 : decode cX0_refusal 37 = .ok (.aload_n 0, 1) := by decide +kernel
theorem dX0_refusal_38 : decode cX0_refusal 38 = .ok (.getfield 30, 3) := by decide +kernel
theorem dX0_refusal_41 : decode cX0_refusal 41 = .ok (.iload 6, 2) := by decide +kernel
theorem dX0_refusal_43 : decode cX0_refusal 43 = .ok (.iaload, 1) := by decide +kernel
theorem dX0_refusal_44 : decode cX0_refusal 44 = .ok (.iload_n 2, 1) := by decide +kernel
theorem dX0_refusal_45 : decode cX0_refusal 45 = .ok (.if_icmp .ne 25, 3) := by decide +kernel
theorem dX0_refusal_48 : decode cX0_refusal 48 = .ok (.iload_n 3, 1) := by decide +kernel
theorem dX0_refusal_49 : decode cX0_refusal 49 = .ok (.aload_n 0, 1) := by decide +kernel
theorem dX0_refusal_50 : decode cX0_refusal 50 = .ok (.getfield 21, 3) := by decide +kernel
theorem dX0_refusal_53 : decode cX0_refusal 53 = .ok (.iload 6, 2) := by decide +kernel
theorem dX0_refusal_55 : decode cX0_refusal 55 = .ok (.iaload, 1) := by decide +kernel
theorem dX0_refusal_56 : decode cX0_refusal 56 = .ok (.iadd, 1) := by decide +kernel
theorem dX0_refusal_57 : decode cX0_refusal 57 = .ok (.istore_n 3, 1) := by decide +kernel
theorem dX0_refusal_58 : decode cX0_refusal 58 = .ok (.iinc 4 1, 3) := by decide +kernel
theorem dX0_refusal_61 : decode cX0_refusal 61 = .ok (.iload 5, 2) := by decide +kernel
theorem dX0_refusal_63 : decode cX0_refusal 63 = .ok (.iconst 1, 1) := by decide +kernel
theorem dX0_refusal_64 : decode cX0_refusal 64 = .ok (.iload 6, 2) := by decide +kernel
theorem dX0_refusal_66 : decode cX0_refusal 66 = .ok (.ishl, 1) := by decide +kernel
theorem dX0_refusal_67 : decode cX0_refusal 67 = .ok (.ior, 1) := by decide +kernel
theorem dX0_refusal_68 : decode cX0_refusal 68 = .ok (.istore 5, 2) := by decide +kernel
theorem dX0_refusal_70 : decode cX0_refusal 70 = .ok (.iinc 6 1, 3) := by decide +kernel
theorem dX0_refusal_73 : decode cX0_refusal 73 = .ok (.goto (-45), 3) := by decide +kernel
theorem dX0_refusal_76 : decode cX0_refusal 76 = .ok (.iload_n 3, 1) := by decide +kernel
theorem dX0_refusal_77 : decode cX0_refusal 77 = .ok (.aload_n 0, 1) := by decide +kernel
theorem dX0_refusal_78 : decode cX0_refusal 78 = .ok (.getfield 18, 3) := by decide +kernel
theorem dX0_refusal_81 : decode cX0_refusal 81 = .ok (.iload_n 2, 1) := by decide +kernel
theorem dX0_refusal_82 : decode cX0_refusal 82 = .ok (.iaload, 1) := by decide +kernel
theorem dX0_refusal_83 : decode cX0_refusal 83 = .ok (.if_icmp .le 5, 3) := by decide +kernel
theorem dX0_refusal_86 : decode cX0_refusal 86 = .ok (.iconst 2, 1) := by decide +kernel
theorem dX0_refusal_87 : decode cX0_refusal 87 = .ok (.ireturn, 1) := by decide +kernel
theorem dX0_refusal_88 : decode cX0_refusal 88 = .ok (.iload 4, 2) := by decide +kernel
theorem dX0_refusal_90 : decode cX0_refusal 90 = .ok (.getstatic 69, 3) := by decide +kernel
theorem dX0_refusal_93 : decode cX0_refusal 93 = .ok (.aload_n 0, 1) := by decide +kernel
theorem dX0_refusal_94 : decode cX0_refusal 94 = .ok (.getfield 9, 3) := by decide +kernel
theorem dX0_refusal_97 : decode cX0_refusal 97 = .ok (.iload_n 2, 1) := by decide +kernel
theorem dX0_refusal_98 : decode cX0_refusal 98 = .ok (.iaload, 1) := by decide +kernel
theorem dX0_refusal_99 : decode cX0_refusal 99 = .ok (.iaload, 1) := by decide +kernel
theorem dX0_refusal_100 : decode cX0_refusal 100 = .ok (.if_icmp .le 5, 3) := by decide +kernel
theorem dX0_refusal_103 : decode cX0_refusal 103 = .ok (.iconst 3, 1) := by decide +kernel
theorem dX0_refusal_104 : decode cX0_refusal 104 = .ok (.ireturn, 1) := by decide +kernel
theorem dX0_refusal_105 : decode cX0_refusal 105 = .ok (.aload_n 0, 1) := by decide +kernel
theorem dX0_refusal_106 : decode cX0_refusal 106 = .ok (.getfield 24, 3) := by decide +kernel
theorem dX0_refusal_109 : decode cX0_refusal 109 = .ok (.iload_n 1, 1) := by decide +kernel
theorem dX0_refusal_110 : decode cX0_refusal 110 = .ok (.iaload, 1) := by decide +kernel
theorem dX0_refusal_111 : decode cX0_refusal 111 = .ok (.iconst 1, 1) := by decide +kernel
theorem dX0_refusal_112 : decode cX0_refusal 112 = .ok (.if_icmp .ne 19, 3) := by decide +kernel
theorem dX0_refusal_115 : decode cX0_refusal 115 = .ok (.getstatic 62, 3) := by decide +kernel
theorem dX0_refusal_118 : decode cX0_refusal 118 = .ok (.aload_n 0, 1) := by decide +kernel
theorem dX0_refusal_119 : decode cX0_refusal 119 = .ok (.getfield 9, 3) := by decide +kernel
theorem dX0_refusal_122 : decode cX0_refusal 122 = .ok (.iload_n 2, 1) := by decide +kernel
theorem dX0_refusal_123 : decode cX0_refusal 123 = .ok (.iaload, 1) := by decide +kernel
theorem dX0_refusal_124 : decode cX0_refusal 124 = .ok (.iaload, 1) := by decide +kernel
theorem dX0_refusal_125 : decode cX0_refusal 125 = .ok (.iconst 1, 1) := by decide +kernel
theorem dX0_refusal_126 : decode cX0_refusal 126 = .ok (.if_icmp .ne 5, 3) := by decide +kernel
theorem dX0_refusal_129 : decode cX0_refusal 129 = .ok (.iconst 4, 1) := by decide +kernel
theorem dX0_refusal_130 : decode cX0_refusal 130 = .ok (.ireturn, 1) := by decide +kernel
theorem dX0_refusal_131 : decode cX0_refusal 131 = .ok (.aload_n 0, 1) := by decide +kernel
theorem dX0_refusal_132 : decode cX0_refusal 132 = .ok (.getfield 27, 3) := by decide +kernel
theorem dX0_refusal_135 : decode cX0_refusal 135 = .ok (.iload_n 1, 1) := by decide +kernel
theorem dX0_refusal_136 : decode cX0_refusal 136 = .ok (.iaload, 1) := by decide +kernel
theorem dX0_refusal_137 : decode cX0_refusal 137 = .ok (.iload 5, 2) := by decide +kernel
theorem dX0_refusal_139 : decode cX0_refusal 139 = .ok (.iand, 1) := by decide +kernel
theorem dX0_refusal_140 : decode cX0_refusal 140 = .ok (.ifCond .eq 7, 3) := by decide +kernel
theorem dX0_refusal_143 : decode cX0_refusal 143 = .ok (.iconst 5, 1) := by decide +kernel
theorem dX0_refusal_144 : decode cX0_refusal 144 = .ok (.goto 4, 3) := by decide +kernel
theorem dX0_refusal_147 : decode cX0_refusal 147 = .ok (.iconst 0, 1) := by decide +kernel
theorem dX0_refusal_148 : decode cX0_refusal 148 = .ok (.ireturn, 1) := by decide +kernel
theorem dX0_movesThatCanBe_0 : decode cX0_movesThatCanBe 0 = .ok (.iconst 0, 1) := by decide +kernel
theorem dX0_movesThatCanBe_1 : decode cX0_movesThatCanBe 1 = .ok (.istore_n 1, 1) := by decide +kernel
theorem dX0_movesThatCanBe_2 : decode cX0_movesThatCanBe 2 = .ok (.iconst 0, 1) := by decide +kernel
theorem dX0_movesThatCanBe_3 : decode cX0_movesThatCanBe 3 = .ok (.istore_n 2, 1) := by decide +kernel
theorem dX0_movesThatCanBe_4 : decode cX0_movesThatCanBe 4 = .ok (.iload_n 2, 1) := by decide +kernel
theorem dX0_movesThatCanBe_5 : decode cX0_movesThatCanBe 5 = .ok (.aload_n 0, 1) := by decide +kernel
theorem dX0_movesThatCanBe_6 : decode cX0_movesThatCanBe 6 = .ok (.getfield 52, 3) := by decide +kernel
theorem dX0_movesThatCanBe_9 : decode cX0_movesThatCanBe 9 = .ok (.if_icmp .ge 37, 3) := by decide +kernel
theorem dX0_movesThatCanBe_12 : decode cX0_movesThatCanBe 12 = .ok (.iconst 0, 1) := by decide +kernel
theorem dX0_movesThatCanBe_13 : decode cX0_movesThatCanBe 13 = .ok (.istore_n 3, 1) := by decide +kernel
theorem dX0_movesThatCanBe_14 : decode cX0_movesThatCanBe 14 = .ok (.iload_n 3, 1) := by decide +kernel
theorem dX0_movesThatCanBe_15 : decode cX0_movesThatCanBe 15 = .ok (.aload_n 0, 1) := by decide +kernel
theorem dX0_movesThatCanBe_16 : decode cX0_movesThatCanBe 16 = .ok (.getfield 49, 3) := by decide +kernel
theorem dX0_movesThatCanBe_19 : decode cX0_movesThatCanBe 19 = .ok (.if_icmp .ge 21, 3) := by decide +kernel
theorem dX0_movesThatCanBe_22 : decode cX0_movesThatCanBe 22 = .ok (.aload_n 0, 1) := by decide +kernel
theorem dX0_movesThatCanBe_23 : decode cX0_movesThatCanBe 23 = .ok (.iload_n 2, 1) := by decide +kernel
theorem dX0_movesThatCanBe_24 : decode cX0_movesThatCanBe 24 = .ok (.iload_n 3, 1) := by decide +kernel
theorem dX0_movesThatCanBe_25 : decode cX0_movesThatCanBe 25 = .ok (.invokevirtual 72, 3) := by decide +kernel
theorem dX0_movesThatCanBe_28 : decode cX0_movesThatCanBe 28 = .ok (.ifCond .ne 6, 3) := by decide +kernel
theorem dX0_movesThatCanBe_31 : decode cX0_movesThatCanBe 31 = .ok (.iinc 1 1, 3) := by decide +kernel
theorem dX0_movesThatCanBe_34 : decode cX0_movesThatCanBe 34 = .ok (.iinc 3 1, 3) := by decide +kernel
theorem dX0_movesThatCanBe_37 : decode cX0_movesThatCanBe 37 = .ok (.goto (-23), 3) := by decide +kernel
theorem dX0_movesThatCanBe_40 : decode cX0_movesThatCanBe 40 = .ok (.iinc 2 1, 3) := by decide +kernel
theorem dX0_movesThatCanBe_43 : decode cX0_movesThatCanBe 43 = .ok (.goto (-39), 3) := by decide +kernel
theorem dX0_movesThatCanBe_46 : decode cX0_movesThatCanBe 46 = .ok (.iload_n 1, 1) := by decide +kernel
theorem dX0_movesThatCanBe_47 : decode cX0_movesThatCanBe 47 = .ok (.ireturn, 1) := by decide +kernel
theorem dX0_freeHands_0 : decode cX0_freeHands 0 = .ok (.iconst 0, 1) := by decide +kernel
theorem dX0_freeHands_1 : decode cX0_freeHands 1 = .ok (.istore_n 1, 1) := by decide +kernel
theorem dX0_freeHands_2 : decode cX0_freeHands 2 = .ok (.iconst 0, 1) := by decide +kernel
theorem dX0_freeHands_3 : decode cX0_freeHands 3 = .ok (.istore_n 2, 1) := by decide +kernel
theorem dX0_freeHands_4 : decode cX0_freeHands 4 = .ok (.iload_n 2, 1) := by decide +kernel
theorem dX0_freeHands_5 : decode cX0_freeHands 5 = .ok (.aload_n 0, 1) := by decide +kernel
theorem dX0_freeHands_6 : decode cX0_freeHands 6 = .ok (.getfield 52, 3) := by decide +kernel
theorem dX0_freeHands_9 : decode cX0_freeHands 9 = .ok (.if_icmp .ge 30, 3) := by decide +kernel
theorem dX0_freeHands_12 : decode cX0_freeHands 12 = .ok (.aload_n 0, 1) := by decide +kernel
theorem dX0_freeHands_13 : decode cX0_freeHands 13 = .ok (.getfield 30, 3) := by decide +kernel
theorem dX0_freeHands_16 : decode cX0_freeHands 16 = .ok (.iload_n 2, 1) := by decide +kernel
theorem dX0_freeHands_17 : decode cX0_freeHands 17 = .ok (.iaload, 1) := by decide +kernel
theorem dX0_freeHands_18 : decode cX0_freeHands 18 = .ok (.iconst (-1), 1) := by decide +kernel
theorem dX0_freeHands_19 : decode cX0_freeHands 19 = .ok (.if_icmp .eq 14, 3) := by decide +kernel
theorem dX0_freeHands_22 : decode cX0_freeHands 22 = .ok (.iload_n 1, 1) := by decide +kernel
theorem dX0_freeHands_23 : decode cX0_freeHands 23 = .ok (.iconst 1, 1) := by decide +kernel
theorem dX0_freeHands_24 : decode cX0_freeHands 24 = .ok (.aload_n 0, 1) := by decide +kernel
theorem dX0_freeHands_25 : decode cX0_freeHands 25 = .ok (.getfield 30, 3) := by decide +kernel
theorem dX0_freeHands_28 : decode cX0_freeHands 28 = .ok (.iload_n 2, 1) := by decide +kernel
theorem dX0_freeHands_29 : decode cX0_freeHands 29 = .ok (.iaload, 1) := by decide +kernel
theorem dX0_freeHands_30 : decode cX0_freeHands 30 = .ok (.ishl, 1) := by decide +kernel
theorem dX0_freeHands_31 : decode cX0_freeHands 31 = .ok (.ior, 1) := by decide +kernel
theorem dX0_freeHands_32 : decode cX0_freeHands 32 = .ok (.istore_n 1, 1) := by decide +kernel
theorem dX0_freeHands_33 : decode cX0_freeHands 33 = .ok (.iinc 2 1, 3) := by decide +kernel
theorem dX0_freeHands_36 : decode cX0_freeHands 36 = .ok (.goto (-32), 3) := by decide +kernel
theorem dX0_freeHands_39 : decode cX0_freeHands 39 = .ok (.iconst 0, 1) := by decide +kernel
theorem dX0_freeHands_40 : decode cX0_freeHands 40 = .ok (.istore_n 2, 1) := by decide +kernel
theorem dX0_freeHands_41 : decode cX0_freeHands 41 = .ok (.iconst 0, 1) := by decide +kernel
theorem dX0_freeHands_42 : decode cX0_freeHands 42 = .ok (.istore_n 3, 1) := by decide +kernel
theorem dX0_freeHands_43 : decode cX0_freeHands 43 = .ok (.iload_n 3, 1) := by decide +kernel
theorem dX0_freeHands_44 : decode cX0_freeHands 44 = .ok (.aload_n 0, 1) := by decide +kernel
theorem dX0_freeHands_45 : decode cX0_freeHands 45 = .ok (.getfield 49, 3) := by decide +kernel
theorem dX0_freeHands_48 : decode cX0_freeHands 48 = .ok (.if_icmp .ge 34, 3) := by decide +kernel
theorem dX0_freeHands_51 : decode cX0_freeHands 51 = .ok (.getstatic 75, 3) := by decide +kernel
theorem dX0_freeHands_54 : decode cX0_freeHands 54 = .ok (.aload_n 0, 1) := by decide +kernel
theorem dX0_freeHands_55 : decode cX0_freeHands 55 = .ok (.getfield 9, 3) := by decide +kernel
theorem dX0_freeHands_58 : decode cX0_freeHands 58 = .ok (.iload_n 3, 1) := by decide +kernel
theorem dX0_freeHands_59 : decode cX0_freeHands 59 = .ok (.iaload, 1) := by decide +kernel
theorem dX0_freeHands_60 : decode cX0_freeHands 60 = .ok (.iaload, 1) := by decide +kernel
theorem dX0_freeHands_61 : decode cX0_freeHands 61 = .ok (.iconst 1, 1) := by decide +kernel
theorem dX0_freeHands_62 : decode cX0_freeHands 62 = .ok (.if_icmp .ne 14, 3) := by decide +kernel
theorem dX0_freeHands_65 : decode cX0_freeHands 65 = .ok (.iload_n 1, 1) := by decide +kernel
theorem dX0_freeHands_66 : decode cX0_freeHands 66 = .ok (.iload_n 3, 1) := by decide +kernel
theorem dX0_freeHands_67 : decode cX0_freeHands 67 = .ok (.ishr, 1) := by decide +kernel
theorem dX0_freeHands_68 : decode cX0_freeHands 68 = .ok (.iconst 1, 1) := by decide +kernel
theorem dX0_freeHands_69 : decode cX0_freeHands 69 = .ok (.iand, 1) := by decide +kernel
theorem dX0_freeHands_70 : decode cX0_freeHands 70 = .ok (.ifCond .ne 6, 3) := by decide +kernel
theorem dX0_freeHands_73 : decode cX0_freeHands 73 = .ok (.iinc 2 1, 3) := by decide +kernel
theorem dX0_freeHands_76 : decode cX0_freeHands 76 = .ok (.iinc 3 1, 3) := by decide +kernel
theorem dX0_freeHands_79 : decode cX0_freeHands 79 = .ok (.goto (-36), 3) := by decide +kernel
theorem dX0_freeHands_82 : decode cX0_freeHands 82 = .ok (.iload_n 2, 1) := by decide +kernel
theorem dX0_freeHands_83 : decode cX0_freeHands 83 = .ok (.ireturn, 1) := by decide +kernel
theorem dX0_isOpen_0 : decode cX0_isOpen 0 = .ok (.aload_n 0, 1) := by decide +kernel
theorem dX0_isOpen_1 : decode cX0_isOpen 1 = .ok (.getfield 33, 3) := by decide +kernel
theorem dX0_isOpen_4 : decode cX0_isOpen 4 = .ok (.iconst (-1), 1) := by decide +kernel
theorem dX0_isOpen_5 : decode cX0_isOpen 5 = .ok (.if_icmp .eq 16, 3) := by decide +kernel
theorem dX0_isOpen_8 : decode cX0_isOpen 8 = .ok (.aload_n 0, 1) := by decide +kernel
theorem dX0_isOpen_9 : decode cX0_isOpen 9 = .ok (.getfield 30, 3) := by decide +kernel
theorem dX0_isOpen_12 : decode cX0_isOpen 12 = .ok (.aload_n 0, 1) := by decide +kernel
theorem dX0_isOpen_13 : decode cX0_isOpen 13 = .ok (.getfield 33, 3) := by decide +kernel
theorem dX0_isOpen_16 : decode cX0_isOpen 16 = .ok (.iaload, 1) := by decide +kernel
theorem dX0_isOpen_17 : decode cX0_isOpen 17 = .ok (.iconst (-1), 1) := by decide +kernel
theorem dX0_isOpen_18 : decode cX0_isOpen 18 = .ok (.if_icmp .ne 5, 3) := by decide +kernel
theorem dX0_isOpen_21 : decode cX0_isOpen 21 = .ok (.iconst 0, 1) := by decide +kernel
theorem dX0_isOpen_22 : decode cX0_isOpen 22 = .ok (.ireturn, 1) := by decide +kernel
theorem dX0_isOpen_23 : decode cX0_isOpen 23 = .ok (.getstatic 75, 3) := by decide +kernel
theorem dX0_isOpen_26 : decode cX0_isOpen 26 = .ok (.aload_n 0, 1) := by decide +kernel
theorem dX0_isOpen_27 : decode cX0_isOpen 27 = .ok (.getfield 9, 3) := by decide +kernel
theorem dX0_isOpen_30 : decode cX0_isOpen 30 = .ok (.aload_n 0, 1) := by decide +kernel
theorem dX0_isOpen_31 : decode cX0_isOpen 31 = .ok (.getfield 30, 3) := by decide +kernel
theorem dX0_isOpen_34 : decode cX0_isOpen 34 = .ok (.aload_n 0, 1) := by decide +kernel
theorem dX0_isOpen_35 : decode cX0_isOpen 35 = .ok (.getfield 33, 3) := by decide +kernel
theorem dX0_isOpen_38 : decode cX0_isOpen 38 = .ok (.iaload, 1) := by decide +kernel
theorem dX0_isOpen_39 : decode cX0_isOpen 39 = .ok (.iaload, 1) := by decide +kernel
theorem dX0_isOpen_40 : decode cX0_isOpen 40 = .ok (.iaload, 1) := by decide +kernel
theorem dX0_isOpen_41 : decode cX0_isOpen 41 = .ok (.iconst 1, 1) := by decide +kernel
theorem dX0_isOpen_42 : decode cX0_isOpen 42 = .ok (.if_icmp .ne 18, 3) := by decide +kernel
theorem dX0_isOpen_45 : decode cX0_isOpen 45 = .ok (.aload_n 0, 1) := by decide +kernel
theorem dX0_isOpen_46 : decode cX0_isOpen 46 = .ok (.invokevirtual 78, 3) := by decide +kernel
theorem dX0_isOpen_49 : decode cX0_isOpen 49 = .ok (.aload_n 0, 1) := by decide +kernel
theorem dX0_isOpen_50 : decode cX0_isOpen 50 = .ok (.getfield 37, 3) := by decide +kernel
theorem dX0_isOpen_53 : decode cX0_isOpen 53 = .ok (.if_icmp .lt 7, 3) := by decide +kernel
theorem dX0_isOpen_56 : decode cX0_isOpen 56 = .ok (.iconst 1, 1) := by decide +kernel
theorem dX0_isOpen_57 : decode cX0_isOpen 57 = .ok (.goto 4, 3) := by decide +kernel
theorem dX0_isOpen_60 : decode cX0_isOpen 60 = .ok (.iconst 0, 1) := by decide +kernel
theorem dX0_isOpen_61 : decode cX0_isOpen 61 = .ok (.ireturn, 1) := by decide +kernel
theorem dX1_init_0 : decode cX1_init 0 = .ok (.aload_n 0, 1) := by decide +kernel
theorem dX1_init_1 : decode cX1_init 1 = .ok (.invokespecial 5, 3) := by decide +kernel
theorem dX1_init_4 : decode cX1_init 4 = .ok (.aload_n 0, 1) := by decide +kernel
theorem dX1_init_5 : decode cX1_init 5 = .ok (.sipush 3125, 3) := by decide +kernel
theorem dX1_init_8 : decode cX1_init 8 = .ok (.newarray .int, 2) := by decide +kernel
theorem dX1_init_10 : decode cX1_init 10 = .ok (.putfield 11, 3) := by decide +kernel
theorem dX1_init_13 : decode cX1_init 13 = .ok (.aload_n 0, 1) := by decide +kernel
theorem dX1_init_14 : decode cX1_init 14 = .ok (.sipush 3125, 3) := by decide +kernel
theorem dX1_init_17 : decode cX1_init 17 = .ok (.newarray .int, 2) := by decide +kernel
theorem dX1_init_19 : decode cX1_init 19 = .ok (.putfield 15, 3) := by decide +kernel
theorem dX1_init_22 : decode cX1_init 22 = .ok (.aload_n 0, 1) := by decide +kernel
theorem dX1_init_23 : decode cX1_init 23 = .ok (.sipush 3125, 3) := by decide +kernel
theorem dX1_init_26 : decode cX1_init 26 = .ok (.newarray .int, 2) := by decide +kernel
theorem dX1_init_28 : decode cX1_init 28 = .ok (.putfield 18, 3) := by decide +kernel
theorem dX1_init_31 : decode cX1_init 31 = .ok (.aload_n 0, 1) := by decide +kernel
theorem dX1_init_32 : decode cX1_init 32 = .ok (.sipush 3125, 3) := by decide +kernel
theorem dX1_init_35 : decode cX1_init 35 = .ok (.newarray .int, 2) := by decide +kernel
theorem dX1_init_37 : decode cX1_init 37 = .ok (.putfield 21, 3) := by decide +kernel
theorem dX1_init_40 : decode cX1_init 40 = .ok (.aload_n 0, 1) := by decide +kernel
theorem dX1_init_41 : decode cX1_init 41 = .ok (.bipush 100, 2) := by decide +kernel
theorem dX1_init_43 : decode cX1_init 43 = .ok (.newarray .int, 2) := by decide +kernel
theorem dX1_init_45 : decode cX1_init 45 = .ok (.putfield 24, 3) := by decide +kernel
theorem dX1_init_48 : decode cX1_init 48 = .ok (.aload_n 0, 1) := by decide +kernel
theorem dX1_init_49 : decode cX1_init 49 = .ok (.bipush 125, 2) := by decide +kernel
theorem dX1_init_51 : decode cX1_init 51 = .ok (.newarray .int, 2) := by decide +kernel
theorem dX1_init_53 : decode cX1_init 53 = .ok (.putfield 27, 3) := by decide +kernel
theorem dX1_init_56 : decode cX1_init 56 = .ok (.aload_n 0, 1) := by decide +kernel
theorem dX1_init_57 : decode cX1_init 57 = .ok (.iconst 5, 1) := by decide +kernel
theorem dX1_init_58 : decode cX1_init 58 = .ok (.newarray .int, 2) := by decide +kernel
theorem dX1_init_60 : decode cX1_init 60 = .ok (.putfield 30, 3) := by decide +kernel
theorem dX1_init_63 : decode cX1_init 63 = .ok (.aload_n 0, 1) := by decide +kernel
theorem dX1_init_64 : decode cX1_init 64 = .ok (.iconst 5, 1) := by decide +kernel
theorem dX1_init_65 : decode cX1_init 65 = .ok (.newarray .int, 2) := by decide +kernel
theorem dX1_init_67 : decode cX1_init 67 = .ok (.putfield 33, 3) := by decide +kernel
theorem dX1_init_70 : decode cX1_init 70 = .ok (.aload_n 0, 1) := by decide +kernel
theorem dX1_init_71 : decode cX1_init 71 = .ok (.bipush 25, 2) := by decide +kernel
theorem dX1_init_73 : decode cX1_init 73 = .ok (.newarray .int, 2) := by decide +kernel
theorem dX1_init_75 : decode cX1_init 75 = .ok (.putfield 36, 3) := by decide +kernel
theorem dX1_init_78 : decode cX1_init 78 = .ok (.aload_n 0, 1) := by decide +kernel
theorem dX1_init_79 : decode cX1_init 79 = .ok (.bipush 25, 2) := by decide +kernel
theorem dX1_init_81 : decode cX1_init 81 = .ok (.newarray .int, 2) := by decide +kernel
theorem dX1_init_83 : decode cX1_init 83 = .ok (.putfield 39, 3) := by decide +kernel
theorem dX1_init_86 : decode cX1_init 86 = .ok (.return_, 1) := by decide +kernel
theorem dX1_look_0 : decode cX1_look 0 = .ok (.aload_n 0, 1) := by decide +kernel
theorem dX1_look_1 : decode cX1_look 1 = .ok (.aload_n 1, 1) := by decide +kernel
theorem dX1_look_2 : decode cX1_look 2 = .ok (.putfield 42, 3) := by decide +kernel
theorem dX1_look_5 : decode cX1_look 5 = .ok (.aload_n 0, 1) := by decide +kernel
theorem dX1_look_6 : decode cX1_look 6 = .ok (.iconst 1, 1) := by decide +kernel
theorem dX1_look_7 : decode cX1_look 7 = .ok (.putfield 46, 3) := by decide +kernel
theorem dX1_look_10 : decode cX1_look 10 = .ok (.aload_n 0, 1) := by decide +kernel
theorem dX1_look_11 : decode cX1_look 11 = .ok (.iconst 0, 1) := by decide +kernel
theorem dX1_look_12 : decode cX1_look 12 = .ok (.putfield 50, 3) := by decide +kernel
theorem dX1_look_15 : decode cX1_look 15 = .ok (.iconst 0, 1) := by decide +kernel
theorem dX1_look_16 : decode cX1_look 16 = .ok (.istore_n 2, 1) := by decide +kernel
theorem dX1_look_17 : decode cX1_look 17 = .ok (.iload_n 2, 1) := by decide +kernel
theorem dX1_look_18 : decode cX1_look 18 = .ok (.aload_n 0, 1) := by decide +kernel
theorem dX1_look_19 : decode cX1_look 19 = .ok (.getfield 42, 3) := by decide +kernel
theorem dX1_look_22 : decode cX1_look 22 = .ok (.getfield 53, 3) := by decide +kernel
theorem dX1_look_25 : decode cX1_look 25 = .ok (.if_icmp .ge 81, 3) := by decide +kernel
theorem dX1_look_28 : decode cX1_look 28 = .ok (.aload_n 0, 1) := by decide +kernel
theorem dX1_look_29 : decode cX1_look 29 = .ok (.getfield 30, 3) := by decide +kernel
theorem dX1_look_32 : decode cX1_look 32 = .ok (.iload_n 2, 1) := by decide +kernel
theorem dX1_look_33 : decode cX1_look 33 = .ok (.aload_n 0, 1) := by decide +kernel
theorem dX1_look_34 : decode cX1_look 34 = .ok (.getfield 46, 3) := by decide +kernel
theorem dX1_look_37 : decode cX1_look 37 = .ok (.iastore, 1) := by decide +kernel
theorem dX1_look_38 : decode cX1_look 38 = .ok (.aload_n 0, 1) := by decide +kernel
theorem dX1_look_39 : decode cX1_look 39 = .ok (.dup, 1) := by decide +kernel
theorem dX1_look_40 : decode cX1_look 40 = .ok (.getfield 46, 3) := by decide +kernel
theorem dX1_look_43 : decode cX1_look 43 = .ok (.aload_n 0, 1) := by decide +kernel
theorem dX1_look_44 : decode cX1_look 44 = .ok (.getfield 42, 3) := by decide +kernel
theorem dX1_look_47 : decode cX1_look 47 = .ok (.getfield 58, 3) := by decide +kernel
theorem dX1_look_50 : decode cX1_look 50 = .ok (.imul, 1) := by decide +kernel
theorem dX1_look_51 : decode cX1_look 51 = .ok (.putfield 46, 3) := by decide +kernel
theorem dX1_look_54 : decode cX1_look 54 = .ok (.iload_n 2, 1) := by decide +kernel
theorem dX1_look_55 : decode cX1_look 55 = .ok (.aload_n 0, 1) := by decide +kernel
theorem dX1_look_56 : decode cX1_look 56 = .ok (.getfield 42, 3) := by decide +kernel
theorem dX1_look_59 : decode cX1_look 59 = .ok (.getfield 61, 3) := by decide +kernel
theorem dX1_look_62 : decode cX1_look 62 = .ok (.if_icmp .eq 28, 3) := by decide +kernel
theorem dX1_look_65 : decode cX1_look 65 = .ok (.aload_n 0, 1) := by decide +kernel
theorem dX1_look_66 : decode cX1_look 66 = .ok (.dup, 1) := by decide +kernel
theorem dX1_look_67 : decode cX1_look 67 = .ok (.getfield 50, 3) := by decide +kernel
theorem dX1_look_70 : decode cX1_look 70 = .ok (.aload_n 0, 1) := by decide +kernel
theorem dX1_look_71 : decode cX1_look 71 = .ok (.getfield 42, 3) := by decide +kernel
theorem dX1_look_74 : decode cX1_look 74 = .ok (.getfield 64, 3) := by decide +kernel
theorem dX1_look_77 : decode cX1_look 77 = .ok (.iload_n 2, 1) := by decide +kernel
theorem dX1_look_78 : decode cX1_look 78 = .ok (.iaload, 1) := by decide +kernel
theorem dX1_look_79 : decode cX1_look 79 = .ok (.aload_n 0, 1) := by decide +kernel
theorem dX1_look_80 : decode cX1_look 80 = .ok (.getfield 30, 3) := by decide +kernel
theorem dX1_look_83 : decode cX1_look 83 = .ok (.iload_n 2, 1) := by decide +kernel
theorem dX1_look_84 : decode cX1_look 84 = .ok (.iaload, 1) := by decide +kernel
theorem dX1_look_85 : decode cX1_look 85 = .ok (.imul, 1) := by decide +kernel
theorem dX1_look_86 : decode cX1_look 86 = .ok (.iadd, 1) := by decide +kernel
theorem dX1_look_87 : decode cX1_look 87 = .ok (.putfield 50, 3) := by decide +kernel
theorem dX1_look_90 : decode cX1_look 90 = .ok (.aload_n 0, 1) := by decide +kernel
theorem dX1_look_91 : decode cX1_look 91 = .ok (.getfield 42, 3) := by decide +kernel
theorem dX1_look_94 : decode cX1_look 94 = .ok (.getfield 64, 3) := by decide +kernel
theorem dX1_look_97 : decode cX1_look 97 = .ok (.iload_n 2, 1) := by decide +kernel
theorem dX1_look_98 : decode cX1_look 98 = .ok (.iconst (-1), 1) := by decide +kernel
theorem dX1_look_99 : decode cX1_look 99 = .ok (.iastore, 1) := by decide +kernel
theorem dX1_look_100 : decode cX1_look 100 = .ok (.iinc 2 1, 3) := by decide +kernel
theorem dX1_look_103 : decode cX1_look 103 = .ok (.goto (-86), 3) := by decide +kernel
theorem dX1_look_106 : decode cX1_look 106 = .ok (.iconst 0, 1) := by decide +kernel
theorem dX1_look_107 : decode cX1_look 107 = .ok (.istore_n 2, 1) := by decide +kernel
theorem dX1_look_108 : decode cX1_look 108 = .ok (.iload_n 2, 1) := by decide +kernel
theorem dX1_look_109 : decode cX1_look 109 = .ok (.aload_n 0, 1) := by decide +kernel
theorem dX1_look_110 : decode cX1_look 110 = .ok (.getfield 46, 3) := by decide +kernel
theorem dX1_look_113 : decode cX1_look 113 = .ok (.if_icmp .ge 16, 3) := by decide +kernel
theorem dX1_look_116 : decode cX1_look 116 = .ok (.aload_n 0, 1) := by decide +kernel
theorem dX1_look_117 : decode cX1_look 117 = .ok (.getfield 11, 3) := by decide +kernel
theorem dX1_look_120 : decode cX1_look 120 = .ok (.iload_n 2, 1) := by decide +kernel
theorem dX1_look_121 : decode cX1_look 121 = .ok (.iconst 0, 1) := by decide +kernel
theorem dX1_look_122 : decode cX1_look 122 = .ok (.iastore, 1) := by decide +kernel
theorem dX1_look_123 : decode cX1_look 123 = .ok (.iinc 2 1, 3) := by decide +kernel
theorem dX1_look_126 : decode cX1_look 126 = .ok (.goto (-18), 3) := by decide +kernel
theorem dX1_look_129 : decode cX1_look 129 = .ok (.aload_n 0, 1) := by decide +kernel
theorem dX1_look_130 : decode cX1_look 130 = .ok (.iconst 0, 1) := by decide +kernel
theorem dX1_look_131 : decode cX1_look 131 = .ok (.iconst 0, 1) := by decide +kernel
theorem dX1_look_132 : decode cX1_look 132 = .ok (.invokevirtual 67, 3) := by decide +kernel
theorem dX1_look_135 : decode cX1_look 135 = .ok (.aload_n 0, 1) := by decide +kernel
theorem dX1_look_136 : decode cX1_look 136 = .ok (.aload_n 0, 1) := by decide +kernel
theorem dX1_look_137 : decode cX1_look 137 = .ok (.getfield 50, 3) := by decide +kernel
theorem dX1_look_140 : decode cX1_look 140 = .ok (.invokevirtual 71, 3) := by decide +kernel
theorem dX1_look_143 : decode cX1_look 143 = .ok (.iconst 0, 1) := by decide +kernel
theorem dX1_look_144 : decode cX1_look 144 = .ok (.istore_n 2, 1) := by decide +kernel
theorem dX1_look_145 : decode cX1_look 145 = .ok (.iload_n 2, 1) := by decide +kernel
theorem dX1_look_146 : decode cX1_look 146 = .ok (.aload_n 0, 1) := by decide +kernel
theorem dX1_look_147 : decode cX1_look 147 = .ok (.getfield 42, 3) := by decide +kernel
theorem dX1_look_150 : decode cX1_look 150 = .ok (.getfield 53, 3) := by decide +kernel
theorem dX1_look_153 : decode cX1_look 153 = .ok (.if_icmp .ge 39, 3) := by decide +kernel
theorem dX1_look_156 : decode cX1_look 156 = .ok (.aload_n 0, 1) := by decide +kernel
theorem dX1_look_157 : decode cX1_look 157 = .ok (.getfield 42, 3) := by decide +kernel
theorem dX1_look_160 : decode cX1_look 160 = .ok (.getfield 64, 3) := by decide +kernel
theorem dX1_look_163 : decode cX1_look 163 = .ok (.iload_n 2, 1) := by decide +kernel
theorem dX1_look_164 : decode cX1_look 164 = .ok (.iload_n 2, 1) := by decide +kernel
theorem dX1_look_165 : decode cX1_look 165 = .ok (.aload_n 0, 1) := by decide +kernel
theorem dX1_look_166 : decode cX1_look 166 = .ok (.getfield 42, 3) := by decide +kernel
theorem dX1_look_169 : decode cX1_look 169 = .ok (.getfield 61, 3) := by decide +kernel
theorem dX1_look_172 : decode cX1_look 172 = .ok (.if_icmp .ne 7, 3) := by decide +kernel
theorem dX1_look_175 : decode cX1_look 175 = .ok (.iconst (-1), 1) := by decide +kernel
theorem dX1_look_176 : decode cX1_look 176 = .ok (.goto 9, 3) := by decide +kernel
theorem dX1_look_179 : decode cX1_look 179 = .ok (.aload_n 0, 1) := by decide +kernel
theorem dX1_look_180 : decode cX1_look 180 = .ok (.getfield 33, 3) := by decide +kernel
theorem dX1_look_183 : decode cX1_look 183 = .ok (.iload_n 2, 1) := by decide +kernel
theorem dX1_look_184 : decode cX1_look 184 = .ok (.iaload, 1) := by decide +kernel
theorem dX1_look_185 : decode cX1_look 185 = .ok (.iastore, 1) := by decide +kernel
theorem dX1_look_186 : decode cX1_look 186 = .ok (.iinc 2 1, 3) := by decide +kernel
theorem dX1_look_189 : decode cX1_look 189 = .ok (.goto (-44), 3) := by decide +kernel
theorem dX1_look_192 : decode cX1_look 192 = .ok (.return_, 1) := by decide +kernel
theorem dX1_lay_0 : decode cX1_lay 0 = .ok (.iload_n 1, 1) := by decide +kernel
theorem dX1_lay_1 : decode cX1_lay 1 = .ok (.aload_n 0, 1) := by decide +kernel
theorem dX1_lay_2 : decode cX1_lay 2 = .ok (.getfield 42, 3) := by decide +kernel
theorem dX1_lay_5 : decode cX1_lay 5 = .ok (.getfield 53, 3) := by decide +kernel
theorem dX1_lay_8 : decode cX1_lay 8 = .ok (.if_icmp .lt 25, 3) := by decide +kernel
theorem dX1_lay_11 : decode cX1_lay 11 = .ok (.aload_n 0, 1) := by decide +kernel
theorem dX1_lay_12 : decode cX1_lay 12 = .ok (.getfield 11, 3) := by decide +kernel
theorem dX1_lay_15 : decode cX1_lay 15 = .ok (.iload_n 2, 1) := by decide +kernel
theorem dX1_lay_16 : decode cX1_lay 16 = .ok (.aload_n 0, 1) := by decide +kernel
theorem dX1_lay_17 : decode cX1_lay 17 = .ok (.getfield 42, 3) := by decide +kernel
theorem dX1_lay_20 : decode cX1_lay 20 = .ok (.invokevirtual 75, 3) := by decide +kernel
theorem dX1_lay_23 : decode cX1_lay 23 = .ok (.ifCond .eq 7, 3) := by decide +kernel
theorem dX1_lay_26 : decode cX1_lay 26 = .ok (.iconst 2, 1) := by decide +kernel
theorem dX1_lay_27 : decode cX1_lay 27 = .ok (.goto 4, 3) := by decide +kernel
theorem dX1_lay_30 : decode cX1_lay 30 = .ok (.iconst 1, 1) := by decide +kernel
theorem dX1_lay_31 : decode cX1_lay 31 = .ok (.iastore, 1) := by decide +kernel
theorem dX1_lay_32 : decode cX1_lay 32 = .ok (.return_, 1) := by decide +kernel
theorem dX1_lay_33 : decode cX1_lay 33 = .ok (.iload_n 1, 1) := by decide +kernel
theorem dX1_lay_34 : decode cX1_lay 34 = .ok (.aload_n 0, 1) := by decide +kernel
theorem dX1_lay_35 : decode cX1_lay 35 = .ok (.getfield 42, 3) := by decide +kernel
theorem dX1_lay_38 : decode cX1_lay 38 = .ok (.getfield 61, 3) := by decide +kernel
theorem dX1_lay_41 : decode cX1_lay 41 = .ok (.if_icmp .ne 12, 3) := by decide +kernel
theorem dX1_lay_44 : decode cX1_lay 44 = .ok (.aload_n 0, 1) := by decide +kernel
theorem dX1_lay_45 : decode cX1_lay 45 = .ok (.iload_n 1, 1) := by decide +kernel
theorem dX1_lay_46 : decode cX1_lay 46 = .ok (.iconst 1, 1) := by decide +kernel
theorem dX1_lay_47 : decode cX1_lay 47 = .ok (.iadd, 1) := by decide +kernel
theorem dX1_lay_48 : decode cX1_lay 48 = .ok (.iload_n 2, 1) := by decide +kernel
theorem dX1_lay_49 : decode cX1_lay 49 = .ok (.invokevirtual 67, 3) := by decide +kernel
theorem dX1_lay_52 : decode cX1_lay 52 = .ok (.return_, 1) := by decide +kernel
theorem dX1_lay_53 : decode cX1_lay 53 = .ok (.iconst 0, 1) := by decide +kernel
theorem dX1_lay_54 : decode cX1_lay 54 = .ok (.istore_n 3, 1) := by decide +kernel
theorem dX1_lay_55 : decode cX1_lay 55 = .ok (.iload_n 3, 1) := by decide +kernel
theorem dX1_lay_56 : decode cX1_lay 56 = .ok (.aload_n 0, 1) := by decide +kernel
theorem dX1_lay_57 : decode cX1_lay 57 = .ok (.getfield 42, 3) := by decide +kernel
theorem dX1_lay_60 : decode cX1_lay 60 = .ok (.getfield 58, 3) := by decide +kernel
theorem dX1_lay_63 : decode cX1_lay 63 = .ok (.if_icmp .ge 58, 3) := by decide +kernel
theorem dX1_lay_66 : decode cX1_lay 66 = .ok (.aload_n 0, 1) := by decide +kernel
theorem dX1_lay_67 : decode cX1_lay 67 = .ok (.getfield 42, 3) := by decide +kernel
theorem dX1_lay_70 : decode cX1_lay 70 = .ok (.iload_n 1, 1) := by decide +kernel
theorem dX1_lay_71 : decode cX1_lay 71 = .ok (.iload_n 3, 1) := by decide +kernel
theorem dX1_lay_72 : decode cX1_lay 72 = .ok (.invokevirtual 79, 3) := by decide +kernel
theorem dX1_lay_75 : decode cX1_lay 75 = .ok (.ifCond .ne 40, 3) := by decide +kernel
theorem dX1_lay_78 : decode cX1_lay 78 = .ok (.aload_n 0, 1) := by decide +kernel
theorem dX1_lay_79 : decode cX1_lay 79 = .ok (.getfield 42, 3) := by decide +kernel
theorem dX1_lay_82 : decode cX1_lay 82 = .ok (.getfield 64, 3) := by decide +kernel
theorem dX1_lay_85 : decode cX1_lay 85 = .ok (.iload_n 1, 1) := by decide +kernel
theorem dX1_lay_86 : decode cX1_lay 86 = .ok (.iload_n 3, 1) := by decide +kernel
theorem dX1_lay_87 : decode cX1_lay 87 = .ok (.iastore, 1) := by decide +kernel
theorem dX1_lay_88 : decode cX1_lay 88 = .ok (.aload_n 0, 1) := by decide +kernel
theorem dX1_lay_89 : decode cX1_lay 89 = .ok (.iload_n 1, 1) := by decide +kernel
theorem dX1_lay_90 : decode cX1_lay 90 = .ok (.iconst 1, 1) := by decide +kernel
theorem dX1_lay_91 : decode cX1_lay 91 = .ok (.iadd, 1) := by decide +kernel
theorem dX1_lay_92 : decode cX1_lay 92 = .ok (.iload_n 2, 1) := by decide +kernel
theorem dX1_lay_93 : decode cX1_lay 93 = .ok (.iload_n 3, 1) := by decide +kernel
theorem dX1_lay_94 : decode cX1_lay 94 = .ok (.aload_n 0, 1) := by decide +kernel
theorem dX1_lay_95 : decode cX1_lay 95 = .ok (.getfield 30, 3) := by decide +kernel
theorem dX1_lay_98 : decode cX1_lay 98 = .ok (.iload_n 1, 1) := by decide +kernel
theorem dX1_lay_99 : decode cX1_lay 99 = .ok (.iaload, 1) := by decide +kernel
theorem dX1_lay_100 : decode cX1_lay 100 = .ok (.imul, 1) := by decide +kernel
theorem dX1_lay_101 : decode cX1_lay 101 = .ok (.iadd, 1) := by decide +kernel
theorem dX1_lay_102 : decode cX1_lay 102 = .ok (.invokevirtual 67, 3) := by decide +kernel
theorem dX1_lay_105 : decode cX1_lay 105 = .ok (.aload_n 0, 1) := by decide +kernel
theorem dX1_lay_106 : decode cX1_lay 106 = .ok (.getfield 42, 3) := by decide +kernel
theorem dX1_lay_109 : decode cX1_lay 109 = .ok (.getfield 64, 3) := by decide +kernel
theorem dX1_lay_112 : decode cX1_lay 112 = .ok (.iload_n 1, 1) := by decide +kernel
theorem dX1_lay_113 : decode cX1_lay 113 = .ok (.iconst (-1), 1) := by decide +kernel
theorem dX1_lay_114 : decode cX1_lay 114 = .ok (.iastore, 1) := by decide +kernel
theorem dX1_lay_115 : decode cX1_lay 115 = .ok (.iinc 3 1, 3) := by decide +kernel
theorem dX1_lay_118 : decode cX1_lay 118 = .ok (.goto (-63), 3) := by decide +kernel
theorem dX1_lay_121 : decode cX1_lay 121 = .ok (.return_, 1) := by decide +kernel
theorem dX1_split_0 : decode cX1_split 0 = .ok (.iload_n 1, 1) := by decide +kernel
theorem dX1_split_1 : decode cX1_split 1 = .ok (.istore_n 2, 1) := by decide +kernel
theorem dX1_split_2 : decode cX1_split 2 = .ok (.iconst 0, 1) := by decide +kernel
theorem dX1_split_3 : decode cX1_split 3 = .ok (.istore_n 3, 1) := by decide +kernel
theorem dX1_split_4 : decode cX1_split 4 = .ok (.iload_n 3, 1) := by decide +kernel
theorem dX1_split_5 : decode cX1_split 5 = .ok (.aload_n 0, 1) := by decide +kernel
theorem dX1_split_6 : decode cX1_split 6 = .ok (.getfield 42, 3) := by decide +kernel
theorem dX1_split_9 : decode cX1_split 9 = .ok (.getfield 53, 3) := by decide +kernel
theorem dX1_split_12 : decode cX1_split 12 = .ok (.if_icmp .ge 44, 3) := by decide +kernel
theorem dX1_split_15 : decode cX1_split 15 = .ok (.aload_n 0, 1) := by decide +kernel
theorem dX1_split_16 : decode cX1_split 16 = .ok (.getfield 42, 3) := by decide +kernel
theorem dX1_split_19 : decode cX1_split 19 = .ok (.getfield 58, 3) := by decide +kernel
theorem dX1_split_22 : decode cX1_split 22 = .ok (.ifCond .le 34, 3) := by decide +kernel
theorem dX1_split_25 : decode cX1_split 25 = .ok (.aload_n 0, 1) := by decide +kernel
theorem dX1_split_26 : decode cX1_split 26 = .ok (.getfield 33, 3) := by decide +kernel
theorem dX1_split_29 : decode cX1_split 29 = .ok (.iload_n 3, 1) := by decide +kernel
theorem dX1_split_30 : decode cX1_split 30 = .ok (.iload_n 2, 1) := by decide +kernel
theorem dX1_split_31 : decode cX1_split 31 = .ok (.aload_n 0, 1) := by decide +kernel
theorem dX1_split_32 : decode cX1_split 32 = .ok (.getfield 42, 3) := by decide +kernel
theorem dX1_split_35 : decode cX1_split 35 = .ok (.getfield 58, 3) := by decide +kernel
theorem dX1_split_38 : decode cX1_split 38 = .ok (.irem, 1) := by decide +kernel
theorem dX1_split_39 : decode cX1_split 39 = .ok (.iastore, 1) := by decide +kernel
theorem dX1_split_40 : decode cX1_split 40 = .ok (.iload_n 2, 1) := by decide +kernel
theorem dX1_split_41 : decode cX1_split 41 = .ok (.aload_n 0, 1) := by decide +kernel
theorem dX1_split_42 : decode cX1_split 42 = .ok (.getfield 42, 3) := by decide +kernel
theorem dX1_split_45 : decode cX1_split 45 = .ok (.getfield 58, 3) := by decide +kernel
theorem dX1_split_48 : decode cX1_split 48 = .ok (.idiv, 1) := by decide +kernel
theorem dX1_split_49 : decode cX1_split 49 = .ok (.istore_n 2, 1) := by decide +kernel
theorem dX1_split_50 : decode cX1_split 50 = .ok (.iinc 3 1, 3) := by decide +kernel
theorem dX1_split_53 : decode cX1_split 53 = .ok (.goto (-49), 3) := by decide +kernel
theorem dX1_split_56 : decode cX1_split 56 = .ok (.return_, 1) := by decide +kernel
theorem dX1_stateOf_0 : decode cX1_stateOf 0 = .ok (.iconst 0, 1) := by decide +kernel
theorem dX1_stateOf_1 : decode cX1_stateOf 1 = .ok (.istore_n 2, 1) := by decide +kernel
theorem dX1_stateOf_2 : decode cX1_stateOf 2 = .ok (.iconst 0, 1) := by decide +kernel
theorem dX1_stateOf_3 : decode cX1_stateOf 3 = .ok (.istore_n 3, 1) := by decide +kernel
theorem dX1_stateOf_4 : decode cX1_stateOf 4 = .ok (.iload_n 3, 1) := by decide +kernel
theorem dX1_stateOf_5 : decode cX1_stateOf 5 = .ok (.aload_n 0, 1) := by decide +kernel
theorem dX1_stateOf_6 : decode cX1_stateOf 6 = .ok (.getfield 42, 3) := by decide +kernel
theorem dX1_stateOf_9 : decode cX1_stateOf 9 = .ok (.getfield 53, 3) := by decide +kernel
theorem dX1_stateOf_12 : decode cX1_stateOf 12 = .ok (.if_icmp .ge 37, 3) := by decide +kernel
theorem dX1_stateOf_15 : decode cX1_stateOf 15 = .ok (.aload_n 0, 1) := by decide +kernel
theorem dX1_stateOf_16 : decode cX1_stateOf 16 = .ok (.getfield 42, 3) := by decide +kernel
theorem dX1_stateOf_19 : decode cX1_stateOf 19 = .ok (.aload_n 1, 1) := by decide +kernel
theorem dX1_stateOf_20 : decode cX1_stateOf 20 = .ok (.iload_n 3, 1) := by decide +kernel
theorem dX1_stateOf_21 : decode cX1_stateOf 21 = .ok (.iaload, 1) := by decide +kernel
theorem dX1_stateOf_22 : decode cX1_stateOf 22 = .ok (.invokevirtual 83, 3) := by decide +kernel
theorem dX1_stateOf_25 : decode cX1_stateOf 25 = .ok (.ifCond .ne 5, 3) := by decide +kernel
theorem dX1_stateOf_28 : decode cX1_stateOf 28 = .ok (.iconst (-1), 1) := by decide +kernel
theorem dX1_stateOf_29 : decode cX1_stateOf 29 = .ok (.ireturn, 1) := by decide +kernel
theorem dX1_stateOf_30 : decode cX1_stateOf 30 = .ok (.iload_n 2, 1) := by decide +kernel
theorem dX1_stateOf_31 : decode cX1_stateOf 31 = .ok (.aload_n 1, 1) := by decide +kernel
theorem dX1_stateOf_32 : decode cX1_stateOf 32 = .ok (.iload_n 3, 1) := by decide +kernel
theorem dX1_stateOf_33 : decode cX1_stateOf 33 = .ok (.iaload, 1) := by decide +kernel
theorem dX1_stateOf_34 : decode cX1_stateOf 34 = .ok (.aload_n 0, 1) := by decide +kernel
theorem dX1_stateOf_35 : decode cX1_stateOf 35 = .ok (.getfield 30, 3) := by decide +kernel
theorem dX1_stateOf_38 : decode cX1_stateOf 38 = .ok (.iload_n 3, 1) := by decide +kernel
theorem dX1_stateOf_39 : decode cX1_stateOf 39 = .ok (.iaload, 1) := by decide +kernel
theorem dX1_stateOf_40 : decode cX1_stateOf 40 = .ok (.imul, 1) := by decide +kernel
theorem dX1_stateOf_41 : decode cX1_stateOf 41 = .ok (.iadd, 1) := by decide +kernel
theorem dX1_stateOf_42 : decode cX1_stateOf 42 = .ok (.istore_n 2, 1) := by decide +kernel
theorem dX1_stateOf_43 : decode cX1_stateOf 43 = .ok (.iinc 3 1, 3) := by decide +kernel
theorem dX1_stateOf_46 : decode cX1_stateOf 46 = .ok (.goto (-42), 3) := by decide +kernel
theorem dX1_stateOf_49 : decode cX1_stateOf 49 = .ok (.aload_n 0, 1) := by decide +kernel
theorem dX1_stateOf_50 : decode cX1_stateOf 50 = .ok (.getfield 11, 3) := by decide +kernel
theorem dX1_stateOf_53 : decode cX1_stateOf 53 = .ok (.iload_n 2, 1) := by decide +kernel
theorem dX1_stateOf_54 : decode cX1_stateOf 54 = .ok (.iaload, 1) := by decide +kernel
theorem dX1_stateOf_55 : decode cX1_stateOf 55 = .ok (.ifCond .ne 7, 3) := by decide +kernel
theorem dX1_stateOf_58 : decode cX1_stateOf 58 = .ok (.iconst (-1), 1) := by decide +kernel
theorem dX1_stateOf_59 : decode cX1_stateOf 59 = .ok (.goto 4, 3) := by decide +kernel
theorem dX1_stateOf_62 : decode cX1_stateOf 62 = .ok (.iload_n 2, 1) := by decide +kernel
theorem dX1_stateOf_63 : decode cX1_stateOf 63 = .ok (.ireturn, 1) := by decide +kernel
theorem dX1_price_0 : decode cX1_price 0 = .ok (.aload_n 0, 1) := by decide +kernel
theorem dX1_price_1 : decode cX1_price 1 = .ok (.getfield 27, 3) := by decide +kernel
theorem dX1_price_4 : decode cX1_price 4 = .ok (.iload_n 1, 1) := by decide +kernel
theorem dX1_price_5 : decode cX1_price 5 = .ok (.iload_n 2, 1) := by decide +kernel
theorem dX1_price_6 : decode cX1_price 6 = .ok (.iload_n 3, 1) := by decide +kernel
theorem dX1_price_7 : decode cX1_price 7 = .ok (.invokestatic 87, 3) := by decide +kernel
theorem dX1_price_10 : decode cX1_price 10 = .ok (.iload 4, 2) := by decide +kernel
theorem dX1_price_12 : decode cX1_price 12 = .ok (.iastore, 1) := by decide +kernel
theorem dX1_price_13 : decode cX1_price 13 = .ok (.return_, 1) := by decide +kernel
theorem dX1_placeOf_0 : decode cX1_placeOf 0 = .ok (.iload_n 0, 1) := by decide +kernel
theorem dX1_placeOf_1 : decode cX1_placeOf 1 = .ok (.iconst 5, 1) := by decide +kernel
theorem dX1_placeOf_2 : decode cX1_placeOf 2 = .ok (.imul, 1) := by decide +kernel
theorem dX1_placeOf_3 : decode cX1_placeOf 3 = .ok (.iload_n 1, 1) := by decide +kernel
theorem dX1_placeOf_4 : decode cX1_placeOf 4 = .ok (.iadd, 1) := by decide +kernel
theorem dX1_placeOf_5 : decode cX1_placeOf 5 = .ok (.iconst 5, 1) := by decide +kernel
theorem dX1_placeOf_6 : decode cX1_placeOf 6 = .ok (.imul, 1) := by decide +kernel
theorem dX1_placeOf_7 : decode cX1_placeOf 7 = .ok (.iload_n 2, 1) := by decide +kernel
theorem dX1_placeOf_8 : decode cX1_placeOf 8 = .ok (.iadd, 1) := by decide +kernel
theorem dX1_placeOf_9 : decode cX1_placeOf 9 = .ok (.ireturn, 1) := by decide +kernel
theorem dX1_countMoves_0 : decode cX1_countMoves 0 = .ok (.iconst 0, 1) := by decide +kernel
theorem dX1_countMoves_1 : decode cX1_countMoves 1 = .ok (.istore_n 1, 1) := by decide +kernel
theorem dX1_countMoves_2 : decode cX1_countMoves 2 = .ok (.iload_n 1, 1) := by decide +kernel
theorem dX1_countMoves_3 : decode cX1_countMoves 3 = .ok (.aload_n 0, 1) := by decide +kernel
theorem dX1_countMoves_4 : decode cX1_countMoves 4 = .ok (.getfield 27, 3) := by decide +kernel
theorem dX1_countMoves_7 : decode cX1_countMoves 7 = .ok (.arraylength, 1) := by decide +kernel
theorem dX1_countMoves_8 : decode cX1_countMoves 8 = .ok (.if_icmp .ge 16, 3) := by decide +kernel
theorem dX1_countMoves_11 : decode cX1_countMoves 11 = .ok (.aload_n 0, 1) := by decide +kernel
theorem dX1_countMoves_12 : decode cX1_countMoves 12 = .ok (.getfield 27, 3) := by decide +kernel
theorem dX1_countMoves_15 : decode cX1_countMoves 15 = .ok (.iload_n 1, 1) := by decide +kernel
theorem dX1_countMoves_16 : decode cX1_countMoves 16 = .ok (.iconst 1, 1) := by decide +kernel
theorem dX1_countMoves_17 : decode cX1_countMoves 17 = .ok (.iastore, 1) := by decide +kernel
theorem dX1_countMoves_18 : decode cX1_countMoves 18 = .ok (.iinc 1 1, 3) := by decide +kernel
theorem dX1_countMoves_21 : decode cX1_countMoves 21 = .ok (.goto (-19), 3) := by decide +kernel
theorem dX1_countMoves_24 : decode cX1_countMoves 24 = .ok (.return_, 1) := by decide +kernel
theorem dX1_spreadFromOpen_0 : decode cX1_spreadFromOpen 0 = .ok (.aload_n 0, 1) := by decide +kernel
theorem dX1_spreadFromOpen_1 : decode cX1_spreadFromOpen 1 = .ok (.invokevirtual 91, 3) := by decide +kernel
theorem dX1_spreadFromOpen_4 : decode cX1_spreadFromOpen 4 = .ok (.iconst 0, 1) := by decide +kernel
theorem dX1_spreadFromOpen_5 : decode cX1_spreadFromOpen 5 = .ok (.istore_n 2, 1) := by decide +kernel
theorem dX1_spreadFromOpen_6 : decode cX1_spreadFromOpen 6 = .ok (.iload_n 2, 1) := by decide +kernel
theorem dX1_spreadFromOpen_7 : decode cX1_spreadFromOpen 7 = .ok (.aload_n 0, 1) := by decide +kernel
theorem dX1_spreadFromOpen_8 : decode cX1_spreadFromOpen 8 = .ok (.getfield 46, 3) := by decide +kernel
theorem dX1_spreadFromOpen_11 : decode cX1_spreadFromOpen 11 = .ok (.if_icmp .ge 25, 3) := by decide +kernel
theorem dX1_spreadFromOpen_14 : decode cX1_spreadFromOpen 14 = .ok (.aload_n 0, 1) := by decide +kernel
theorem dX1_spreadFromOpen_15 : decode cX1_spreadFromOpen 15 = .ok (.getfield 11, 3) := by decide +kernel
theorem dX1_spreadFromOpen_18 : decode cX1_spreadFromOpen 18 = .ok (.iload_n 2, 1) := by decide +kernel
theorem dX1_spreadFromOpen_19 : decode cX1_spreadFromOpen 19 = .ok (.iaload, 1) := by decide +kernel
theorem dX1_spreadFromOpen_20 : decode cX1_spreadFromOpen 20 = .ok (.iconst 2, 1) := by decide +kernel
theorem dX1_spreadFromOpen_21 : decode cX1_spreadFromOpen 21 = .ok (.if_icmp .ne 9, 3) := by decide +kernel
theorem dX1_spreadFromOpen_24 : decode cX1_spreadFromOpen 24 = .ok (.aload_n 0, 1) := by decide +kernel
theorem dX1_spreadFromOpen_25 : decode cX1_spreadFromOpen 25 = .ok (.iload_n 2, 1) := by decide +kernel
theorem dX1_spreadFromOpen_26 : decode cX1_spreadFromOpen 26 = .ok (.iconst 0, 1) := by decide +kernel
theorem dX1_spreadFromOpen_27 : decode cX1_spreadFromOpen 27 = .ok (.invokevirtual 94, 3) := by decide +kernel
theorem dX1_spreadFromOpen_30 : decode cX1_spreadFromOpen 30 = .ok (.iinc 2 1, 3) := by decide +kernel
theorem dX1_spreadFromOpen_33 : decode cX1_spreadFromOpen 33 = .ok (.goto (-27), 3) := by decide +kernel
theorem dX1_spreadFromOpen_36 : decode cX1_spreadFromOpen 36 = .ok (.aload_n 0, 1) := by decide +kernel
theorem dX1_spreadFromOpen_37 : decode cX1_spreadFromOpen 37 = .ok (.iload_n 1, 1) := by decide +kernel
theorem dX1_spreadFromOpen_38 : decode cX1_spreadFromOpen 38 = .ok (.invokevirtual 97, 3) := by decide +kernel
theorem dX1_spreadFromOpen_41 : decode cX1_spreadFromOpen 41 = .ok (.ireturn, 1) := by decide +kernel
theorem dX1_spreadFrom_0 : decode cX1_spreadFrom 0 = .ok (.aload_n 0, 1) := by decide +kernel
theorem dX1_spreadFrom_1 : decode cX1_spreadFrom 1 = .ok (.invokevirtual 91, 3) := by decide +kernel
theorem dX1_spreadFrom_4 : decode cX1_spreadFrom 4 = .ok (.iload_n 1, 1) := by decide +kernel
theorem dX1_spreadFrom_5 : decode cX1_spreadFrom 5 = .ok (.iconst (-1), 1) := by decide +kernel
theorem dX1_spreadFrom_6 : decode cX1_spreadFrom 6 = .ok (.if_icmp .eq 9, 3) := by decide +kernel
theorem dX1_spreadFrom_9 : decode cX1_spreadFrom 9 = .ok (.aload_n 0, 1) := by decide +kernel
theorem dX1_spreadFrom_10 : decode cX1_spreadFrom 10 = .ok (.iload_n 1, 1) := by decide +kernel
theorem dX1_spreadFrom_11 : decode cX1_spreadFrom 11 = .ok (.iconst 0, 1) := by decide +kernel
theorem dX1_spreadFrom_12 : decode cX1_spreadFrom 12 = .ok (.invokevirtual 94, 3) := by decide +kernel
theorem dX1_spreadFrom_15 : decode cX1_spreadFrom 15 = .ok (.aload_n 0, 1) := by decide +kernel
theorem dX1_spreadFrom_16 : decode cX1_spreadFrom 16 = .ok (.iconst 0, 1) := by decide +kernel
theorem dX1_spreadFrom_17 : decode cX1_spreadFrom 17 = .ok (.invokevirtual 97, 3) := by decide +kernel
theorem dX1_spreadFrom_20 : decode cX1_spreadFrom 20 = .ok (.ireturn, 1) := by decide +kernel
theorem dX1_clearTurns_0 : decode cX1_clearTurns 0 = .ok (.aload_n 0, 1) := by decide +kernel
theorem dX1_clearTurns_1 : decode cX1_clearTurns 1 = .ok (.iconst 0, 1) := by decide +kernel
theorem dX1_clearTurns_2 : decode cX1_clearTurns 2 = .ok (.putfield 101, 3) := by decide +kernel
theorem dX1_clearTurns_5 : decode cX1_clearTurns 5 = .ok (.iconst 0, 1) := by decide +kernel
theorem dX1_clearTurns_6 : decode cX1_clearTurns 6 = .ok (.istore_n 1, 1) := by decide +kernel
theorem dX1_clearTurns_7 : decode cX1_clearTurns 7 = .ok (.iload_n 1, 1) := by decide +kernel
theorem dX1_clearTurns_8 : decode cX1_clearTurns 8 = .ok (.aload_n 0, 1) := by decide +kernel
theorem dX1_clearTurns_9 : decode cX1_clearTurns 9 = .ok (.getfield 46, 3) := by decide +kernel
theorem dX1_clearTurns_12 : decode cX1_clearTurns 12 = .ok (.if_icmp .ge 16, 3) := by decide +kernel
theorem dX1_clearTurns_15 : decode cX1_clearTurns 15 = .ok (.aload_n 0, 1) := by decide +kernel
theorem dX1_clearTurns_16 : decode cX1_clearTurns 16 = .ok (.getfield 15, 3) := by decide +kernel
theorem dX1_clearTurns_19 : decode cX1_clearTurns 19 = .ok (.iload_n 1, 1) := by decide +kernel
theorem dX1_clearTurns_20 : decode cX1_clearTurns 20 = .ok (.iconst (-1), 1) := by decide +kernel
theorem dX1_clearTurns_21 : decode cX1_clearTurns 21 = .ok (.iastore, 1) := by decide +kernel
theorem dX1_clearTurns_22 : decode cX1_clearTurns 22 = .ok (.iinc 1 1, 3) := by decide +kernel
theorem dX1_clearTurns_25 : decode cX1_clearTurns 25 = .ok (.goto (-18), 3) := by decide +kernel
theorem dX1_clearTurns_28 : decode cX1_clearTurns 28 = .ok (.iconst 0, 1) := by decide +kernel
theorem dX1_clearTurns_29 : decode cX1_clearTurns 29 = .ok (.istore_n 1, 1) := by decide +kernel
theorem dX1_clearTurns_30 : decode cX1_clearTurns 30 = .ok (.iload_n 1, 1) := by decide +kernel
theorem dX1_clearTurns_31 : decode cX1_clearTurns 31 = .ok (.bipush 100, 2) := by decide +kernel
theorem dX1_clearTurns_33 : decode cX1_clearTurns 33 = .ok (.if_icmp .ge 16, 3) := by decide +kernel
theorem dX1_clearTurns_36 : decode cX1_clearTurns 36 = .ok (.aload_n 0, 1) := by decide +kernel
theorem dX1_clearTurns_37 : decode cX1_clearTurns 37 = .ok (.getfield 24, 3) := by decide +kernel
theorem dX1_clearTurns_40 : decode cX1_clearTurns 40 = .ok (.iload_n 1, 1) := by decide +kernel
theorem dX1_clearTurns_41 : decode cX1_clearTurns 41 = .ok (.iconst (-1), 1) := by decide +kernel
theorem dX1_clearTurns_42 : decode cX1_clearTurns 42 = .ok (.iastore, 1) := by decide +kernel
theorem dX1_clearTurns_43 : decode cX1_clearTurns 43 = .ok (.iinc 1 1, 3) := by decide +kernel
theorem dX1_clearTurns_46 : decode cX1_clearTurns 46 = .ok (.goto (-16), 3) := by decide +kernel
theorem dX1_clearTurns_49 : decode cX1_clearTurns 49 = .ok (.return_, 1) := by decide +kernel
theorem dX1_spread_0 : decode cX1_spread 0 = .ok (.iconst 0, 1) := by decide +kernel
theorem dX1_spread_1 : decode cX1_spread 1 = .ok (.istore_n 2, 1) := by decide +kernel
theorem dX1_spread_2 : decode cX1_spread 2 = .ok (.iload_n 2, 1) := by decide +kernel
theorem dX1_spread_3 : decode cX1_spread 3 = .ok (.ldc 104, 2) := by decide +kernel
theorem dX1_spread_5 : decode cX1_spread 5 = .ok (.if_icmp .gt 109, 3) := by decide +kernel
theorem dX1_spread_8 : decode cX1_spread 8 = .ok (.aload_n 0, 1) := by decide +kernel
theorem dX1_spread_9 : decode cX1_spread 9 = .ok (.getfield 101, 3) := by decide +kernel
theorem dX1_spread_12 : decode cX1_spread 12 = .ok (.ifCond .le 102, 3) := by decide +kernel
theorem dX1_spread_15 : decode cX1_spread 15 = .ok (.iload_n 1, 1) := by decide +kernel
theorem dX1_spread_16 : decode cX1_spread 16 = .ok (.ifCond .ne 39, 3) := by decide +kernel
theorem dX1_spread_19 : decode cX1_spread 19 = .ok (.aload_n 0, 1) := by decide +kernel
theorem dX1_spread_20 : decode cX1_spread 20 = .ok (.getfield 15, 3) := by decide +kernel
theorem dX1_spread_23 : decode cX1_spread 23 = .ok (.aload_n 0, 1) := by decide +kernel
theorem dX1_spread_24 : decode cX1_spread 24 = .ok (.getfield 50, 3) := by decide +kernel
theorem dX1_spread_27 : decode cX1_spread 27 = .ok (.iaload, 1) := by decide +kernel
theorem dX1_spread_28 : decode cX1_spread 28 = .ok (.iconst (-1), 1) := by decide +kernel
theorem dX1_spread_29 : decode cX1_spread 29 = .ok (.if_icmp .eq 26, 3) := by decide +kernel
theorem dX1_spread_32 : decode cX1_spread 32 = .ok (.aload_n 0, 1) := by decide +kernel
theorem dX1_spread_33 : decode cX1_spread 33 = .ok (.getfield 15, 3) := by decide +kernel
theorem dX1_spread_36 : decode cX1_spread 36 = .ok (.aload_n 0, 1) := by decide +kernel
theorem dX1_spread_37 : decode cX1_spread 37 = .ok (.getfield 50, 3) := by decide +kernel
theorem dX1_spread_40 : decode cX1_spread 40 = .ok (.iaload, 1) := by decide +kernel
theorem dX1_spread_41 : decode cX1_spread 41 = .ok (.iload_n 2, 1) := by decide +kernel
theorem dX1_spread_42 : decode cX1_spread 42 = .ok (.if_icmp .ge 13, 3) := by decide +kernel
theorem dX1_spread_45 : decode cX1_spread 45 = .ok (.aload_n 0, 1) := by decide +kernel
theorem dX1_spread_46 : decode cX1_spread 46 = .ok (.getfield 15, 3) := by decide +kernel
theorem dX1_spread_49 : decode cX1_spread 49 = .ok (.aload_n 0, 1) := by decide +kernel
theorem dX1_spread_50 : decode cX1_spread 50 = .ok (.getfield 50, 3) := by decide +kernel
theorem dX1_spread_53 : decode cX1_spread 53 = .ok (.iaload, 1) := by decide +kernel
theorem dX1_spread_54 : decode cX1_spread 54 = .ok (.ireturn, 1) := by decide +kernel
theorem dX1_spread_55 : decode cX1_spread 55 = .ok (.iconst 0, 1) := by decide +kernel
theorem dX1_spread_56 : decode cX1_spread 56 = .ok (.istore_n 3, 1) := by decide +kernel
theorem dX1_spread_57 : decode cX1_spread 57 = .ok (.iload_n 3, 1) := by decide +kernel
theorem dX1_spread_58 : decode cX1_spread 58 = .ok (.aload_n 0, 1) := by decide +kernel
theorem dX1_spread_59 : decode cX1_spread 59 = .ok (.getfield 46, 3) := by decide +kernel
theorem dX1_spread_62 : decode cX1_spread 62 = .ok (.if_icmp .ge 46, 3) := by decide +kernel
theorem dX1_spread_65 : decode cX1_spread 65 = .ok (.aload_n 0, 1) := by decide +kernel
theorem dX1_spread_66 : decode cX1_spread 66 = .ok (.getfield 24, 3) := by decide +kernel
theorem dX1_spread_69 : decode cX1_spread 69 = .ok (.iload_n 2, 1) := by decide +kernel
theorem dX1_spread_70 : decode cX1_spread 70 = .ok (.bipush 100, 2) := by decide +kernel
theorem dX1_spread_72 : decode cX1_spread 72 = .ok (.irem, 1) := by decide +kernel
theorem dX1_spread_73 : decode cX1_spread 73 = .ok (.iaload, 1) := by decide +kernel
theorem dX1_spread_74 : decode cX1_spread 74 = .ok (.iconst (-1), 1) := by decide +kernel
theorem dX1_spread_75 : decode cX1_spread 75 = .ok (.if_icmp .eq 33, 3) := by decide +kernel
theorem dX1_spread_78 : decode cX1_spread 78 = .ok (.aload_n 0, 1) := by decide +kernel
theorem dX1_spread_79 : decode cX1_spread 79 = .ok (.getfield 24, 3) := by decide +kernel
theorem dX1_spread_82 : decode cX1_spread 82 = .ok (.iload_n 2, 1) := by decide +kernel
theorem dX1_spread_83 : decode cX1_spread 83 = .ok (.bipush 100, 2) := by decide +kernel
theorem dX1_spread_85 : decode cX1_spread 85 = .ok (.irem, 1) := by decide +kernel
theorem dX1_spread_86 : decode cX1_spread 86 = .ok (.iaload, 1) := by decide +kernel
theorem dX1_spread_87 : decode cX1_spread 87 = .ok (.istore 4, 2) := by decide +kernel
theorem dX1_spread_89 : decode cX1_spread 89 = .ok (.aload_n 0, 1) := by decide +kernel
theorem dX1_spread_90 : decode cX1_spread 90 = .ok (.iload 4, 2) := by decide +kernel
theorem dX1_spread_92 : decode cX1_spread 92 = .ok (.invokevirtual 105, 3) := by decide +kernel
theorem dX1_spread_95 : decode cX1_spread 95 = .ok (.aload_n 0, 1) := by decide +kernel
theorem dX1_spread_96 : decode cX1_spread 96 = .ok (.iload 4, 2) := by decide +kernel
theorem dX1_spread_98 : decode cX1_spread 98 = .ok (.iload_n 2, 1) := by decide +kernel
theorem dX1_spread_99 : decode cX1_spread 99 = .ok (.invokevirtual 108, 3) := by decide +kernel
theorem dX1_spread_102 : decode cX1_spread 102 = .ok (.iinc 3 1, 3) := by decide +kernel
theorem dX1_spread_105 : decode cX1_spread 105 = .ok (.goto (-48), 3) := by decide +kernel
theorem dX1_spread_108 : decode cX1_spread 108 = .ok (.iinc 2 1, 3) := by decide +kernel
theorem dX1_spread_111 : decode cX1_spread 111 = .ok (.goto (-109), 3) := by decide +kernel
theorem dX1_spread_114 : decode cX1_spread 114 = .ok (.aload_n 0, 1) := by decide +kernel
theorem dX1_spread_115 : decode cX1_spread 115 = .ok (.getfield 15, 3) := by decide +kernel
theorem dX1_spread_118 : decode cX1_spread 118 = .ok (.aload_n 0, 1) := by decide +kernel
theorem dX1_spread_119 : decode cX1_spread 119 = .ok (.getfield 50, 3) := by decide +kernel
theorem dX1_spread_122 : decode cX1_spread 122 = .ok (.iaload, 1) := by decide +kernel
theorem dX1_spread_123 : decode cX1_spread 123 = .ok (.ireturn, 1) := by decide +kernel
theorem dX1_spreadOnce_0 : decode cX1_spreadOnce 0 = .ok (.aload_n 0, 1) := by decide +kernel
theorem dX1_spreadOnce_1 : decode cX1_spreadOnce 1 = .ok (.iload_n 1, 1) := by decide +kernel
theorem dX1_spreadOnce_2 : decode cX1_spreadOnce 2 = .ok (.invokevirtual 111, 3) := by decide +kernel
theorem dX1_spreadOnce_5 : decode cX1_spreadOnce 5 = .ok (.istore_n 3, 1) := by decide +kernel
theorem dX1_spreadOnce_6 : decode cX1_spreadOnce 6 = .ok (.iconst 0, 1) := by decide +kernel
theorem dX1_spreadOnce_7 : decode cX1_spreadOnce 7 = .ok (.istore 4, 2) := by decide +kernel
theorem dX1_spreadOnce_9 : decode cX1_spreadOnce 9 = .ok (.iload 4, 2) := by decide +kernel
theorem dX1_spreadOnce_11 : decode cX1_spreadOnce 11 = .ok (.iload_n 3, 1) := by decide +kernel
theorem dX1_spreadOnce_12 : decode cX1_spreadOnce 12 = .ok (.if_icmp .ge 82, 3) := by decide +kernel
theorem dX1_spreadOnce_15 : decode cX1_spreadOnce 15 = .ok (.aload_n 0, 1) := by decide +kernel
theorem dX1_spreadOnce_16 : decode cX1_spreadOnce 16 = .ok (.getfield 36, 3) := by decide +kernel
theorem dX1_spreadOnce_19 : decode cX1_spreadOnce 19 = .ok (.iload 4, 2) := by decide +kernel
theorem dX1_spreadOnce_21 : decode cX1_spreadOnce 21 = .ok (.iaload, 1) := by decide +kernel
theorem dX1_spreadOnce_22 : decode cX1_spreadOnce 22 = .ok (.istore 5, 2) := by decide +kernel
theorem dX1_spreadOnce_24 : decode cX1_spreadOnce 24 = .ok (.iload_n 2, 1) := by decide +kernel
theorem dX1_spreadOnce_25 : decode cX1_spreadOnce 25 = .ok (.aload_n 0, 1) := by decide +kernel
theorem dX1_spreadOnce_26 : decode cX1_spreadOnce 26 = .ok (.getfield 27, 3) := by decide +kernel
theorem dX1_spreadOnce_29 : decode cX1_spreadOnce 29 = .ok (.aload_n 0, 1) := by decide +kernel
theorem dX1_spreadOnce_30 : decode cX1_spreadOnce 30 = .ok (.getfield 39, 3) := by decide +kernel
theorem dX1_spreadOnce_33 : decode cX1_spreadOnce 33 = .ok (.iload 4, 2) := by decide +kernel
theorem dX1_spreadOnce_35 : decode cX1_spreadOnce 35 = .ok (.iaload, 1) := by decide +kernel
theorem dX1_spreadOnce_36 : decode cX1_spreadOnce 36 = .ok (.iaload, 1) := by decide +kernel
theorem dX1_spreadOnce_37 : decode cX1_spreadOnce 37 = .ok (.iadd, 1) := by decide +kernel
theorem dX1_spreadOnce_38 : decode cX1_spreadOnce 38 = .ok (.istore 6, 2) := by decide +kernel
theorem dX1_spreadOnce_40 : decode cX1_spreadOnce 40 = .ok (.aload_n 0, 1) := by decide +kernel
theorem dX1_spreadOnce_41 : decode cX1_spreadOnce 41 = .ok (.getfield 15, 3) := by decide +kernel
theorem dX1_spreadOnce_44 : decode cX1_spreadOnce 44 = .ok (.iload 5, 2) := by decide +kernel
theorem dX1_spreadOnce_46 : decode cX1_spreadOnce 46 = .ok (.iaload, 1) := by decide +kernel
theorem dX1_spreadOnce_47 : decode cX1_spreadOnce 47 = .ok (.iconst (-1), 1) := by decide +kernel
theorem dX1_spreadOnce_48 : decode cX1_spreadOnce 48 = .ok (.if_icmp .ne 14, 3) := by decide +kernel
theorem dX1_spreadOnce_51 : decode cX1_spreadOnce 51 = .ok (.aload_n 0, 1) := by decide +kernel
theorem dX1_spreadOnce_52 : decode cX1_spreadOnce 52 = .ok (.iload 5, 2) := by decide +kernel
theorem dX1_spreadOnce_54 : decode cX1_spreadOnce 54 = .ok (.iload 6, 2) := by decide +kernel
theorem dX1_spreadOnce_56 : decode cX1_spreadOnce 56 = .ok (.invokevirtual 94, 3) := by decide +kernel
theorem dX1_spreadOnce_59 : decode cX1_spreadOnce 59 = .ok (.goto 29, 3) := by decide +kernel
theorem dX1_spreadOnce_62 : decode cX1_spreadOnce 62 = .ok (.aload_n 0, 1) := by decide +kernel
theorem dX1_spreadOnce_63 : decode cX1_spreadOnce 63 = .ok (.getfield 15, 3) := by decide +kernel
theorem dX1_spreadOnce_66 : decode cX1_spreadOnce 66 = .ok (.iload 5, 2) := by decide +kernel
theorem dX1_spreadOnce_68 : decode cX1_spreadOnce 68 = .ok (.iaload, 1) := by decide +kernel
theorem dX1_spreadOnce_69 : decode cX1_spreadOnce 69 = .ok (.iload 6, 2) := by decide +kernel
theorem dX1_spreadOnce_71 : decode cX1_spreadOnce 71 = .ok (.if_icmp .le 17, 3) := by decide +kernel
theorem dX1_spreadOnce_74 : decode cX1_spreadOnce 74 = .ok (.aload_n 0, 1) := by decide +kernel
theorem dX1_spreadOnce_75 : decode cX1_spreadOnce 75 = .ok (.iload 5, 2) := by decide +kernel
theorem dX1_spreadOnce_77 : decode cX1_spreadOnce 77 = .ok (.invokevirtual 105, 3) := by decide +kernel
theorem dX1_spreadOnce_80 : decode cX1_spreadOnce 80 = .ok (.aload_n 0, 1) := by decide +kernel
theorem dX1_spreadOnce_81 : decode cX1_spreadOnce 81 = .ok (.iload 5, 2) := by decide +kernel
theorem dX1_spreadOnce_83 : decode cX1_spreadOnce 83 = .ok (.iload 6, 2) := by decide +kernel
theorem dX1_spreadOnce_85 : decode cX1_spreadOnce 85 = .ok (.invokevirtual 94, 3) := by decide +kernel
theorem dX1_spreadOnce_88 : decode cX1_spreadOnce 88 = .ok (.iinc 4 1, 3) := by decide +kernel
theorem dX1_spreadOnce_91 : decode cX1_spreadOnce 91 = .ok (.goto (-82), 3) := by decide +kernel
theorem dX1_spreadOnce_94 : decode cX1_spreadOnce 94 = .ok (.return_, 1) := by decide +kernel
theorem dX1_lookAround_0 : decode cX1_lookAround 0 = .ok (.iconst 0, 1) := by decide +kernel
theorem dX1_lookAround_1 : decode cX1_lookAround 1 = .ok (.istore_n 2, 1) := by decide +kernel
theorem dX1_lookAround_2 : decode cX1_lookAround 2 = .ok (.aload_n 0, 1) := by decide +kernel
theorem dX1_lookAround_3 : decode cX1_lookAround 3 = .ok (.iload_n 1, 1) := by decide +kernel
theorem dX1_lookAround_4 : decode cX1_lookAround 4 = .ok (.invokevirtual 71, 3) := by decide +kernel
theorem dX1_lookAround_7 : decode cX1_lookAround 7 = .ok (.iconst 0, 1) := by decide +kernel
theorem dX1_lookAround_8 : decode cX1_lookAround 8 = .ok (.istore_n 3, 1) := by decide +kernel
theorem dX1_lookAround_9 : decode cX1_lookAround 9 = .ok (.iload_n 3, 1) := by decide +kernel
theorem dX1_lookAround_10 : decode cX1_lookAround 10 = .ok (.aload_n 0, 1) := by decide +kernel
theorem dX1_lookAround_11 : decode cX1_lookAround 11 = .ok (.getfield 42, 3) := by decide +kernel
theorem dX1_lookAround_14 : decode cX1_lookAround 14 = .ok (.getfield 53, 3) := by decide +kernel
theorem dX1_lookAround_17 : decode cX1_lookAround 17 = .ok (.if_icmp .ge 104, 3) := by decide +kernel
theorem dX1_lookAround_20 : decode cX1_lookAround 20 = .ok (.aload_n 0, 1) := by decide +kernel
theorem dX1_lookAround_21 : decode cX1_lookAround 21 = .ok (.getfield 33, 3) := by decide +kernel
theorem dX1_lookAround_24 : decode cX1_lookAround 24 = .ok (.iload_n 3, 1) := by decide +kernel
theorem dX1_lookAround_25 : decode cX1_lookAround 25 = .ok (.iaload, 1) := by decide +kernel
theorem dX1_lookAround_26 : decode cX1_lookAround 26 = .ok (.istore 4, 2) := by decide +kernel
theorem dX1_lookAround_28 : decode cX1_lookAround 28 = .ok (.iload_n 1, 1) := by decide +kernel
theorem dX1_lookAround_29 : decode cX1_lookAround 29 = .ok (.iload 4, 2) := by decide +kernel
theorem dX1_lookAround_31 : decode cX1_lookAround 31 = .ok (.aload_n 0, 1) := by decide +kernel
theorem dX1_lookAround_32 : decode cX1_lookAround 32 = .ok (.getfield 30, 3) := by decide +kernel
theorem dX1_lookAround_35 : decode cX1_lookAround 35 = .ok (.iload_n 3, 1) := by decide +kernel
theorem dX1_lookAround_36 : decode cX1_lookAround 36 = .ok (.iaload, 1) := by decide +kernel
theorem dX1_lookAround_37 : decode cX1_lookAround 37 = .ok (.imul, 1) := by decide +kernel
theorem dX1_lookAround_38 : decode cX1_lookAround 38 = .ok (.isub, 1) := by decide +kernel
theorem dX1_lookAround_39 : decode cX1_lookAround 39 = .ok (.istore 5, 2) := by decide +kernel
theorem dX1_lookAround_41 : decode cX1_lookAround 41 = .ok (.iconst 0, 1) := by decide +kernel
theorem dX1_lookAround_42 : decode cX1_lookAround 42 = .ok (.istore 6, 2) := by decide +kernel
theorem dX1_lookAround_44 : decode cX1_lookAround 44 = .ok (.iload 6, 2) := by decide +kernel
theorem dX1_lookAround_46 : decode cX1_lookAround 46 = .ok (.aload_n 0, 1) := by decide +kernel
theorem dX1_lookAround_47 : decode cX1_lookAround 47 = .ok (.getfield 42, 3) := by decide +kernel
theorem dX1_lookAround_50 : decode cX1_lookAround 50 = .ok (.getfield 58, 3) := by decide +kernel
theorem dX1_lookAround_53 : decode cX1_lookAround 53 = .ok (.if_icmp .ge 62, 3) := by decide +kernel
theorem dX1_lookAround_56 : decode cX1_lookAround 56 = .ok (.iload 6, 2) := by decide +kernel
theorem dX1_lookAround_58 : decode cX1_lookAround 58 = .ok (.iload 4, 2) := by decide +kernel
theorem dX1_lookAround_60 : decode cX1_lookAround 60 = .ok (.if_icmp .eq 38, 3) := by decide +kernel
theorem dX1_lookAround_63 : decode cX1_lookAround 63 = .ok (.aload_n 0, 1) := by decide +kernel
theorem dX1_lookAround_64 : decode cX1_lookAround 64 = .ok (.getfield 11, 3) := by decide +kernel
theorem dX1_lookAround_67 : decode cX1_lookAround 67 = .ok (.iload 5, 2) := by decide +kernel
theorem dX1_lookAround_69 : decode cX1_lookAround 69 = .ok (.iaload, 1) := by decide +kernel
theorem dX1_lookAround_70 : decode cX1_lookAround 70 = .ok (.ifCond .eq 28, 3) := by decide +kernel
theorem dX1_lookAround_73 : decode cX1_lookAround 73 = .ok (.aload_n 0, 1) := by decide +kernel
theorem dX1_lookAround_74 : decode cX1_lookAround 74 = .ok (.getfield 36, 3) := by decide +kernel
theorem dX1_lookAround_77 : decode cX1_lookAround 77 = .ok (.iload_n 2, 1) := by decide +kernel
theorem dX1_lookAround_78 : decode cX1_lookAround 78 = .ok (.iload 5, 2) := by decide +kernel
theorem dX1_lookAround_80 : decode cX1_lookAround 80 = .ok (.iastore, 1) := by decide +kernel
theorem dX1_lookAround_81 : decode cX1_lookAround 81 = .ok (.aload_n 0, 1) := by decide +kernel
theorem dX1_lookAround_82 : decode cX1_lookAround 82 = .ok (.getfield 39, 3) := by decide +kernel
theorem dX1_lookAround_85 : decode cX1_lookAround 85 = .ok (.iload_n 2, 1) := by decide +kernel
theorem dX1_lookAround_86 : decode cX1_lookAround 86 = .ok (.iload_n 3, 1) := by decide +kernel
theorem dX1_lookAround_87 : decode cX1_lookAround 87 = .ok (.iload 6, 2) := by decide +kernel
theorem dX1_lookAround_89 : decode cX1_lookAround 89 = .ok (.iload 4, 2) := by decide +kernel
theorem dX1_lookAround_91 : decode cX1_lookAround 91 = .ok (.invokestatic 87, 3) := by decide +kernel
theorem dX1_lookAround_94 : decode cX1_lookAround 94 = .ok (.iastore, 1) := by decide +kernel
theorem dX1_lookAround_95 : decode cX1_lookAround 95 = .ok (.iinc 2 1, 3) := by decide +kernel
theorem dX1_lookAround_98 : decode cX1_lookAround 98 = .ok (.iload 5, 2) := by decide +kernel
theorem dX1_lookAround_100 : decode cX1_lookAround 100 = .ok (.aload_n 0, 1) := by decide +kernel
theorem dX1_lookAround_101 : decode cX1_lookAround 101 = .ok (.getfield 30, 3) := by decide +kernel
theorem dX1_lookAround_104 : decode cX1_lookAround 104 = .ok (.iload_n 3, 1) := by decide +kernel
theorem dX1_lookAround_105 : decode cX1_lookAround 105 = .ok (.iaload, 1) := by decide +kernel
theorem dX1_lookAround_106 : decode cX1_lookAround 106 = .ok (.iadd, 1) := by decide +kernel
theorem dX1_lookAround_107 : decode cX1_lookAround 107 = .ok (.istore 5, 2) := by decide +kernel
theorem dX1_lookAround_109 : decode cX1_lookAround 109 = .ok (.iinc 6 1, 3) := by decide +kernel
theorem dX1_lookAround_112 : decode cX1_lookAround 112 = .ok (.goto (-68), 3) := by decide +kernel
theorem dX1_lookAround_115 : decode cX1_lookAround 115 = .ok (.iinc 3 1, 3) := by decide +kernel
theorem dX1_lookAround_118 : decode cX1_lookAround 118 = .ok (.goto (-109), 3) := by decide +kernel
theorem dX1_lookAround_121 : decode cX1_lookAround 121 = .ok (.iload_n 2, 1) := by decide +kernel
theorem dX1_lookAround_122 : decode cX1_lookAround 122 = .ok (.ireturn, 1) := by decide +kernel
theorem dX1_enterTurn_0 : decode cX1_enterTurn 0 = .ok (.iload_n 2, 1) := by decide +kernel
theorem dX1_enterTurn_1 : decode cX1_enterTurn 1 = .ok (.bipush 100, 2) := by decide +kernel
theorem dX1_enterTurn_3 : decode cX1_enterTurn 3 = .ok (.irem, 1) := by decide +kernel
theorem dX1_enterTurn_4 : decode cX1_enterTurn 4 = .ok (.istore_n 3, 1) := by decide +kernel
theorem dX1_enterTurn_5 : decode cX1_enterTurn 5 = .ok (.aload_n 0, 1) := by decide +kernel
theorem dX1_enterTurn_6 : decode cX1_enterTurn 6 = .ok (.getfield 24, 3) := by decide +kernel
theorem dX1_enterTurn_9 : decode cX1_enterTurn 9 = .ok (.iload_n 3, 1) := by decide +kernel
theorem dX1_enterTurn_10 : decode cX1_enterTurn 10 = .ok (.iaload, 1) := by decide +kernel
theorem dX1_enterTurn_11 : decode cX1_enterTurn 11 = .ok (.istore 4, 2) := by decide +kernel
theorem dX1_enterTurn_13 : decode cX1_enterTurn 13 = .ok (.aload_n 0, 1) := by decide +kernel
theorem dX1_enterTurn_14 : decode cX1_enterTurn 14 = .ok (.getfield 15, 3) := by decide +kernel
theorem dX1_enterTurn_17 : decode cX1_enterTurn 17 = .ok (.iload_n 1, 1) := by decide +kernel
theorem dX1_enterTurn_18 : decode cX1_enterTurn 18 = .ok (.iload_n 2, 1) := by decide +kernel
theorem dX1_enterTurn_19 : decode cX1_enterTurn 19 = .ok (.iastore, 1) := by decide +kernel
theorem dX1_enterTurn_20 : decode cX1_enterTurn 20 = .ok (.aload_n 0, 1) := by decide +kernel
theorem dX1_enterTurn_21 : decode cX1_enterTurn 21 = .ok (.getfield 18, 3) := by decide +kernel
theorem dX1_enterTurn_24 : decode cX1_enterTurn 24 = .ok (.iload_n 1, 1) := by decide +kernel
theorem dX1_enterTurn_25 : decode cX1_enterTurn 25 = .ok (.iload 4, 2) := by decide +kernel
theorem dX1_enterTurn_27 : decode cX1_enterTurn 27 = .ok (.iastore, 1) := by decide +kernel
theorem dX1_enterTurn_28 : decode cX1_enterTurn 28 = .ok (.aload_n 0, 1) := by decide +kernel
theorem dX1_enterTurn_29 : decode cX1_enterTurn 29 = .ok (.getfield 21, 3) := by decide +kernel
theorem dX1_enterTurn_32 : decode cX1_enterTurn 32 = .ok (.iload_n 1, 1) := by decide +kernel
theorem dX1_enterTurn_33 : decode cX1_enterTurn 33 = .ok (.iconst (-1), 1) := by decide +kernel
theorem dX1_enterTurn_34 : decode cX1_enterTurn 34 = .ok (.iastore, 1) := by decide +kernel
theorem dX1_enterTurn_35 : decode cX1_enterTurn 35 = .ok (.iload 4, 2) := by decide +kernel
theorem dX1_enterTurn_37 : decode cX1_enterTurn 37 = .ok (.iconst (-1), 1) := by decide +kernel
theorem dX1_enterTurn_38 : decode cX1_enterTurn 38 = .ok (.if_icmp .eq 11, 3) := by decide +kernel
theorem dX1_enterTurn_41 : decode cX1_enterTurn 41 = .ok (.aload_n 0, 1) := by decide +kernel
theorem dX1_enterTurn_42 : decode cX1_enterTurn 42 = .ok (.getfield 21, 3) := by decide +kernel
theorem dX1_enterTurn_45 : decode cX1_enterTurn 45 = .ok (.iload 4, 2) := by decide +kernel
theorem dX1_enterTurn_47 : decode cX1_enterTurn 47 = .ok (.iload_n 1, 1) := by decide +kernel
theorem dX1_enterTurn_48 : decode cX1_enterTurn 48 = .ok (.iastore, 1) := by decide +kernel
theorem dX1_enterTurn_49 : decode cX1_enterTurn 49 = .ok (.aload_n 0, 1) := by decide +kernel
theorem dX1_enterTurn_50 : decode cX1_enterTurn 50 = .ok (.getfield 24, 3) := by decide +kernel
theorem dX1_enterTurn_53 : decode cX1_enterTurn 53 = .ok (.iload_n 3, 1) := by decide +kernel
theorem dX1_enterTurn_54 : decode cX1_enterTurn 54 = .ok (.iload_n 1, 1) := by decide +kernel
theorem dX1_enterTurn_55 : decode cX1_enterTurn 55 = .ok (.iastore, 1) := by decide +kernel
theorem dX1_enterTurn_56 : decode cX1_enterTurn 56 = .ok (.aload_n 0, 1) := by decide +kernel
theorem dX1_enterTurn_57 : decode cX1_enterTurn 57 = .ok (.dup, 1) := by decide +kernel
theorem dX1_enterTurn_58 : decode cX1_enterTurn 58 = .ok (.getfield 101, 3) := by decide +kernel
theorem dX1_enterTurn_61 : decode cX1_enterTurn 61 = .ok (.iconst 1, 1) := by decide +kernel
theorem dX1_enterTurn_62 : decode cX1_enterTurn 62 = .ok (.iadd, 1) := by decide +kernel
theorem dX1_enterTurn_63 : decode cX1_enterTurn 63 = .ok (.putfield 101, 3) := by decide +kernel
theorem dX1_enterTurn_66 : decode cX1_enterTurn 66 = .ok (.return_, 1) := by decide +kernel
theorem dX1_leaveTurn_0 : decode cX1_leaveTurn 0 = .ok (.aload_n 0, 1) := by decide +kernel
theorem dX1_leaveTurn_1 : decode cX1_leaveTurn 1 = .ok (.getfield 21, 3) := by decide +kernel
theorem dX1_leaveTurn_4 : decode cX1_leaveTurn 4 = .ok (.iload_n 1, 1) := by decide +kernel
theorem dX1_leaveTurn_5 : decode cX1_leaveTurn 5 = .ok (.iaload, 1) := by decide +kernel
theorem dX1_leaveTurn_6 : decode cX1_leaveTurn 6 = .ok (.iconst (-1), 1) := by decide +kernel
theorem dX1_leaveTurn_7 : decode cX1_leaveTurn 7 = .ok (.if_icmp .ne 26, 3) := by decide +kernel
theorem dX1_leaveTurn_10 : decode cX1_leaveTurn 10 = .ok (.aload_n 0, 1) := by decide +kernel
theorem dX1_leaveTurn_11 : decode cX1_leaveTurn 11 = .ok (.getfield 24, 3) := by decide +kernel
theorem dX1_leaveTurn_14 : decode cX1_leaveTurn 14 = .ok (.aload_n 0, 1) := by decide +kernel
theorem dX1_leaveTurn_15 : decode cX1_leaveTurn 15 = .ok (.getfield 15, 3) := by decide +kernel
theorem dX1_leaveTurn_18 : decode cX1_leaveTurn 18 = .ok (.iload_n 1, 1) := by decide +kernel
theorem dX1_leaveTurn_19 : decode cX1_leaveTurn 19 = .ok (.iaload, 1) := by decide +kernel
theorem dX1_leaveTurn_20 : decode cX1_leaveTurn 20 = .ok (.bipush 100, 2) := by decide +kernel
theorem dX1_leaveTurn_22 : decode cX1_leaveTurn 22 = .ok (.irem, 1) := by decide +kernel
theorem dX1_leaveTurn_23 : decode cX1_leaveTurn 23 = .ok (.aload_n 0, 1) := by decide +kernel
theorem dX1_leaveTurn_24 : decode cX1_leaveTurn 24 = .ok (.getfield 18, 3) := by decide +kernel
theorem dX1_leaveTurn_27 : decode cX1_leaveTurn 27 = .ok (.iload_n 1, 1) := by decide +kernel
theorem dX1_leaveTurn_28 : decode cX1_leaveTurn 28 = .ok (.iaload, 1) := by decide +kernel
theorem dX1_leaveTurn_29 : decode cX1_leaveTurn 29 = .ok (.iastore, 1) := by decide +kernel
theorem dX1_leaveTurn_30 : decode cX1_leaveTurn 30 = .ok (.goto 20, 3) := by decide +kernel
theorem dX1_leaveTurn_33 : decode cX1_leaveTurn 33 = .ok (.aload_n 0, 1) := by decide +kernel
theorem dX1_leaveTurn_34 : decode cX1_leaveTurn 34 = .ok (.getfield 18, 3) := by decide +kernel
theorem dX1_leaveTurn_37 : decode cX1_leaveTurn 37 = .ok (.aload_n 0, 1) := by decide +kernel
theorem dX1_leaveTurn_38 : decode cX1_leaveTurn 38 = .ok (.getfield 21, 3) := by decide +kernel
theorem dX1_leaveTurn_41 : decode cX1_leaveTurn 41 = .ok (.iload_n 1, 1) := by decide +kernel
theorem dX1_leaveTurn_42 : decode cX1_leaveTurn 42 = .ok (.iaload, 1) := by decide +kernel
theorem dX1_leaveTurn_43 : decode cX1_leaveTurn 43 = .ok (.aload_n 0, 1) := by decide +kernel
theorem dX1_leaveTurn_44 : decode cX1_leaveTurn 44 = .ok (.getfield 18, 3) := by decide +kernel
theorem dX1_leaveTurn_47 : decode cX1_leaveTurn 47 = .ok (.iload_n 1, 1) := by decide +kernel
theorem dX1_leaveTurn_48 : decode cX1_leaveTurn 48 = .ok (.iaload, 1) := by decide +kernel
theorem dX1_leaveTurn_49 : decode cX1_leaveTurn 49 = .ok (.iastore, 1) := by decide +kernel
theorem dX1_leaveTurn_50 : decode cX1_leaveTurn 50 = .ok (.aload_n 0, 1) := by decide +kernel
theorem dX1_leaveTurn_51 : decode cX1_leaveTurn 51 = .ok (.getfield 18, 3) := by decide +kernel
theorem dX1_leaveTurn_54 : decode cX1_leaveTurn 54 = .ok (.iload_n 1, 1) := by decide +kernel
theorem dX1_leaveTurn_55 : decode cX1_leaveTurn 55 = .ok (.iaload, 1) := by decide +kernel
theorem dX1_leaveTurn_56 : decode cX1_leaveTurn 56 = .ok (.iconst (-1), 1) := by decide +kernel
theorem dX1_leaveTurn_57 : decode cX1_leaveTurn 57 = .ok (.if_icmp .eq 20, 3) := by decide +kernel
theorem dX1_leaveTurn_60 : decode cX1_leaveTurn 60 = .ok (.aload_n 0, 1) := by decide +kernel
theorem dX1_leaveTurn_61 : decode cX1_leaveTurn 61 = .ok (.getfield 21, 3) := by decide +kernel
theorem dX1_leaveTurn_64 : decode cX1_leaveTurn 64 = .ok (.aload_n 0, 1) := by decide +kernel
theorem dX1_leaveTurn_65 : decode cX1_leaveTurn 65 = .ok (.getfield 18, 3) := by decide +kernel
theorem dX1_leaveTurn_68 : decode cX1_leaveTurn 68 = .ok (.iload_n 1, 1) := by decide +kernel
theorem dX1_leaveTurn_69 : decode cX1_leaveTurn 69 = .ok (.iaload, 1) := by decide +kernel
theorem dX1_leaveTurn_70 : decode cX1_leaveTurn 70 = .ok (.aload_n 0, 1) := by decide +kernel
theorem dX1_leaveTurn_71 : decode cX1_leaveTurn 71 = .ok (.getfield 21, 3) := by decide +kernel
theorem dX1_leaveTurn_74 : decode cX1_leaveTurn 74 = .ok (.iload_n 1, 1) := by decide +kernel
theorem dX1_leaveTurn_75 : decode cX1_leaveTurn 75 = .ok (.iaload, 1) := by decide +kernel
theorem dX1_leaveTurn_76 : decode cX1_leaveTurn 76 = .ok (.iastore, 1) := by decide +kernel
theorem dX1_leaveTurn_77 : decode cX1_leaveTurn 77 = .ok (.aload_n 0, 1) := by decide +kernel
theorem dX1_leaveTurn_78 : decode cX1_leaveTurn 78 = .ok (.dup, 1) := by decide +kernel
theorem dX1_leaveTurn_79 : decode cX1_leaveTurn 79 = .ok (.getfield 101, 3) := by decide +kernel
theorem dX1_leaveTurn_82 : decode cX1_leaveTurn 82 = .ok (.iconst 1, 1) := by decide +kernel
theorem dX1_leaveTurn_83 : decode cX1_leaveTurn 83 = .ok (.isub, 1) := by decide +kernel
theorem dX1_leaveTurn_84 : decode cX1_leaveTurn 84 = .ok (.putfield 101, 3) := by decide +kernel
theorem dX1_leaveTurn_87 : decode cX1_leaveTurn 87 = .ok (.return_, 1) := by decide +kernel
theorem dX1_firstBest_0 : decode cX1_firstBest 0 = .ok (.aload_n 0, 1) := by decide +kernel
theorem dX1_firstBest_1 : decode cX1_firstBest 1 = .ok (.getfield 11, 3) := by decide +kernel
theorem dX1_firstBest_4 : decode cX1_firstBest 4 = .ok (.aload_n 0, 1) := by decide +kernel
theorem dX1_firstBest_5 : decode cX1_firstBest 5 = .ok (.getfield 50, 3) := by decide +kernel
theorem dX1_firstBest_8 : decode cX1_firstBest 8 = .ok (.iaload, 1) := by decide +kernel
theorem dX1_firstBest_9 : decode cX1_firstBest 9 = .ok (.iconst 2, 1) := by decide +kernel
theorem dX1_firstBest_10 : decode cX1_firstBest 10 = .ok (.if_icmp .eq 16, 3) := by decide +kernel
theorem dX1_firstBest_13 : decode cX1_firstBest 13 = .ok (.aload_n 0, 1) := by decide +kernel
theorem dX1_firstBest_14 : decode cX1_firstBest 14 = .ok (.getfield 15, 3) := by decide +kernel
theorem dX1_firstBest_17 : decode cX1_firstBest 17 = .ok (.aload_n 0, 1) := by decide +kernel
theorem dX1_firstBest_18 : decode cX1_firstBest 18 = .ok (.getfield 50, 3) := by decide +kernel
theorem dX1_firstBest_21 : decode cX1_firstBest 21 = .ok (.iaload, 1) := by decide +kernel
theorem dX1_firstBest_22 : decode cX1_firstBest 22 = .ok (.iconst (-1), 1) := by decide +kernel
theorem dX1_firstBest_23 : decode cX1_firstBest 23 = .ok (.if_icmp .ne 5, 3) := by decide +kernel
theorem dX1_firstBest_26 : decode cX1_firstBest 26 = .ok (.iconst (-1), 1) := by decide +kernel
theorem dX1_firstBest_27 : decode cX1_firstBest 27 = .ok (.ireturn, 1) := by decide +kernel
theorem dX1_firstBest_28 : decode cX1_firstBest 28 = .ok (.iconst 0, 1) := by decide +kernel
theorem dX1_firstBest_29 : decode cX1_firstBest 29 = .ok (.istore_n 1, 1) := by decide +kernel
theorem dX1_firstBest_30 : decode cX1_firstBest 30 = .ok (.iload_n 1, 1) := by decide +kernel
theorem dX1_firstBest_31 : decode cX1_firstBest 31 = .ok (.aload_n 0, 1) := by decide +kernel
theorem dX1_firstBest_32 : decode cX1_firstBest 32 = .ok (.getfield 42, 3) := by decide +kernel
theorem dX1_firstBest_35 : decode cX1_firstBest 35 = .ok (.getfield 53, 3) := by decide +kernel
theorem dX1_firstBest_38 : decode cX1_firstBest 38 = .ok (.if_icmp .ge 123, 3) := by decide +kernel
theorem dX1_firstBest_41 : decode cX1_firstBest 41 = .ok (.aload_n 0, 1) := by decide +kernel
theorem dX1_firstBest_42 : decode cX1_firstBest 42 = .ok (.getfield 42, 3) := by decide +kernel
theorem dX1_firstBest_45 : decode cX1_firstBest 45 = .ok (.getfield 64, 3) := by decide +kernel
theorem dX1_firstBest_48 : decode cX1_firstBest 48 = .ok (.iload_n 1, 1) := by decide +kernel
theorem dX1_firstBest_49 : decode cX1_firstBest 49 = .ok (.iaload, 1) := by decide +kernel
theorem dX1_firstBest_50 : decode cX1_firstBest 50 = .ok (.istore_n 2, 1) := by decide +kernel
theorem dX1_firstBest_51 : decode cX1_firstBest 51 = .ok (.iconst 0, 1) := by decide +kernel
theorem dX1_firstBest_52 : decode cX1_firstBest 52 = .ok (.istore_n 3, 1) := by decide +kernel
theorem dX1_firstBest_53 : decode cX1_firstBest 53 = .ok (.iload_n 3, 1) := by decide +kernel
theorem dX1_firstBest_54 : decode cX1_firstBest 54 = .ok (.aload_n 0, 1) := by decide +kernel
theorem dX1_firstBest_55 : decode cX1_firstBest 55 = .ok (.getfield 42, 3) := by decide +kernel
theorem dX1_firstBest_58 : decode cX1_firstBest 58 = .ok (.getfield 58, 3) := by decide +kernel
theorem dX1_firstBest_61 : decode cX1_firstBest 61 = .ok (.if_icmp .ge 94, 3) := by decide +kernel
theorem dX1_firstBest_64 : decode cX1_firstBest 64 = .ok (.aload_n 0, 1) := by decide +kernel
theorem dX1_firstBest_65 : decode cX1_firstBest 65 = .ok (.getfield 50, 3) := by decide +kernel
theorem dX1_firstBest_68 : decode cX1_firstBest 68 = .ok (.iload_n 3, 1) := by decide +kernel
theorem dX1_firstBest_69 : decode cX1_firstBest 69 = .ok (.iload_n 2, 1) := by decide +kernel
theorem dX1_firstBest_70 : decode cX1_firstBest 70 = .ok (.isub, 1) := by decide +kernel
theorem dX1_firstBest_71 : decode cX1_firstBest 71 = .ok (.aload_n 0, 1) := by decide +kernel
theorem dX1_firstBest_72 : decode cX1_firstBest 72 = .ok (.getfield 30, 3) := by decide +kernel
theorem dX1_firstBest_75 : decode cX1_firstBest 75 = .ok (.iload_n 1, 1) := by decide +kernel
theorem dX1_firstBest_76 : decode cX1_firstBest 76 = .ok (.iaload, 1) := by decide +kernel
theorem dX1_firstBest_77 : decode cX1_firstBest 77 = .ok (.imul, 1) := by decide +kernel
theorem dX1_firstBest_78 : decode cX1_firstBest 78 = .ok (.iadd, 1) := by decide +kernel
theorem dX1_firstBest_79 : decode cX1_firstBest 79 = .ok (.istore 4, 2) := by decide +kernel
theorem dX1_firstBest_81 : decode cX1_firstBest 81 = .ok (.aload_n 0, 1) := by decide +kernel
theorem dX1_firstBest_82 : decode cX1_firstBest 82 = .ok (.getfield 11, 3) := by decide +kernel
theorem dX1_firstBest_85 : decode cX1_firstBest 85 = .ok (.iload 4, 2) := by decide +kernel
theorem dX1_firstBest_87 : decode cX1_firstBest 87 = .ok (.iaload, 1) := by decide +kernel
theorem dX1_firstBest_88 : decode cX1_firstBest 88 = .ok (.ifCond .eq 61, 3) := by decide +kernel
theorem dX1_firstBest_91 : decode cX1_firstBest 91 = .ok (.iload 4, 2) := by decide +kernel
theorem dX1_firstBest_93 : decode cX1_firstBest 93 = .ok (.aload_n 0, 1) := by decide +kernel
theorem dX1_firstBest_94 : decode cX1_firstBest 94 = .ok (.getfield 50, 3) := by decide +kernel
theorem dX1_firstBest_97 : decode cX1_firstBest 97 = .ok (.if_icmp .eq 52, 3) := by decide +kernel
theorem dX1_firstBest_100 : decode cX1_firstBest 100 = .ok (.aload_n 0, 1) := by decide +kernel
theorem dX1_firstBest_101 : decode cX1_firstBest 101 = .ok (.getfield 15, 3) := by decide +kernel
theorem dX1_firstBest_104 : decode cX1_firstBest 104 = .ok (.iload 4, 2) := by decide +kernel
theorem dX1_firstBest_106 : decode cX1_firstBest 106 = .ok (.iaload, 1) := by decide +kernel
theorem dX1_firstBest_107 : decode cX1_firstBest 107 = .ok (.iconst (-1), 1) := by decide +kernel
theorem dX1_firstBest_108 : decode cX1_firstBest 108 = .ok (.if_icmp .eq 41, 3) := by decide +kernel
theorem dX1_firstBest_111 : decode cX1_firstBest 111 = .ok (.aload_n 0, 1) := by decide +kernel
theorem dX1_firstBest_112 : decode cX1_firstBest 112 = .ok (.getfield 15, 3) := by decide +kernel
theorem dX1_firstBest_115 : decode cX1_firstBest 115 = .ok (.aload_n 0, 1) := by decide +kernel
theorem dX1_firstBest_116 : decode cX1_firstBest 116 = .ok (.getfield 50, 3) := by decide +kernel
theorem dX1_firstBest_119 : decode cX1_firstBest 119 = .ok (.iaload, 1) := by decide +kernel
theorem dX1_firstBest_120 : decode cX1_firstBest 120 = .ok (.aload_n 0, 1) := by decide +kernel
theorem dX1_firstBest_121 : decode cX1_firstBest 121 = .ok (.getfield 15, 3) := by decide +kernel
theorem dX1_firstBest_124 : decode cX1_firstBest 124 = .ok (.iload 4, 2) := by decide +kernel
theorem dX1_firstBest_126 : decode cX1_firstBest 126 = .ok (.iaload, 1) := by decide +kernel
theorem dX1_firstBest_127 : decode cX1_firstBest 127 = .ok (.isub, 1) := by decide +kernel
theorem dX1_firstBest_128 : decode cX1_firstBest 128 = .ok (.aload_n 0, 1) := by decide +kernel
theorem dX1_firstBest_129 : decode cX1_firstBest 129 = .ok (.getfield 27, 3) := by decide +kernel
theorem dX1_firstBest_132 : decode cX1_firstBest 132 = .ok (.iload_n 1, 1) := by decide +kernel
theorem dX1_firstBest_133 : decode cX1_firstBest 133 = .ok (.iload_n 2, 1) := by decide +kernel
theorem dX1_firstBest_134 : decode cX1_firstBest 134 = .ok (.iload_n 3, 1) := by decide +kernel
theorem dX1_firstBest_135 : decode cX1_firstBest 135 = .ok (.invokestatic 87, 3) := by decide +kernel
theorem dX1_firstBest_138 : decode cX1_firstBest 138 = .ok (.iaload, 1) := by decide +kernel
theorem dX1_firstBest_139 : decode cX1_firstBest 139 = .ok (.if_icmp .ne 10, 3) := by decide +kernel
theorem dX1_firstBest_142 : decode cX1_firstBest 142 = .ok (.bipush 10, 2) := by decide +kernel
theorem dX1_firstBest_144 : decode cX1_firstBest 144 = .ok (.iload_n 1, 1) := by decide +kernel
theorem dX1_firstBest_145 : decode cX1_firstBest 145 = .ok (.imul, 1) := by decide +kernel
theorem dX1_firstBest_146 : decode cX1_firstBest 146 = .ok (.iload_n 3, 1) := by decide +kernel
theorem dX1_firstBest_147 : decode cX1_firstBest 147 = .ok (.iadd, 1) := by decide +kernel
theorem dX1_firstBest_148 : decode cX1_firstBest 148 = .ok (.ireturn, 1) := by decide +kernel
theorem dX1_firstBest_149 : decode cX1_firstBest 149 = .ok (.iinc 3 1, 3) := by decide +kernel
theorem dX1_firstBest_152 : decode cX1_firstBest 152 = .ok (.goto (-99), 3) := by decide +kernel
theorem dX1_firstBest_155 : decode cX1_firstBest 155 = .ok (.iinc 1 1, 3) := by decide +kernel
theorem dX1_firstBest_158 : decode cX1_firstBest 158 = .ok (.goto (-128), 3) := by decide +kernel
theorem dX1_firstBest_161 : decode cX1_firstBest 161 = .ok (.iconst (-1), 1) := by decide +kernel
theorem dX1_firstBest_162 : decode cX1_firstBest 162 = .ok (.ireturn, 1) := by decide +kernel
theorem dX1_farWith_0 : decode cX1_farWith 0 = .ok (.aload_n 0, 1) := by decide +kernel
theorem dX1_farWith_1 : decode cX1_farWith 1 = .ok (.getfield 50, 3) := by decide +kernel
theorem dX1_farWith_4 : decode cX1_farWith 4 = .ok (.iload_n 2, 1) := by decide +kernel
theorem dX1_farWith_5 : decode cX1_farWith 5 = .ok (.aload_n 0, 1) := by decide +kernel
theorem dX1_farWith_6 : decode cX1_farWith 6 = .ok (.getfield 42, 3) := by decide +kernel
theorem dX1_farWith_9 : decode cX1_farWith 9 = .ok (.getfield 64, 3) := by decide +kernel
theorem dX1_farWith_12 : decode cX1_farWith 12 = .ok (.iload_n 1, 1) := by decide +kernel
theorem dX1_farWith_13 : decode cX1_farWith 13 = .ok (.iaload, 1) := by decide +kernel
theorem dX1_farWith_14 : decode cX1_farWith 14 = .ok (.isub, 1) := by decide +kernel
theorem dX1_farWith_15 : decode cX1_farWith 15 = .ok (.aload_n 0, 1) := by decide +kernel
theorem dX1_farWith_16 : decode cX1_farWith 16 = .ok (.getfield 30, 3) := by decide +kernel
theorem dX1_farWith_19 : decode cX1_farWith 19 = .ok (.iload_n 1, 1) := by decide +kernel
theorem dX1_farWith_20 : decode cX1_farWith 20 = .ok (.iaload, 1) := by decide +kernel
theorem dX1_farWith_21 : decode cX1_farWith 21 = .ok (.imul, 1) := by decide +kernel
theorem dX1_farWith_22 : decode cX1_farWith 22 = .ok (.iadd, 1) := by decide +kernel
theorem dX1_farWith_23 : decode cX1_farWith 23 = .ok (.istore_n 3, 1) := by decide +kernel
theorem dX1_farWith_24 : decode cX1_farWith 24 = .ok (.aload_n 0, 1) := by decide +kernel
theorem dX1_farWith_25 : decode cX1_farWith 25 = .ok (.getfield 11, 3) := by decide +kernel
theorem dX1_farWith_28 : decode cX1_farWith 28 = .ok (.iload_n 3, 1) := by decide +kernel
theorem dX1_farWith_29 : decode cX1_farWith 29 = .ok (.iaload, 1) := by decide +kernel
theorem dX1_farWith_30 : decode cX1_farWith 30 = .ok (.ifCond .ne 7, 3) := by decide +kernel
theorem dX1_farWith_33 : decode cX1_farWith 33 = .ok (.iconst (-1), 1) := by decide +kernel
theorem dX1_farWith_34 : decode cX1_farWith 34 = .ok (.goto 9, 3) := by decide +kernel
theorem dX1_farWith_37 : decode cX1_farWith 37 = .ok (.aload_n 0, 1) := by decide +kernel
theorem dX1_farWith_38 : decode cX1_farWith 38 = .ok (.getfield 15, 3) := by decide +kernel
theorem dX1_farWith_41 : decode cX1_farWith 41 = .ok (.iload_n 3, 1) := by decide +kernel
theorem dX1_farWith_42 : decode cX1_farWith 42 = .ok (.iaload, 1) := by decide +kernel
theorem dX1_farWith_43 : decode cX1_farWith 43 = .ok (.ireturn, 1) := by decide +kernel
theorem dX1_flood_0 : decode cX1_flood 0 = .ok (.iconst 0, 1) := by decide +kernel
theorem dX1_flood_1 : decode cX1_flood 1 = .ok (.istore_n 1, 1) := by decide +kernel
theorem dX1_flood_2 : decode cX1_flood 2 = .ok (.iload_n 1, 1) := by decide +kernel
theorem dX1_flood_3 : decode cX1_flood 3 = .ok (.aload_n 0, 1) := by decide +kernel
theorem dX1_flood_4 : decode cX1_flood 4 = .ok (.getfield 46, 3) := by decide +kernel
theorem dX1_flood_7 : decode cX1_flood 7 = .ok (.if_icmp .ge 16, 3) := by decide +kernel
theorem dX1_flood_10 : decode cX1_flood 10 = .ok (.aload_n 0, 1) := by decide +kernel
theorem dX1_flood_11 : decode cX1_flood 11 = .ok (.getfield 21, 3) := by decide +kernel
theorem dX1_flood_14 : decode cX1_flood 14 = .ok (.iload_n 1, 1) := by decide +kernel
theorem dX1_flood_15 : decode cX1_flood 15 = .ok (.iconst 0, 1) := by decide +kernel
theorem dX1_flood_16 : decode cX1_flood 16 = .ok (.iastore, 1) := by decide +kernel
theorem dX1_flood_17 : decode cX1_flood 17 = .ok (.iinc 1 1, 3) := by decide +kernel
theorem dX1_flood_20 : decode cX1_flood 20 = .ok (.goto (-18), 3) := by decide +kernel
theorem dX1_flood_23 : decode cX1_flood 23 = .ok (.aload_n 0, 1) := by decide +kernel
theorem dX1_flood_24 : decode cX1_flood 24 = .ok (.getfield 21, 3) := by decide +kernel
theorem dX1_flood_27 : decode cX1_flood 27 = .ok (.aload_n 0, 1) := by decide +kernel
theorem dX1_flood_28 : decode cX1_flood 28 = .ok (.getfield 50, 3) := by decide +kernel
theorem dX1_flood_31 : decode cX1_flood 31 = .ok (.iconst 1, 1) := by decide +kernel
theorem dX1_flood_32 : decode cX1_flood 32 = .ok (.iastore, 1) := by decide +kernel
theorem dX1_flood_33 : decode cX1_flood 33 = .ok (.aload_n 0, 1) := by decide +kernel
theorem dX1_flood_34 : decode cX1_flood 34 = .ok (.getfield 18, 3) := by decide +kernel
theorem dX1_flood_37 : decode cX1_flood 37 = .ok (.iconst 0, 1) := by decide +kernel
theorem dX1_flood_38 : decode cX1_flood 38 = .ok (.aload_n 0, 1) := by decide +kernel
theorem dX1_flood_39 : decode cX1_flood 39 = .ok (.getfield 50, 3) := by decide +kernel
theorem dX1_flood_42 : decode cX1_flood 42 = .ok (.iastore, 1) := by decide +kernel
theorem dX1_flood_43 : decode cX1_flood 43 = .ok (.iconst 1, 1) := by decide +kernel
theorem dX1_flood_44 : decode cX1_flood 44 = .ok (.istore_n 1, 1) := by decide +kernel
theorem dX1_flood_45 : decode cX1_flood 45 = .ok (.iconst 0, 1) := by decide +kernel
theorem dX1_flood_46 : decode cX1_flood 46 = .ok (.istore_n 2, 1) := by decide +kernel
theorem dX1_flood_47 : decode cX1_flood 47 = .ok (.iload_n 2, 1) := by decide +kernel
theorem dX1_flood_48 : decode cX1_flood 48 = .ok (.iload_n 1, 1) := by decide +kernel
theorem dX1_flood_49 : decode cX1_flood 49 = .ok (.if_icmp .ge 29, 3) := by decide +kernel
theorem dX1_flood_52 : decode cX1_flood 52 = .ok (.iload_n 2, 1) := by decide +kernel
theorem dX1_flood_53 : decode cX1_flood 53 = .ok (.aload_n 0, 1) := by decide +kernel
theorem dX1_flood_54 : decode cX1_flood 54 = .ok (.getfield 46, 3) := by decide +kernel
theorem dX1_flood_57 : decode cX1_flood 57 = .ok (.if_icmp .ge 21, 3) := by decide +kernel
theorem dX1_flood_60 : decode cX1_flood 60 = .ok (.aload_n 0, 1) := by decide +kernel
theorem dX1_flood_61 : decode cX1_flood 61 = .ok (.aload_n 0, 1) := by decide +kernel
theorem dX1_flood_62 : decode cX1_flood 62 = .ok (.getfield 18, 3) := by decide +kernel
theorem dX1_flood_65 : decode cX1_flood 65 = .ok (.iload_n 2, 1) := by decide +kernel
theorem dX1_flood_66 : decode cX1_flood 66 = .ok (.iaload, 1) := by decide +kernel
theorem dX1_flood_67 : decode cX1_flood 67 = .ok (.iload_n 1, 1) := by decide +kernel
theorem dX1_flood_68 : decode cX1_flood 68 = .ok (.invokevirtual 115, 3) := by decide +kernel
theorem dX1_flood_71 : decode cX1_flood 71 = .ok (.istore_n 1, 1) := by decide +kernel
theorem dX1_flood_72 : decode cX1_flood 72 = .ok (.iinc 2 1, 3) := by decide +kernel
theorem dX1_flood_75 : decode cX1_flood 75 = .ok (.goto (-28), 3) := by decide +kernel
theorem dX1_flood_78 : decode cX1_flood 78 = .ok (.iload_n 1, 1) := by decide +kernel
theorem dX1_flood_79 : decode cX1_flood 79 = .ok (.ireturn, 1) := by decide +kernel
theorem dX1_floodOnce_0 : decode cX1_floodOnce 0 = .ok (.iload_n 2, 1) := by decide +kernel
theorem dX1_floodOnce_1 : decode cX1_floodOnce 1 = .ok (.istore_n 3, 1) := by decide +kernel
theorem dX1_floodOnce_2 : decode cX1_floodOnce 2 = .ok (.aload_n 0, 1) := by decide +kernel
theorem dX1_floodOnce_3 : decode cX1_floodOnce 3 = .ok (.iload_n 1, 1) := by decide +kernel
theorem dX1_floodOnce_4 : decode cX1_floodOnce 4 = .ok (.invokevirtual 111, 3) := by decide +kernel
theorem dX1_floodOnce_7 : decode cX1_floodOnce 7 = .ok (.istore 4, 2) := by decide +kernel
theorem dX1_floodOnce_9 : decode cX1_floodOnce 9 = .ok (.iconst 0, 1) := by decide +kernel
theorem dX1_floodOnce_10 : decode cX1_floodOnce 10 = .ok (.istore 5, 2) := by decide +kernel
theorem dX1_floodOnce_12 : decode cX1_floodOnce 12 = .ok (.iload 5, 2) := by decide +kernel
theorem dX1_floodOnce_14 : decode cX1_floodOnce 14 = .ok (.iload 4, 2) := by decide +kernel
theorem dX1_floodOnce_16 : decode cX1_floodOnce 16 = .ok (.if_icmp .ge 53, 3) := by decide +kernel
theorem dX1_floodOnce_19 : decode cX1_floodOnce 19 = .ok (.aload_n 0, 1) := by decide +kernel
theorem dX1_floodOnce_20 : decode cX1_floodOnce 20 = .ok (.getfield 21, 3) := by decide +kernel
theorem dX1_floodOnce_23 : decode cX1_floodOnce 23 = .ok (.aload_n 0, 1) := by decide +kernel
theorem dX1_floodOnce_24 : decode cX1_floodOnce 24 = .ok (.getfield 36, 3) := by decide +kernel
theorem dX1_floodOnce_27 : decode cX1_floodOnce 27 = .ok (.iload 5, 2) := by decide +kernel
theorem dX1_floodOnce_29 : decode cX1_floodOnce 29 = .ok (.iaload, 1) := by decide +kernel
theorem dX1_floodOnce_30 : decode cX1_floodOnce 30 = .ok (.iaload, 1) := by decide +kernel
theorem dX1_floodOnce_31 : decode cX1_floodOnce 31 = .ok (.ifCond .ne 32, 3) := by decide +kernel
theorem dX1_floodOnce_34 : decode cX1_floodOnce 34 = .ok (.aload_n 0, 1) := by decide +kernel
theorem dX1_floodOnce_35 : decode cX1_floodOnce 35 = .ok (.getfield 21, 3) := by decide +kernel
theorem dX1_floodOnce_38 : decode cX1_floodOnce 38 = .ok (.aload_n 0, 1) := by decide +kernel
theorem dX1_floodOnce_39 : decode cX1_floodOnce 39 = .ok (.getfield 36, 3) := by decide +kernel
theorem dX1_floodOnce_42 : decode cX1_floodOnce 42 = .ok (.iload 5, 2) := by decide +kernel
theorem dX1_floodOnce_44 : decode cX1_floodOnce 44 = .ok (.iaload, 1) := by decide +kernel
theorem dX1_floodOnce_45 : decode cX1_floodOnce 45 = .ok (.iconst 1, 1) := by decide +kernel
theorem dX1_floodOnce_46 : decode cX1_floodOnce 46 = .ok (.iastore, 1) := by decide +kernel
theorem dX1_floodOnce_47 : decode cX1_floodOnce 47 = .ok (.aload_n 0, 1) := by decide +kernel
theorem dX1_floodOnce_48 : decode cX1_floodOnce 48 = .ok (.getfield 18, 3) := by decide +kernel
theorem dX1_floodOnce_51 : decode cX1_floodOnce 51 = .ok (.iload_n 3, 1) := by decide +kernel
theorem dX1_floodOnce_52 : decode cX1_floodOnce 52 = .ok (.iinc 3 1, 3) := by decide +kernel
theorem dX1_floodOnce_55 : decode cX1_floodOnce 55 = .ok (.aload_n 0, 1) := by decide +kernel
theorem dX1_floodOnce_56 : decode cX1_floodOnce 56 = .ok (.getfield 36, 3) := by decide +kernel
theorem dX1_floodOnce_59 : decode cX1_floodOnce 59 = .ok (.iload 5, 2) := by decide +kernel
theorem dX1_floodOnce_61 : decode cX1_floodOnce 61 = .ok (.iaload, 1) := by decide +kernel
theorem dX1_floodOnce_62 : decode cX1_floodOnce 62 = .ok (.iastore, 1) := by decide +kernel
theorem dX1_floodOnce_63 : decode cX1_floodOnce 63 = .ok (.iinc 5 1, 3) := by decide +kernel
theorem dX1_floodOnce_66 : decode cX1_floodOnce 66 = .ok (.goto (-54), 3) := by decide +kernel
theorem dX1_floodOnce_69 : decode cX1_floodOnce 69 = .ok (.iload_n 3, 1) := by decide +kernel
theorem dX1_floodOnce_70 : decode cX1_floodOnce 70 = .ok (.ireturn, 1) := by decide +kernel
theorem dX1_farthest_0 : decode cX1_farthest 0 = .ok (.aload_n 0, 1) := by decide +kernel
theorem dX1_farthest_1 : decode cX1_farthest 1 = .ok (.invokevirtual 118, 3) := by decide +kernel
theorem dX1_farthest_4 : decode cX1_farthest 4 = .ok (.istore_n 1, 1) := by decide +kernel
theorem dX1_farthest_5 : decode cX1_farthest 5 = .ok (.iconst (-1), 1) := by decide +kernel
theorem dX1_farthest_6 : decode cX1_farthest 6 = .ok (.istore_n 2, 1) := by decide +kernel
theorem dX1_farthest_7 : decode cX1_farthest 7 = .ok (.iconst 0, 1) := by decide +kernel
theorem dX1_farthest_8 : decode cX1_farthest 8 = .ok (.istore_n 3, 1) := by decide +kernel
theorem dX1_farthest_9 : decode cX1_farthest 9 = .ok (.iload_n 3, 1) := by decide +kernel
theorem dX1_farthest_10 : decode cX1_farthest 10 = .ok (.iload_n 1, 1) := by decide +kernel
theorem dX1_farthest_11 : decode cX1_farthest 11 = .ok (.if_icmp .ge 25, 3) := by decide +kernel
theorem dX1_farthest_14 : decode cX1_farthest 14 = .ok (.iload_n 2, 1) := by decide +kernel
theorem dX1_farthest_15 : decode cX1_farthest 15 = .ok (.aload_n 0, 1) := by decide +kernel
theorem dX1_farthest_16 : decode cX1_farthest 16 = .ok (.getfield 15, 3) := by decide +kernel
theorem dX1_farthest_19 : decode cX1_farthest 19 = .ok (.aload_n 0, 1) := by decide +kernel
theorem dX1_farthest_20 : decode cX1_farthest 20 = .ok (.getfield 18, 3) := by decide +kernel
theorem dX1_farthest_23 : decode cX1_farthest 23 = .ok (.iload_n 3, 1) := by decide +kernel
theorem dX1_farthest_24 : decode cX1_farthest 24 = .ok (.iaload, 1) := by decide +kernel
theorem dX1_farthest_25 : decode cX1_farthest 25 = .ok (.iaload, 1) := by decide +kernel
theorem dX1_farthest_26 : decode cX1_farthest 26 = .ok (.invokestatic 122, 3) := by decide +kernel
theorem dX1_farthest_29 : decode cX1_farthest 29 = .ok (.istore_n 2, 1) := by decide +kernel
theorem dX1_farthest_30 : decode cX1_farthest 30 = .ok (.iinc 3 1, 3) := by decide +kernel
theorem dX1_farthest_33 : decode cX1_farthest 33 = .ok (.goto (-24), 3) := by decide +kernel
theorem dX1_farthest_36 : decode cX1_farthest 36 = .ok (.iload_n 2, 1) := by decide +kernel
theorem dX1_farthest_37 : decode cX1_farthest 37 = .ok (.ireturn, 1) := by decide +kernel
theorem dX1_rowsTo_0 : decode cX1_rowsTo 0 = .ok (.iload_n 1, 1) := by decide +kernel
theorem dX1_rowsTo_1 : decode cX1_rowsTo 1 = .ok (.iconst (-1), 1) := by decide +kernel
theorem dX1_rowsTo_2 : decode cX1_rowsTo 2 = .ok (.if_icmp .ne 5, 3) := by decide +kernel
theorem dX1_rowsTo_5 : decode cX1_rowsTo 5 = .ok (.lconst 0, 1) := by decide +kernel
theorem dX1_rowsTo_6 : decode cX1_rowsTo 6 = .ok (.lreturn, 1) := by decide +kernel
theorem dX1_rowsTo_7 : decode cX1_rowsTo 7 = .ok (.aload_n 0, 1) := by decide +kernel
theorem dX1_rowsTo_8 : decode cX1_rowsTo 8 = .ok (.aload_n 0, 1) := by decide +kernel
theorem dX1_rowsTo_9 : decode cX1_rowsTo 9 = .ok (.getfield 15, 3) := by decide +kernel
theorem dX1_rowsTo_12 : decode cX1_rowsTo 12 = .ok (.aload_n 0, 1) := by decide +kernel
theorem dX1_rowsTo_13 : decode cX1_rowsTo 13 = .ok (.getfield 50, 3) := by decide +kernel
theorem dX1_rowsTo_16 : decode cX1_rowsTo 16 = .ok (.iload_n 2, 1) := by decide +kernel
theorem dX1_rowsTo_17 : decode cX1_rowsTo 17 = .ok (.iconst 2, 1) := by decide +kernel
theorem dX1_rowsTo_18 : decode cX1_rowsTo 18 = .ok (.idiv, 1) := by decide +kernel
theorem dX1_rowsTo_19 : decode cX1_rowsTo 19 = .ok (.invokevirtual 127, 3) := by decide +kernel
theorem dX1_rowsTo_22 : decode cX1_rowsTo 22 = .ok (.aload_n 0, 1) := by decide +kernel
theorem dX1_rowsTo_23 : decode cX1_rowsTo 23 = .ok (.aload_n 0, 1) := by decide +kernel
theorem dX1_rowsTo_24 : decode cX1_rowsTo 24 = .ok (.getfield 21, 3) := by decide +kernel
theorem dX1_rowsTo_27 : decode cX1_rowsTo 27 = .ok (.iload_n 1, 1) := by decide +kernel
theorem dX1_rowsTo_28 : decode cX1_rowsTo 28 = .ok (.iload_n 2, 1) := by decide +kernel
theorem dX1_rowsTo_29 : decode cX1_rowsTo 29 = .ok (.iload_n 2, 1) := by decide +kernel
theorem dX1_rowsTo_30 : decode cX1_rowsTo 30 = .ok (.iconst 2, 1) := by decide +kernel
theorem dX1_rowsTo_31 : decode cX1_rowsTo 31 = .ok (.idiv, 1) := by decide +kernel
theorem dX1_rowsTo_32 : decode cX1_rowsTo 32 = .ok (.isub, 1) := by decide +kernel
theorem dX1_rowsTo_33 : decode cX1_rowsTo 33 = .ok (.invokevirtual 127, 3) := by decide +kernel
theorem dX1_rowsTo_36 : decode cX1_rowsTo 36 = .ok (.lconst 0, 1) := by decide +kernel
theorem dX1_rowsTo_37 : decode cX1_rowsTo 37 = .ok (.lstore_n 3, 1) := by decide +kernel
theorem dX1_rowsTo_38 : decode cX1_rowsTo 38 = .ok (.iconst 0, 1) := by decide +kernel
theorem dX1_rowsTo_39 : decode cX1_rowsTo 39 = .ok (.istore 5, 2) := by decide +kernel
theorem dX1_rowsTo_41 : decode cX1_rowsTo 41 = .ok (.iload 5, 2) := by decide +kernel
theorem dX1_rowsTo_43 : decode cX1_rowsTo 43 = .ok (.aload_n 0, 1) := by decide +kernel
theorem dX1_rowsTo_44 : decode cX1_rowsTo 44 = .ok (.getfield 46, 3) := by decide +kernel
theorem dX1_rowsTo_47 : decode cX1_rowsTo 47 = .ok (.if_icmp .ge 29, 3) := by decide +kernel
theorem dX1_rowsTo_50 : decode cX1_rowsTo 50 = .ok (.lload_n 3, 1) := by decide +kernel
theorem dX1_rowsTo_51 : decode cX1_rowsTo 51 = .ok (.aload_n 0, 1) := by decide +kernel
theorem dX1_rowsTo_52 : decode cX1_rowsTo 52 = .ok (.getfield 15, 3) := by decide +kernel
theorem dX1_rowsTo_55 : decode cX1_rowsTo 55 = .ok (.iload 5, 2) := by decide +kernel
theorem dX1_rowsTo_57 : decode cX1_rowsTo 57 = .ok (.iaload, 1) := by decide +kernel
theorem dX1_rowsTo_58 : decode cX1_rowsTo 58 = .ok (.i2l, 1) := by decide +kernel
theorem dX1_rowsTo_59 : decode cX1_rowsTo 59 = .ok (.aload_n 0, 1) := by decide +kernel
theorem dX1_rowsTo_60 : decode cX1_rowsTo 60 = .ok (.getfield 21, 3) := by decide +kernel
theorem dX1_rowsTo_63 : decode cX1_rowsTo 63 = .ok (.iload 5, 2) := by decide +kernel
theorem dX1_rowsTo_65 : decode cX1_rowsTo 65 = .ok (.iaload, 1) := by decide +kernel
theorem dX1_rowsTo_66 : decode cX1_rowsTo 66 = .ok (.i2l, 1) := by decide +kernel
theorem dX1_rowsTo_67 : decode cX1_rowsTo 67 = .ok (.lmul, 1) := by decide +kernel
theorem dX1_rowsTo_68 : decode cX1_rowsTo 68 = .ok (.ladd, 1) := by decide +kernel
theorem dX1_rowsTo_69 : decode cX1_rowsTo 69 = .ok (.lstore_n 3, 1) := by decide +kernel
theorem dX1_rowsTo_70 : decode cX1_rowsTo 70 = .ok (.iinc 5 1, 3) := by decide +kernel
theorem dX1_rowsTo_73 : decode cX1_rowsTo 73 = .ok (.goto (-32), 3) := by decide +kernel
theorem dX1_rowsTo_76 : decode cX1_rowsTo 76 = .ok (.lload_n 3, 1) := by decide +kernel
theorem dX1_rowsTo_77 : decode cX1_rowsTo 77 = .ok (.lreturn, 1) := by decide +kernel
theorem dX1_step_0 : decode cX1_step 0 = .ok (.iconst 0, 1) := by decide +kernel
theorem dX1_step_1 : decode cX1_step 1 = .ok (.istore 4, 2) := by decide +kernel
theorem dX1_step_3 : decode cX1_step 3 = .ok (.iload 4, 2) := by decide +kernel
theorem dX1_step_5 : decode cX1_step 5 = .ok (.aload_n 0, 1) := by decide +kernel
theorem dX1_step_6 : decode cX1_step 6 = .ok (.getfield 46, 3) := by decide +kernel
theorem dX1_step_9 : decode cX1_step 9 = .ok (.if_icmp .ge 14, 3) := by decide +kernel
theorem dX1_step_12 : decode cX1_step 12 = .ok (.aload_n 1, 1) := by decide +kernel
theorem dX1_step_13 : decode cX1_step 13 = .ok (.iload 4, 2) := by decide +kernel
theorem dX1_step_15 : decode cX1_step 15 = .ok (.iconst 0, 1) := by decide +kernel
theorem dX1_step_16 : decode cX1_step 16 = .ok (.iastore, 1) := by decide +kernel
theorem dX1_step_17 : decode cX1_step 17 = .ok (.iinc 4 1, 3) := by decide +kernel
theorem dX1_step_20 : decode cX1_step 20 = .ok (.goto (-17), 3) := by decide +kernel
theorem dX1_step_23 : decode cX1_step 23 = .ok (.aload_n 1, 1) := by decide +kernel
theorem dX1_step_24 : decode cX1_step 24 = .ok (.iload_n 2, 1) := by decide +kernel
theorem dX1_step_25 : decode cX1_step 25 = .ok (.iconst 1, 1) := by decide +kernel
theorem dX1_step_26 : decode cX1_step 26 = .ok (.iastore, 1) := by decide +kernel
theorem dX1_step_27 : decode cX1_step 27 = .ok (.iconst 0, 1) := by decide +kernel
theorem dX1_step_28 : decode cX1_step 28 = .ok (.istore 4, 2) := by decide +kernel
theorem dX1_step_30 : decode cX1_step 30 = .ok (.iload 4, 2) := by decide +kernel
theorem dX1_step_32 : decode cX1_step 32 = .ok (.iload_n 3, 1) := by decide +kernel
theorem dX1_step_33 : decode cX1_step 33 = .ok (.if_icmp .ge 84, 3) := by decide +kernel
theorem dX1_step_36 : decode cX1_step 36 = .ok (.iconst 0, 1) := by decide +kernel
theorem dX1_step_37 : decode cX1_step 37 = .ok (.istore 5, 2) := by decide +kernel
theorem dX1_step_39 : decode cX1_step 39 = .ok (.iload 5, 2) := by decide +kernel
theorem dX1_step_41 : decode cX1_step 41 = .ok (.aload_n 0, 1) := by decide +kernel
theorem dX1_step_42 : decode cX1_step 42 = .ok (.getfield 46, 3) := by decide +kernel
theorem dX1_step_45 : decode cX1_step 45 = .ok (.if_icmp .ge 17, 3) := by decide +kernel
theorem dX1_step_48 : decode cX1_step 48 = .ok (.aload_n 0, 1) := by decide +kernel
theorem dX1_step_49 : decode cX1_step 49 = .ok (.getfield 18, 3) := by decide +kernel
theorem dX1_step_52 : decode cX1_step 52 = .ok (.iload 5, 2) := by decide +kernel
theorem dX1_step_54 : decode cX1_step 54 = .ok (.iconst 0, 1) := by decide +kernel
theorem dX1_step_55 : decode cX1_step 55 = .ok (.iastore, 1) := by decide +kernel
theorem dX1_step_56 : decode cX1_step 56 = .ok (.iinc 5 1, 3) := by decide +kernel
theorem dX1_step_59 : decode cX1_step 59 = .ok (.goto (-20), 3) := by decide +kernel
theorem dX1_step_62 : decode cX1_step 62 = .ok (.iconst 0, 1) := by decide +kernel
theorem dX1_step_63 : decode cX1_step 63 = .ok (.istore 5, 2) := by decide +kernel
theorem dX1_step_65 : decode cX1_step 65 = .ok (.iload 5, 2) := by decide +kernel
theorem dX1_step_67 : decode cX1_step 67 = .ok (.aload_n 0, 1) := by decide +kernel
theorem dX1_step_68 : decode cX1_step 68 = .ok (.getfield 46, 3) := by decide +kernel
theorem dX1_step_71 : decode cX1_step 71 = .ok (.if_icmp .ge 26, 3) := by decide +kernel
theorem dX1_step_74 : decode cX1_step 74 = .ok (.aload_n 1, 1) := by decide +kernel
theorem dX1_step_75 : decode cX1_step 75 = .ok (.iload 5, 2) := by decide +kernel
theorem dX1_step_77 : decode cX1_step 77 = .ok (.iaload, 1) := by decide +kernel
theorem dX1_step_78 : decode cX1_step 78 = .ok (.ifCond .eq 13, 3) := by decide +kernel
theorem dX1_step_81 : decode cX1_step 81 = .ok (.aload_n 0, 1) := by decide +kernel
theorem dX1_step_82 : decode cX1_step 82 = .ok (.iload 5, 2) := by decide +kernel
theorem dX1_step_84 : decode cX1_step 84 = .ok (.aload_n 1, 1) := by decide +kernel
theorem dX1_step_85 : decode cX1_step 85 = .ok (.iload 5, 2) := by decide +kernel
theorem dX1_step_87 : decode cX1_step 87 = .ok (.iaload, 1) := by decide +kernel
theorem dX1_step_88 : decode cX1_step 88 = .ok (.invokevirtual 131, 3) := by decide +kernel
theorem dX1_step_91 : decode cX1_step 91 = .ok (.iinc 5 1, 3) := by decide +kernel
theorem dX1_step_94 : decode cX1_step 94 = .ok (.goto (-29), 3) := by decide +kernel
theorem dX1_step_97 : decode cX1_step 97 = .ok (.aload_n 0, 1) := by decide +kernel
theorem dX1_step_98 : decode cX1_step 98 = .ok (.getfield 18, 3) := by decide +kernel
theorem dX1_step_101 : decode cX1_step 101 = .ok (.iconst 0, 1) := by decide +kernel
theorem dX1_step_102 : decode cX1_step 102 = .ok (.aload_n 1, 1) := by decide +kernel
theorem dX1_step_103 : decode cX1_step 103 = .ok (.iconst 0, 1) := by decide +kernel
theorem dX1_step_104 : decode cX1_step 104 = .ok (.aload_n 0, 1) := by decide +kernel
theorem dX1_step_105 : decode cX1_step 105 = .ok (.getfield 46, 3) := by decide +kernel
theorem dX1_step_108 : decode cX1_step 108 = .ok (.invokestatic 134, 3) := by decide +kernel
theorem dX1_step_111 : decode cX1_step 111 = .ok (.iinc 4 1, 3) := by decide +kernel
theorem dX1_step_114 : decode cX1_step 114 = .ok (.goto (-84), 3) := by decide +kernel
theorem dX1_step_117 : decode cX1_step 117 = .ok (.return_, 1) := by decide +kernel
theorem dX1_stepOnce_0 : decode cX1_stepOnce 0 = .ok (.aload_n 0, 1) := by decide +kernel
theorem dX1_stepOnce_1 : decode cX1_stepOnce 1 = .ok (.iload_n 1, 1) := by decide +kernel
theorem dX1_stepOnce_2 : decode cX1_stepOnce 2 = .ok (.invokevirtual 111, 3) := by decide +kernel
theorem dX1_stepOnce_5 : decode cX1_stepOnce 5 = .ok (.istore_n 3, 1) := by decide +kernel
theorem dX1_stepOnce_6 : decode cX1_stepOnce 6 = .ok (.iconst 0, 1) := by decide +kernel
theorem dX1_stepOnce_7 : decode cX1_stepOnce 7 = .ok (.istore 4, 2) := by decide +kernel
theorem dX1_stepOnce_9 : decode cX1_stepOnce 9 = .ok (.iload 4, 2) := by decide +kernel
theorem dX1_stepOnce_11 : decode cX1_stepOnce 11 = .ok (.iload_n 3, 1) := by decide +kernel
theorem dX1_stepOnce_12 : decode cX1_stepOnce 12 = .ok (.if_icmp .ge 25, 3) := by decide +kernel
theorem dX1_stepOnce_15 : decode cX1_stepOnce 15 = .ok (.aload_n 0, 1) := by decide +kernel
theorem dX1_stepOnce_16 : decode cX1_stepOnce 16 = .ok (.getfield 18, 3) := by decide +kernel
theorem dX1_stepOnce_19 : decode cX1_stepOnce 19 = .ok (.aload_n 0, 1) := by decide +kernel
theorem dX1_stepOnce_20 : decode cX1_stepOnce 20 = .ok (.getfield 36, 3) := by decide +kernel
theorem dX1_stepOnce_23 : decode cX1_stepOnce 23 = .ok (.iload 4, 2) := by decide +kernel
theorem dX1_stepOnce_25 : decode cX1_stepOnce 25 = .ok (.iaload, 1) := by decide +kernel
theorem dX1_stepOnce_26 : decode cX1_stepOnce 26 = .ok (.dup2, 1) := by decide +kernel
theorem dX1_stepOnce_27 : decode cX1_stepOnce 27 = .ok (.iaload, 1) := by decide +kernel
theorem dX1_stepOnce_28 : decode cX1_stepOnce 28 = .ok (.iload_n 2, 1) := by decide +kernel
theorem dX1_stepOnce_29 : decode cX1_stepOnce 29 = .ok (.iadd, 1) := by decide +kernel
theorem dX1_stepOnce_30 : decode cX1_stepOnce 30 = .ok (.iastore, 1) := by decide +kernel
theorem dX1_stepOnce_31 : decode cX1_stepOnce 31 = .ok (.iinc 4 1, 3) := by decide +kernel
theorem dX1_stepOnce_34 : decode cX1_stepOnce 34 = .ok (.goto (-25), 3) := by decide +kernel
theorem dX1_stepOnce_37 : decode cX1_stepOnce 37 = .ok (.return_, 1) := by decide +kernel
theorem dX2_init_0 : decode cX2_init 0 = .ok (.aload_n 0, 1) := by decide +kernel
theorem dX2_init_1 : decode cX2_init 1 = .ok (.invokespecial 3, 3) := by decide +kernel
theorem dX2_init_4 : decode cX2_init 4 = .ok (.aload_n 0, 1) := by decide +kernel
theorem dX2_init_5 : decode cX2_init 5 = .ok (.bipush 40, 2) := by decide +kernel
theorem dX2_init_7 : decode cX2_init 7 = .ok (.newarray .int, 2) := by decide +kernel
theorem dX2_init_9 : decode cX2_init 9 = .ok (.putfield 9, 3) := by decide +kernel
theorem dX2_init_12 : decode cX2_init 12 = .ok (.aload_n 0, 1) := by decide +kernel
theorem dX2_init_13 : decode cX2_init 13 = .ok (.iconst (-1), 1) := by decide +kernel
theorem dX2_init_14 : decode cX2_init 14 = .ok (.putfield 15, 3) := by decide +kernel
theorem dX2_init_17 : decode cX2_init 17 = .ok (.return_, 1) := by decide +kernel
theorem dX2_isMissing_0 : decode cX2_isMissing 0 = .ok (.aload_n 0, 1) := by decide +kernel
theorem dX2_isMissing_1 : decode cX2_isMissing 1 = .ok (.getfield 15, 3) := by decide +kernel
theorem dX2_isMissing_4 : decode cX2_isMissing 4 = .ok (.iconst (-1), 1) := by decide +kernel
theorem dX2_isMissing_5 : decode cX2_isMissing 5 = .ok (.if_icmp .ne 7, 3) := by decide +kernel
theorem dX2_isMissing_8 : decode cX2_isMissing 8 = .ok (.iconst 1, 1) := by decide +kernel
theorem dX2_isMissing_9 : decode cX2_isMissing 9 = .ok (.goto 4, 3) := by decide +kernel
theorem dX2_isMissing_12 : decode cX2_isMissing 12 = .ok (.iconst 0, 1) := by decide +kernel
theorem dX2_isMissing_13 : decode cX2_isMissing 13 = .ok (.ireturn, 1) := by decide +kernel
theorem dX2_become_0 : decode cX2_become 0 = .ok (.aload_n 0, 1) := by decide +kernel
theorem dX2_become_1 : decode cX2_become 1 = .ok (.iload_n 1, 1) := by decide +kernel
theorem dX2_become_2 : decode cX2_become 2 = .ok (.putfield 15, 3) := by decide +kernel
theorem dX2_become_5 : decode cX2_become 5 = .ok (.aload_n 0, 1) := by decide +kernel
theorem dX2_become_6 : decode cX2_become 6 = .ok (.iload_n 2, 1) := by decide +kernel
theorem dX2_become_7 : decode cX2_become 7 = .ok (.putfield 19, 3) := by decide +kernel
theorem dX2_become_10 : decode cX2_become 10 = .ok (.iconst 0, 1) := by decide +kernel
theorem dX2_become_11 : decode cX2_become 11 = .ok (.istore_n 3, 1) := by decide +kernel
theorem dX2_become_12 : decode cX2_become 12 = .ok (.iload_n 3, 1) := by decide +kernel
theorem dX2_become_13 : decode cX2_become 13 = .ok (.bipush 40, 2) := by decide +kernel
theorem dX2_become_15 : decode cX2_become 15 = .ok (.if_icmp .ge 16, 3) := by decide +kernel
theorem dX2_become_18 : decode cX2_become 18 = .ok (.aload_n 0, 1) := by decide +kernel
theorem dX2_become_19 : decode cX2_become 19 = .ok (.getfield 9, 3) := by decide +kernel
theorem dX2_become_22 : decode cX2_become 22 = .ok (.iload_n 3, 1) := by decide +kernel
theorem dX2_become_23 : decode cX2_become 23 = .ok (.iconst 0, 1) := by decide +kernel
theorem dX2_become_24 : decode cX2_become 24 = .ok (.iastore, 1) := by decide +kernel
theorem dX2_become_25 : decode cX2_become 25 = .ok (.iinc 3 1, 3) := by decide +kernel
theorem dX2_become_28 : decode cX2_become 28 = .ok (.goto (-16), 3) := by decide +kernel
theorem dX2_become_31 : decode cX2_become 31 = .ok (.return_, 1) := by decide +kernel
theorem dX2_put_0 : decode cX2_put 0 = .ok (.aload_n 0, 1) := by decide +kernel
theorem dX2_put_1 : decode cX2_put 1 = .ok (.getfield 15, 3) := by decide +kernel
theorem dX2_put_4 : decode cX2_put 4 = .ok (.ifCond .ne 14, 3) := by decide +kernel
theorem dX2_put_7 : decode cX2_put 7 = .ok (.aload_n 0, 1) := by decide +kernel
theorem dX2_put_8 : decode cX2_put 8 = .ok (.getfield 9, 3) := by decide +kernel
theorem dX2_put_11 : decode cX2_put 11 = .ok (.iload_n 1, 1) := by decide +kernel
theorem dX2_put_12 : decode cX2_put 12 = .ok (.iload_n 2, 1) := by decide +kernel
theorem dX2_put_13 : decode cX2_put 13 = .ok (.i2b, 1) := by decide +kernel
theorem dX2_put_14 : decode cX2_put 14 = .ok (.iastore, 1) := by decide +kernel
theorem dX2_put_15 : decode cX2_put 15 = .ok (.goto 29, 3) := by decide +kernel
theorem dX2_put_18 : decode cX2_put 18 = .ok (.aload_n 0, 1) := by decide +kernel
theorem dX2_put_19 : decode cX2_put 19 = .ok (.getfield 15, 3) := by decide +kernel
theorem dX2_put_22 : decode cX2_put 22 = .ok (.iconst 1, 1) := by decide +kernel
theorem dX2_put_23 : decode cX2_put 23 = .ok (.if_icmp .ne 14, 3) := by decide +kernel
theorem dX2_put_26 : decode cX2_put 26 = .ok (.aload_n 0, 1) := by decide +kernel
theorem dX2_put_27 : decode cX2_put 27 = .ok (.getfield 9, 3) := by decide +kernel
theorem dX2_put_30 : decode cX2_put 30 = .ok (.iload_n 1, 1) := by decide +kernel
theorem dX2_put_31 : decode cX2_put 31 = .ok (.iload_n 2, 1) := by decide +kernel
theorem dX2_put_32 : decode cX2_put 32 = .ok (.i2s, 1) := by decide +kernel
theorem dX2_put_33 : decode cX2_put 33 = .ok (.iastore, 1) := by decide +kernel
theorem dX2_put_34 : decode cX2_put 34 = .ok (.goto 10, 3) := by decide +kernel
theorem dX2_put_37 : decode cX2_put 37 = .ok (.aload_n 0, 1) := by decide +kernel
theorem dX2_put_38 : decode cX2_put 38 = .ok (.getfield 9, 3) := by decide +kernel
theorem dX2_put_41 : decode cX2_put 41 = .ok (.iload_n 1, 1) := by decide +kernel
theorem dX2_put_42 : decode cX2_put 42 = .ok (.iload_n 2, 1) := by decide +kernel
theorem dX2_put_43 : decode cX2_put 43 = .ok (.iastore, 1) := by decide +kernel
theorem dX2_put_44 : decode cX2_put 44 = .ok (.return_, 1) := by decide +kernel
theorem dX2_hasPart_0 : decode cX2_hasPart 0 = .ok (.iload_n 1, 1) := by decide +kernel
theorem dX2_hasPart_1 : decode cX2_hasPart 1 = .ok (.ifCond .lt 29, 3) := by decide +kernel
theorem dX2_hasPart_4 : decode cX2_hasPart 4 = .ok (.iload_n 2, 1) := by decide +kernel
theorem dX2_hasPart_5 : decode cX2_hasPart 5 = .ok (.ifCond .lt 25, 3) := by decide +kernel
theorem dX2_hasPart_8 : decode cX2_hasPart 8 = .ok (.iload_n 2, 1) := by decide +kernel
theorem dX2_hasPart_9 : decode cX2_hasPart 9 = .ok (.aload_n 0, 1) := by decide +kernel
theorem dX2_hasPart_10 : decode cX2_hasPart 10 = .ok (.getfield 19, 3) := by decide +kernel
theorem dX2_hasPart_13 : decode cX2_hasPart 13 = .ok (.if_icmp .gt 17, 3) := by decide +kernel
theorem dX2_hasPart_16 : decode cX2_hasPart 16 = .ok (.iload_n 1, 1) := by decide +kernel
theorem dX2_hasPart_17 : decode cX2_hasPart 17 = .ok (.aload_n 0, 1) := by decide +kernel
theorem dX2_hasPart_18 : decode cX2_hasPart 18 = .ok (.getfield 19, 3) := by decide +kernel
theorem dX2_hasPart_21 : decode cX2_hasPart 21 = .ok (.iload_n 2, 1) := by decide +kernel
theorem dX2_hasPart_22 : decode cX2_hasPart 22 = .ok (.isub, 1) := by decide +kernel
theorem dX2_hasPart_23 : decode cX2_hasPart 23 = .ok (.if_icmp .gt 7, 3) := by decide +kernel
theorem dX2_hasPart_26 : decode cX2_hasPart 26 = .ok (.iconst 1, 1) := by decide +kernel
theorem dX2_hasPart_27 : decode cX2_hasPart 27 = .ok (.goto 4, 3) := by decide +kernel
theorem dX2_hasPart_30 : decode cX2_hasPart 30 = .ok (.iconst 0, 1) := by decide +kernel
theorem dX2_hasPart_31 : decode cX2_hasPart 31 = .ok (.ireturn, 1) := by decide +kernel
theorem dX3_init_0 : decode cX3_init 0 = .ok (.aload_n 0, 1) := by decide +kernel
theorem dX3_init_1 : decode cX3_init 1 = .ok (.invokespecial 3, 3) := by decide +kernel
theorem dX3_init_4 : decode cX3_init 4 = .ok (.aload_n 0, 1) := by decide +kernel
theorem dX3_init_5 : decode cX3_init 5 = .ok (.sipush 160, 3) := by decide +kernel
theorem dX3_init_8 : decode cX3_init 8 = .ok (.newarray .int, 2) := by decide +kernel
theorem dX3_init_10 : decode cX3_init 10 = .ok (.putfield 9, 3) := by decide +kernel
theorem dX3_init_13 : decode cX3_init 13 = .ok (.return_, 1) := by decide +kernel
theorem dX3_clear_0 : decode cX3_clear 0 = .ok (.aload_n 0, 1) := by decide +kernel
theorem dX3_clear_1 : decode cX3_clear 1 = .ok (.iconst 0, 1) := by decide +kernel
theorem dX3_clear_2 : decode cX3_clear 2 = .ok (.putfield 15, 3) := by decide +kernel
theorem dX3_clear_5 : decode cX3_clear 5 = .ok (.return_, 1) := by decide +kernel
theorem dX3_add_0 : decode cX3_add 0 = .ok (.aload_n 0, 1) := by decide +kernel
theorem dX3_add_1 : decode cX3_add 1 = .ok (.getfield 15, 3) := by decide +kernel
theorem dX3_add_4 : decode cX3_add 4 = .ok (.sipush 160, 3) := by decide +kernel
theorem dX3_add_7 : decode cX3_add 7 = .ok (.if_icmp .ge 20, 3) := by decide +kernel
theorem dX3_add_10 : decode cX3_add 10 = .ok (.aload_n 0, 1) := by decide +kernel
theorem dX3_add_11 : decode cX3_add 11 = .ok (.getfield 9, 3) := by decide +kernel
theorem dX3_add_14 : decode cX3_add 14 = .ok (.aload_n 0, 1) := by decide +kernel
theorem dX3_add_15 : decode cX3_add 15 = .ok (.dup, 1) := by decide +kernel
theorem dX3_add_16 : decode cX3_add 16 = .ok (.getfield 15, 3) := by decide +kernel
theorem dX3_add_19 : decode cX3_add 19 = .ok (.dup_x1, 1) := by decide +kernel
theorem dX3_add_20 : decode cX3_add 20 = .ok (.iconst 1, 1) := by decide +kernel
theorem dX3_add_21 : decode cX3_add 21 = .ok (.iadd, 1) := by decide +kernel
theorem dX3_add_22 : decode cX3_add 22 = .ok (.putfield 15, 3) := by decide +kernel
theorem dX3_add_25 : decode cX3_add 25 = .ok (.iload_n 1, 1) := by decide +kernel
theorem dX3_add_26 : decode cX3_add 26 = .ok (.iastore, 1) := by decide +kernel
theorem dX3_add_27 : decode cX3_add 27 = .ok (.return_, 1) := by decide +kernel
theorem dX3_read_0 : decode cX3_read 0 = .ok (.aload_n 0, 1) := by decide +kernel
theorem dX3_read_1 : decode cX3_read 1 = .ok (.aload_n 1, 1) := by decide +kernel
theorem dX3_read_2 : decode cX3_read 2 = .ok (.putfield 19, 3) := by decide +kernel
theorem dX3_read_5 : decode cX3_read 5 = .ok (.aload_n 0, 1) := by decide +kernel
theorem dX3_read_6 : decode cX3_read 6 = .ok (.getfield 19, 3) := by decide +kernel
theorem dX3_read_9 : decode cX3_read 9 = .ok (.invokevirtual 23, 3) := by decide +kernel
theorem dX3_read_12 : decode cX3_read 12 = .ok (.aload_n 0, 1) := by decide +kernel
theorem dX3_read_13 : decode cX3_read 13 = .ok (.iconst 0, 1) := by decide +kernel
theorem dX3_read_14 : decode cX3_read 14 = .ok (.putfield 28, 3) := by decide +kernel
theorem dX3_read_17 : decode cX3_read 17 = .ok (.aload_n 0, 1) := by decide +kernel
theorem dX3_read_18 : decode cX3_read 18 = .ok (.invokevirtual 31, 3) := by decide +kernel
theorem dX3_read_21 : decode cX3_read 21 = .ok (.iconst 0, 1) := by decide +kernel
theorem dX3_read_22 : decode cX3_read 22 = .ok (.istore_n 2, 1) := by decide +kernel
theorem dX3_read_23 : decode cX3_read 23 = .ok (.iload_n 2, 1) := by decide +kernel
theorem dX3_read_24 : decode cX3_read 24 = .ok (.iconst 3, 1) := by decide +kernel
theorem dX3_read_25 : decode cX3_read 25 = .ok (.if_icmp .ge 64, 3) := by decide +kernel
theorem dX3_read_28 : decode cX3_read 28 = .ok (.aload_n 0, 1) := by decide +kernel
theorem dX3_read_29 : decode cX3_read 29 = .ok (.getfield 34, 3) := by decide +kernel
theorem dX3_read_32 : decode cX3_read 32 = .ok (.bipush 6, 2) := by decide +kernel
theorem dX3_read_34 : decode cX3_read 34 = .ok (.iload_n 2, 1) := by decide +kernel
theorem dX3_read_35 : decode cX3_read 35 = .ok (.iadd, 1) := by decide +kernel
theorem dX3_read_36 : decode cX3_read 36 = .ok (.if_icmp .eq 8, 3) := by decide +kernel
theorem dX3_read_39 : decode cX3_read 39 = .ok (.aload_n 0, 1) := by decide +kernel
theorem dX3_read_40 : decode cX3_read 40 = .ok (.getfield 37, 3) := by decide +kernel
theorem dX3_read_43 : decode cX3_read 43 = .ok (.ireturn, 1) := by decide +kernel
theorem dX3_read_44 : decode cX3_read 44 = .ok (.aload_n 0, 1) := by decide +kernel
theorem dX3_read_45 : decode cX3_read 45 = .ok (.getfield 19, 3) := by decide +kernel
theorem dX3_read_48 : decode cX3_read 48 = .ok (.iload_n 2, 1) := by decide +kernel
theorem dX3_read_49 : decode cX3_read 49 = .ok (.invokevirtual 40, 3) := by decide +kernel
theorem dX3_read_52 : decode cX3_read 52 = .ok (.aload_n 0, 1) := by decide +kernel
theorem dX3_read_53 : decode cX3_read 53 = .ok (.invokevirtual 31, 3) := by decide +kernel
theorem dX3_read_56 : decode cX3_read 56 = .ok (.aload_n 0, 1) := by decide +kernel
theorem dX3_read_57 : decode cX3_read 57 = .ok (.iconst 0, 1) := by decide +kernel
theorem dX3_read_58 : decode cX3_read 58 = .ok (.iconst 0, 1) := by decide +kernel
theorem dX3_read_59 : decode cX3_read 59 = .ok (.invokevirtual 44, 3) := by decide +kernel
theorem dX3_read_62 : decode cX3_read 62 = .ok (.ifCond .eq 12, 3) := by decide +kernel
theorem dX3_read_65 : decode cX3_read 65 = .ok (.aload_n 0, 1) := by decide +kernel
theorem dX3_read_66 : decode cX3_read 66 = .ok (.getfield 34, 3) := by decide +kernel
theorem dX3_read_69 : decode cX3_read 69 = .ok (.bipush 59, 2) := by decide +kernel
theorem dX3_read_71 : decode cX3_read 71 = .ok (.if_icmp .eq 8, 3) := by decide +kernel
theorem dX3_read_74 : decode cX3_read 74 = .ok (.aload_n 0, 1) := by decide +kernel
theorem dX3_read_75 : decode cX3_read 75 = .ok (.getfield 37, 3) := by decide +kernel
theorem dX3_read_78 : decode cX3_read 78 = .ok (.ireturn, 1) := by decide +kernel
theorem dX3_read_79 : decode cX3_read 79 = .ok (.aload_n 0, 1) := by decide +kernel
theorem dX3_read_80 : decode cX3_read 80 = .ok (.invokevirtual 31, 3) := by decide +kernel
theorem dX3_read_83 : decode cX3_read 83 = .ok (.iinc 2 1, 3) := by decide +kernel
theorem dX3_read_86 : decode cX3_read 86 = .ok (.goto (-63), 3) := by decide +kernel
theorem dX3_read_89 : decode cX3_read 89 = .ok (.aload_n 0, 1) := by decide +kernel
theorem dX3_read_90 : decode cX3_read 90 = .ok (.getfield 19, 3) := by decide +kernel
theorem dX3_read_93 : decode cX3_read 93 = .ok (.iconst 3, 1) := by decide +kernel
theorem dX3_read_94 : decode cX3_read 94 = .ok (.invokevirtual 40, 3) := by decide +kernel
theorem dX3_read_97 : decode cX3_read 97 = .ok (.aload_n 0, 1) := by decide +kernel
theorem dX3_read_98 : decode cX3_read 98 = .ok (.getfield 34, 3) := by decide +kernel
theorem dX3_read_101 : decode cX3_read 101 = .ok (.iconst 2, 1) := by decide +kernel
theorem dX3_read_102 : decode cX3_read 102 = .ok (.if_icmp .ne 7, 3) := by decide +kernel
theorem dX3_read_105 : decode cX3_read 105 = .ok (.iconst (-1), 1) := by decide +kernel
theorem dX3_read_106 : decode cX3_read 106 = .ok (.goto 7, 3) := by decide +kernel
theorem dX3_read_109 : decode cX3_read 109 = .ok (.aload_n 0, 1) := by decide +kernel
theorem dX3_read_110 : decode cX3_read 110 = .ok (.getfield 37, 3) := by decide +kernel
theorem dX3_read_113 : decode cX3_read 113 = .ok (.ireturn, 1) := by decide +kernel
theorem dX3_joined_0 : decode cX3_joined 0 = .ok (.iload_n 1, 1) := by decide +kernel
theorem dX3_joined_1 : decode cX3_joined 1 = .ok (.iconst 5, 1) := by decide +kernel
theorem dX3_joined_2 : decode cX3_joined 2 = .ok (.if_icmp .lt 9, 3) := by decide +kernel
theorem dX3_joined_5 : decode cX3_joined 5 = .ok (.aload_n 0, 1) := by decide +kernel
theorem dX3_joined_6 : decode cX3_joined 6 = .ok (.iload_n 2, 1) := by decide +kernel
theorem dX3_joined_7 : decode cX3_joined 7 = .ok (.invokevirtual 48, 3) := by decide +kernel
theorem dX3_joined_10 : decode cX3_joined 10 = .ok (.ireturn, 1) := by decide +kernel
theorem dX3_joined_11 : decode cX3_joined 11 = .ok (.iload_n 1, 1) := by decide +kernel
theorem dX3_joined_12 : decode cX3_joined 12 = .ok (.iconst 2, 1) := by decide +kernel
theorem dX3_joined_13 : decode cX3_joined 13 = .ok (.if_icmp .ne 48, 3) := by decide +kernel
theorem dX3_joined_16 : decode cX3_joined 16 = .ok (.aload_n 0, 1) := by decide +kernel
theorem dX3_joined_17 : decode cX3_joined 17 = .ok (.getfield 34, 3) := by decide +kernel
theorem dX3_joined_20 : decode cX3_joined 20 = .ok (.bipush 11, 2) := by decide +kernel
theorem dX3_joined_22 : decode cX3_joined 22 = .ok (.if_icmp .ne 39, 3) := by decide +kernel
theorem dX3_joined_25 : decode cX3_joined 25 = .ok (.iload_n 2, 1) := by decide +kernel
theorem dX3_joined_26 : decode cX3_joined 26 = .ok (.iconst 5, 1) := by decide +kernel
theorem dX3_joined_27 : decode cX3_joined 27 = .ok (.if_icmp .lt 5, 3) := by decide +kernel
theorem dX3_joined_30 : decode cX3_joined 30 = .ok (.iconst 0, 1) := by decide +kernel
theorem dX3_joined_31 : decode cX3_joined 31 = .ok (.ireturn, 1) := by decide +kernel
theorem dX3_joined_32 : decode cX3_joined 32 = .ok (.aload_n 0, 1) := by decide +kernel
theorem dX3_joined_33 : decode cX3_joined 33 = .ok (.invokevirtual 31, 3) := by decide +kernel
theorem dX3_joined_36 : decode cX3_joined 36 = .ok (.aload_n 0, 1) := by decide +kernel
theorem dX3_joined_37 : decode cX3_joined 37 = .ok (.iconst 2, 1) := by decide +kernel
theorem dX3_joined_38 : decode cX3_joined 38 = .ok (.iload_n 2, 1) := by decide +kernel
theorem dX3_joined_39 : decode cX3_joined 39 = .ok (.iconst 1, 1) := by decide +kernel
theorem dX3_joined_40 : decode cX3_joined 40 = .ok (.iadd, 1) := by decide +kernel
theorem dX3_joined_41 : decode cX3_joined 41 = .ok (.invokevirtual 44, 3) := by decide +kernel
theorem dX3_joined_44 : decode cX3_joined 44 = .ok (.ifCond .ne 5, 3) := by decide +kernel
theorem dX3_joined_47 : decode cX3_joined 47 = .ok (.iconst 0, 1) := by decide +kernel
theorem dX3_joined_48 : decode cX3_joined 48 = .ok (.ireturn, 1) := by decide +kernel
theorem dX3_joined_49 : decode cX3_joined 49 = .ok (.aload_n 0, 1) := by decide +kernel
theorem dX3_joined_50 : decode cX3_joined 50 = .ok (.getfield 19, 3) := by decide +kernel
theorem dX3_joined_53 : decode cX3_joined 53 = .ok (.sipush 20011, 3) := by decide +kernel
theorem dX3_joined_56 : decode cX3_joined 56 = .ok (.invokevirtual 52, 3) := by decide +kernel
theorem dX3_joined_59 : decode cX3_joined 59 = .ok (.iconst 1, 1) := by decide +kernel
theorem dX3_joined_60 : decode cX3_joined 60 = .ok (.ireturn, 1) := by decide +kernel
theorem dX3_joined_61 : decode cX3_joined 61 = .ok (.aload_n 0, 1) := by decide +kernel
theorem dX3_joined_62 : decode cX3_joined 62 = .ok (.iload_n 1, 1) := by decide +kernel
theorem dX3_joined_63 : decode cX3_joined 63 = .ok (.iconst 1, 1) := by decide +kernel
theorem dX3_joined_64 : decode cX3_joined 64 = .ok (.iadd, 1) := by decide +kernel
theorem dX3_joined_65 : decode cX3_joined 65 = .ok (.iload_n 2, 1) := by decide +kernel
theorem dX3_joined_66 : decode cX3_joined 66 = .ok (.invokevirtual 44, 3) := by decide +kernel
theorem dX3_joined_69 : decode cX3_joined 69 = .ok (.ifCond .ne 5, 3) := by decide +kernel
theorem dX3_joined_72 : decode cX3_joined 72 = .ok (.iconst 0, 1) := by decide +kernel
theorem dX3_joined_73 : decode cX3_joined 73 = .ok (.ireturn, 1) := by decide +kernel
theorem dX3_joined_74 : decode cX3_joined 74 = .ok (.iload_n 1, 1) := by decide +kernel
theorem dX3_joined_75 : decode cX3_joined 75 = .ok (.iconst 2, 1) := by decide +kernel
theorem dX3_joined_76 : decode cX3_joined 76 = .ok (.if_icmp .ne 7, 3) := by decide +kernel
theorem dX3_joined_79 : decode cX3_joined 79 = .ok (.iconst 1, 1) := by decide +kernel
theorem dX3_joined_80 : decode cX3_joined 80 = .ok (.goto 6, 3) := by decide +kernel
theorem dX3_joined_83 : decode cX3_joined 83 = .ok (.sipush 160, 3) := by decide +kernel
theorem dX3_joined_86 : decode cX3_joined 86 = .ok (.istore_n 3, 1) := by decide +kernel
theorem dX3_joined_87 : decode cX3_joined 87 = .ok (.iconst 0, 1) := by decide +kernel
theorem dX3_joined_88 : decode cX3_joined 88 = .ok (.istore 4, 2) := by decide +kernel
theorem dX3_joined_90 : decode cX3_joined 90 = .ok (.iload 4, 2) := by decide +kernel
theorem dX3_joined_92 : decode cX3_joined 92 = .ok (.iload_n 3, 1) := by decide +kernel
theorem dX3_joined_93 : decode cX3_joined 93 = .ok (.if_icmp .ge 53, 3) := by decide +kernel
theorem dX3_joined_96 : decode cX3_joined 96 = .ok (.aload_n 0, 1) := by decide +kernel
theorem dX3_joined_97 : decode cX3_joined 97 = .ok (.iload_n 1, 1) := by decide +kernel
theorem dX3_joined_98 : decode cX3_joined 98 = .ok (.invokevirtual 55, 3) := by decide +kernel
theorem dX3_joined_101 : decode cX3_joined 101 = .ok (.ifCond .eq 45, 3) := by decide +kernel
theorem dX3_joined_104 : decode cX3_joined 104 = .ok (.aload_n 0, 1) := by decide +kernel
theorem dX3_joined_105 : decode cX3_joined 105 = .ok (.getfield 34, 3) := by decide +kernel
theorem dX3_joined_108 : decode cX3_joined 108 = .ok (.istore 5, 2) := by decide +kernel
theorem dX3_joined_110 : decode cX3_joined 110 = .ok (.aload_n 0, 1) := by decide +kernel
theorem dX3_joined_111 : decode cX3_joined 111 = .ok (.invokevirtual 31, 3) := by decide +kernel
theorem dX3_joined_114 : decode cX3_joined 114 = .ok (.aload_n 0, 1) := by decide +kernel
theorem dX3_joined_115 : decode cX3_joined 115 = .ok (.iload_n 1, 1) := by decide +kernel
theorem dX3_joined_116 : decode cX3_joined 116 = .ok (.iconst 1, 1) := by decide +kernel
theorem dX3_joined_117 : decode cX3_joined 117 = .ok (.iadd, 1) := by decide +kernel
theorem dX3_joined_118 : decode cX3_joined 118 = .ok (.iload_n 2, 1) := by decide +kernel
theorem dX3_joined_119 : decode cX3_joined 119 = .ok (.invokevirtual 44, 3) := by decide +kernel
theorem dX3_joined_122 : decode cX3_joined 122 = .ok (.ifCond .ne 5, 3) := by decide +kernel
theorem dX3_joined_125 : decode cX3_joined 125 = .ok (.iconst 0, 1) := by decide +kernel
theorem dX3_joined_126 : decode cX3_joined 126 = .ok (.ireturn, 1) := by decide +kernel
theorem dX3_joined_127 : decode cX3_joined 127 = .ok (.aload_n 0, 1) := by decide +kernel
theorem dX3_joined_128 : decode cX3_joined 128 = .ok (.getfield 19, 3) := by decide +kernel
theorem dX3_joined_131 : decode cX3_joined 131 = .ok (.sipush 20000, 3) := by decide +kernel
theorem dX3_joined_134 : decode cX3_joined 134 = .ok (.iload 5, 2) := by decide +kernel
theorem dX3_joined_136 : decode cX3_joined 136 = .ok (.iadd, 1) := by decide +kernel
theorem dX3_joined_137 : decode cX3_joined 137 = .ok (.invokevirtual 52, 3) := by decide +kernel
theorem dX3_joined_140 : decode cX3_joined 140 = .ok (.iinc 4 1, 3) := by decide +kernel
theorem dX3_joined_143 : decode cX3_joined 143 = .ok (.goto (-53), 3) := by decide +kernel
theorem dX3_joined_146 : decode cX3_joined 146 = .ok (.iconst 1, 1) := by decide +kernel
theorem dX3_joined_147 : decode cX3_joined 147 = .ok (.ireturn, 1) := by decide +kernel
theorem dX3_joins_0 : decode cX3_joins 0 = .ok (.iload_n 1, 1) := by decide +kernel
theorem dX3_joins_1 : decode cX3_joins 1 = .ok (.tableswitch 128 0 4 #[35, 50, 65, 89, 113], 35) := by decide +kernel
theorem dX3_joins_36 : decode cX3_joins 36 = .ok (.aload_n 0, 1) := by decide +kernel
theorem dX3_joins_37 : decode cX3_joins 37 = .ok (.getfield 34, 3) := by decide +kernel
theorem dX3_joins_40 : decode cX3_joins 40 = .ok (.bipush 9, 2) := by decide +kernel
theorem dX3_joins_42 : decode cX3_joins 42 = .ok (.if_icmp .ne 7, 3) := by decide +kernel
theorem dX3_joins_45 : decode cX3_joins 45 = .ok (.iconst 1, 1) := by decide +kernel
theorem dX3_joins_46 : decode cX3_joins 46 = .ok (.goto 4, 3) := by decide +kernel
theorem dX3_joins_49 : decode cX3_joins 49 = .ok (.iconst 0, 1) := by decide +kernel
theorem dX3_joins_50 : decode cX3_joins 50 = .ok (.ireturn, 1) := by decide +kernel
theorem dX3_joins_51 : decode cX3_joins 51 = .ok (.aload_n 0, 1) := by decide +kernel
theorem dX3_joins_52 : decode cX3_joins 52 = .ok (.getfield 34, 3) := by decide +kernel
theorem dX3_joins_55 : decode cX3_joins 55 = .ok (.bipush 10, 2) := by decide +kernel
theorem dX3_joins_57 : decode cX3_joins 57 = .ok (.if_icmp .ne 7, 3) := by decide +kernel
theorem dX3_joins_60 : decode cX3_joins 60 = .ok (.iconst 1, 1) := by decide +kernel
theorem dX3_joins_61 : decode cX3_joins 61 = .ok (.goto 4, 3) := by decide +kernel
theorem dX3_joins_64 : decode cX3_joins 64 = .ok (.iconst 0, 1) := by decide +kernel
theorem dX3_joins_65 : decode cX3_joins 65 = .ok (.ireturn, 1) := by decide +kernel
theorem dX3_joins_66 : decode cX3_joins 66 = .ok (.aload_n 0, 1) := by decide +kernel
theorem dX3_joins_67 : decode cX3_joins 67 = .ok (.getfield 34, 3) := by decide +kernel
theorem dX3_joins_70 : decode cX3_joins 70 = .ok (.bipush 60, 2) := by decide +kernel
theorem dX3_joins_72 : decode cX3_joins 72 = .ok (.if_icmp .eq 12, 3) := by decide +kernel
theorem dX3_joins_75 : decode cX3_joins 75 = .ok (.aload_n 0, 1) := by decide +kernel
theorem dX3_joins_76 : decode cX3_joins 76 = .ok (.getfield 34, 3) := by decide +kernel
theorem dX3_joins_79 : decode cX3_joins 79 = .ok (.bipush 61, 2) := by decide +kernel
theorem dX3_joins_81 : decode cX3_joins 81 = .ok (.if_icmp .ne 7, 3) := by decide +kernel
theorem dX3_joins_84 : decode cX3_joins 84 = .ok (.iconst 1, 1) := by decide +kernel
theorem dX3_joins_85 : decode cX3_joins 85 = .ok (.goto 4, 3) := by decide +kernel
theorem dX3_joins_88 : decode cX3_joins 88 = .ok (.iconst 0, 1) := by decide +kernel
theorem dX3_joins_89 : decode cX3_joins 89 = .ok (.ireturn, 1) := by decide +kernel
theorem dX3_joins_90 : decode cX3_joins 90 = .ok (.aload_n 0, 1) := by decide +kernel
theorem dX3_joins_91 : decode cX3_joins 91 = .ok (.getfield 34, 3) := by decide +kernel
theorem dX3_joins_94 : decode cX3_joins 94 = .ok (.bipush 43, 2) := by decide +kernel
theorem dX3_joins_96 : decode cX3_joins 96 = .ok (.if_icmp .eq 12, 3) := by decide +kernel
theorem dX3_joins_99 : decode cX3_joins 99 = .ok (.aload_n 0, 1) := by decide +kernel
theorem dX3_joins_100 : decode cX3_joins 100 = .ok (.getfield 34, 3) := by decide +kernel
theorem dX3_joins_103 : decode cX3_joins 103 = .ok (.bipush 45, 2) := by decide +kernel
theorem dX3_joins_105 : decode cX3_joins 105 = .ok (.if_icmp .ne 7, 3) := by decide +kernel
theorem dX3_joins_108 : decode cX3_joins 108 = .ok (.iconst 1, 1) := by decide +kernel
theorem dX3_joins_109 : decode cX3_joins 109 = .ok (.goto 4, 3) := by decide +kernel
theorem dX3_joins_112 : decode cX3_joins 112 = .ok (.iconst 0, 1) := by decide +kernel
theorem dX3_joins_113 : decode cX3_joins 113 = .ok (.ireturn, 1) := by decide +kernel
theorem dX3_joins_114 : decode cX3_joins 114 = .ok (.aload_n 0, 1) := by decide +kernel
theorem dX3_joins_115 : decode cX3_joins 115 = .ok (.getfield 34, 3) := by decide +kernel
theorem dX3_joins_118 : decode cX3_joins 118 = .ok (.bipush 42, 2) := by decide +kernel
theorem dX3_joins_120 : decode cX3_joins 120 = .ok (.if_icmp .ne 7, 3) := by decide +kernel
theorem dX3_joins_123 : decode cX3_joins 123 = .ok (.iconst 1, 1) := by decide +kernel
theorem dX3_joins_124 : decode cX3_joins 124 = .ok (.goto 4, 3) := by decide +kernel
theorem dX3_joins_127 : decode cX3_joins 127 = .ok (.iconst 0, 1) := by decide +kernel
theorem dX3_joins_128 : decode cX3_joins 128 = .ok (.ireturn, 1) := by decide +kernel
theorem dX3_joins_129 : decode cX3_joins 129 = .ok (.iconst 0, 1) := by decide +kernel
theorem dX3_joins_130 : decode cX3_joins 130 = .ok (.ireturn, 1) := by decide +kernel
theorem dX3_one_0 : decode cX3_one 0 = .ok (.aload_n 0, 1) := by decide +kernel
theorem dX3_one_1 : decode cX3_one 1 = .ok (.getfield 34, 3) := by decide +kernel
theorem dX3_one_4 : decode cX3_one 4 = .ok (.iconst 4, 1) := by decide +kernel
theorem dX3_one_5 : decode cX3_one 5 = .ok (.if_icmp .eq 11, 3) := by decide +kernel
theorem dX3_one_8 : decode cX3_one 8 = .ok (.aload_n 0, 1) := by decide +kernel
theorem dX3_one_9 : decode cX3_one 9 = .ok (.getfield 34, 3) := by decide +kernel
theorem dX3_one_12 : decode cX3_one 12 = .ok (.iconst 5, 1) := by decide +kernel
theorem dX3_one_13 : decode cX3_one 13 = .ok (.if_icmp .ne 39, 3) := by decide +kernel
theorem dX3_one_16 : decode cX3_one 16 = .ok (.aload_n 0, 1) := by decide +kernel
theorem dX3_one_17 : decode cX3_one 17 = .ok (.getfield 19, 3) := by decide +kernel
theorem dX3_one_20 : decode cX3_one 20 = .ok (.aload_n 0, 1) := by decide +kernel
theorem dX3_one_21 : decode cX3_one 21 = .ok (.getfield 34, 3) := by decide +kernel
theorem dX3_one_24 : decode cX3_one 24 = .ok (.iconst 4, 1) := by decide +kernel
theorem dX3_one_25 : decode cX3_one 25 = .ok (.if_icmp .ne 10, 3) := by decide +kernel
theorem dX3_one_28 : decode cX3_one 28 = .ok (.aload_n 0, 1) := by decide +kernel
theorem dX3_one_29 : decode cX3_one 29 = .ok (.getfield 58, 3) := by decide +kernel
theorem dX3_one_32 : decode cX3_one 32 = .ok (.goto 11, 3) := by decide +kernel
theorem dX3_one_35 : decode cX3_one 35 = .ok (.sipush 10000, 3) := by decide +kernel
theorem dX3_one_38 : decode cX3_one 38 = .ok (.aload_n 0, 1) := by decide +kernel
theorem dX3_one_39 : decode cX3_one 39 = .ok (.getfield 58, 3) := by decide +kernel
theorem dX3_one_42 : decode cX3_one 42 = .ok (.iadd, 1) := by decide +kernel
theorem dX3_one_43 : decode cX3_one 43 = .ok (.invokevirtual 52, 3) := by decide +kernel
theorem dX3_one_46 : decode cX3_one 46 = .ok (.aload_n 0, 1) := by decide +kernel
theorem dX3_one_47 : decode cX3_one 47 = .ok (.invokevirtual 31, 3) := by decide +kernel
theorem dX3_one_50 : decode cX3_one 50 = .ok (.iconst 1, 1) := by decide +kernel
theorem dX3_one_51 : decode cX3_one 51 = .ok (.ireturn, 1) := by decide +kernel
theorem dX3_one_52 : decode cX3_one 52 = .ok (.aload_n 0, 1) := by decide +kernel
theorem dX3_one_53 : decode cX3_one 53 = .ok (.getfield 34, 3) := by decide +kernel
theorem dX3_one_56 : decode cX3_one 56 = .ok (.bipush 45, 2) := by decide +kernel
theorem dX3_one_58 : decode cX3_one 58 = .ok (.if_icmp .eq 12, 3) := by decide +kernel
theorem dX3_one_61 : decode cX3_one 61 = .ok (.aload_n 0, 1) := by decide +kernel
theorem dX3_one_62 : decode cX3_one 62 = .ok (.getfield 34, 3) := by decide +kernel
theorem dX3_one_65 : decode cX3_one 65 = .ok (.bipush 40, 2) := by decide +kernel
theorem dX3_one_67 : decode cX3_one 67 = .ok (.if_icmp .ne 8, 3) := by decide +kernel
theorem dX3_one_70 : decode cX3_one 70 = .ok (.iload_n 1, 1) := by decide +kernel
theorem dX3_one_71 : decode cX3_one 71 = .ok (.iconst 5, 1) := by decide +kernel
theorem dX3_one_72 : decode cX3_one 72 = .ok (.if_icmp .lt 5, 3) := by decide +kernel
theorem dX3_one_75 : decode cX3_one 75 = .ok (.iconst 0, 1) := by decide +kernel
theorem dX3_one_76 : decode cX3_one 76 = .ok (.ireturn, 1) := by decide +kernel
theorem dX3_one_77 : decode cX3_one 77 = .ok (.aload_n 0, 1) := by decide +kernel
theorem dX3_one_78 : decode cX3_one 78 = .ok (.getfield 34, 3) := by decide +kernel
theorem dX3_one_81 : decode cX3_one 81 = .ok (.bipush 45, 2) := by decide +kernel
theorem dX3_one_83 : decode cX3_one 83 = .ok (.if_icmp .ne 7, 3) := by decide +kernel
theorem dX3_one_86 : decode cX3_one 86 = .ok (.iconst 1, 1) := by decide +kernel
theorem dX3_one_87 : decode cX3_one 87 = .ok (.goto 4, 3) := by decide +kernel
theorem dX3_one_90 : decode cX3_one 90 = .ok (.iconst 0, 1) := by decide +kernel
theorem dX3_one_91 : decode cX3_one 91 = .ok (.istore_n 2, 1) := by decide +kernel
theorem dX3_one_92 : decode cX3_one 92 = .ok (.aload_n 0, 1) := by decide +kernel
theorem dX3_one_93 : decode cX3_one 93 = .ok (.invokevirtual 31, 3) := by decide +kernel
theorem dX3_one_96 : decode cX3_one 96 = .ok (.iload_n 2, 1) := by decide +kernel
theorem dX3_one_97 : decode cX3_one 97 = .ok (.ifCond .eq 27, 3) := by decide +kernel
theorem dX3_one_100 : decode cX3_one 100 = .ok (.aload_n 0, 1) := by decide +kernel
theorem dX3_one_101 : decode cX3_one 101 = .ok (.iload_n 1, 1) := by decide +kernel
theorem dX3_one_102 : decode cX3_one 102 = .ok (.iconst 1, 1) := by decide +kernel
theorem dX3_one_103 : decode cX3_one 103 = .ok (.iadd, 1) := by decide +kernel
theorem dX3_one_104 : decode cX3_one 104 = .ok (.invokevirtual 48, 3) := by decide +kernel
theorem dX3_one_107 : decode cX3_one 107 = .ok (.ifCond .ne 5, 3) := by decide +kernel
theorem dX3_one_110 : decode cX3_one 110 = .ok (.iconst 0, 1) := by decide +kernel
theorem dX3_one_111 : decode cX3_one 111 = .ok (.ireturn, 1) := by decide +kernel
theorem dX3_one_112 : decode cX3_one 112 = .ok (.aload_n 0, 1) := by decide +kernel
theorem dX3_one_113 : decode cX3_one 113 = .ok (.getfield 19, 3) := by decide +kernel
theorem dX3_one_116 : decode cX3_one 116 = .ok (.sipush 20001, 3) := by decide +kernel
theorem dX3_one_119 : decode cX3_one 119 = .ok (.invokevirtual 52, 3) := by decide +kernel
theorem dX3_one_122 : decode cX3_one 122 = .ok (.iconst 1, 1) := by decide +kernel
theorem dX3_one_123 : decode cX3_one 123 = .ok (.ireturn, 1) := by decide +kernel
theorem dX3_one_124 : decode cX3_one 124 = .ok (.aload_n 0, 1) := by decide +kernel
theorem dX3_one_125 : decode cX3_one 125 = .ok (.iconst 0, 1) := by decide +kernel
theorem dX3_one_126 : decode cX3_one 126 = .ok (.iload_n 1, 1) := by decide +kernel
theorem dX3_one_127 : decode cX3_one 127 = .ok (.iconst 1, 1) := by decide +kernel
theorem dX3_one_128 : decode cX3_one 128 = .ok (.iadd, 1) := by decide +kernel
theorem dX3_one_129 : decode cX3_one 129 = .ok (.invokevirtual 44, 3) := by decide +kernel
theorem dX3_one_132 : decode cX3_one 132 = .ok (.ifCond .eq 12, 3) := by decide +kernel
theorem dX3_one_135 : decode cX3_one 135 = .ok (.aload_n 0, 1) := by decide +kernel
theorem dX3_one_136 : decode cX3_one 136 = .ok (.getfield 34, 3) := by decide +kernel
theorem dX3_one_139 : decode cX3_one 139 = .ok (.bipush 41, 2) := by decide +kernel
theorem dX3_one_141 : decode cX3_one 141 = .ok (.if_icmp .eq 5, 3) := by decide +kernel
theorem dX3_one_144 : decode cX3_one 144 = .ok (.iconst 0, 1) := by decide +kernel
theorem dX3_one_145 : decode cX3_one 145 = .ok (.ireturn, 1) := by decide +kernel
theorem dX3_one_146 : decode cX3_one 146 = .ok (.aload_n 0, 1) := by decide +kernel
theorem dX3_one_147 : decode cX3_one 147 = .ok (.invokevirtual 31, 3) := by decide +kernel
theorem dX3_one_150 : decode cX3_one 150 = .ok (.iconst 1, 1) := by decide +kernel
theorem dX3_one_151 : decode cX3_one 151 = .ok (.ireturn, 1) := by decide +kernel
theorem dX3_advance_0 : decode cX3_advance 0 = .ok (.aload_n 0, 1) := by decide +kernel
theorem dX3_advance_1 : decode cX3_advance 1 = .ok (.getfield 28, 3) := by decide +kernel
theorem dX3_advance_4 : decode cX3_advance 4 = .ok (.aload_n 0, 1) := by decide +kernel
theorem dX3_advance_5 : decode cX3_advance 5 = .ok (.getfield 15, 3) := by decide +kernel
theorem dX3_advance_8 : decode cX3_advance 8 = .ok (.if_icmp .ge 44, 3) := by decide +kernel
theorem dX3_advance_11 : decode cX3_advance 11 = .ok (.aload_n 0, 1) := by decide +kernel
theorem dX3_advance_12 : decode cX3_advance 12 = .ok (.getfield 9, 3) := by decide +kernel
theorem dX3_advance_15 : decode cX3_advance 15 = .ok (.aload_n 0, 1) := by decide +kernel
theorem dX3_advance_16 : decode cX3_advance 16 = .ok (.getfield 28, 3) := by decide +kernel
theorem dX3_advance_19 : decode cX3_advance 19 = .ok (.iaload, 1) := by decide +kernel
theorem dX3_advance_20 : decode cX3_advance 20 = .ok (.bipush 32, 2) := by decide +kernel
theorem dX3_advance_22 : decode cX3_advance 22 = .ok (.if_icmp .eq 17, 3) := by decide +kernel
theorem dX3_advance_25 : decode cX3_advance 25 = .ok (.aload_n 0, 1) := by decide +kernel
theorem dX3_advance_26 : decode cX3_advance 26 = .ok (.getfield 9, 3) := by decide +kernel
theorem dX3_advance_29 : decode cX3_advance 29 = .ok (.aload_n 0, 1) := by decide +kernel
theorem dX3_advance_30 : decode cX3_advance 30 = .ok (.getfield 28, 3) := by decide +kernel
theorem dX3_advance_33 : decode cX3_advance 33 = .ok (.iaload, 1) := by decide +kernel
theorem dX3_advance_34 : decode cX3_advance 34 = .ok (.bipush 10, 2) := by decide +kernel
theorem dX3_advance_36 : decode cX3_advance 36 = .ok (.if_icmp .ne 16, 3) := by decide +kernel
theorem dX3_advance_39 : decode cX3_advance 39 = .ok (.aload_n 0, 1) := by decide +kernel
theorem dX3_advance_40 : decode cX3_advance 40 = .ok (.dup, 1) := by decide +kernel
theorem dX3_advance_41 : decode cX3_advance 41 = .ok (.getfield 28, 3) := by decide +kernel
theorem dX3_advance_44 : decode cX3_advance 44 = .ok (.iconst 1, 1) := by decide +kernel
theorem dX3_advance_45 : decode cX3_advance 45 = .ok (.iadd, 1) := by decide +kernel
theorem dX3_advance_46 : decode cX3_advance 46 = .ok (.putfield 28, 3) := by decide +kernel
theorem dX3_advance_49 : decode cX3_advance 49 = .ok (.goto (-49), 3) := by decide +kernel
theorem dX3_advance_52 : decode cX3_advance 52 = .ok (.aload_n 0, 1) := by decide +kernel
theorem dX3_advance_53 : decode cX3_advance 53 = .ok (.aload_n 0, 1) := by decide +kernel
theorem dX3_advance_54 : decode cX3_advance 54 = .ok (.getfield 28, 3) := by decide +kernel
theorem dX3_advance_57 : decode cX3_advance 57 = .ok (.putfield 37, 3) := by decide +kernel
theorem dX3_advance_60 : decode cX3_advance 60 = .ok (.aload_n 0, 1) := by decide +kernel
theorem dX3_advance_61 : decode cX3_advance 61 = .ok (.getfield 28, 3) := by decide +kernel
theorem dX3_advance_64 : decode cX3_advance 64 = .ok (.aload_n 0, 1) := by decide +kernel
theorem dX3_advance_65 : decode cX3_advance 65 = .ok (.getfield 15, 3) := by decide +kernel
theorem dX3_advance_68 : decode cX3_advance 68 = .ok (.if_icmp .lt 11, 3) := by decide +kernel
theorem dX3_advance_71 : decode cX3_advance 71 = .ok (.aload_n 0, 1) := by decide +kernel
theorem dX3_advance_72 : decode cX3_advance 72 = .ok (.iconst 2, 1) := by decide +kernel
theorem dX3_advance_73 : decode cX3_advance 73 = .ok (.putfield 34, 3) := by decide +kernel
theorem dX3_advance_76 : decode cX3_advance 76 = .ok (.goto 92, 3) := by decide +kernel
theorem dX3_advance_79 : decode cX3_advance 79 = .ok (.aload_n 0, 1) := by decide +kernel
theorem dX3_advance_80 : decode cX3_advance 80 = .ok (.getfield 9, 3) := by decide +kernel
theorem dX3_advance_83 : decode cX3_advance 83 = .ok (.aload_n 0, 1) := by decide +kernel
theorem dX3_advance_84 : decode cX3_advance 84 = .ok (.getfield 28, 3) := by decide +kernel
theorem dX3_advance_87 : decode cX3_advance 87 = .ok (.iaload, 1) := by decide +kernel
theorem dX3_advance_88 : decode cX3_advance 88 = .ok (.invokestatic 61, 3) := by decide +kernel
theorem dX3_advance_91 : decode cX3_advance 91 = .ok (.ifCond .eq 10, 3) := by decide +kernel
theorem dX3_advance_94 : decode cX3_advance 94 = .ok (.aload_n 0, 1) := by decide +kernel
theorem dX3_advance_95 : decode cX3_advance 95 = .ok (.invokevirtual 64, 3) := by decide +kernel
theorem dX3_advance_98 : decode cX3_advance 98 = .ok (.goto 70, 3) := by decide +kernel
theorem dX3_advance_101 : decode cX3_advance 101 = .ok (.aload_n 0, 1) := by decide +kernel
theorem dX3_advance_102 : decode cX3_advance 102 = .ok (.getfield 9, 3) := by decide +kernel
theorem dX3_advance_105 : decode cX3_advance 105 = .ok (.aload_n 0, 1) := by decide +kernel
theorem dX3_advance_106 : decode cX3_advance 106 = .ok (.getfield 28, 3) := by decide +kernel
theorem dX3_advance_109 : decode cX3_advance 109 = .ok (.iaload, 1) := by decide +kernel
theorem dX3_advance_110 : decode cX3_advance 110 = .ok (.invokestatic 67, 3) := by decide +kernel
theorem dX3_advance_113 : decode cX3_advance 113 = .ok (.ifCond .eq 10, 3) := by decide +kernel
theorem dX3_advance_116 : decode cX3_advance 116 = .ok (.aload_n 0, 1) := by decide +kernel
theorem dX3_advance_117 : decode cX3_advance 117 = .ok (.invokevirtual 70, 3) := by decide +kernel
theorem dX3_advance_120 : decode cX3_advance 120 = .ok (.goto 48, 3) := by decide +kernel
theorem dX3_advance_123 : decode cX3_advance 123 = .ok (.aload_n 0, 1) := by decide +kernel
theorem dX3_advance_124 : decode cX3_advance 124 = .ok (.ldc 73, 2) := by decide +kernel
theorem dX3_advance_126 : decode cX3_advance 126 = .ok (.aload_n 0, 1) := by decide +kernel
theorem dX3_advance_127 : decode cX3_advance 127 = .ok (.getfield 9, 3) := by decide +kernel
theorem dX3_advance_130 : decode cX3_advance 130 = .ok (.aload_n 0, 1) := by decide +kernel
theorem dX3_advance_131 : decode cX3_advance 131 = .ok (.getfield 28, 3) := by decide +kernel
theorem dX3_advance_134 : decode cX3_advance 134 = .ok (.iaload, 1) := by decide +kernel
theorem dX3_advance_135 : decode cX3_advance 135 = .ok (.i2c, 1) := by decide +kernel
theorem dX3_advance_136 : decode cX3_advance 136 = .ok (.invokevirtual 75, 3) := by decide +kernel
theorem dX3_advance_139 : decode cX3_advance 139 = .ok (.ifCond .lt 15, 3) := by decide +kernel
theorem dX3_advance_142 : decode cX3_advance 142 = .ok (.aload_n 0, 1) := by decide +kernel
theorem dX3_advance_143 : decode cX3_advance 143 = .ok (.getfield 9, 3) := by decide +kernel
theorem dX3_advance_146 : decode cX3_advance 146 = .ok (.aload_n 0, 1) := by decide +kernel
theorem dX3_advance_147 : decode cX3_advance 147 = .ok (.getfield 28, 3) := by decide +kernel
theorem dX3_advance_150 : decode cX3_advance 150 = .ok (.iaload, 1) := by decide +kernel
theorem dX3_advance_151 : decode cX3_advance 151 = .ok (.goto 4, 3) := by decide +kernel
theorem dX3_advance_154 : decode cX3_advance 154 = .ok (.iconst 3, 1) := by decide +kernel
theorem dX3_advance_155 : decode cX3_advance 155 = .ok (.putfield 34, 3) := by decide +kernel
theorem dX3_advance_158 : decode cX3_advance 158 = .ok (.aload_n 0, 1) := by decide +kernel
theorem dX3_advance_159 : decode cX3_advance 159 = .ok (.dup, 1) := by decide +kernel
theorem dX3_advance_160 : decode cX3_advance 160 = .ok (.getfield 28, 3) := by decide +kernel
theorem dX3_advance_163 : decode cX3_advance 163 = .ok (.iconst 1, 1) := by decide +kernel
theorem dX3_advance_164 : decode cX3_advance 164 = .ok (.iadd, 1) := by decide +kernel
theorem dX3_advance_165 : decode cX3_advance 165 = .ok (.putfield 28, 3) := by decide +kernel
theorem dX3_advance_168 : decode cX3_advance 168 = .ok (.return_, 1) := by decide +kernel
theorem dX3_takeWord_0 : decode cX3_takeWord 0 = .ok (.aload_n 0, 1) := by decide +kernel
theorem dX3_takeWord_1 : decode cX3_takeWord 1 = .ok (.getfield 28, 3) := by decide +kernel
theorem dX3_takeWord_4 : decode cX3_takeWord 4 = .ok (.aload_n 0, 1) := by decide +kernel
theorem dX3_takeWord_5 : decode cX3_takeWord 5 = .ok (.getfield 15, 3) := by decide +kernel
theorem dX3_takeWord_8 : decode cX3_takeWord 8 = .ok (.if_icmp .ge 31, 3) := by decide +kernel
theorem dX3_takeWord_11 : decode cX3_takeWord 11 = .ok (.aload_n 0, 1) := by decide +kernel
theorem dX3_takeWord_12 : decode cX3_takeWord 12 = .ok (.getfield 9, 3) := by decide +kernel
theorem dX3_takeWord_15 : decode cX3_takeWord 15 = .ok (.aload_n 0, 1) := by decide +kernel
theorem dX3_takeWord_16 : decode cX3_takeWord 16 = .ok (.getfield 28, 3) := by decide +kernel
theorem dX3_takeWord_19 : decode cX3_takeWord 19 = .ok (.iaload, 1) := by decide +kernel
theorem dX3_takeWord_20 : decode cX3_takeWord 20 = .ok (.invokestatic 61, 3) := by decide +kernel
theorem dX3_takeWord_23 : decode cX3_takeWord 23 = .ok (.ifCond .eq 16, 3) := by decide +kernel
theorem dX3_takeWord_26 : decode cX3_takeWord 26 = .ok (.aload_n 0, 1) := by decide +kernel
theorem dX3_takeWord_27 : decode cX3_takeWord 27 = .ok (.dup, 1) := by decide +kernel
theorem dX3_takeWord_28 : decode cX3_takeWord 28 = .ok (.getfield 28, 3) := by decide +kernel
theorem dX3_takeWord_31 : decode cX3_takeWord 31 = .ok (.iconst 1, 1) := by decide +kernel
theorem dX3_takeWord_32 : decode cX3_takeWord 32 = .ok (.iadd, 1) := by decide +kernel
theorem dX3_takeWord_33 : decode cX3_takeWord 33 = .ok (.putfield 28, 3) := by decide +kernel
theorem dX3_takeWord_36 : decode cX3_takeWord 36 = .ok (.goto (-36), 3) := by decide +kernel
theorem dX3_takeWord_39 : decode cX3_takeWord 39 = .ok (.aload_n 0, 1) := by decide +kernel
theorem dX3_takeWord_40 : decode cX3_takeWord 40 = .ok (.iconst 3, 1) := by decide +kernel
theorem dX3_takeWord_41 : decode cX3_takeWord 41 = .ok (.putfield 34, 3) := by decide +kernel
theorem dX3_takeWord_44 : decode cX3_takeWord 44 = .ok (.iconst 0, 1) := by decide +kernel
theorem dX3_takeWord_45 : decode cX3_takeWord 45 = .ok (.istore_n 1, 1) := by decide +kernel
theorem dX3_takeWord_46 : decode cX3_takeWord 46 = .ok (.iload_n 1, 1) := by decide +kernel
theorem dX3_takeWord_47 : decode cX3_takeWord 47 = .ok (.bipush 12, 2) := by decide +kernel
theorem dX3_takeWord_49 : decode cX3_takeWord 49 = .ok (.if_icmp .ge 44, 3) := by decide +kernel
theorem dX3_takeWord_52 : decode cX3_takeWord 52 = .ok (.aload_n 0, 1) := by decide +kernel
theorem dX3_takeWord_53 : decode cX3_takeWord 53 = .ok (.iload_n 1, 1) := by decide +kernel
theorem dX3_takeWord_54 : decode cX3_takeWord 54 = .ok (.invokevirtual 81, 3) := by decide +kernel
theorem dX3_takeWord_57 : decode cX3_takeWord 57 = .ok (.ifCond .eq 30, 3) := by decide +kernel
theorem dX3_takeWord_60 : decode cX3_takeWord 60 = .ok (.aload_n 0, 1) := by decide +kernel
theorem dX3_takeWord_61 : decode cX3_takeWord 61 = .ok (.iload_n 1, 1) := by decide +kernel
theorem dX3_takeWord_62 : decode cX3_takeWord 62 = .ok (.bipush 6, 2) := by decide +kernel
theorem dX3_takeWord_64 : decode cX3_takeWord 64 = .ok (.if_icmp .ge 7, 3) := by decide +kernel
theorem dX3_takeWord_67 : decode cX3_takeWord 67 = .ok (.iconst 5, 1) := by decide +kernel
theorem dX3_takeWord_68 : decode cX3_takeWord 68 = .ok (.goto 10, 3) := by decide +kernel
theorem dX3_takeWord_71 : decode cX3_takeWord 71 = .ok (.bipush 6, 2) := by decide +kernel
theorem dX3_takeWord_73 : decode cX3_takeWord 73 = .ok (.iload_n 1, 1) := by decide +kernel
theorem dX3_takeWord_74 : decode cX3_takeWord 74 = .ok (.iadd, 1) := by decide +kernel
theorem dX3_takeWord_75 : decode cX3_takeWord 75 = .ok (.bipush 6, 2) := by decide +kernel
theorem dX3_takeWord_77 : decode cX3_takeWord 77 = .ok (.isub, 1) := by decide +kernel
theorem dX3_takeWord_78 : decode cX3_takeWord 78 = .ok (.putfield 34, 3) := by decide +kernel
theorem dX3_takeWord_81 : decode cX3_takeWord 81 = .ok (.aload_n 0, 1) := by decide +kernel
theorem dX3_takeWord_82 : decode cX3_takeWord 82 = .ok (.iload_n 1, 1) := by decide +kernel
theorem dX3_takeWord_83 : decode cX3_takeWord 83 = .ok (.putfield 58, 3) := by decide +kernel
theorem dX3_takeWord_86 : decode cX3_takeWord 86 = .ok (.return_, 1) := by decide +kernel
theorem dX3_takeWord_87 : decode cX3_takeWord 87 = .ok (.iinc 1 1, 3) := by decide +kernel
theorem dX3_takeWord_90 : decode cX3_takeWord 90 = .ok (.goto (-44), 3) := by decide +kernel
theorem dX3_takeWord_93 : decode cX3_takeWord 93 = .ok (.return_, 1) := by decide +kernel
theorem dX3_isWord_0 : decode cX3_isWord 0 = .ok (.aload_n 0, 1) := by decide +kernel
theorem dX3_isWord_1 : decode cX3_isWord 1 = .ok (.getfield 28, 3) := by decide +kernel
theorem dX3_isWord_4 : decode cX3_isWord 4 = .ok (.aload_n 0, 1) := by decide +kernel
theorem dX3_isWord_5 : decode cX3_isWord 5 = .ok (.getfield 37, 3) := by decide +kernel
theorem dX3_isWord_8 : decode cX3_isWord 8 = .ok (.isub, 1) := by decide +kernel
theorem dX3_isWord_9 : decode cX3_isWord 9 = .ok (.istore_n 2, 1) := by decide +kernel
theorem dX3_isWord_10 : decode cX3_isWord 10 = .ok (.iload_n 2, 1) := by decide +kernel
theorem dX3_isWord_11 : decode cX3_isWord 11 = .ok (.bipush 6, 2) := by decide +kernel
theorem dX3_isWord_13 : decode cX3_isWord 13 = .ok (.if_icmp .ge 19, 3) := by decide +kernel
theorem dX3_isWord_16 : decode cX3_isWord 16 = .ok (.ldc 84, 2) := by decide +kernel
theorem dX3_isWord_18 : decode cX3_isWord 18 = .ok (.iload_n 1, 1) := by decide +kernel
theorem dX3_isWord_19 : decode cX3_isWord 19 = .ok (.bipush 6, 2) := by decide +kernel
theorem dX3_isWord_21 : decode cX3_isWord 21 = .ok (.imul, 1) := by decide +kernel
theorem dX3_isWord_22 : decode cX3_isWord 22 = .ok (.iload_n 2, 1) := by decide +kernel
theorem dX3_isWord_23 : decode cX3_isWord 23 = .ok (.iadd, 1) := by decide +kernel
theorem dX3_isWord_24 : decode cX3_isWord 24 = .ok (.invokevirtual 86, 3) := by decide +kernel
theorem dX3_isWord_27 : decode cX3_isWord 27 = .ok (.bipush 32, 2) := by decide +kernel
theorem dX3_isWord_29 : decode cX3_isWord 29 = .ok (.if_icmp .eq 5, 3) := by decide +kernel
theorem dX3_isWord_32 : decode cX3_isWord 32 = .ok (.iconst 0, 1) := by decide +kernel
theorem dX3_isWord_33 : decode cX3_isWord 33 = .ok (.ireturn, 1) := by decide +kernel
theorem dX3_isWord_34 : decode cX3_isWord 34 = .ok (.iconst 0, 1) := by decide +kernel
theorem dX3_isWord_35 : decode cX3_isWord 35 = .ok (.istore_n 3, 1) := by decide +kernel
theorem dX3_isWord_36 : decode cX3_isWord 36 = .ok (.iload_n 3, 1) := by decide +kernel
theorem dX3_isWord_37 : decode cX3_isWord 37 = .ok (.iload_n 2, 1) := by decide +kernel
theorem dX3_isWord_38 : decode cX3_isWord 38 = .ok (.if_icmp .ge 36, 3) := by decide +kernel
theorem dX3_isWord_41 : decode cX3_isWord 41 = .ok (.ldc 84, 2) := by decide +kernel
theorem dX3_isWord_43 : decode cX3_isWord 43 = .ok (.iload_n 1, 1) := by decide +kernel
theorem dX3_isWord_44 : decode cX3_isWord 44 = .ok (.bipush 6, 2) := by decide +kernel
theorem dX3_isWord_46 : decode cX3_isWord 46 = .ok (.imul, 1) := by decide +kernel
theorem dX3_isWord_47 : decode cX3_isWord 47 = .ok (.iload_n 3, 1) := by decide +kernel
theorem dX3_isWord_48 : decode cX3_isWord 48 = .ok (.iadd, 1) := by decide +kernel
theorem dX3_isWord_49 : decode cX3_isWord 49 = .ok (.invokevirtual 86, 3) := by decide +kernel
theorem dX3_isWord_52 : decode cX3_isWord 52 = .ok (.aload_n 0, 1) := by decide +kernel
theorem dX3_isWord_53 : decode cX3_isWord 53 = .ok (.getfield 9, 3) := by decide +kernel
theorem dX3_isWord_56 : decode cX3_isWord 56 = .ok (.aload_n 0, 1) := by decide +kernel
theorem dX3_isWord_57 : decode cX3_isWord 57 = .ok (.getfield 37, 3) := by decide +kernel
theorem dX3_isWord_60 : decode cX3_isWord 60 = .ok (.iload_n 3, 1) := by decide +kernel
theorem dX3_isWord_61 : decode cX3_isWord 61 = .ok (.iadd, 1) := by decide +kernel
theorem dX3_isWord_62 : decode cX3_isWord 62 = .ok (.iaload, 1) := by decide +kernel
theorem dX3_isWord_63 : decode cX3_isWord 63 = .ok (.if_icmp .eq 5, 3) := by decide +kernel
theorem dX3_isWord_66 : decode cX3_isWord 66 = .ok (.iconst 0, 1) := by decide +kernel
theorem dX3_isWord_67 : decode cX3_isWord 67 = .ok (.ireturn, 1) := by decide +kernel
theorem dX3_isWord_68 : decode cX3_isWord 68 = .ok (.iinc 3 1, 3) := by decide +kernel
theorem dX3_isWord_71 : decode cX3_isWord 71 = .ok (.goto (-35), 3) := by decide +kernel
theorem dX3_isWord_74 : decode cX3_isWord 74 = .ok (.iconst 1, 1) := by decide +kernel
theorem dX3_isWord_75 : decode cX3_isWord 75 = .ok (.ireturn, 1) := by decide +kernel
theorem dX3_takeNumber_0 : decode cX3_takeNumber 0 = .ok (.aload_n 0, 1) := by decide +kernel
theorem dX3_takeNumber_1 : decode cX3_takeNumber 1 = .ok (.iconst 0, 1) := by decide +kernel
theorem dX3_takeNumber_2 : decode cX3_takeNumber 2 = .ok (.putfield 58, 3) := by decide +kernel
theorem dX3_takeNumber_5 : decode cX3_takeNumber 5 = .ok (.aload_n 0, 1) := by decide +kernel
theorem dX3_takeNumber_6 : decode cX3_takeNumber 6 = .ok (.getfield 28, 3) := by decide +kernel
theorem dX3_takeNumber_9 : decode cX3_takeNumber 9 = .ok (.aload_n 0, 1) := by decide +kernel
theorem dX3_takeNumber_10 : decode cX3_takeNumber 10 = .ok (.getfield 15, 3) := by decide +kernel
theorem dX3_takeNumber_13 : decode cX3_takeNumber 13 = .ok (.if_icmp .ge 55, 3) := by decide +kernel
theorem dX3_takeNumber_16 : decode cX3_takeNumber 16 = .ok (.aload_n 0, 1) := by decide +kernel
theorem dX3_takeNumber_17 : decode cX3_takeNumber 17 = .ok (.getfield 9, 3) := by decide +kernel
theorem dX3_takeNumber_20 : decode cX3_takeNumber 20 = .ok (.aload_n 0, 1) := by decide +kernel
theorem dX3_takeNumber_21 : decode cX3_takeNumber 21 = .ok (.getfield 28, 3) := by decide +kernel
theorem dX3_takeNumber_24 : decode cX3_takeNumber 24 = .ok (.iaload, 1) := by decide +kernel
theorem dX3_takeNumber_25 : decode cX3_takeNumber 25 = .ok (.invokestatic 67, 3) := by decide +kernel
theorem dX3_takeNumber_28 : decode cX3_takeNumber 28 = .ok (.ifCond .eq 40, 3) := by decide +kernel
theorem dX3_takeNumber_31 : decode cX3_takeNumber 31 = .ok (.aload_n 0, 1) := by decide +kernel
theorem dX3_takeNumber_32 : decode cX3_takeNumber 32 = .ok (.aload_n 0, 1) := by decide +kernel
theorem dX3_takeNumber_33 : decode cX3_takeNumber 33 = .ok (.getfield 58, 3) := by decide +kernel
theorem dX3_takeNumber_36 : decode cX3_takeNumber 36 = .ok (.bipush 10, 2) := by decide +kernel
theorem dX3_takeNumber_38 : decode cX3_takeNumber 38 = .ok (.imul, 1) := by decide +kernel
theorem dX3_takeNumber_39 : decode cX3_takeNumber 39 = .ok (.aload_n 0, 1) := by decide +kernel
theorem dX3_takeNumber_40 : decode cX3_takeNumber 40 = .ok (.getfield 9, 3) := by decide +kernel
theorem dX3_takeNumber_43 : decode cX3_takeNumber 43 = .ok (.aload_n 0, 1) := by decide +kernel
theorem dX3_takeNumber_44 : decode cX3_takeNumber 44 = .ok (.getfield 28, 3) := by decide +kernel
theorem dX3_takeNumber_47 : decode cX3_takeNumber 47 = .ok (.iaload, 1) := by decide +kernel
theorem dX3_takeNumber_48 : decode cX3_takeNumber 48 = .ok (.iadd, 1) := by decide +kernel
theorem dX3_takeNumber_49 : decode cX3_takeNumber 49 = .ok (.bipush 48, 2) := by decide +kernel
theorem dX3_takeNumber_51 : decode cX3_takeNumber 51 = .ok (.isub, 1) := by decide +kernel
theorem dX3_takeNumber_52 : decode cX3_takeNumber 52 = .ok (.putfield 58, 3) := by decide +kernel
theorem dX3_takeNumber_55 : decode cX3_takeNumber 55 = .ok (.aload_n 0, 1) := by decide +kernel
theorem dX3_takeNumber_56 : decode cX3_takeNumber 56 = .ok (.dup, 1) := by decide +kernel
theorem dX3_takeNumber_57 : decode cX3_takeNumber 57 = .ok (.getfield 28, 3) := by decide +kernel
theorem dX3_takeNumber_60 : decode cX3_takeNumber 60 = .ok (.iconst 1, 1) := by decide +kernel
theorem dX3_takeNumber_61 : decode cX3_takeNumber 61 = .ok (.iadd, 1) := by decide +kernel
theorem dX3_takeNumber_62 : decode cX3_takeNumber 62 = .ok (.putfield 28, 3) := by decide +kernel
theorem dX3_takeNumber_65 : decode cX3_takeNumber 65 = .ok (.goto (-60), 3) := by decide +kernel
theorem dX3_takeNumber_68 : decode cX3_takeNumber 68 = .ok (.aload_n 0, 1) := by decide +kernel
theorem dX3_takeNumber_69 : decode cX3_takeNumber 69 = .ok (.aload_n 0, 1) := by decide +kernel
theorem dX3_takeNumber_70 : decode cX3_takeNumber 70 = .ok (.getfield 28, 3) := by decide +kernel
theorem dX3_takeNumber_73 : decode cX3_takeNumber 73 = .ok (.aload_n 0, 1) := by decide +kernel
theorem dX3_takeNumber_74 : decode cX3_takeNumber 74 = .ok (.getfield 37, 3) := by decide +kernel
theorem dX3_takeNumber_77 : decode cX3_takeNumber 77 = .ok (.isub, 1) := by decide +kernel
theorem dX3_takeNumber_78 : decode cX3_takeNumber 78 = .ok (.iconst 4, 1) := by decide +kernel
theorem dX3_takeNumber_79 : decode cX3_takeNumber 79 = .ok (.if_icmp .gt 7, 3) := by decide +kernel
theorem dX3_takeNumber_82 : decode cX3_takeNumber 82 = .ok (.iconst 4, 1) := by decide +kernel
theorem dX3_takeNumber_83 : decode cX3_takeNumber 83 = .ok (.goto 4, 3) := by decide +kernel
theorem dX3_takeNumber_86 : decode cX3_takeNumber 86 = .ok (.iconst 3, 1) := by decide +kernel
theorem dX3_takeNumber_87 : decode cX3_takeNumber 87 = .ok (.putfield 34, 3) := by decide +kernel
theorem dX3_takeNumber_90 : decode cX3_takeNumber 90 = .ok (.return_, 1) := by decide +kernel
theorem dX3_isLetter_0 : decode cX3_isLetter 0 = .ok (.iload_n 0, 1) := by decide +kernel
theorem dX3_isLetter_1 : decode cX3_isLetter 1 = .ok (.bipush 97, 2) := by decide +kernel
theorem dX3_isLetter_3 : decode cX3_isLetter 3 = .ok (.if_icmp .lt 13, 3) := by decide +kernel
theorem dX3_isLetter_6 : decode cX3_isLetter 6 = .ok (.iload_n 0, 1) := by decide +kernel
theorem dX3_isLetter_7 : decode cX3_isLetter 7 = .ok (.bipush 122, 2) := by decide +kernel
theorem dX3_isLetter_9 : decode cX3_isLetter 9 = .ok (.if_icmp .gt 7, 3) := by decide +kernel
theorem dX3_isLetter_12 : decode cX3_isLetter 12 = .ok (.iconst 1, 1) := by decide +kernel
theorem dX3_isLetter_13 : decode cX3_isLetter 13 = .ok (.goto 4, 3) := by decide +kernel
theorem dX3_isLetter_16 : decode cX3_isLetter 16 = .ok (.iconst 0, 1) := by decide +kernel
theorem dX3_isLetter_17 : decode cX3_isLetter 17 = .ok (.ireturn, 1) := by decide +kernel
theorem dX3_isDigit_0 : decode cX3_isDigit 0 = .ok (.iload_n 0, 1) := by decide +kernel
theorem dX3_isDigit_1 : decode cX3_isDigit 1 = .ok (.bipush 48, 2) := by decide +kernel
theorem dX3_isDigit_3 : decode cX3_isDigit 3 = .ok (.if_icmp .lt 13, 3) := by decide +kernel
theorem dX3_isDigit_6 : decode cX3_isDigit 6 = .ok (.iload_n 0, 1) := by decide +kernel
theorem dX3_isDigit_7 : decode cX3_isDigit 7 = .ok (.bipush 57, 2) := by decide +kernel
theorem dX3_isDigit_9 : decode cX3_isDigit 9 = .ok (.if_icmp .gt 7, 3) := by decide +kernel
theorem dX3_isDigit_12 : decode cX3_isDigit 12 = .ok (.iconst 1, 1) := by decide +kernel
theorem dX3_isDigit_13 : decode cX3_isDigit 13 = .ok (.goto 4, 3) := by decide +kernel
theorem dX3_isDigit_16 : decode cX3_isDigit 16 = .ok (.iconst 0, 1) := by decide +kernel
theorem dX3_isDigit_17 : decode cX3_isDigit 17 = .ok (.ireturn, 1) := by decide +kernel
theorem dX4_init_0 : decode cX4_init 0 = .ok (.aload_n 0, 1) := by decide +kernel
theorem dX4_init_1 : decode cX4_init 1 = .ok (.invokespecial 3, 3) := by decide +kernel
theorem dX4_init_4 : decode cX4_init 4 = .ok (.aload_n 0, 1) := by decide +kernel
theorem dX4_init_5 : decode cX4_init 5 = .ok (.sipush 160, 3) := by decide +kernel
theorem dX4_init_8 : decode cX4_init 8 = .ok (.newarray .int, 2) := by decide +kernel
theorem dX4_init_10 : decode cX4_init 10 = .ok (.putfield 9, 3) := by decide +kernel
theorem dX4_init_13 : decode cX4_init 13 = .ok (.aload_n 0, 1) := by decide +kernel
theorem dX4_init_14 : decode cX4_init 14 = .ok (.iconst 4, 1) := by decide +kernel
theorem dX4_init_15 : decode cX4_init 15 = .ok (.newarray .int, 2) := by decide +kernel
theorem dX4_init_17 : decode cX4_init 17 = .ok (.putfield 15, 3) := by decide +kernel
theorem dX4_init_20 : decode cX4_init 20 = .ok (.aload_n 0, 1) := by decide +kernel
theorem dX4_init_21 : decode cX4_init 21 = .ok (.bipush 40, 2) := by decide +kernel
theorem dX4_init_23 : decode cX4_init 23 = .ok (.newarray .int, 2) := by decide +kernel
theorem dX4_init_25 : decode cX4_init 25 = .ok (.putfield 18, 3) := by decide +kernel
theorem dX4_init_28 : decode cX4_init 28 = .ok (.return_, 1) := by decide +kernel
theorem dX4_clear_0 : decode cX4_clear 0 = .ok (.aload_n 0, 1) := by decide +kernel
theorem dX4_clear_1 : decode cX4_clear 1 = .ok (.iconst 0, 1) := by decide +kernel
theorem dX4_clear_2 : decode cX4_clear 2 = .ok (.putfield 21, 3) := by decide +kernel
theorem dX4_clear_5 : decode cX4_clear 5 = .ok (.return_, 1) := by decide +kernel
theorem dX4_begin_0 : decode cX4_begin 0 = .ok (.aload_n 0, 1) := by decide +kernel
theorem dX4_begin_1 : decode cX4_begin 1 = .ok (.getfield 15, 3) := by decide +kernel
theorem dX4_begin_4 : decode cX4_begin 4 = .ok (.iload_n 1, 1) := by decide +kernel
theorem dX4_begin_5 : decode cX4_begin 5 = .ok (.aload_n 0, 1) := by decide +kernel
theorem dX4_begin_6 : decode cX4_begin 6 = .ok (.getfield 21, 3) := by decide +kernel
theorem dX4_begin_9 : decode cX4_begin 9 = .ok (.iastore, 1) := by decide +kernel
theorem dX4_begin_10 : decode cX4_begin 10 = .ok (.return_, 1) := by decide +kernel
theorem dX4_add_0 : decode cX4_add 0 = .ok (.aload_n 0, 1) := by decide +kernel
theorem dX4_add_1 : decode cX4_add 1 = .ok (.getfield 21, 3) := by decide +kernel
theorem dX4_add_4 : decode cX4_add 4 = .ok (.sipush 160, 3) := by decide +kernel
theorem dX4_add_7 : decode cX4_add 7 = .ok (.if_icmp .ge 20, 3) := by decide +kernel
theorem dX4_add_10 : decode cX4_add 10 = .ok (.aload_n 0, 1) := by decide +kernel
theorem dX4_add_11 : decode cX4_add 11 = .ok (.getfield 9, 3) := by decide +kernel
theorem dX4_add_14 : decode cX4_add 14 = .ok (.aload_n 0, 1) := by decide +kernel
theorem dX4_add_15 : decode cX4_add 15 = .ok (.dup, 1) := by decide +kernel
theorem dX4_add_16 : decode cX4_add 16 = .ok (.getfield 21, 3) := by decide +kernel
theorem dX4_add_19 : decode cX4_add 19 = .ok (.dup_x1, 1) := by decide +kernel
theorem dX4_add_20 : decode cX4_add 20 = .ok (.iconst 1, 1) := by decide +kernel
theorem dX4_add_21 : decode cX4_add 21 = .ok (.iadd, 1) := by decide +kernel
theorem dX4_add_22 : decode cX4_add 22 = .ok (.putfield 21, 3) := by decide +kernel
theorem dX4_add_25 : decode cX4_add 25 = .ok (.iload_n 1, 1) := by decide +kernel
theorem dX4_add_26 : decode cX4_add 26 = .ok (.iastore, 1) := by decide +kernel
theorem dX4_add_27 : decode cX4_add 27 = .ok (.return_, 1) := by decide +kernel
theorem dX4_tells_0 : decode cX4_tells 0 = .ok (.iconst 0, 1) := by decide +kernel
theorem dX4_tells_1 : decode cX4_tells 1 = .ok (.istore_n 3, 1) := by decide +kernel
theorem dX4_tells_2 : decode cX4_tells 2 = .ok (.aload_n 0, 1) := by decide +kernel
theorem dX4_tells_3 : decode cX4_tells 3 = .ok (.getfield 15, 3) := by decide +kernel
theorem dX4_tells_6 : decode cX4_tells 6 = .ok (.iload_n 1, 1) := by decide +kernel
theorem dX4_tells_7 : decode cX4_tells 7 = .ok (.iaload, 1) := by decide +kernel
theorem dX4_tells_8 : decode cX4_tells 8 = .ok (.istore 4, 2) := by decide +kernel
theorem dX4_tells_10 : decode cX4_tells 10 = .ok (.iload 4, 2) := by decide +kernel
theorem dX4_tells_12 : decode cX4_tells 12 = .ok (.aload_n 0, 1) := by decide +kernel
theorem dX4_tells_13 : decode cX4_tells 13 = .ok (.getfield 15, 3) := by decide +kernel
theorem dX4_tells_16 : decode cX4_tells 16 = .ok (.iload_n 1, 1) := by decide +kernel
theorem dX4_tells_17 : decode cX4_tells 17 = .ok (.iconst 1, 1) := by decide +kernel
theorem dX4_tells_18 : decode cX4_tells 18 = .ok (.iadd, 1) := by decide +kernel
theorem dX4_tells_19 : decode cX4_tells 19 = .ok (.iaload, 1) := by decide +kernel
theorem dX4_tells_20 : decode cX4_tells 20 = .ok (.if_icmp .ge 159, 3) := by decide +kernel
theorem dX4_tells_23 : decode cX4_tells 23 = .ok (.aload_n 0, 1) := by decide +kernel
theorem dX4_tells_24 : decode cX4_tells 24 = .ok (.getfield 9, 3) := by decide +kernel
theorem dX4_tells_27 : decode cX4_tells 27 = .ok (.iload 4, 2) := by decide +kernel
theorem dX4_tells_29 : decode cX4_tells 29 = .ok (.iaload, 1) := by decide +kernel
theorem dX4_tells_30 : decode cX4_tells 30 = .ok (.istore 5, 2) := by decide +kernel
theorem dX4_tells_32 : decode cX4_tells 32 = .ok (.iload 5, 2) := by decide +kernel
theorem dX4_tells_34 : decode cX4_tells 34 = .ok (.sipush 20000, 3) := by decide +kernel
theorem dX4_tells_37 : decode cX4_tells 37 = .ok (.if_icmp .ge 44, 3) := by decide +kernel
theorem dX4_tells_40 : decode cX4_tells 40 = .ok (.iload_n 3, 1) := by decide +kernel
theorem dX4_tells_41 : decode cX4_tells 41 = .ok (.bipush 40, 2) := by decide +kernel
theorem dX4_tells_43 : decode cX4_tells 43 = .ok (.if_icmp .lt 5, 3) := by decide +kernel
theorem dX4_tells_46 : decode cX4_tells 46 = .ok (.iconst 0, 1) := by decide +kernel
theorem dX4_tells_47 : decode cX4_tells 47 = .ok (.ireturn, 1) := by decide +kernel
theorem dX4_tells_48 : decode cX4_tells 48 = .ok (.aload_n 0, 1) := by decide +kernel
theorem dX4_tells_49 : decode cX4_tells 49 = .ok (.getfield 18, 3) := by decide +kernel
theorem dX4_tells_52 : decode cX4_tells 52 = .ok (.iload_n 3, 1) := by decide +kernel
theorem dX4_tells_53 : decode cX4_tells 53 = .ok (.iinc 3 1, 3) := by decide +kernel
theorem dX4_tells_56 : decode cX4_tells 56 = .ok (.iload 5, 2) := by decide +kernel
theorem dX4_tells_58 : decode cX4_tells 58 = .ok (.sipush 10000, 3) := by decide +kernel
theorem dX4_tells_61 : decode cX4_tells 61 = .ok (.if_icmp .ge 8, 3) := by decide +kernel
theorem dX4_tells_64 : decode cX4_tells 64 = .ok (.iload 5, 2) := by decide +kernel
theorem dX4_tells_66 : decode cX4_tells 66 = .ok (.goto 11, 3) := by decide +kernel
theorem dX4_tells_69 : decode cX4_tells 69 = .ok (.aload_n 2, 1) := by decide +kernel
theorem dX4_tells_70 : decode cX4_tells 70 = .ok (.iload 5, 2) := by decide +kernel
theorem dX4_tells_72 : decode cX4_tells 72 = .ok (.sipush 10000, 3) := by decide +kernel
theorem dX4_tells_75 : decode cX4_tells 75 = .ok (.isub, 1) := by decide +kernel
theorem dX4_tells_76 : decode cX4_tells 76 = .ok (.iaload, 1) := by decide +kernel
theorem dX4_tells_77 : decode cX4_tells 77 = .ok (.iastore, 1) := by decide +kernel
theorem dX4_tells_78 : decode cX4_tells 78 = .ok (.goto 95, 3) := by decide +kernel
theorem dX4_tells_81 : decode cX4_tells 81 = .ok (.iload 5, 2) := by decide +kernel
theorem dX4_tells_83 : decode cX4_tells 83 = .ok (.sipush 20001, 3) := by decide +kernel
theorem dX4_tells_86 : decode cX4_tells 86 = .ok (.if_icmp .eq 11, 3) := by decide +kernel
theorem dX4_tells_89 : decode cX4_tells 89 = .ok (.iload 5, 2) := by decide +kernel
theorem dX4_tells_91 : decode cX4_tells 91 = .ok (.sipush 20011, 3) := by decide +kernel
theorem dX4_tells_94 : decode cX4_tells 94 = .ok (.if_icmp .ne 38, 3) := by decide +kernel
theorem dX4_tells_97 : decode cX4_tells 97 = .ok (.iload_n 3, 1) := by decide +kernel
theorem dX4_tells_98 : decode cX4_tells 98 = .ok (.iconst 1, 1) := by decide +kernel
theorem dX4_tells_99 : decode cX4_tells 99 = .ok (.if_icmp .ge 5, 3) := by decide +kernel
theorem dX4_tells_102 : decode cX4_tells 102 = .ok (.iconst 0, 1) := by decide +kernel
theorem dX4_tells_103 : decode cX4_tells 103 = .ok (.ireturn, 1) := by decide +kernel
theorem dX4_tells_104 : decode cX4_tells 104 = .ok (.aload_n 0, 1) := by decide +kernel
theorem dX4_tells_105 : decode cX4_tells 105 = .ok (.getfield 18, 3) := by decide +kernel
theorem dX4_tells_108 : decode cX4_tells 108 = .ok (.iload_n 3, 1) := by decide +kernel
theorem dX4_tells_109 : decode cX4_tells 109 = .ok (.iconst 1, 1) := by decide +kernel
theorem dX4_tells_110 : decode cX4_tells 110 = .ok (.isub, 1) := by decide +kernel
theorem dX4_tells_111 : decode cX4_tells 111 = .ok (.iload 5, 2) := by decide +kernel
theorem dX4_tells_113 : decode cX4_tells 113 = .ok (.sipush 20000, 3) := by decide +kernel
theorem dX4_tells_116 : decode cX4_tells 116 = .ok (.isub, 1) := by decide +kernel
theorem dX4_tells_117 : decode cX4_tells 117 = .ok (.aload_n 0, 1) := by decide +kernel
theorem dX4_tells_118 : decode cX4_tells 118 = .ok (.getfield 18, 3) := by decide +kernel
theorem dX4_tells_121 : decode cX4_tells 121 = .ok (.iload_n 3, 1) := by decide +kernel
theorem dX4_tells_122 : decode cX4_tells 122 = .ok (.iconst 1, 1) := by decide +kernel
theorem dX4_tells_123 : decode cX4_tells 123 = .ok (.isub, 1) := by decide +kernel
theorem dX4_tells_124 : decode cX4_tells 124 = .ok (.iaload, 1) := by decide +kernel
theorem dX4_tells_125 : decode cX4_tells 125 = .ok (.invokestatic 27, 3) := by decide +kernel
theorem dX4_tells_128 : decode cX4_tells 128 = .ok (.iastore, 1) := by decide +kernel
theorem dX4_tells_129 : decode cX4_tells 129 = .ok (.goto 44, 3) := by decide +kernel
theorem dX4_tells_132 : decode cX4_tells 132 = .ok (.iload_n 3, 1) := by decide +kernel
theorem dX4_tells_133 : decode cX4_tells 133 = .ok (.iconst 2, 1) := by decide +kernel
theorem dX4_tells_134 : decode cX4_tells 134 = .ok (.if_icmp .ge 5, 3) := by decide +kernel
theorem dX4_tells_137 : decode cX4_tells 137 = .ok (.iconst 0, 1) := by decide +kernel
theorem dX4_tells_138 : decode cX4_tells 138 = .ok (.ireturn, 1) := by decide +kernel
theorem dX4_tells_139 : decode cX4_tells 139 = .ok (.iinc 3 (-1), 3) := by decide +kernel
theorem dX4_tells_142 : decode cX4_tells 142 = .ok (.aload_n 0, 1) := by decide +kernel
theorem dX4_tells_143 : decode cX4_tells 143 = .ok (.getfield 18, 3) := by decide +kernel
theorem dX4_tells_146 : decode cX4_tells 146 = .ok (.iload_n 3, 1) := by decide +kernel
theorem dX4_tells_147 : decode cX4_tells 147 = .ok (.iconst 1, 1) := by decide +kernel
theorem dX4_tells_148 : decode cX4_tells 148 = .ok (.isub, 1) := by decide +kernel
theorem dX4_tells_149 : decode cX4_tells 149 = .ok (.iload 5, 2) := by decide +kernel
theorem dX4_tells_151 : decode cX4_tells 151 = .ok (.sipush 20000, 3) := by decide +kernel
theorem dX4_tells_154 : decode cX4_tells 154 = .ok (.isub, 1) := by decide +kernel
theorem dX4_tells_155 : decode cX4_tells 155 = .ok (.aload_n 0, 1) := by decide +kernel
theorem dX4_tells_156 : decode cX4_tells 156 = .ok (.getfield 18, 3) := by decide +kernel
theorem dX4_tells_159 : decode cX4_tells 159 = .ok (.iload_n 3, 1) := by decide +kernel
theorem dX4_tells_160 : decode cX4_tells 160 = .ok (.iconst 1, 1) := by decide +kernel
theorem dX4_tells_161 : decode cX4_tells 161 = .ok (.isub, 1) := by decide +kernel
theorem dX4_tells_162 : decode cX4_tells 162 = .ok (.iaload, 1) := by decide +kernel
theorem dX4_tells_163 : decode cX4_tells 163 = .ok (.aload_n 0, 1) := by decide +kernel
theorem dX4_tells_164 : decode cX4_tells 164 = .ok (.getfield 18, 3) := by decide +kernel
theorem dX4_tells_167 : decode cX4_tells 167 = .ok (.iload_n 3, 1) := by decide +kernel
theorem dX4_tells_168 : decode cX4_tells 168 = .ok (.iaload, 1) := by decide +kernel
theorem dX4_tells_169 : decode cX4_tells 169 = .ok (.invokestatic 31, 3) := by decide +kernel
theorem dX4_tells_172 : decode cX4_tells 172 = .ok (.iastore, 1) := by decide +kernel
theorem dX4_tells_173 : decode cX4_tells 173 = .ok (.iinc 4 1, 3) := by decide +kernel
theorem dX4_tells_176 : decode cX4_tells 176 = .ok (.goto (-166), 3) := by decide +kernel
theorem dX4_tells_179 : decode cX4_tells 179 = .ok (.aload_n 0, 1) := by decide +kernel
theorem dX4_tells_180 : decode cX4_tells 180 = .ok (.getfield 18, 3) := by decide +kernel
theorem dX4_tells_183 : decode cX4_tells 183 = .ok (.iconst 0, 1) := by decide +kernel
theorem dX4_tells_184 : decode cX4_tells 184 = .ok (.iaload, 1) := by decide +kernel
theorem dX4_tells_185 : decode cX4_tells 185 = .ok (.ireturn, 1) := by decide +kernel
theorem dX4_ofOne_0 : decode cX4_ofOne 0 = .ok (.iload_n 0, 1) := by decide +kernel
theorem dX4_ofOne_1 : decode cX4_ofOne 1 = .ok (.iconst 1, 1) := by decide +kernel
theorem dX4_ofOne_2 : decode cX4_ofOne 2 = .ok (.if_icmp .ne 6, 3) := by decide +kernel
theorem dX4_ofOne_5 : decode cX4_ofOne 5 = .ok (.iload_n 1, 1) := by decide +kernel
theorem dX4_ofOne_6 : decode cX4_ofOne 6 = .ok (.ineg, 1) := by decide +kernel
theorem dX4_ofOne_7 : decode cX4_ofOne 7 = .ok (.ireturn, 1) := by decide +kernel
theorem dX4_ofOne_8 : decode cX4_ofOne 8 = .ok (.iload_n 1, 1) := by decide +kernel
theorem dX4_ofOne_9 : decode cX4_ofOne 9 = .ok (.ifCond .ne 7, 3) := by decide +kernel
theorem dX4_ofOne_12 : decode cX4_ofOne 12 = .ok (.iconst 1, 1) := by decide +kernel
theorem dX4_ofOne_13 : decode cX4_ofOne 13 = .ok (.goto 4, 3) := by decide +kernel
theorem dX4_ofOne_16 : decode cX4_ofOne 16 = .ok (.iconst 0, 1) := by decide +kernel
theorem dX4_ofOne_17 : decode cX4_ofOne 17 = .ok (.ireturn, 1) := by decide +kernel
theorem dX4_ofTwo_0 : decode cX4_ofTwo 0 = .ok (.iload_n 0, 1) := by decide +kernel
theorem dX4_ofTwo_1 : decode cX4_ofTwo 1 = .ok (.lookupswitch 107 #[(10, 93), (42, 67), (43, 59), (45, 63), (60, 71), (61, 82)], 59) := by decide +kernel
theorem dX4_ofTwo_60 : decode cX4_ofTwo 60 = .ok (.iload_n 1, 1) := by decide +kernel
theorem dX4_ofTwo_61 : decode cX4_ofTwo 61 = .ok (.iload_n 2, 1) := by decide +kernel
theorem dX4_ofTwo_62 : decode cX4_ofTwo 62 = .ok (.iadd, 1) := by decide +kernel
theorem dX4_ofTwo_63 : decode cX4_ofTwo 63 = .ok (.ireturn, 1) := by decide +kernel
theorem dX4_ofTwo_64 : decode cX4_ofTwo 64 = .ok (.iload_n 1, 1) := by decide +kernel
theorem dX4_ofTwo_65 : decode cX4_ofTwo 65 = .ok (.iload_n 2, 1) := by decide +kernel
theorem dX4_ofTwo_66 : decode cX4_ofTwo 66 = .ok (.isub, 1) := by decide +kernel
theorem dX4_ofTwo_67 : decode cX4_ofTwo 67 = .ok (.ireturn, 1) := by decide +kernel
theorem dX4_ofTwo_68 : decode cX4_ofTwo 68 = .ok (.iload_n 1, 1) := by decide +kernel
theorem dX4_ofTwo_69 : decode cX4_ofTwo 69 = .ok (.iload_n 2, 1) := by decide +kernel
theorem dX4_ofTwo_70 : decode cX4_ofTwo 70 = .ok (.imul, 1) := by decide +kernel
theorem dX4_ofTwo_71 : decode cX4_ofTwo 71 = .ok (.ireturn, 1) := by decide +kernel
theorem dX4_ofTwo_72 : decode cX4_ofTwo 72 = .ok (.iload_n 1, 1) := by decide +kernel
theorem dX4_ofTwo_73 : decode cX4_ofTwo 73 = .ok (.iload_n 2, 1) := by decide +kernel
theorem dX4_ofTwo_74 : decode cX4_ofTwo 74 = .ok (.if_icmp .ge 7, 3) := by decide +kernel
theorem dX4_ofTwo_77 : decode cX4_ofTwo 77 = .ok (.iconst 1, 1) := by decide +kernel
theorem dX4_ofTwo_78 : decode cX4_ofTwo 78 = .ok (.goto 4, 3) := by decide +kernel
theorem dX4_ofTwo_81 : decode cX4_ofTwo 81 = .ok (.iconst 0, 1) := by decide +kernel
theorem dX4_ofTwo_82 : decode cX4_ofTwo 82 = .ok (.ireturn, 1) := by decide +kernel
theorem dX4_ofTwo_83 : decode cX4_ofTwo 83 = .ok (.iload_n 1, 1) := by decide +kernel
theorem dX4_ofTwo_84 : decode cX4_ofTwo 84 = .ok (.iload_n 2, 1) := by decide +kernel
theorem dX4_ofTwo_85 : decode cX4_ofTwo 85 = .ok (.if_icmp .ne 7, 3) := by decide +kernel
theorem dX4_ofTwo_88 : decode cX4_ofTwo 88 = .ok (.iconst 1, 1) := by decide +kernel
theorem dX4_ofTwo_89 : decode cX4_ofTwo 89 = .ok (.goto 4, 3) := by decide +kernel
theorem dX4_ofTwo_92 : decode cX4_ofTwo 92 = .ok (.iconst 0, 1) := by decide +kernel
theorem dX4_ofTwo_93 : decode cX4_ofTwo 93 = .ok (.ireturn, 1) := by decide +kernel
theorem dX4_ofTwo_94 : decode cX4_ofTwo 94 = .ok (.iload_n 1, 1) := by decide +kernel
theorem dX4_ofTwo_95 : decode cX4_ofTwo 95 = .ok (.ifCond .eq 11, 3) := by decide +kernel
theorem dX4_ofTwo_98 : decode cX4_ofTwo 98 = .ok (.iload_n 2, 1) := by decide +kernel
theorem dX4_ofTwo_99 : decode cX4_ofTwo 99 = .ok (.ifCond .eq 7, 3) := by decide +kernel
theorem dX4_ofTwo_102 : decode cX4_ofTwo 102 = .ok (.iconst 1, 1) := by decide +kernel
theorem dX4_ofTwo_103 : decode cX4_ofTwo 103 = .ok (.goto 4, 3) := by decide +kernel
theorem dX4_ofTwo_106 : decode cX4_ofTwo 106 = .ok (.iconst 0, 1) := by decide +kernel
theorem dX4_ofTwo_107 : decode cX4_ofTwo 107 = .ok (.ireturn, 1) := by decide +kernel
theorem dX4_ofTwo_108 : decode cX4_ofTwo 108 = .ok (.iload_n 1, 1) := by decide +kernel
theorem dX4_ofTwo_109 : decode cX4_ofTwo 109 = .ok (.ifCond .ne 7, 3) := by decide +kernel
theorem dX4_ofTwo_112 : decode cX4_ofTwo 112 = .ok (.iload_n 2, 1) := by decide +kernel
theorem dX4_ofTwo_113 : decode cX4_ofTwo 113 = .ok (.ifCond .eq 7, 3) := by decide +kernel
theorem dX4_ofTwo_116 : decode cX4_ofTwo 116 = .ok (.iconst 1, 1) := by decide +kernel
theorem dX4_ofTwo_117 : decode cX4_ofTwo 117 = .ok (.goto 4, 3) := by decide +kernel
theorem dX4_ofTwo_120 : decode cX4_ofTwo 120 = .ok (.iconst 0, 1) := by decide +kernel
theorem dX4_ofTwo_121 : decode cX4_ofTwo 121 = .ok (.ireturn, 1) := by decide +kernel
theorem dX5_init_0 : decode cX5_init 0 = .ok (.aload_n 0, 1) := by decide +kernel
theorem dX5_init_1 : decode cX5_init 1 = .ok (.invokespecial 1, 3) := by decide +kernel
theorem dX5_init_4 : decode cX5_init 4 = .ok (.aload_n 0, 1) := by decide +kernel
theorem dX5_init_5 : decode cX5_init 5 = .ok (.new 7, 3) := by decide +kernel
theorem dX5_init_8 : decode cX5_init 8 = .ok (.dup, 1) := by decide +kernel
theorem dX5_init_9 : decode cX5_init 9 = .ok (.invokespecial 9, 3) := by decide +kernel
theorem dX5_init_12 : decode cX5_init 12 = .ok (.putfield 10, 3) := by decide +kernel
theorem dX5_init_15 : decode cX5_init 15 = .ok (.aload_n 0, 1) := by decide +kernel
theorem dX5_init_16 : decode cX5_init 16 = .ok (.new 7, 3) := by decide +kernel
theorem dX5_init_19 : decode cX5_init 19 = .ok (.dup, 1) := by decide +kernel
theorem dX5_init_20 : decode cX5_init 20 = .ok (.invokespecial 9, 3) := by decide +kernel
theorem dX5_init_23 : decode cX5_init 23 = .ok (.putfield 16, 3) := by decide +kernel
theorem dX5_init_26 : decode cX5_init 26 = .ok (.aload_n 0, 1) := by decide +kernel
theorem dX5_init_27 : decode cX5_init 27 = .ok (.new 7, 3) := by decide +kernel
theorem dX5_init_30 : decode cX5_init 30 = .ok (.dup, 1) := by decide +kernel
theorem dX5_init_31 : decode cX5_init 31 = .ok (.invokespecial 9, 3) := by decide +kernel
theorem dX5_init_34 : decode cX5_init 34 = .ok (.putfield 19, 3) := by decide +kernel
theorem dX5_init_37 : decode cX5_init 37 = .ok (.aload_n 0, 1) := by decide +kernel
theorem dX5_init_38 : decode cX5_init 38 = .ok (.new 22, 3) := by decide +kernel
theorem dX5_init_41 : decode cX5_init 41 = .ok (.dup, 1) := by decide +kernel
theorem dX5_init_42 : decode cX5_init 42 = .ok (.invokespecial 24, 3) := by decide +kernel
theorem dX5_init_45 : decode cX5_init 45 = .ok (.putfield 25, 3) := by decide +kernel
theorem dX5_init_48 : decode cX5_init 48 = .ok (.aload_n 0, 1) := by decide +kernel
theorem dX5_init_49 : decode cX5_init 49 = .ok (.new 29, 3) := by decide +kernel
theorem dX5_init_52 : decode cX5_init 52 = .ok (.dup, 1) := by decide +kernel
theorem dX5_init_53 : decode cX5_init 53 = .ok (.invokespecial 31, 3) := by decide +kernel
theorem dX5_init_56 : decode cX5_init 56 = .ok (.putfield 32, 3) := by decide +kernel
theorem dX5_init_59 : decode cX5_init 59 = .ok (.aload_n 0, 1) := by decide +kernel
theorem dX5_init_60 : decode cX5_init 60 = .ok (.bipush 6, 2) := by decide +kernel
theorem dX5_init_62 : decode cX5_init 62 = .ok (.anewarray 36, 3) := by decide +kernel
theorem dX5_init_65 : decode cX5_init 65 = .ok (.putfield 38, 3) := by decide +kernel
theorem dX5_init_68 : decode cX5_init 68 = .ok (.aload_n 0, 1) := by decide +kernel
theorem dX5_init_69 : decode cX5_init 69 = .ok (.iconst 4, 1) := by decide +kernel
theorem dX5_init_70 : decode cX5_init 70 = .ok (.anewarray 42, 3) := by decide +kernel
theorem dX5_init_73 : decode cX5_init 73 = .ok (.putfield 44, 3) := by decide +kernel
theorem dX5_init_76 : decode cX5_init 76 = .ok (.aload_n 0, 1) := by decide +kernel
theorem dX5_init_77 : decode cX5_init 77 = .ok (.bipush 6, 2) := by decide +kernel
theorem dX5_init_79 : decode cX5_init 79 = .ok (.newarray .int, 2) := by decide +kernel
theorem dX5_init_81 : decode cX5_init 81 = .ok (.putfield 48, 3) := by decide +kernel
theorem dX5_init_84 : decode cX5_init 84 = .ok (.iconst 0, 1) := by decide +kernel
theorem dX5_init_85 : decode cX5_init 85 = .ok (.istore_n 1, 1) := by decide +kernel
theorem dX5_init_86 : decode cX5_init 86 = .ok (.iload_n 1, 1) := by decide +kernel
theorem dX5_init_87 : decode cX5_init 87 = .ok (.bipush 6, 2) := by decide +kernel
theorem dX5_init_89 : decode cX5_init 89 = .ok (.if_icmp .ge 22, 3) := by decide +kernel
theorem dX5_init_92 : decode cX5_init 92 = .ok (.aload_n 0, 1) := by decide +kernel
theorem dX5_init_93 : decode cX5_init 93 = .ok (.getfield 38, 3) := by decide +kernel
theorem dX5_init_96 : decode cX5_init 96 = .ok (.iload_n 1, 1) := by decide +kernel
theorem dX5_init_97 : decode cX5_init 97 = .ok (.new 36, 3) := by decide +kernel
theorem dX5_init_100 : decode cX5_init 100 = .ok (.dup, 1) := by decide +kernel
theorem dX5_init_101 : decode cX5_init 101 = .ok (.invokespecial 52, 3) := by decide +kernel
theorem dX5_init_104 : decode cX5_init 104 = .ok (.aastore, 1) := by decide +kernel
theorem dX5_init_105 : decode cX5_init 105 = .ok (.iinc 1 1, 3) := by decide +kernel
theorem dX5_init_108 : decode cX5_init 108 = .ok (.goto (-22), 3) := by decide +kernel
theorem dX5_init_111 : decode cX5_init 111 = .ok (.iconst 0, 1) := by decide +kernel
theorem dX5_init_112 : decode cX5_init 112 = .ok (.istore_n 1, 1) := by decide +kernel
theorem dX5_init_113 : decode cX5_init 113 = .ok (.iload_n 1, 1) := by decide +kernel
theorem dX5_init_114 : decode cX5_init 114 = .ok (.iconst 4, 1) := by decide +kernel
theorem dX5_init_115 : decode cX5_init 115 = .ok (.if_icmp .ge 22, 3) := by decide +kernel
theorem dX5_init_118 : decode cX5_init 118 = .ok (.aload_n 0, 1) := by decide +kernel
theorem dX5_init_119 : decode cX5_init 119 = .ok (.getfield 44, 3) := by decide +kernel
theorem dX5_init_122 : decode cX5_init 122 = .ok (.iload_n 1, 1) := by decide +kernel
theorem dX5_init_123 : decode cX5_init 123 = .ok (.new 42, 3) := by decide +kernel
theorem dX5_init_126 : decode cX5_init 126 = .ok (.dup, 1) := by decide +kernel
theorem dX5_init_127 : decode cX5_init 127 = .ok (.invokespecial 53, 3) := by decide +kernel
theorem dX5_init_130 : decode cX5_init 130 = .ok (.aastore, 1) := by decide +kernel
theorem dX5_init_131 : decode cX5_init 131 = .ok (.iinc 1 1, 3) := by decide +kernel
theorem dX5_init_134 : decode cX5_init 134 = .ok (.goto (-21), 3) := by decide +kernel
theorem dX5_init_137 : decode cX5_init 137 = .ok (.iconst 0, 1) := by decide +kernel
theorem dX5_init_138 : decode cX5_init 138 = .ok (.istore_n 1, 1) := by decide +kernel
theorem dX5_init_139 : decode cX5_init 139 = .ok (.iload_n 1, 1) := by decide +kernel
theorem dX5_init_140 : decode cX5_init 140 = .ok (.ldc 54, 2) := by decide +kernel
theorem dX5_init_142 : decode cX5_init 142 = .ok (.invokevirtual 56, 3) := by decide +kernel
theorem dX5_init_145 : decode cX5_init 145 = .ok (.if_icmp .ge 22, 3) := by decide +kernel
theorem dX5_init_148 : decode cX5_init 148 = .ok (.aload_n 0, 1) := by decide +kernel
theorem dX5_init_149 : decode cX5_init 149 = .ok (.getfield 32, 3) := by decide +kernel
theorem dX5_init_152 : decode cX5_init 152 = .ok (.ldc 54, 2) := by decide +kernel
theorem dX5_init_154 : decode cX5_init 154 = .ok (.iload_n 1, 1) := by decide +kernel
theorem dX5_init_155 : decode cX5_init 155 = .ok (.invokevirtual 62, 3) := by decide +kernel
theorem dX5_init_158 : decode cX5_init 158 = .ok (.invokevirtual 66, 3) := by decide +kernel
theorem dX5_init_161 : decode cX5_init 161 = .ok (.iinc 1 1, 3) := by decide +kernel
theorem dX5_init_164 : decode cX5_init 164 = .ok (.goto (-25), 3) := by decide +kernel
theorem dX5_init_167 : decode cX5_init 167 = .ok (.aload_n 0, 1) := by decide +kernel
theorem dX5_init_168 : decode cX5_init 168 = .ok (.getfield 32, 3) := by decide +kernel
theorem dX5_init_171 : decode cX5_init 171 = .ok (.aload_n 0, 1) := by decide +kernel
theorem dX5_init_172 : decode cX5_init 172 = .ok (.getfield 38, 3) := by decide +kernel
theorem dX5_init_175 : decode cX5_init 175 = .ok (.iconst 0, 1) := by decide +kernel
theorem dX5_init_176 : decode cX5_init 176 = .ok (.aaload, 1) := by decide +kernel
theorem dX5_init_177 : decode cX5_init 177 = .ok (.invokevirtual 70, 3) := by decide +kernel
theorem dX5_init_180 : decode cX5_init 180 = .ok (.pop, 1) := by decide +kernel
theorem dX5_init_181 : decode cX5_init 181 = .ok (.aload_n 0, 1) := by decide +kernel
theorem dX5_init_182 : decode cX5_init 182 = .ok (.getfield 32, 3) := by decide +kernel
theorem dX5_init_185 : decode cX5_init 185 = .ok (.invokevirtual 74, 3) := by decide +kernel
theorem dX5_init_188 : decode cX5_init 188 = .ok (.aload_n 0, 1) := by decide +kernel
theorem dX5_init_189 : decode cX5_init 189 = .ok (.iconst 1, 1) := by decide +kernel
theorem dX5_init_190 : decode cX5_init 190 = .ok (.putfield 77, 3) := by decide +kernel
theorem dX5_init_193 : decode cX5_init 193 = .ok (.return_, 1) := by decide +kernel
theorem dX5_hold_0 : decode cX5_hold 0 = .ok (.iload_n 1, 1) := by decide +kernel
theorem dX5_hold_1 : decode cX5_hold 1 = .ok (.bipush 6, 2) := by decide +kernel
theorem dX5_hold_3 : decode cX5_hold 3 = .ok (.invokestatic 81, 3) := by decide +kernel
theorem dX5_hold_6 : decode cX5_hold 6 = .ok (.ifCond .eq 12, 3) := by decide +kernel
theorem dX5_hold_9 : decode cX5_hold 9 = .ok (.iload_n 2, 1) := by decide +kernel
theorem dX5_hold_10 : decode cX5_hold 10 = .ok (.bipush 10, 2) := by decide +kernel
theorem dX5_hold_12 : decode cX5_hold 12 = .ok (.invokestatic 81, 3) := by decide +kernel
theorem dX5_hold_15 : decode cX5_hold 15 = .ok (.ifCond .ne 6, 3) := by decide +kernel
theorem dX5_hold_18 : decode cX5_hold 18 = .ok (.bipush (-2), 2) := by decide +kernel
theorem dX5_hold_20 : decode cX5_hold 20 = .ok (.ireturn, 1) := by decide +kernel
theorem dX5_hold_21 : decode cX5_hold 21 = .ok (.aload_n 0, 1) := by decide +kernel
theorem dX5_hold_22 : decode cX5_hold 22 = .ok (.getfield 10, 3) := by decide +kernel
theorem dX5_hold_25 : decode cX5_hold 25 = .ok (.getfield 85, 3) := by decide +kernel
theorem dX5_hold_28 : decode cX5_hold 28 = .ok (.iconst 5, 1) := by decide +kernel
theorem dX5_hold_29 : decode cX5_hold 29 = .ok (.if_icmp .lt 6, 3) := by decide +kernel
theorem dX5_hold_32 : decode cX5_hold 32 = .ok (.bipush (-4), 2) := by decide +kernel
theorem dX5_hold_34 : decode cX5_hold 34 = .ok (.ireturn, 1) := by decide +kernel
theorem dX5_hold_35 : decode cX5_hold 35 = .ok (.aload_n 0, 1) := by decide +kernel
theorem dX5_hold_36 : decode cX5_hold 36 = .ok (.getfield 10, 3) := by decide +kernel
theorem dX5_hold_39 : decode cX5_hold 39 = .ok (.getfield 88, 3) := by decide +kernel
theorem dX5_hold_42 : decode cX5_hold 42 = .ok (.aload_n 0, 1) := by decide +kernel
theorem dX5_hold_43 : decode cX5_hold 43 = .ok (.getfield 10, 3) := by decide +kernel
theorem dX5_hold_46 : decode cX5_hold 46 = .ok (.getfield 85, 3) := by decide +kernel
theorem dX5_hold_49 : decode cX5_hold 49 = .ok (.iload_n 1, 1) := by decide +kernel
theorem dX5_hold_50 : decode cX5_hold 50 = .ok (.iastore, 1) := by decide +kernel
theorem dX5_hold_51 : decode cX5_hold 51 = .ok (.aload_n 0, 1) := by decide +kernel
theorem dX5_hold_52 : decode cX5_hold 52 = .ok (.getfield 10, 3) := by decide +kernel
theorem dX5_hold_55 : decode cX5_hold 55 = .ok (.aload_n 0, 1) := by decide +kernel
theorem dX5_hold_56 : decode cX5_hold 56 = .ok (.getfield 10, 3) := by decide +kernel
theorem dX5_hold_59 : decode cX5_hold 59 = .ok (.getfield 85, 3) := by decide +kernel
theorem dX5_hold_62 : decode cX5_hold 62 = .ok (.iload_n 2, 1) := by decide +kernel
theorem dX5_hold_63 : decode cX5_hold 63 = .ok (.invokevirtual 91, 3) := by decide +kernel
theorem dX5_hold_66 : decode cX5_hold 66 = .ok (.aload_n 0, 1) := by decide +kernel
theorem dX5_hold_67 : decode cX5_hold 67 = .ok (.getfield 10, 3) := by decide +kernel
theorem dX5_hold_70 : decode cX5_hold 70 = .ok (.dup, 1) := by decide +kernel
theorem dX5_hold_71 : decode cX5_hold 71 = .ok (.getfield 85, 3) := by decide +kernel
theorem dX5_hold_74 : decode cX5_hold 74 = .ok (.dup_x1, 1) := by decide +kernel
theorem dX5_hold_75 : decode cX5_hold 75 = .ok (.iconst 1, 1) := by decide +kernel
theorem dX5_hold_76 : decode cX5_hold 76 = .ok (.iadd, 1) := by decide +kernel
theorem dX5_hold_77 : decode cX5_hold 77 = .ok (.putfield 85, 3) := by decide +kernel
theorem dX5_hold_80 : decode cX5_hold 80 = .ok (.ireturn, 1) := by decide +kernel
theorem dX5_thing_0 : decode cX5_thing 0 = .ok (.iload_n 1, 1) := by decide +kernel
theorem dX5_thing_1 : decode cX5_thing 1 = .ok (.bipush 10, 2) := by decide +kernel
theorem dX5_thing_3 : decode cX5_thing 3 = .ok (.idiv, 1) := by decide +kernel
theorem dX5_thing_4 : decode cX5_thing 4 = .ok (.istore_n 3, 1) := by decide +kernel
theorem dX5_thing_5 : decode cX5_thing 5 = .ok (.iload_n 1, 1) := by decide +kernel
theorem dX5_thing_6 : decode cX5_thing 6 = .ok (.bipush 10, 2) := by decide +kernel
theorem dX5_thing_8 : decode cX5_thing 8 = .ok (.irem, 1) := by decide +kernel
theorem dX5_thing_9 : decode cX5_thing 9 = .ok (.istore 4, 2) := by decide +kernel
theorem dX5_thing_11 : decode cX5_thing 11 = .ok (.iload_n 3, 1) := by decide +kernel
theorem dX5_thing_12 : decode cX5_thing 12 = .ok (.iconst 1, 1) := by decide +kernel
theorem dX5_thing_13 : decode cX5_thing 13 = .ok (.if_icmp .lt 29, 3) := by decide +kernel
theorem dX5_thing_16 : decode cX5_thing 16 = .ok (.iload_n 3, 1) := by decide +kernel
theorem dX5_thing_17 : decode cX5_thing 17 = .ok (.bipush 9, 2) := by decide +kernel
theorem dX5_thing_19 : decode cX5_thing 19 = .ok (.if_icmp .gt 23, 3) := by decide +kernel
theorem dX5_thing_22 : decode cX5_thing 22 = .ok (.iload 4, 2) := by decide +kernel
theorem dX5_thing_24 : decode cX5_thing 24 = .ok (.iconst 2, 1) := by decide +kernel
theorem dX5_thing_25 : decode cX5_thing 25 = .ok (.invokestatic 81, 3) := by decide +kernel
theorem dX5_thing_28 : decode cX5_thing 28 = .ok (.ifCond .eq 14, 3) := by decide +kernel
theorem dX5_thing_31 : decode cX5_thing 31 = .ok (.aload_n 0, 1) := by decide +kernel
theorem dX5_thing_32 : decode cX5_thing 32 = .ok (.getfield 10, 3) := by decide +kernel
theorem dX5_thing_35 : decode cX5_thing 35 = .ok (.iload_n 2, 1) := by decide +kernel
theorem dX5_thing_36 : decode cX5_thing 36 = .ok (.invokevirtual 95, 3) := by decide +kernel
theorem dX5_thing_39 : decode cX5_thing 39 = .ok (.ifCond .ne 6, 3) := by decide +kernel
theorem dX5_thing_42 : decode cX5_thing 42 = .ok (.bipush (-2), 2) := by decide +kernel
theorem dX5_thing_44 : decode cX5_thing 44 = .ok (.ireturn, 1) := by decide +kernel
theorem dX5_thing_45 : decode cX5_thing 45 = .ok (.aload_n 0, 1) := by decide +kernel
theorem dX5_thing_46 : decode cX5_thing 46 = .ok (.getfield 10, 3) := by decide +kernel
theorem dX5_thing_49 : decode cX5_thing 49 = .ok (.getfield 99, 3) := by decide +kernel
theorem dX5_thing_52 : decode cX5_thing 52 = .ok (.iconst 5, 1) := by decide +kernel
theorem dX5_thing_53 : decode cX5_thing 53 = .ok (.if_icmp .lt 6, 3) := by decide +kernel
theorem dX5_thing_56 : decode cX5_thing 56 = .ok (.bipush (-4), 2) := by decide +kernel
theorem dX5_thing_58 : decode cX5_thing 58 = .ok (.ireturn, 1) := by decide +kernel
theorem dX5_thing_59 : decode cX5_thing 59 = .ok (.aload_n 0, 1) := by decide +kernel
theorem dX5_thing_60 : decode cX5_thing 60 = .ok (.getfield 10, 3) := by decide +kernel
theorem dX5_thing_63 : decode cX5_thing 63 = .ok (.getfield 99, 3) := by decide +kernel
theorem dX5_thing_66 : decode cX5_thing 66 = .ok (.istore 5, 2) := by decide +kernel
theorem dX5_thing_68 : decode cX5_thing 68 = .ok (.aload_n 0, 1) := by decide +kernel
theorem dX5_thing_69 : decode cX5_thing 69 = .ok (.getfield 10, 3) := by decide +kernel
theorem dX5_thing_72 : decode cX5_thing 72 = .ok (.getfield 102, 3) := by decide +kernel
theorem dX5_thing_75 : decode cX5_thing 75 = .ok (.iload 5, 2) := by decide +kernel
theorem dX5_thing_77 : decode cX5_thing 77 = .ok (.iload_n 3, 1) := by decide +kernel
theorem dX5_thing_78 : decode cX5_thing 78 = .ok (.iastore, 1) := by decide +kernel
theorem dX5_thing_79 : decode cX5_thing 79 = .ok (.aload_n 0, 1) := by decide +kernel
theorem dX5_thing_80 : decode cX5_thing 80 = .ok (.getfield 10, 3) := by decide +kernel
theorem dX5_thing_83 : decode cX5_thing 83 = .ok (.getfield 105, 3) := by decide +kernel
theorem dX5_thing_86 : decode cX5_thing 86 = .ok (.iload 5, 2) := by decide +kernel
theorem dX5_thing_88 : decode cX5_thing 88 = .ok (.iload 4, 2) := by decide +kernel
theorem dX5_thing_90 : decode cX5_thing 90 = .ok (.iastore, 1) := by decide +kernel
theorem dX5_thing_91 : decode cX5_thing 91 = .ok (.aload_n 0, 1) := by decide +kernel
theorem dX5_thing_92 : decode cX5_thing 92 = .ok (.getfield 10, 3) := by decide +kernel
theorem dX5_thing_95 : decode cX5_thing 95 = .ok (.getfield 108, 3) := by decide +kernel
theorem dX5_thing_98 : decode cX5_thing 98 = .ok (.iload 5, 2) := by decide +kernel
theorem dX5_thing_100 : decode cX5_thing 100 = .ok (.iconst 0, 1) := by decide +kernel
theorem dX5_thing_101 : decode cX5_thing 101 = .ok (.iastore, 1) := by decide +kernel
theorem dX5_thing_102 : decode cX5_thing 102 = .ok (.aload_n 0, 1) := by decide +kernel
theorem dX5_thing_103 : decode cX5_thing 103 = .ok (.getfield 10, 3) := by decide +kernel
theorem dX5_thing_106 : decode cX5_thing 106 = .ok (.getfield 111, 3) := by decide +kernel
theorem dX5_thing_109 : decode cX5_thing 109 = .ok (.iload 5, 2) := by decide +kernel
theorem dX5_thing_111 : decode cX5_thing 111 = .ok (.iconst (-1), 1) := by decide +kernel
theorem dX5_thing_112 : decode cX5_thing 112 = .ok (.iastore, 1) := by decide +kernel
theorem dX5_thing_113 : decode cX5_thing 113 = .ok (.aload_n 0, 1) := by decide +kernel
theorem dX5_thing_114 : decode cX5_thing 114 = .ok (.getfield 10, 3) := by decide +kernel
theorem dX5_thing_117 : decode cX5_thing 117 = .ok (.iload 5, 2) := by decide +kernel
theorem dX5_thing_119 : decode cX5_thing 119 = .ok (.iload_n 2, 1) := by decide +kernel
theorem dX5_thing_120 : decode cX5_thing 120 = .ok (.invokevirtual 114, 3) := by decide +kernel
theorem dX5_thing_123 : decode cX5_thing 123 = .ok (.ifCond .eq 6, 3) := by decide +kernel
theorem dX5_thing_126 : decode cX5_thing 126 = .ok (.bipush (-3), 2) := by decide +kernel
theorem dX5_thing_128 : decode cX5_thing 128 = .ok (.ireturn, 1) := by decide +kernel
theorem dX5_thing_129 : decode cX5_thing 129 = .ok (.aload_n 0, 1) := by decide +kernel
theorem dX5_thing_130 : decode cX5_thing 130 = .ok (.getfield 10, 3) := by decide +kernel
theorem dX5_thing_133 : decode cX5_thing 133 = .ok (.getfield 111, 3) := by decide +kernel
theorem dX5_thing_136 : decode cX5_thing 136 = .ok (.iload 5, 2) := by decide +kernel
theorem dX5_thing_138 : decode cX5_thing 138 = .ok (.iload_n 2, 1) := by decide +kernel
theorem dX5_thing_139 : decode cX5_thing 139 = .ok (.iastore, 1) := by decide +kernel
theorem dX5_thing_140 : decode cX5_thing 140 = .ok (.aload_n 0, 1) := by decide +kernel
theorem dX5_thing_141 : decode cX5_thing 141 = .ok (.getfield 10, 3) := by decide +kernel
theorem dX5_thing_144 : decode cX5_thing 144 = .ok (.dup, 1) := by decide +kernel
theorem dX5_thing_145 : decode cX5_thing 145 = .ok (.getfield 99, 3) := by decide +kernel
theorem dX5_thing_148 : decode cX5_thing 148 = .ok (.iconst 1, 1) := by decide +kernel
theorem dX5_thing_149 : decode cX5_thing 149 = .ok (.iadd, 1) := by decide +kernel
theorem dX5_thing_150 : decode cX5_thing 150 = .ok (.putfield 99, 3) := by decide +kernel
theorem dX5_thing_153 : decode cX5_thing 153 = .ok (.iload 5, 2) := by decide +kernel
theorem dX5_thing_155 : decode cX5_thing 155 = .ok (.ireturn, 1) := by decide +kernel
theorem dX5_set_0 : decode cX5_set 0 = .ok (.iload_n 1, 1) := by decide +kernel
theorem dX5_set_1 : decode cX5_set 1 = .ok (.tableswitch 57 0 3 #[31, 37, 43, 50], 31) := by decide +kernel
theorem dX5_set_32 : decode cX5_set 32 = .ok (.aload_n 0, 1) := by decide +kernel
theorem dX5_set_33 : decode cX5_set 33 = .ok (.iload_n 3, 1) := by decide +kernel
theorem dX5_set_34 : decode cX5_set 34 = .ok (.invokevirtual 118, 3) := by decide +kernel
theorem dX5_set_37 : decode cX5_set 37 = .ok (.ireturn, 1) := by decide +kernel
theorem dX5_set_38 : decode cX5_set 38 = .ok (.aload_n 0, 1) := by decide +kernel
theorem dX5_set_39 : decode cX5_set 39 = .ok (.iload_n 3, 1) := by decide +kernel
theorem dX5_set_40 : decode cX5_set 40 = .ok (.invokevirtual 122, 3) := by decide +kernel
theorem dX5_set_43 : decode cX5_set 43 = .ok (.ireturn, 1) := by decide +kernel
theorem dX5_set_44 : decode cX5_set 44 = .ok (.aload_n 0, 1) := by decide +kernel
theorem dX5_set_45 : decode cX5_set 45 = .ok (.iload_n 2, 1) := by decide +kernel
theorem dX5_set_46 : decode cX5_set 46 = .ok (.iload_n 3, 1) := by decide +kernel
theorem dX5_set_47 : decode cX5_set 47 = .ok (.invokevirtual 125, 3) := by decide +kernel
theorem dX5_set_50 : decode cX5_set 50 = .ok (.ireturn, 1) := by decide +kernel
theorem dX5_set_51 : decode cX5_set 51 = .ok (.aload_n 0, 1) := by decide +kernel
theorem dX5_set_52 : decode cX5_set 52 = .ok (.iload_n 2, 1) := by decide +kernel
theorem dX5_set_53 : decode cX5_set 53 = .ok (.iload_n 3, 1) := by decide +kernel
theorem dX5_set_54 : decode cX5_set 54 = .ok (.invokevirtual 128, 3) := by decide +kernel
theorem dX5_set_57 : decode cX5_set 57 = .ok (.ireturn, 1) := by decide +kernel
theorem dX5_set_58 : decode cX5_set 58 = .ok (.bipush (-100), 2) := by decide +kernel
theorem dX5_set_60 : decode cX5_set 60 = .ok (.ireturn, 1) := by decide +kernel
theorem dX5_setFree_0 : decode cX5_setFree 0 = .ok (.iload_n 1, 1) := by decide +kernel
theorem dX5_setFree_1 : decode cX5_setFree 1 = .ok (.iconst 4, 1) := by decide +kernel
theorem dX5_setFree_2 : decode cX5_setFree 2 = .ok (.invokestatic 81, 3) := by decide +kernel
theorem dX5_setFree_5 : decode cX5_setFree 5 = .ok (.ifCond .ne 6, 3) := by decide +kernel
theorem dX5_setFree_8 : decode cX5_setFree 8 = .ok (.bipush (-100), 2) := by decide +kernel
theorem dX5_setFree_10 : decode cX5_setFree 10 = .ok (.ireturn, 1) := by decide +kernel
theorem dX5_setFree_11 : decode cX5_setFree 11 = .ok (.aload_n 0, 1) := by decide +kernel
theorem dX5_setFree_12 : decode cX5_setFree 12 = .ok (.getfield 10, 3) := by decide +kernel
theorem dX5_setFree_15 : decode cX5_setFree 15 = .ok (.getfield 131, 3) := by decide +kernel
theorem dX5_setFree_18 : decode cX5_setFree 18 = .ok (.istore_n 2, 1) := by decide +kernel
theorem dX5_setFree_19 : decode cX5_setFree 19 = .ok (.aload_n 0, 1) := by decide +kernel
theorem dX5_setFree_20 : decode cX5_setFree 20 = .ok (.getfield 10, 3) := by decide +kernel
theorem dX5_setFree_23 : decode cX5_setFree 23 = .ok (.iload_n 1, 1) := by decide +kernel
theorem dX5_setFree_24 : decode cX5_setFree 24 = .ok (.putfield 131, 3) := by decide +kernel
theorem dX5_setFree_27 : decode cX5_setFree 27 = .ok (.iload_n 2, 1) := by decide +kernel
theorem dX5_setFree_28 : decode cX5_setFree 28 = .ok (.ireturn, 1) := by decide +kernel
theorem dX5_setKey_0 : decode cX5_setKey 0 = .ok (.iload_n 1, 1) := by decide +kernel
theorem dX5_setKey_1 : decode cX5_setKey 1 = .ok (.iconst (-1), 1) := by decide +kernel
theorem dX5_setKey_2 : decode cX5_setKey 2 = .ok (.if_icmp .eq 17, 3) := by decide +kernel
theorem dX5_setKey_5 : decode cX5_setKey 5 = .ok (.aload_n 0, 1) := by decide +kernel
theorem dX5_setKey_6 : decode cX5_setKey 6 = .ok (.getfield 10, 3) := by decide +kernel
theorem dX5_setKey_9 : decode cX5_setKey 9 = .ok (.iload_n 1, 1) := by decide +kernel
theorem dX5_setKey_10 : decode cX5_setKey 10 = .ok (.invokevirtual 134, 3) := by decide +kernel
theorem dX5_setKey_13 : decode cX5_setKey 13 = .ok (.ifCond .ne 6, 3) := by decide +kernel
theorem dX5_setKey_16 : decode cX5_setKey 16 = .ok (.bipush (-100), 2) := by decide +kernel
theorem dX5_setKey_18 : decode cX5_setKey 18 = .ok (.ireturn, 1) := by decide +kernel
theorem dX5_setKey_19 : decode cX5_setKey 19 = .ok (.aload_n 0, 1) := by decide +kernel
theorem dX5_setKey_20 : decode cX5_setKey 20 = .ok (.getfield 10, 3) := by decide +kernel
theorem dX5_setKey_23 : decode cX5_setKey 23 = .ok (.getfield 137, 3) := by decide +kernel
theorem dX5_setKey_26 : decode cX5_setKey 26 = .ok (.istore_n 2, 1) := by decide +kernel
theorem dX5_setKey_27 : decode cX5_setKey 27 = .ok (.aload_n 0, 1) := by decide +kernel
theorem dX5_setKey_28 : decode cX5_setKey 28 = .ok (.getfield 10, 3) := by decide +kernel
theorem dX5_setKey_31 : decode cX5_setKey 31 = .ok (.iload_n 1, 1) := by decide +kernel
theorem dX5_setKey_32 : decode cX5_setKey 32 = .ok (.putfield 137, 3) := by decide +kernel
theorem dX5_setKey_35 : decode cX5_setKey 35 = .ok (.iload_n 2, 1) := by decide +kernel
theorem dX5_setKey_36 : decode cX5_setKey 36 = .ok (.ireturn, 1) := by decide +kernel
theorem dX5_setNumber_0 : decode cX5_setNumber 0 = .ok (.aload_n 0, 1) := by decide +kernel
theorem dX5_setNumber_1 : decode cX5_setNumber 1 = .ok (.getfield 10, 3) := by decide +kernel
theorem dX5_setNumber_4 : decode cX5_setNumber 4 = .ok (.iload_n 1, 1) := by decide +kernel
theorem dX5_setNumber_5 : decode cX5_setNumber 5 = .ok (.invokevirtual 95, 3) := by decide +kernel
theorem dX5_setNumber_8 : decode cX5_setNumber 8 = .ok (.ifCond .eq 12, 3) := by decide +kernel
theorem dX5_setNumber_11 : decode cX5_setNumber 11 = .ok (.iload_n 2, 1) := by decide +kernel
theorem dX5_setNumber_12 : decode cX5_setNumber 12 = .ok (.bipush 10, 2) := by decide +kernel
theorem dX5_setNumber_14 : decode cX5_setNumber 14 = .ok (.invokestatic 81, 3) := by decide +kernel
theorem dX5_setNumber_17 : decode cX5_setNumber 17 = .ok (.ifCond .ne 6, 3) := by decide +kernel
theorem dX5_setNumber_20 : decode cX5_setNumber 20 = .ok (.bipush (-100), 2) := by decide +kernel
theorem dX5_setNumber_22 : decode cX5_setNumber 22 = .ok (.ireturn, 1) := by decide +kernel
theorem dX5_setNumber_23 : decode cX5_setNumber 23 = .ok (.aload_n 0, 1) := by decide +kernel
theorem dX5_setNumber_24 : decode cX5_setNumber 24 = .ok (.getfield 10, 3) := by decide +kernel
theorem dX5_setNumber_27 : decode cX5_setNumber 27 = .ok (.getfield 140, 3) := by decide +kernel
theorem dX5_setNumber_30 : decode cX5_setNumber 30 = .ok (.iload_n 1, 1) := by decide +kernel
theorem dX5_setNumber_31 : decode cX5_setNumber 31 = .ok (.iaload, 1) := by decide +kernel
theorem dX5_setNumber_32 : decode cX5_setNumber 32 = .ok (.istore_n 3, 1) := by decide +kernel
theorem dX5_setNumber_33 : decode cX5_setNumber 33 = .ok (.aload_n 0, 1) := by decide +kernel
theorem dX5_setNumber_34 : decode cX5_setNumber 34 = .ok (.getfield 10, 3) := by decide +kernel
theorem dX5_setNumber_37 : decode cX5_setNumber 37 = .ok (.iload_n 1, 1) := by decide +kernel
theorem dX5_setNumber_38 : decode cX5_setNumber 38 = .ok (.iload_n 2, 1) := by decide +kernel
theorem dX5_setNumber_39 : decode cX5_setNumber 39 = .ok (.invokevirtual 91, 3) := by decide +kernel
theorem dX5_setNumber_42 : decode cX5_setNumber 42 = .ok (.aload_n 0, 1) := by decide +kernel
theorem dX5_setNumber_43 : decode cX5_setNumber 43 = .ok (.getfield 10, 3) := by decide +kernel
theorem dX5_setNumber_46 : decode cX5_setNumber 46 = .ok (.iload_n 1, 1) := by decide +kernel
theorem dX5_setNumber_47 : decode cX5_setNumber 47 = .ok (.invokevirtual 143, 3) := by decide +kernel
theorem dX5_setNumber_50 : decode cX5_setNumber 50 = .ok (.ifCond .ge 15, 3) := by decide +kernel
theorem dX5_setNumber_53 : decode cX5_setNumber 53 = .ok (.aload_n 0, 1) := by decide +kernel
theorem dX5_setNumber_54 : decode cX5_setNumber 54 = .ok (.getfield 10, 3) := by decide +kernel
theorem dX5_setNumber_57 : decode cX5_setNumber 57 = .ok (.iload_n 1, 1) := by decide +kernel
theorem dX5_setNumber_58 : decode cX5_setNumber 58 = .ok (.iload_n 3, 1) := by decide +kernel
theorem dX5_setNumber_59 : decode cX5_setNumber 59 = .ok (.invokevirtual 91, 3) := by decide +kernel
theorem dX5_setNumber_62 : decode cX5_setNumber 62 = .ok (.bipush (-3), 2) := by decide +kernel
theorem dX5_setNumber_64 : decode cX5_setNumber 64 = .ok (.ireturn, 1) := by decide +kernel
theorem dX5_setNumber_65 : decode cX5_setNumber 65 = .ok (.iload_n 3, 1) := by decide +kernel
theorem dX5_setNumber_66 : decode cX5_setNumber 66 = .ok (.ireturn, 1) := by decide +kernel
theorem dX5_setDry_0 : decode cX5_setDry 0 = .ok (.aload_n 0, 1) := by decide +kernel
theorem dX5_setDry_1 : decode cX5_setDry 1 = .ok (.getfield 10, 3) := by decide +kernel
theorem dX5_setDry_4 : decode cX5_setDry 4 = .ok (.iload_n 1, 1) := by decide +kernel
theorem dX5_setDry_5 : decode cX5_setDry 5 = .ok (.invokevirtual 134, 3) := by decide +kernel
theorem dX5_setDry_8 : decode cX5_setDry 8 = .ok (.ifCond .eq 11, 3) := by decide +kernel
theorem dX5_setDry_11 : decode cX5_setDry 11 = .ok (.iload_n 2, 1) := by decide +kernel
theorem dX5_setDry_12 : decode cX5_setDry 12 = .ok (.iconst 2, 1) := by decide +kernel
theorem dX5_setDry_13 : decode cX5_setDry 13 = .ok (.invokestatic 81, 3) := by decide +kernel
theorem dX5_setDry_16 : decode cX5_setDry 16 = .ok (.ifCond .ne 6, 3) := by decide +kernel
theorem dX5_setDry_19 : decode cX5_setDry 19 = .ok (.bipush (-100), 2) := by decide +kernel
theorem dX5_setDry_21 : decode cX5_setDry 21 = .ok (.ireturn, 1) := by decide +kernel
theorem dX5_setDry_22 : decode cX5_setDry 22 = .ok (.iload_n 2, 1) := by decide +kernel
theorem dX5_setDry_23 : decode cX5_setDry 23 = .ok (.iconst 1, 1) := by decide +kernel
theorem dX5_setDry_24 : decode cX5_setDry 24 = .ok (.if_icmp .ne 26, 3) := by decide +kernel
theorem dX5_setDry_27 : decode cX5_setDry 27 = .ok (.aload_n 0, 1) := by decide +kernel
theorem dX5_setDry_28 : decode cX5_setDry 28 = .ok (.getfield 10, 3) := by decide +kernel
theorem dX5_setDry_31 : decode cX5_setDry 31 = .ok (.aload_n 0, 1) := by decide +kernel
theorem dX5_setDry_32 : decode cX5_setDry 32 = .ok (.getfield 10, 3) := by decide +kernel
theorem dX5_setDry_35 : decode cX5_setDry 35 = .ok (.getfield 111, 3) := by decide +kernel
theorem dX5_setDry_38 : decode cX5_setDry 38 = .ok (.iload_n 1, 1) := by decide +kernel
theorem dX5_setDry_39 : decode cX5_setDry 39 = .ok (.iaload, 1) := by decide +kernel
theorem dX5_setDry_40 : decode cX5_setDry 40 = .ok (.invokevirtual 146, 3) := by decide +kernel
theorem dX5_setDry_43 : decode cX5_setDry 43 = .ok (.iconst 1, 1) := by decide +kernel
theorem dX5_setDry_44 : decode cX5_setDry 44 = .ok (.if_icmp .ne 6, 3) := by decide +kernel
theorem dX5_setDry_47 : decode cX5_setDry 47 = .ok (.bipush (-3), 2) := by decide +kernel
theorem dX5_setDry_49 : decode cX5_setDry 49 = .ok (.ireturn, 1) := by decide +kernel
theorem dX5_setDry_50 : decode cX5_setDry 50 = .ok (.aload_n 0, 1) := by decide +kernel
theorem dX5_setDry_51 : decode cX5_setDry 51 = .ok (.getfield 10, 3) := by decide +kernel
theorem dX5_setDry_54 : decode cX5_setDry 54 = .ok (.getfield 105, 3) := by decide +kernel
theorem dX5_setDry_57 : decode cX5_setDry 57 = .ok (.iload_n 1, 1) := by decide +kernel
theorem dX5_setDry_58 : decode cX5_setDry 58 = .ok (.iaload, 1) := by decide +kernel
theorem dX5_setDry_59 : decode cX5_setDry 59 = .ok (.istore_n 3, 1) := by decide +kernel
theorem dX5_setDry_60 : decode cX5_setDry 60 = .ok (.aload_n 0, 1) := by decide +kernel
theorem dX5_setDry_61 : decode cX5_setDry 61 = .ok (.getfield 10, 3) := by decide +kernel
theorem dX5_setDry_64 : decode cX5_setDry 64 = .ok (.getfield 105, 3) := by decide +kernel
theorem dX5_setDry_67 : decode cX5_setDry 67 = .ok (.iload_n 1, 1) := by decide +kernel
theorem dX5_setDry_68 : decode cX5_setDry 68 = .ok (.iload_n 2, 1) := by decide +kernel
theorem dX5_setDry_69 : decode cX5_setDry 69 = .ok (.iastore, 1) := by decide +kernel
theorem dX5_setDry_70 : decode cX5_setDry 70 = .ok (.iload_n 3, 1) := by decide +kernel
theorem dX5_setDry_71 : decode cX5_setDry 71 = .ok (.ireturn, 1) := by decide +kernel
theorem dX5_part_0 : decode cX5_part 0 = .ok (.aload_n 0, 1) := by decide +kernel
theorem dX5_part_1 : decode cX5_part 1 = .ok (.getfield 10, 3) := by decide +kernel
theorem dX5_part_4 : decode cX5_part 4 = .ok (.iload_n 1, 1) := by decide +kernel
theorem dX5_part_5 : decode cX5_part 5 = .ok (.invokevirtual 134, 3) := by decide +kernel
theorem dX5_part_8 : decode cX5_part 8 = .ok (.ifCond .eq 27, 3) := by decide +kernel
theorem dX5_part_11 : decode cX5_part 11 = .ok (.aload_n 0, 1) := by decide +kernel
theorem dX5_part_12 : decode cX5_part 12 = .ok (.getfield 10, 3) := by decide +kernel
theorem dX5_part_15 : decode cX5_part 15 = .ok (.iload_n 2, 1) := by decide +kernel
theorem dX5_part_16 : decode cX5_part 16 = .ok (.invokevirtual 134, 3) := by decide +kernel
theorem dX5_part_19 : decode cX5_part 19 = .ok (.ifCond .eq 16, 3) := by decide +kernel
theorem dX5_part_22 : decode cX5_part 22 = .ok (.iload_n 1, 1) := by decide +kernel
theorem dX5_part_23 : decode cX5_part 23 = .ok (.iload_n 2, 1) := by decide +kernel
theorem dX5_part_24 : decode cX5_part 24 = .ok (.if_icmp .eq 11, 3) := by decide +kernel
theorem dX5_part_27 : decode cX5_part 27 = .ok (.iload_n 3, 1) := by decide +kernel
theorem dX5_part_28 : decode cX5_part 28 = .ok (.iconst 2, 1) := by decide +kernel
theorem dX5_part_29 : decode cX5_part 29 = .ok (.invokestatic 81, 3) := by decide +kernel
theorem dX5_part_32 : decode cX5_part 32 = .ok (.ifCond .ne 6, 3) := by decide +kernel
theorem dX5_part_35 : decode cX5_part 35 = .ok (.bipush (-2), 2) := by decide +kernel
theorem dX5_part_37 : decode cX5_part 37 = .ok (.ireturn, 1) := by decide +kernel
theorem dX5_part_38 : decode cX5_part 38 = .ok (.iload_n 3, 1) := by decide +kernel
theorem dX5_part_39 : decode cX5_part 39 = .ok (.iconst 1, 1) := by decide +kernel
theorem dX5_part_40 : decode cX5_part 40 = .ok (.if_icmp .ne 27, 3) := by decide +kernel
theorem dX5_part_43 : decode cX5_part 43 = .ok (.aload_n 0, 1) := by decide +kernel
theorem dX5_part_44 : decode cX5_part 44 = .ok (.getfield 10, 3) := by decide +kernel
theorem dX5_part_47 : decode cX5_part 47 = .ok (.getfield 111, 3) := by decide +kernel
theorem dX5_part_50 : decode cX5_part 50 = .ok (.iload_n 1, 1) := by decide +kernel
theorem dX5_part_51 : decode cX5_part 51 = .ok (.iaload, 1) := by decide +kernel
theorem dX5_part_52 : decode cX5_part 52 = .ok (.aload_n 0, 1) := by decide +kernel
theorem dX5_part_53 : decode cX5_part 53 = .ok (.getfield 10, 3) := by decide +kernel
theorem dX5_part_56 : decode cX5_part 56 = .ok (.getfield 111, 3) := by decide +kernel
theorem dX5_part_59 : decode cX5_part 59 = .ok (.iload_n 2, 1) := by decide +kernel
theorem dX5_part_60 : decode cX5_part 60 = .ok (.iaload, 1) := by decide +kernel
theorem dX5_part_61 : decode cX5_part 61 = .ok (.if_icmp .ne 6, 3) := by decide +kernel
theorem dX5_part_64 : decode cX5_part 64 = .ok (.bipush (-3), 2) := by decide +kernel
theorem dX5_part_66 : decode cX5_part 66 = .ok (.ireturn, 1) := by decide +kernel
theorem dX5_part_67 : decode cX5_part 67 = .ok (.aload_n 0, 1) := by decide +kernel
theorem dX5_part_68 : decode cX5_part 68 = .ok (.getfield 10, 3) := by decide +kernel
theorem dX5_part_71 : decode cX5_part 71 = .ok (.getfield 108, 3) := by decide +kernel
theorem dX5_part_74 : decode cX5_part 74 = .ok (.iload_n 1, 1) := by decide +kernel
theorem dX5_part_75 : decode cX5_part 75 = .ok (.iaload, 1) := by decide +kernel
theorem dX5_part_76 : decode cX5_part 76 = .ok (.iload_n 2, 1) := by decide +kernel
theorem dX5_part_77 : decode cX5_part 77 = .ok (.ishr, 1) := by decide +kernel
theorem dX5_part_78 : decode cX5_part 78 = .ok (.iconst 1, 1) := by decide +kernel
theorem dX5_part_79 : decode cX5_part 79 = .ok (.iand, 1) := by decide +kernel
theorem dX5_part_80 : decode cX5_part 80 = .ok (.istore 4, 2) := by decide +kernel
theorem dX5_part_82 : decode cX5_part 82 = .ok (.aload_n 0, 1) := by decide +kernel
theorem dX5_part_83 : decode cX5_part 83 = .ok (.getfield 10, 3) := by decide +kernel
theorem dX5_part_86 : decode cX5_part 86 = .ok (.getfield 108, 3) := by decide +kernel
theorem dX5_part_89 : decode cX5_part 89 = .ok (.iload_n 1, 1) := by decide +kernel
theorem dX5_part_90 : decode cX5_part 90 = .ok (.aload_n 0, 1) := by decide +kernel
theorem dX5_part_91 : decode cX5_part 91 = .ok (.getfield 10, 3) := by decide +kernel
theorem dX5_part_94 : decode cX5_part 94 = .ok (.getfield 108, 3) := by decide +kernel
theorem dX5_part_97 : decode cX5_part 97 = .ok (.iload_n 1, 1) := by decide +kernel
theorem dX5_part_98 : decode cX5_part 98 = .ok (.iaload, 1) := by decide +kernel
theorem dX5_part_99 : decode cX5_part 99 = .ok (.iload_n 2, 1) := by decide +kernel
theorem dX5_part_100 : decode cX5_part 100 = .ok (.iload_n 3, 1) := by decide +kernel
theorem dX5_part_101 : decode cX5_part 101 = .ok (.invokestatic 149, 3) := by decide +kernel
theorem dX5_part_104 : decode cX5_part 104 = .ok (.iastore, 1) := by decide +kernel
theorem dX5_part_105 : decode cX5_part 105 = .ok (.aload_n 0, 1) := by decide +kernel
theorem dX5_part_106 : decode cX5_part 106 = .ok (.getfield 10, 3) := by decide +kernel
theorem dX5_part_109 : decode cX5_part 109 = .ok (.getfield 108, 3) := by decide +kernel
theorem dX5_part_112 : decode cX5_part 112 = .ok (.iload_n 2, 1) := by decide +kernel
theorem dX5_part_113 : decode cX5_part 113 = .ok (.aload_n 0, 1) := by decide +kernel
theorem dX5_part_114 : decode cX5_part 114 = .ok (.getfield 10, 3) := by decide +kernel
theorem dX5_part_117 : decode cX5_part 117 = .ok (.getfield 108, 3) := by decide +kernel
theorem dX5_part_120 : decode cX5_part 120 = .ok (.iload_n 2, 1) := by decide +kernel
theorem dX5_part_121 : decode cX5_part 121 = .ok (.iaload, 1) := by decide +kernel
theorem dX5_part_122 : decode cX5_part 122 = .ok (.iload_n 1, 1) := by decide +kernel
theorem dX5_part_123 : decode cX5_part 123 = .ok (.iload_n 3, 1) := by decide +kernel
theorem dX5_part_124 : decode cX5_part 124 = .ok (.invokestatic 149, 3) := by decide +kernel
theorem dX5_part_127 : decode cX5_part 127 = .ok (.iastore, 1) := by decide +kernel
theorem dX5_part_128 : decode cX5_part 128 = .ok (.iload 4, 2) := by decide +kernel
theorem dX5_part_130 : decode cX5_part 130 = .ok (.ireturn, 1) := by decide +kernel
theorem dX5_told_0 : decode cX5_told 0 = .ok (.iload_n 2, 1) := by decide +kernel
theorem dX5_told_1 : decode cX5_told 1 = .ok (.ifCond .lt 27, 3) := by decide +kernel
theorem dX5_told_4 : decode cX5_told 4 = .ok (.iload_n 2, 1) := by decide +kernel
theorem dX5_told_5 : decode cX5_told 5 = .ok (.bipush 7, 2) := by decide +kernel
theorem dX5_told_7 : decode cX5_told 7 = .ok (.if_icmp .gt 21, 3) := by decide +kernel
theorem dX5_told_10 : decode cX5_told 10 = .ok (.aload_n 0, 1) := by decide +kernel
theorem dX5_told_11 : decode cX5_told 11 = .ok (.getfield 10, 3) := by decide +kernel
theorem dX5_told_14 : decode cX5_told 14 = .ok (.iload_n 1, 1) := by decide +kernel
theorem dX5_told_15 : decode cX5_told 15 = .ok (.invokevirtual 95, 3) := by decide +kernel
theorem dX5_told_18 : decode cX5_told 18 = .ok (.ifCond .eq 10, 3) := by decide +kernel
theorem dX5_told_21 : decode cX5_told 21 = .ok (.aload_n 0, 1) := by decide +kernel
theorem dX5_told_22 : decode cX5_told 22 = .ok (.iload_n 1, 1) := by decide +kernel
theorem dX5_told_23 : decode cX5_told 23 = .ok (.iload_n 2, 1) := by decide +kernel
theorem dX5_told_24 : decode cX5_told 24 = .ok (.invokevirtual 153, 3) := by decide +kernel
theorem dX5_told_27 : decode cX5_told 27 = .ok (.ireturn, 1) := by decide +kernel
theorem dX5_told_28 : decode cX5_told 28 = .ok (.iload_n 2, 1) := by decide +kernel
theorem dX5_told_29 : decode cX5_told 29 = .ok (.bipush 8, 2) := by decide +kernel
theorem dX5_told_31 : decode cX5_told 31 = .ok (.if_icmp .lt 27, 3) := by decide +kernel
theorem dX5_told_34 : decode cX5_told 34 = .ok (.iload_n 2, 1) := by decide +kernel
theorem dX5_told_35 : decode cX5_told 35 = .ok (.bipush 11, 2) := by decide +kernel
theorem dX5_told_37 : decode cX5_told 37 = .ok (.if_icmp .gt 21, 3) := by decide +kernel
theorem dX5_told_40 : decode cX5_told 40 = .ok (.aload_n 0, 1) := by decide +kernel
theorem dX5_told_41 : decode cX5_told 41 = .ok (.getfield 10, 3) := by decide +kernel
theorem dX5_told_44 : decode cX5_told 44 = .ok (.iload_n 1, 1) := by decide +kernel
theorem dX5_told_45 : decode cX5_told 45 = .ok (.invokevirtual 134, 3) := by decide +kernel
theorem dX5_told_48 : decode cX5_told 48 = .ok (.ifCond .eq 10, 3) := by decide +kernel
theorem dX5_told_51 : decode cX5_told 51 = .ok (.aload_n 0, 1) := by decide +kernel
theorem dX5_told_52 : decode cX5_told 52 = .ok (.iload_n 1, 1) := by decide +kernel
theorem dX5_told_53 : decode cX5_told 53 = .ok (.iload_n 2, 1) := by decide +kernel
theorem dX5_told_54 : decode cX5_told 54 = .ok (.invokevirtual 156, 3) := by decide +kernel
theorem dX5_told_57 : decode cX5_told 57 = .ok (.ireturn, 1) := by decide +kernel
theorem dX5_told_58 : decode cX5_told 58 = .ok (.bipush (-100), 2) := by decide +kernel
theorem dX5_told_60 : decode cX5_told 60 = .ok (.ireturn, 1) := by decide +kernel
theorem dX5_toldOfHold_0 : decode cX5_toldOfHold 0 = .ok (.iload_n 2, 1) := by decide +kernel
theorem dX5_toldOfHold_1 : decode cX5_toldOfHold 1 = .ok (.tableswitch 119 0 6 #[43, 53, 63, 73, 87, 96, 110], 43) := by decide +kernel
theorem dX5_toldOfHold_44 : decode cX5_toldOfHold 44 = .ok (.aload_n 0, 1) := by decide +kernel
theorem dX5_toldOfHold_45 : decode cX5_toldOfHold 45 = .ok (.getfield 10, 3) := by decide +kernel
theorem dX5_toldOfHold_48 : decode cX5_toldOfHold 48 = .ok (.getfield 88, 3) := by decide +kernel
theorem dX5_toldOfHold_51 : decode cX5_toldOfHold 51 = .ok (.iload_n 1, 1) := by decide +kernel
theorem dX5_toldOfHold_52 : decode cX5_toldOfHold 52 = .ok (.iaload, 1) := by decide +kernel
theorem dX5_toldOfHold_53 : decode cX5_toldOfHold 53 = .ok (.ireturn, 1) := by decide +kernel
theorem dX5_toldOfHold_54 : decode cX5_toldOfHold 54 = .ok (.aload_n 0, 1) := by decide +kernel
theorem dX5_toldOfHold_55 : decode cX5_toldOfHold 55 = .ok (.getfield 10, 3) := by decide +kernel
theorem dX5_toldOfHold_58 : decode cX5_toldOfHold 58 = .ok (.getfield 140, 3) := by decide +kernel
theorem dX5_toldOfHold_61 : decode cX5_toldOfHold 61 = .ok (.iload_n 1, 1) := by decide +kernel
theorem dX5_toldOfHold_62 : decode cX5_toldOfHold 62 = .ok (.iaload, 1) := by decide +kernel
theorem dX5_toldOfHold_63 : decode cX5_toldOfHold 63 = .ok (.ireturn, 1) := by decide +kernel
theorem dX5_toldOfHold_64 : decode cX5_toldOfHold 64 = .ok (.aload_n 0, 1) := by decide +kernel
theorem dX5_toldOfHold_65 : decode cX5_toldOfHold 65 = .ok (.getfield 10, 3) := by decide +kernel
theorem dX5_toldOfHold_68 : decode cX5_toldOfHold 68 = .ok (.getfield 159, 3) := by decide +kernel
theorem dX5_toldOfHold_71 : decode cX5_toldOfHold 71 = .ok (.iload_n 1, 1) := by decide +kernel
theorem dX5_toldOfHold_72 : decode cX5_toldOfHold 72 = .ok (.iaload, 1) := by decide +kernel
theorem dX5_toldOfHold_73 : decode cX5_toldOfHold 73 = .ok (.ireturn, 1) := by decide +kernel
theorem dX5_toldOfHold_74 : decode cX5_toldOfHold 74 = .ok (.getstatic 162, 3) := by decide +kernel
theorem dX5_toldOfHold_77 : decode cX5_toldOfHold 77 = .ok (.aload_n 0, 1) := by decide +kernel
theorem dX5_toldOfHold_78 : decode cX5_toldOfHold 78 = .ok (.getfield 10, 3) := by decide +kernel
theorem dX5_toldOfHold_81 : decode cX5_toldOfHold 81 = .ok (.getfield 88, 3) := by decide +kernel
theorem dX5_toldOfHold_84 : decode cX5_toldOfHold 84 = .ok (.iload_n 1, 1) := by decide +kernel
theorem dX5_toldOfHold_85 : decode cX5_toldOfHold 85 = .ok (.iaload, 1) := by decide +kernel
theorem dX5_toldOfHold_86 : decode cX5_toldOfHold 86 = .ok (.iaload, 1) := by decide +kernel
theorem dX5_toldOfHold_87 : decode cX5_toldOfHold 87 = .ok (.ireturn, 1) := by decide +kernel
theorem dX5_toldOfHold_88 : decode cX5_toldOfHold 88 = .ok (.aload_n 0, 1) := by decide +kernel
theorem dX5_toldOfHold_89 : decode cX5_toldOfHold 89 = .ok (.getfield 10, 3) := by decide +kernel
theorem dX5_toldOfHold_92 : decode cX5_toldOfHold 92 = .ok (.iload_n 1, 1) := by decide +kernel
theorem dX5_toldOfHold_93 : decode cX5_toldOfHold 93 = .ok (.invokevirtual 146, 3) := by decide +kernel
theorem dX5_toldOfHold_96 : decode cX5_toldOfHold 96 = .ok (.ireturn, 1) := by decide +kernel
theorem dX5_toldOfHold_97 : decode cX5_toldOfHold 97 = .ok (.getstatic 165, 3) := by decide +kernel
theorem dX5_toldOfHold_100 : decode cX5_toldOfHold 100 = .ok (.aload_n 0, 1) := by decide +kernel
theorem dX5_toldOfHold_101 : decode cX5_toldOfHold 101 = .ok (.getfield 10, 3) := by decide +kernel
theorem dX5_toldOfHold_104 : decode cX5_toldOfHold 104 = .ok (.getfield 88, 3) := by decide +kernel
theorem dX5_toldOfHold_107 : decode cX5_toldOfHold 107 = .ok (.iload_n 1, 1) := by decide +kernel
theorem dX5_toldOfHold_108 : decode cX5_toldOfHold 108 = .ok (.iaload, 1) := by decide +kernel
theorem dX5_toldOfHold_109 : decode cX5_toldOfHold 109 = .ok (.iaload, 1) := by decide +kernel
theorem dX5_toldOfHold_110 : decode cX5_toldOfHold 110 = .ok (.ireturn, 1) := by decide +kernel
theorem dX5_toldOfHold_111 : decode cX5_toldOfHold 111 = .ok (.aload_n 0, 1) := by decide +kernel
theorem dX5_toldOfHold_112 : decode cX5_toldOfHold 112 = .ok (.getfield 10, 3) := by decide +kernel
theorem dX5_toldOfHold_115 : decode cX5_toldOfHold 115 = .ok (.iload_n 1, 1) := by decide +kernel
theorem dX5_toldOfHold_116 : decode cX5_toldOfHold 116 = .ok (.invokevirtual 168, 3) := by decide +kernel
theorem dX5_toldOfHold_119 : decode cX5_toldOfHold 119 = .ok (.ireturn, 1) := by decide +kernel
theorem dX5_toldOfHold_120 : decode cX5_toldOfHold 120 = .ok (.aload_n 0, 1) := by decide +kernel
theorem dX5_toldOfHold_121 : decode cX5_toldOfHold 121 = .ok (.getfield 10, 3) := by decide +kernel
theorem dX5_toldOfHold_124 : decode cX5_toldOfHold 124 = .ok (.iload_n 1, 1) := by decide +kernel
theorem dX5_toldOfHold_125 : decode cX5_toldOfHold 125 = .ok (.invokevirtual 143, 3) := by decide +kernel
theorem dX5_toldOfHold_128 : decode cX5_toldOfHold 128 = .ok (.ireturn, 1) := by decide +kernel
theorem dX5_toldOfThing_0 : decode cX5_toldOfThing 0 = .ok (.iload_n 2, 1) := by decide +kernel
theorem dX5_toldOfThing_1 : decode cX5_toldOfThing 1 = .ok (.tableswitch 57 8 10 #[27, 37, 47], 27) := by decide +kernel
theorem dX5_toldOfThing_28 : decode cX5_toldOfThing 28 = .ok (.aload_n 0, 1) := by decide +kernel
theorem dX5_toldOfThing_29 : decode cX5_toldOfThing 29 = .ok (.getfield 10, 3) := by decide +kernel
theorem dX5_toldOfThing_32 : decode cX5_toldOfThing 32 = .ok (.getfield 102, 3) := by decide +kernel
theorem dX5_toldOfThing_35 : decode cX5_toldOfThing 35 = .ok (.iload_n 1, 1) := by decide +kernel
theorem dX5_toldOfThing_36 : decode cX5_toldOfThing 36 = .ok (.iaload, 1) := by decide +kernel
theorem dX5_toldOfThing_37 : decode cX5_toldOfThing 37 = .ok (.ireturn, 1) := by decide +kernel
theorem dX5_toldOfThing_38 : decode cX5_toldOfThing 38 = .ok (.aload_n 0, 1) := by decide +kernel
theorem dX5_toldOfThing_39 : decode cX5_toldOfThing 39 = .ok (.getfield 10, 3) := by decide +kernel
theorem dX5_toldOfThing_42 : decode cX5_toldOfThing 42 = .ok (.getfield 105, 3) := by decide +kernel
theorem dX5_toldOfThing_45 : decode cX5_toldOfThing 45 = .ok (.iload_n 1, 1) := by decide +kernel
theorem dX5_toldOfThing_46 : decode cX5_toldOfThing 46 = .ok (.iaload, 1) := by decide +kernel
theorem dX5_toldOfThing_47 : decode cX5_toldOfThing 47 = .ok (.ireturn, 1) := by decide +kernel
theorem dX5_toldOfThing_48 : decode cX5_toldOfThing 48 = .ok (.aload_n 0, 1) := by decide +kernel
theorem dX5_toldOfThing_49 : decode cX5_toldOfThing 49 = .ok (.getfield 10, 3) := by decide +kernel
theorem dX5_toldOfThing_52 : decode cX5_toldOfThing 52 = .ok (.getfield 111, 3) := by decide +kernel
theorem dX5_toldOfThing_55 : decode cX5_toldOfThing 55 = .ok (.iload_n 1, 1) := by decide +kernel
theorem dX5_toldOfThing_56 : decode cX5_toldOfThing 56 = .ok (.iaload, 1) := by decide +kernel
theorem dX5_toldOfThing_57 : decode cX5_toldOfThing 57 = .ok (.ireturn, 1) := by decide +kernel
theorem dX5_toldOfThing_58 : decode cX5_toldOfThing 58 = .ok (.aload_n 0, 1) := by decide +kernel
theorem dX5_toldOfThing_59 : decode cX5_toldOfThing 59 = .ok (.getfield 10, 3) := by decide +kernel
theorem dX5_toldOfThing_62 : decode cX5_toldOfThing 62 = .ok (.getfield 108, 3) := by decide +kernel
theorem dX5_toldOfThing_65 : decode cX5_toldOfThing 65 = .ok (.iload_n 1, 1) := by decide +kernel
theorem dX5_toldOfThing_66 : decode cX5_toldOfThing 66 = .ok (.iaload, 1) := by decide +kernel
theorem dX5_toldOfThing_67 : decode cX5_toldOfThing 67 = .ok (.ireturn, 1) := by decide +kernel
theorem dX5_feed_0 : decode cX5_feed 0 = .ok (.iload_n 1, 1) := by decide +kernel
theorem dX5_feed_1 : decode cX5_feed 1 = .ok (.sipush 256, 3) := by decide +kernel
theorem dX5_feed_4 : decode cX5_feed 4 = .ok (.invokestatic 81, 3) := by decide +kernel
theorem dX5_feed_7 : decode cX5_feed 7 = .ok (.ifCond .ne 6, 3) := by decide +kernel
theorem dX5_feed_10 : decode cX5_feed 10 = .ok (.bipush (-2), 2) := by decide +kernel
theorem dX5_feed_12 : decode cX5_feed 12 = .ok (.ireturn, 1) := by decide +kernel
theorem dX5_feed_13 : decode cX5_feed 13 = .ok (.aload_n 0, 1) := by decide +kernel
theorem dX5_feed_14 : decode cX5_feed 14 = .ok (.getfield 32, 3) := by decide +kernel
theorem dX5_feed_17 : decode cX5_feed 17 = .ok (.getfield 171, 3) := by decide +kernel
theorem dX5_feed_20 : decode cX5_feed 20 = .ok (.sipush 160, 3) := by decide +kernel
theorem dX5_feed_23 : decode cX5_feed 23 = .ok (.if_icmp .lt 6, 3) := by decide +kernel
theorem dX5_feed_26 : decode cX5_feed 26 = .ok (.bipush (-4), 2) := by decide +kernel
theorem dX5_feed_28 : decode cX5_feed 28 = .ok (.ireturn, 1) := by decide +kernel
theorem dX5_feed_29 : decode cX5_feed 29 = .ok (.aload_n 0, 1) := by decide +kernel
theorem dX5_feed_30 : decode cX5_feed 30 = .ok (.getfield 32, 3) := by decide +kernel
theorem dX5_feed_33 : decode cX5_feed 33 = .ok (.iload_n 1, 1) := by decide +kernel
theorem dX5_feed_34 : decode cX5_feed 34 = .ok (.invokevirtual 66, 3) := by decide +kernel
theorem dX5_feed_37 : decode cX5_feed 37 = .ok (.aload_n 0, 1) := by decide +kernel
theorem dX5_feed_38 : decode cX5_feed 38 = .ok (.getfield 32, 3) := by decide +kernel
theorem dX5_feed_41 : decode cX5_feed 41 = .ok (.getfield 171, 3) := by decide +kernel
theorem dX5_feed_44 : decode cX5_feed 44 = .ok (.ireturn, 1) := by decide +kernel
theorem dX5_text_0 : decode cX5_text 0 = .ok (.aload_n 0, 1) := by decide +kernel
theorem dX5_text_1 : decode cX5_text 1 = .ok (.getfield 77, 3) := by decide +kernel
theorem dX5_text_4 : decode cX5_text 4 = .ok (.bipush 6, 2) := by decide +kernel
theorem dX5_text_6 : decode cX5_text 6 = .ok (.if_icmp .lt 6, 3) := by decide +kernel
theorem dX5_text_9 : decode cX5_text 9 = .ok (.bipush (-4), 2) := by decide +kernel
theorem dX5_text_11 : decode cX5_text 11 = .ok (.ireturn, 1) := by decide +kernel
theorem dX5_text_12 : decode cX5_text 12 = .ok (.aload_n 0, 1) := by decide +kernel
theorem dX5_text_13 : decode cX5_text 13 = .ok (.getfield 32, 3) := by decide +kernel
theorem dX5_text_16 : decode cX5_text 16 = .ok (.aload_n 0, 1) := by decide +kernel
theorem dX5_text_17 : decode cX5_text 17 = .ok (.getfield 38, 3) := by decide +kernel
theorem dX5_text_20 : decode cX5_text 20 = .ok (.aload_n 0, 1) := by decide +kernel
theorem dX5_text_21 : decode cX5_text 21 = .ok (.getfield 77, 3) := by decide +kernel
theorem dX5_text_24 : decode cX5_text 24 = .ok (.aaload, 1) := by decide +kernel
theorem dX5_text_25 : decode cX5_text 25 = .ok (.invokevirtual 70, 3) := by decide +kernel
theorem dX5_text_28 : decode cX5_text 28 = .ok (.istore_n 1, 1) := by decide +kernel
theorem dX5_text_29 : decode cX5_text 29 = .ok (.aload_n 0, 1) := by decide +kernel
theorem dX5_text_30 : decode cX5_text 30 = .ok (.getfield 32, 3) := by decide +kernel
theorem dX5_text_33 : decode cX5_text 33 = .ok (.invokevirtual 74, 3) := by decide +kernel
theorem dX5_text_36 : decode cX5_text 36 = .ok (.iload_n 1, 1) := by decide +kernel
theorem dX5_text_37 : decode cX5_text 37 = .ok (.iconst (-1), 1) := by decide +kernel
theorem dX5_text_38 : decode cX5_text 38 = .ok (.if_icmp .eq 8, 3) := by decide +kernel
theorem dX5_text_41 : decode cX5_text 41 = .ok (.bipush (-100), 2) := by decide +kernel
theorem dX5_text_43 : decode cX5_text 43 = .ok (.iload_n 1, 1) := by decide +kernel
theorem dX5_text_44 : decode cX5_text 44 = .ok (.isub, 1) := by decide +kernel
theorem dX5_text_45 : decode cX5_text 45 = .ok (.ireturn, 1) := by decide +kernel
theorem dX5_text_46 : decode cX5_text 46 = .ok (.aload_n 0, 1) := by decide +kernel
theorem dX5_text_47 : decode cX5_text 47 = .ok (.dup, 1) := by decide +kernel
theorem dX5_text_48 : decode cX5_text 48 = .ok (.getfield 77, 3) := by decide +kernel
theorem dX5_text_51 : decode cX5_text 51 = .ok (.dup_x1, 1) := by decide +kernel
theorem dX5_text_52 : decode cX5_text 52 = .ok (.iconst 1, 1) := by decide +kernel
theorem dX5_text_53 : decode cX5_text 53 = .ok (.iadd, 1) := by decide +kernel
theorem dX5_text_54 : decode cX5_text 54 = .ok (.putfield 77, 3) := by decide +kernel
theorem dX5_text_57 : decode cX5_text 57 = .ok (.ireturn, 1) := by decide +kernel
theorem dX5_force_0 : decode cX5_force 0 = .ok (.iload_n 1, 1) := by decide +kernel
theorem dX5_force_1 : decode cX5_force 1 = .ok (.aload_n 0, 1) := by decide +kernel
theorem dX5_force_2 : decode cX5_force 2 = .ok (.getfield 77, 3) := by decide +kernel
theorem dX5_force_5 : decode cX5_force 5 = .ok (.invokestatic 81, 3) := by decide +kernel
theorem dX5_force_8 : decode cX5_force 8 = .ok (.ifCond .ne 6, 3) := by decide +kernel
theorem dX5_force_11 : decode cX5_force 11 = .ok (.bipush (-2), 2) := by decide +kernel
theorem dX5_force_13 : decode cX5_force 13 = .ok (.ireturn, 1) := by decide +kernel
theorem dX5_force_14 : decode cX5_force 14 = .ok (.aload_n 0, 1) := by decide +kernel
theorem dX5_force_15 : decode cX5_force 15 = .ok (.getfield 10, 3) := by decide +kernel
theorem dX5_force_18 : decode cX5_force 18 = .ok (.getfield 173, 3) := by decide +kernel
theorem dX5_force_21 : decode cX5_force 21 = .ok (.istore_n 2, 1) := by decide +kernel
theorem dX5_force_22 : decode cX5_force 22 = .ok (.aload_n 0, 1) := by decide +kernel
theorem dX5_force_23 : decode cX5_force 23 = .ok (.getfield 10, 3) := by decide +kernel
theorem dX5_force_26 : decode cX5_force 26 = .ok (.iload_n 1, 1) := by decide +kernel
theorem dX5_force_27 : decode cX5_force 27 = .ok (.putfield 173, 3) := by decide +kernel
theorem dX5_force_30 : decode cX5_force 30 = .ok (.iload_n 2, 1) := by decide +kernel
theorem dX5_force_31 : decode cX5_force 31 = .ok (.ireturn, 1) := by decide +kernel
theorem dX5_move_0 : decode cX5_move 0 = .ok (.aload_n 0, 1) := by decide +kernel
theorem dX5_move_1 : decode cX5_move 1 = .ok (.getfield 10, 3) := by decide +kernel
theorem dX5_move_4 : decode cX5_move 4 = .ok (.iload_n 1, 1) := by decide +kernel
theorem dX5_move_5 : decode cX5_move 5 = .ok (.invokevirtual 134, 3) := by decide +kernel
theorem dX5_move_8 : decode cX5_move 8 = .ok (.ifCond .eq 14, 3) := by decide +kernel
theorem dX5_move_11 : decode cX5_move 11 = .ok (.aload_n 0, 1) := by decide +kernel
theorem dX5_move_12 : decode cX5_move 12 = .ok (.getfield 10, 3) := by decide +kernel
theorem dX5_move_15 : decode cX5_move 15 = .ok (.iload_n 2, 1) := by decide +kernel
theorem dX5_move_16 : decode cX5_move 16 = .ok (.invokevirtual 95, 3) := by decide +kernel
theorem dX5_move_19 : decode cX5_move 19 = .ok (.ifCond .ne 6, 3) := by decide +kernel
theorem dX5_move_22 : decode cX5_move 22 = .ok (.bipush (-2), 2) := by decide +kernel
theorem dX5_move_24 : decode cX5_move 24 = .ok (.ireturn, 1) := by decide +kernel
theorem dX5_move_25 : decode cX5_move 25 = .ok (.aload_n 0, 1) := by decide +kernel
theorem dX5_move_26 : decode cX5_move 26 = .ok (.getfield 10, 3) := by decide +kernel
theorem dX5_move_29 : decode cX5_move 29 = .ok (.iload_n 1, 1) := by decide +kernel
theorem dX5_move_30 : decode cX5_move 30 = .ok (.iload_n 2, 1) := by decide +kernel
theorem dX5_move_31 : decode cX5_move 31 = .ok (.invokevirtual 114, 3) := by decide +kernel
theorem dX5_move_34 : decode cX5_move 34 = .ok (.ifCond .eq 6, 3) := by decide +kernel
theorem dX5_move_37 : decode cX5_move 37 = .ok (.bipush (-3), 2) := by decide +kernel
theorem dX5_move_39 : decode cX5_move 39 = .ok (.ireturn, 1) := by decide +kernel
theorem dX5_move_40 : decode cX5_move 40 = .ok (.aload_n 0, 1) := by decide +kernel
theorem dX5_move_41 : decode cX5_move 41 = .ok (.iload_n 1, 1) := by decide +kernel
theorem dX5_move_42 : decode cX5_move 42 = .ok (.aload_n 0, 1) := by decide +kernel
theorem dX5_move_43 : decode cX5_move 43 = .ok (.getfield 10, 3) := by decide +kernel
theorem dX5_move_46 : decode cX5_move 46 = .ok (.getfield 111, 3) := by decide +kernel
theorem dX5_move_49 : decode cX5_move 49 = .ok (.iload_n 1, 1) := by decide +kernel
theorem dX5_move_50 : decode cX5_move 50 = .ok (.iaload, 1) := by decide +kernel
theorem dX5_move_51 : decode cX5_move 51 = .ok (.iload_n 2, 1) := by decide +kernel
theorem dX5_move_52 : decode cX5_move 52 = .ok (.invokevirtual 176, 3) := by decide +kernel
theorem dX5_move_55 : decode cX5_move 55 = .ok (.istore_n 3, 1) := by decide +kernel
theorem dX5_move_56 : decode cX5_move 56 = .ok (.aload_n 0, 1) := by decide +kernel
theorem dX5_move_57 : decode cX5_move 57 = .ok (.getfield 10, 3) := by decide +kernel
theorem dX5_move_60 : decode cX5_move 60 = .ok (.getfield 111, 3) := by decide +kernel
theorem dX5_move_63 : decode cX5_move 63 = .ok (.iload_n 1, 1) := by decide +kernel
theorem dX5_move_64 : decode cX5_move 64 = .ok (.iload_n 2, 1) := by decide +kernel
theorem dX5_move_65 : decode cX5_move 65 = .ok (.iastore, 1) := by decide +kernel
theorem dX5_move_66 : decode cX5_move 66 = .ok (.iload_n 3, 1) := by decide +kernel
theorem dX5_move_67 : decode cX5_move 67 = .ok (.ireturn, 1) := by decide +kernel
theorem dX5_why_0 : decode cX5_why 0 = .ok (.aload_n 0, 1) := by decide +kernel
theorem dX5_why_1 : decode cX5_why 1 = .ok (.getfield 10, 3) := by decide +kernel
theorem dX5_why_4 : decode cX5_why 4 = .ok (.iload_n 1, 1) := by decide +kernel
theorem dX5_why_5 : decode cX5_why 5 = .ok (.invokevirtual 134, 3) := by decide +kernel
theorem dX5_why_8 : decode cX5_why 8 = .ok (.ifCond .eq 14, 3) := by decide +kernel
theorem dX5_why_11 : decode cX5_why 11 = .ok (.aload_n 0, 1) := by decide +kernel
theorem dX5_why_12 : decode cX5_why 12 = .ok (.getfield 10, 3) := by decide +kernel
theorem dX5_why_15 : decode cX5_why 15 = .ok (.iload_n 2, 1) := by decide +kernel
theorem dX5_why_16 : decode cX5_why 16 = .ok (.invokevirtual 95, 3) := by decide +kernel
theorem dX5_why_19 : decode cX5_why 19 = .ok (.ifCond .ne 6, 3) := by decide +kernel
theorem dX5_why_22 : decode cX5_why 22 = .ok (.bipush (-2), 2) := by decide +kernel
theorem dX5_why_24 : decode cX5_why 24 = .ok (.ireturn, 1) := by decide +kernel
theorem dX5_why_25 : decode cX5_why 25 = .ok (.aload_n 0, 1) := by decide +kernel
theorem dX5_why_26 : decode cX5_why 26 = .ok (.getfield 10, 3) := by decide +kernel
theorem dX5_why_29 : decode cX5_why 29 = .ok (.iload_n 1, 1) := by decide +kernel
theorem dX5_why_30 : decode cX5_why 30 = .ok (.iload_n 2, 1) := by decide +kernel
theorem dX5_why_31 : decode cX5_why 31 = .ok (.invokevirtual 114, 3) := by decide +kernel
theorem dX5_why_34 : decode cX5_why 34 = .ok (.ireturn, 1) := by decide +kernel
theorem dX5_open_0 : decode cX5_open 0 = .ok (.iload_n 1, 1) := by decide +kernel
theorem dX5_open_1 : decode cX5_open 1 = .ok (.tableswitch 59 0 2 #[27, 43, 51], 27) := by decide +kernel
theorem dX5_open_28 : decode cX5_open 28 = .ok (.aload_n 0, 1) := by decide +kernel
theorem dX5_open_29 : decode cX5_open 29 = .ok (.getfield 10, 3) := by decide +kernel
theorem dX5_open_32 : decode cX5_open 32 = .ok (.invokevirtual 179, 3) := by decide +kernel
theorem dX5_open_35 : decode cX5_open 35 = .ok (.ifCond .eq 7, 3) := by decide +kernel
theorem dX5_open_38 : decode cX5_open 38 = .ok (.iconst 1, 1) := by decide +kernel
theorem dX5_open_39 : decode cX5_open 39 = .ok (.goto 4, 3) := by decide +kernel
theorem dX5_open_42 : decode cX5_open 42 = .ok (.iconst 0, 1) := by decide +kernel
theorem dX5_open_43 : decode cX5_open 43 = .ok (.ireturn, 1) := by decide +kernel
theorem dX5_open_44 : decode cX5_open 44 = .ok (.aload_n 0, 1) := by decide +kernel
theorem dX5_open_45 : decode cX5_open 45 = .ok (.getfield 10, 3) := by decide +kernel
theorem dX5_open_48 : decode cX5_open 48 = .ok (.invokevirtual 183, 3) := by decide +kernel
theorem dX5_open_51 : decode cX5_open 51 = .ok (.ireturn, 1) := by decide +kernel
theorem dX5_open_52 : decode cX5_open 52 = .ok (.aload_n 0, 1) := by decide +kernel
theorem dX5_open_53 : decode cX5_open 53 = .ok (.getfield 10, 3) := by decide +kernel
theorem dX5_open_56 : decode cX5_open 56 = .ok (.invokevirtual 186, 3) := by decide +kernel
theorem dX5_open_59 : decode cX5_open 59 = .ok (.ireturn, 1) := by decide +kernel
theorem dX5_open_60 : decode cX5_open 60 = .ok (.bipush (-2), 2) := by decide +kernel
theorem dX5_open_62 : decode cX5_open 62 = .ok (.ireturn, 1) := by decide +kernel
theorem dX5_asks_0 : decode cX5_asks 0 = .ok (.iload_n 1, 1) := by decide +kernel
theorem dX5_asks_1 : decode cX5_asks 1 = .ok (.ifCond .ne 41, 3) := by decide +kernel
theorem dX5_asks_4 : decode cX5_asks 4 = .ok (.aload_n 0, 1) := by decide +kernel
theorem dX5_asks_5 : decode cX5_asks 5 = .ok (.getfield 10, 3) := by decide +kernel
theorem dX5_asks_8 : decode cX5_asks 8 = .ok (.iload_n 2, 1) := by decide +kernel
theorem dX5_asks_9 : decode cX5_asks 9 = .ok (.invokevirtual 134, 3) := by decide +kernel
theorem dX5_asks_12 : decode cX5_asks 12 = .ok (.ifCond .eq 30, 3) := by decide +kernel
theorem dX5_asks_15 : decode cX5_asks 15 = .ok (.aload_n 0, 1) := by decide +kernel
theorem dX5_asks_16 : decode cX5_asks 16 = .ok (.getfield 10, 3) := by decide +kernel
theorem dX5_asks_19 : decode cX5_asks 19 = .ok (.iload_n 3, 1) := by decide +kernel
theorem dX5_asks_20 : decode cX5_asks 20 = .ok (.invokevirtual 95, 3) := by decide +kernel
theorem dX5_asks_23 : decode cX5_asks 23 = .ok (.ifCond .eq 19, 3) := by decide +kernel
theorem dX5_asks_26 : decode cX5_asks 26 = .ok (.aload_n 0, 1) := by decide +kernel
theorem dX5_asks_27 : decode cX5_asks 27 = .ok (.iload_n 2, 1) := by decide +kernel
theorem dX5_asks_28 : decode cX5_asks 28 = .ok (.aload_n 0, 1) := by decide +kernel
theorem dX5_asks_29 : decode cX5_asks 29 = .ok (.getfield 10, 3) := by decide +kernel
theorem dX5_asks_32 : decode cX5_asks 32 = .ok (.getfield 111, 3) := by decide +kernel
theorem dX5_asks_35 : decode cX5_asks 35 = .ok (.iload_n 2, 1) := by decide +kernel
theorem dX5_asks_36 : decode cX5_asks 36 = .ok (.iaload, 1) := by decide +kernel
theorem dX5_asks_37 : decode cX5_asks 37 = .ok (.iload_n 3, 1) := by decide +kernel
theorem dX5_asks_38 : decode cX5_asks 38 = .ok (.invokevirtual 176, 3) := by decide +kernel
theorem dX5_asks_41 : decode cX5_asks 41 = .ok (.ireturn, 1) := by decide +kernel
theorem dX5_asks_42 : decode cX5_asks 42 = .ok (.iload_n 1, 1) := by decide +kernel
theorem dX5_asks_43 : decode cX5_asks 43 = .ok (.iconst 1, 1) := by decide +kernel
theorem dX5_asks_44 : decode cX5_asks 44 = .ok (.if_icmp .ne 8, 3) := by decide +kernel
theorem dX5_asks_47 : decode cX5_asks 47 = .ok (.aload_n 0, 1) := by decide +kernel
theorem dX5_asks_48 : decode cX5_asks 48 = .ok (.invokevirtual 189, 3) := by decide +kernel
theorem dX5_asks_51 : decode cX5_asks 51 = .ok (.ireturn, 1) := by decide +kernel
theorem dX5_asks_52 : decode cX5_asks 52 = .ok (.iload_n 1, 1) := by decide +kernel
theorem dX5_asks_53 : decode cX5_asks 53 = .ok (.iconst 2, 1) := by decide +kernel
theorem dX5_asks_54 : decode cX5_asks 54 = .ok (.if_icmp .ne 20, 3) := by decide +kernel
theorem dX5_asks_57 : decode cX5_asks 57 = .ok (.aload_n 0, 1) := by decide +kernel
theorem dX5_asks_58 : decode cX5_asks 58 = .ok (.getfield 10, 3) := by decide +kernel
theorem dX5_asks_61 : decode cX5_asks 61 = .ok (.iload_n 2, 1) := by decide +kernel
theorem dX5_asks_62 : decode cX5_asks 62 = .ok (.invokevirtual 134, 3) := by decide +kernel
theorem dX5_asks_65 : decode cX5_asks 65 = .ok (.ifCond .eq 9, 3) := by decide +kernel
theorem dX5_asks_68 : decode cX5_asks 68 = .ok (.aload_n 0, 1) := by decide +kernel
theorem dX5_asks_69 : decode cX5_asks 69 = .ok (.iload_n 2, 1) := by decide +kernel
theorem dX5_asks_70 : decode cX5_asks 70 = .ok (.invokevirtual 192, 3) := by decide +kernel
theorem dX5_asks_73 : decode cX5_asks 73 = .ok (.ireturn, 1) := by decide +kernel
theorem dX5_asks_74 : decode cX5_asks 74 = .ok (.iconst (-1), 1) := by decide +kernel
theorem dX5_asks_75 : decode cX5_asks 75 = .ok (.ireturn, 1) := by decide +kernel
theorem dX5_costs_0 : decode cX5_costs 0 = .ok (.aload_n 0, 1) := by decide +kernel
theorem dX5_costs_1 : decode cX5_costs 1 = .ok (.aload_n 0, 1) := by decide +kernel
theorem dX5_costs_2 : decode cX5_costs 2 = .ok (.getfield 10, 3) := by decide +kernel
theorem dX5_costs_5 : decode cX5_costs 5 = .ok (.getfield 102, 3) := by decide +kernel
theorem dX5_costs_8 : decode cX5_costs 8 = .ok (.iload_n 1, 1) := by decide +kernel
theorem dX5_costs_9 : decode cX5_costs 9 = .ok (.iaload, 1) := by decide +kernel
theorem dX5_costs_10 : decode cX5_costs 10 = .ok (.iload_n 2, 1) := by decide +kernel
theorem dX5_costs_11 : decode cX5_costs 11 = .ok (.iload_n 3, 1) := by decide +kernel
theorem dX5_costs_12 : decode cX5_costs 12 = .ok (.iload_n 1, 1) := by decide +kernel
theorem dX5_costs_13 : decode cX5_costs 13 = .ok (.aload_n 0, 1) := by decide +kernel
theorem dX5_costs_14 : decode cX5_costs 14 = .ok (.getfield 10, 3) := by decide +kernel
theorem dX5_costs_17 : decode cX5_costs 17 = .ok (.iload_n 3, 1) := by decide +kernel
theorem dX5_costs_18 : decode cX5_costs 18 = .ok (.invokevirtual 146, 3) := by decide +kernel
theorem dX5_costs_21 : decode cX5_costs 21 = .ok (.invokevirtual 195, 3) := by decide +kernel
theorem dX5_costs_24 : decode cX5_costs 24 = .ok (.aload_n 0, 1) := by decide +kernel
theorem dX5_costs_25 : decode cX5_costs 25 = .ok (.getfield 38, 3) := by decide +kernel
theorem dX5_costs_28 : decode cX5_costs 28 = .ok (.aload_n 0, 1) := by decide +kernel
theorem dX5_costs_29 : decode cX5_costs 29 = .ok (.getfield 10, 3) := by decide +kernel
theorem dX5_costs_32 : decode cX5_costs 32 = .ok (.getfield 173, 3) := by decide +kernel
theorem dX5_costs_35 : decode cX5_costs 35 = .ok (.aaload, 1) := by decide +kernel
theorem dX5_costs_36 : decode cX5_costs 36 = .ok (.iconst 0, 1) := by decide +kernel
theorem dX5_costs_37 : decode cX5_costs 37 = .ok (.aload_n 0, 1) := by decide +kernel
theorem dX5_costs_38 : decode cX5_costs 38 = .ok (.getfield 48, 3) := by decide +kernel
theorem dX5_costs_41 : decode cX5_costs 41 = .ok (.invokevirtual 199, 3) := by decide +kernel
theorem dX5_costs_44 : decode cX5_costs 44 = .ok (.bipush 99, 2) := by decide +kernel
theorem dX5_costs_46 : decode cX5_costs 46 = .ok (.invokestatic 203, 3) := by decide +kernel
theorem dX5_costs_49 : decode cX5_costs 49 = .ok (.ireturn, 1) := by decide +kernel
theorem dX5_bell_0 : decode cX5_bell 0 = .ok (.aload_n 0, 1) := by decide +kernel
theorem dX5_bell_1 : decode cX5_bell 1 = .ok (.iconst 0, 1) := by decide +kernel
theorem dX5_bell_2 : decode cX5_bell 2 = .ok (.iconst 0, 1) := by decide +kernel
theorem dX5_bell_3 : decode cX5_bell 3 = .ok (.iconst 0, 1) := by decide +kernel
theorem dX5_bell_4 : decode cX5_bell 4 = .ok (.iconst 0, 1) := by decide +kernel
theorem dX5_bell_5 : decode cX5_bell 5 = .ok (.iconst 0, 1) := by decide +kernel
theorem dX5_bell_6 : decode cX5_bell 6 = .ok (.invokevirtual 195, 3) := by decide +kernel
theorem dX5_bell_9 : decode cX5_bell 9 = .ok (.aload_n 0, 1) := by decide +kernel
theorem dX5_bell_10 : decode cX5_bell 10 = .ok (.getfield 38, 3) := by decide +kernel
theorem dX5_bell_13 : decode cX5_bell 13 = .ok (.aload_n 0, 1) := by decide +kernel
theorem dX5_bell_14 : decode cX5_bell 14 = .ok (.getfield 10, 3) := by decide +kernel
theorem dX5_bell_17 : decode cX5_bell 17 = .ok (.getfield 173, 3) := by decide +kernel
theorem dX5_bell_20 : decode cX5_bell 20 = .ok (.aaload, 1) := by decide +kernel
theorem dX5_bell_21 : decode cX5_bell 21 = .ok (.iconst 1, 1) := by decide +kernel
theorem dX5_bell_22 : decode cX5_bell 22 = .ok (.aload_n 0, 1) := by decide +kernel
theorem dX5_bell_23 : decode cX5_bell 23 = .ok (.getfield 48, 3) := by decide +kernel
theorem dX5_bell_26 : decode cX5_bell 26 = .ok (.invokevirtual 199, 3) := by decide +kernel
theorem dX5_bell_29 : decode cX5_bell 29 = .ok (.sipush 9999, 3) := by decide +kernel
theorem dX5_bell_32 : decode cX5_bell 32 = .ok (.invokestatic 203, 3) := by decide +kernel
theorem dX5_bell_35 : decode cX5_bell 35 = .ok (.ireturn, 1) := by decide +kernel
theorem dX5_worth_0 : decode cX5_worth 0 = .ok (.aload_n 0, 1) := by decide +kernel
theorem dX5_worth_1 : decode cX5_worth 1 = .ok (.aload_n 0, 1) := by decide +kernel
theorem dX5_worth_2 : decode cX5_worth 2 = .ok (.getfield 10, 3) := by decide +kernel
theorem dX5_worth_5 : decode cX5_worth 5 = .ok (.getfield 102, 3) := by decide +kernel
theorem dX5_worth_8 : decode cX5_worth 8 = .ok (.iload_n 1, 1) := by decide +kernel
theorem dX5_worth_9 : decode cX5_worth 9 = .ok (.iaload, 1) := by decide +kernel
theorem dX5_worth_10 : decode cX5_worth 10 = .ok (.aload_n 0, 1) := by decide +kernel
theorem dX5_worth_11 : decode cX5_worth 11 = .ok (.getfield 10, 3) := by decide +kernel
theorem dX5_worth_14 : decode cX5_worth 14 = .ok (.getfield 111, 3) := by decide +kernel
theorem dX5_worth_17 : decode cX5_worth 17 = .ok (.iload_n 1, 1) := by decide +kernel
theorem dX5_worth_18 : decode cX5_worth 18 = .ok (.iaload, 1) := by decide +kernel
theorem dX5_worth_19 : decode cX5_worth 19 = .ok (.iconst 0, 1) := by decide +kernel
theorem dX5_worth_20 : decode cX5_worth 20 = .ok (.iload_n 1, 1) := by decide +kernel
theorem dX5_worth_21 : decode cX5_worth 21 = .ok (.iconst 0, 1) := by decide +kernel
theorem dX5_worth_22 : decode cX5_worth 22 = .ok (.invokevirtual 195, 3) := by decide +kernel
theorem dX5_worth_25 : decode cX5_worth 25 = .ok (.aload_n 0, 1) := by decide +kernel
theorem dX5_worth_26 : decode cX5_worth 26 = .ok (.getfield 38, 3) := by decide +kernel
theorem dX5_worth_29 : decode cX5_worth 29 = .ok (.aload_n 0, 1) := by decide +kernel
theorem dX5_worth_30 : decode cX5_worth 30 = .ok (.getfield 10, 3) := by decide +kernel
theorem dX5_worth_33 : decode cX5_worth 33 = .ok (.getfield 173, 3) := by decide +kernel
theorem dX5_worth_36 : decode cX5_worth 36 = .ok (.aaload, 1) := by decide +kernel
theorem dX5_worth_37 : decode cX5_worth 37 = .ok (.iconst 2, 1) := by decide +kernel
theorem dX5_worth_38 : decode cX5_worth 38 = .ok (.aload_n 0, 1) := by decide +kernel
theorem dX5_worth_39 : decode cX5_worth 39 = .ok (.getfield 48, 3) := by decide +kernel
theorem dX5_worth_42 : decode cX5_worth 42 = .ok (.invokevirtual 199, 3) := by decide +kernel
theorem dX5_worth_45 : decode cX5_worth 45 = .ok (.sipush 999, 3) := by decide +kernel
theorem dX5_worth_48 : decode cX5_worth 48 = .ok (.invokestatic 203, 3) := by decide +kernel
theorem dX5_worth_51 : decode cX5_worth 51 = .ok (.ireturn, 1) := by decide +kernel
theorem dX5_name_0 : decode cX5_name 0 = .ok (.aload_n 0, 1) := by decide +kernel
theorem dX5_name_1 : decode cX5_name 1 = .ok (.getfield 48, 3) := by decide +kernel
theorem dX5_name_4 : decode cX5_name 4 = .ok (.iconst 0, 1) := by decide +kernel
theorem dX5_name_5 : decode cX5_name 5 = .ok (.iload_n 1, 1) := by decide +kernel
theorem dX5_name_6 : decode cX5_name 6 = .ok (.iastore, 1) := by decide +kernel
theorem dX5_name_7 : decode cX5_name 7 = .ok (.aload_n 0, 1) := by decide +kernel
theorem dX5_name_8 : decode cX5_name 8 = .ok (.getfield 48, 3) := by decide +kernel
theorem dX5_name_11 : decode cX5_name 11 = .ok (.iconst 1, 1) := by decide +kernel
theorem dX5_name_12 : decode cX5_name 12 = .ok (.iload_n 2, 1) := by decide +kernel
theorem dX5_name_13 : decode cX5_name 13 = .ok (.iastore, 1) := by decide +kernel
theorem dX5_name_14 : decode cX5_name 14 = .ok (.aload_n 0, 1) := by decide +kernel
theorem dX5_name_15 : decode cX5_name 15 = .ok (.getfield 48, 3) := by decide +kernel
theorem dX5_name_18 : decode cX5_name 18 = .ok (.iconst 2, 1) := by decide +kernel
theorem dX5_name_19 : decode cX5_name 19 = .ok (.iload_n 3, 1) := by decide +kernel
theorem dX5_name_20 : decode cX5_name 20 = .ok (.iastore, 1) := by decide +kernel
theorem dX5_name_21 : decode cX5_name 21 = .ok (.aload_n 0, 1) := by decide +kernel
theorem dX5_name_22 : decode cX5_name 22 = .ok (.getfield 48, 3) := by decide +kernel
theorem dX5_name_25 : decode cX5_name 25 = .ok (.iconst 3, 1) := by decide +kernel
theorem dX5_name_26 : decode cX5_name 26 = .ok (.iload 4, 2) := by decide +kernel
theorem dX5_name_28 : decode cX5_name 28 = .ok (.iastore, 1) := by decide +kernel
theorem dX5_name_29 : decode cX5_name 29 = .ok (.aload_n 0, 1) := by decide +kernel
theorem dX5_name_30 : decode cX5_name 30 = .ok (.getfield 48, 3) := by decide +kernel
theorem dX5_name_33 : decode cX5_name 33 = .ok (.iconst 4, 1) := by decide +kernel
theorem dX5_name_34 : decode cX5_name 34 = .ok (.aload_n 0, 1) := by decide +kernel
theorem dX5_name_35 : decode cX5_name 35 = .ok (.getfield 10, 3) := by decide +kernel
theorem dX5_name_38 : decode cX5_name 38 = .ok (.getfield 99, 3) := by decide +kernel
theorem dX5_name_41 : decode cX5_name 41 = .ok (.iastore, 1) := by decide +kernel
theorem dX5_name_42 : decode cX5_name 42 = .ok (.aload_n 0, 1) := by decide +kernel
theorem dX5_name_43 : decode cX5_name 43 = .ok (.getfield 48, 3) := by decide +kernel
theorem dX5_name_46 : decode cX5_name 46 = .ok (.iconst 5, 1) := by decide +kernel
theorem dX5_name_47 : decode cX5_name 47 = .ok (.iload 5, 2) := by decide +kernel
theorem dX5_name_49 : decode cX5_name 49 = .ok (.iastore, 1) := by decide +kernel
theorem dX5_name_50 : decode cX5_name 50 = .ok (.return_, 1) := by decide +kernel
theorem dX5_best_0 : decode cX5_best 0 = .ok (.iload_n 1, 1) := by decide +kernel
theorem dX5_best_1 : decode cX5_best 1 = .ok (.tableswitch 117 0 5 #[39, 45, 59, 70, 89, 103], 39) := by decide +kernel
theorem dX5_best_40 : decode cX5_best 40 = .ok (.aload_n 0, 1) := by decide +kernel
theorem dX5_best_41 : decode cX5_best 41 = .ok (.iconst 0, 1) := by decide +kernel
theorem dX5_best_42 : decode cX5_best 42 = .ok (.invokevirtual 206, 3) := by decide +kernel
theorem dX5_best_45 : decode cX5_best 45 = .ok (.ireturn, 1) := by decide +kernel
theorem dX5_best_46 : decode cX5_best 46 = .ok (.aload_n 0, 1) := by decide +kernel
theorem dX5_best_47 : decode cX5_best 47 = .ok (.iconst 0, 1) := by decide +kernel
theorem dX5_best_48 : decode cX5_best 48 = .ok (.invokevirtual 206, 3) := by decide +kernel
theorem dX5_best_51 : decode cX5_best 51 = .ok (.pop, 1) := by decide +kernel
theorem dX5_best_52 : decode cX5_best 52 = .ok (.aload_n 0, 1) := by decide +kernel
theorem dX5_best_53 : decode cX5_best 53 = .ok (.getfield 25, 3) := by decide +kernel
theorem dX5_best_56 : decode cX5_best 56 = .ok (.invokevirtual 210, 3) := by decide +kernel
theorem dX5_best_59 : decode cX5_best 59 = .ok (.ireturn, 1) := by decide +kernel
theorem dX5_best_60 : decode cX5_best 60 = .ok (.aload_n 0, 1) := by decide +kernel
theorem dX5_best_61 : decode cX5_best 61 = .ok (.invokevirtual 213, 3) := by decide +kernel
theorem dX5_best_64 : decode cX5_best 64 = .ok (.aload_n 0, 1) := by decide +kernel
theorem dX5_best_65 : decode cX5_best 65 = .ok (.iconst (-1), 1) := by decide +kernel
theorem dX5_best_66 : decode cX5_best 66 = .ok (.iconst (-1), 1) := by decide +kernel
theorem dX5_best_67 : decode cX5_best 67 = .ok (.invokevirtual 216, 3) := by decide +kernel
theorem dX5_best_70 : decode cX5_best 70 = .ok (.ireturn, 1) := by decide +kernel
theorem dX5_best_71 : decode cX5_best 71 = .ok (.aload_n 0, 1) := by decide +kernel
theorem dX5_best_72 : decode cX5_best 72 = .ok (.invokevirtual 213, 3) := by decide +kernel
theorem dX5_best_75 : decode cX5_best 75 = .ok (.aload_n 0, 1) := by decide +kernel
theorem dX5_best_76 : decode cX5_best 76 = .ok (.iconst (-1), 1) := by decide +kernel
theorem dX5_best_77 : decode cX5_best 77 = .ok (.iconst (-1), 1) := by decide +kernel
theorem dX5_best_78 : decode cX5_best 78 = .ok (.invokevirtual 216, 3) := by decide +kernel
theorem dX5_best_81 : decode cX5_best 81 = .ok (.pop, 1) := by decide +kernel
theorem dX5_best_82 : decode cX5_best 82 = .ok (.aload_n 0, 1) := by decide +kernel
theorem dX5_best_83 : decode cX5_best 83 = .ok (.getfield 25, 3) := by decide +kernel
theorem dX5_best_86 : decode cX5_best 86 = .ok (.invokevirtual 210, 3) := by decide +kernel
theorem dX5_best_89 : decode cX5_best 89 = .ok (.ireturn, 1) := by decide +kernel
theorem dX5_best_90 : decode cX5_best 90 = .ok (.aload_n 0, 1) := by decide +kernel
theorem dX5_best_91 : decode cX5_best 91 = .ok (.iconst (-1), 1) := by decide +kernel
theorem dX5_best_92 : decode cX5_best 92 = .ok (.iconst (-1), 1) := by decide +kernel
theorem dX5_best_93 : decode cX5_best 93 = .ok (.invokevirtual 219, 3) := by decide +kernel
theorem dX5_best_96 : decode cX5_best 96 = .ok (.aload_n 0, 1) := by decide +kernel
theorem dX5_best_97 : decode cX5_best 97 = .ok (.getfield 25, 3) := by decide +kernel
theorem dX5_best_100 : decode cX5_best 100 = .ok (.invokevirtual 222, 3) := by decide +kernel
theorem dX5_best_103 : decode cX5_best 103 = .ok (.ireturn, 1) := by decide +kernel
theorem dX5_best_104 : decode cX5_best 104 = .ok (.aload_n 0, 1) := by decide +kernel
theorem dX5_best_105 : decode cX5_best 105 = .ok (.iconst 1, 1) := by decide +kernel
theorem dX5_best_106 : decode cX5_best 106 = .ok (.invokevirtual 206, 3) := by decide +kernel
theorem dX5_best_109 : decode cX5_best 109 = .ok (.pop, 1) := by decide +kernel
theorem dX5_best_110 : decode cX5_best 110 = .ok (.aload_n 0, 1) := by decide +kernel
theorem dX5_best_111 : decode cX5_best 111 = .ok (.getfield 25, 3) := by decide +kernel
theorem dX5_best_114 : decode cX5_best 114 = .ok (.invokevirtual 225, 3) := by decide +kernel
theorem dX5_best_117 : decode cX5_best 117 = .ok (.ireturn, 1) := by decide +kernel
theorem dX5_best_118 : decode cX5_best 118 = .ok (.bipush (-100), 2) := by decide +kernel
theorem dX5_best_120 : decode cX5_best 120 = .ok (.ireturn, 1) := by decide +kernel
theorem dX5_pack_0 : decode cX5_pack 0 = .ok (.aload_n 0, 1) := by decide +kernel
theorem dX5_pack_1 : decode cX5_pack 1 = .ok (.getfield 10, 3) := by decide +kernel
theorem dX5_pack_4 : decode cX5_pack 4 = .ok (.iload_n 1, 1) := by decide +kernel
theorem dX5_pack_5 : decode cX5_pack 5 = .ok (.invokevirtual 134, 3) := by decide +kernel
theorem dX5_pack_8 : decode cX5_pack 8 = .ok (.ifCond .eq 11, 3) := by decide +kernel
theorem dX5_pack_11 : decode cX5_pack 11 = .ok (.iload_n 2, 1) := by decide +kernel
theorem dX5_pack_12 : decode cX5_pack 12 = .ok (.iconst 2, 1) := by decide +kernel
theorem dX5_pack_13 : decode cX5_pack 13 = .ok (.invokestatic 81, 3) := by decide +kernel
theorem dX5_pack_16 : decode cX5_pack 16 = .ok (.ifCond .ne 6, 3) := by decide +kernel
theorem dX5_pack_19 : decode cX5_pack 19 = .ok (.bipush (-2), 2) := by decide +kernel
theorem dX5_pack_21 : decode cX5_pack 21 = .ok (.ireturn, 1) := by decide +kernel
theorem dX5_pack_22 : decode cX5_pack 22 = .ok (.aload_n 0, 1) := by decide +kernel
theorem dX5_pack_23 : decode cX5_pack 23 = .ok (.iconst 1, 1) := by decide +kernel
theorem dX5_pack_24 : decode cX5_pack 24 = .ok (.invokevirtual 206, 3) := by decide +kernel
theorem dX5_pack_27 : decode cX5_pack 27 = .ok (.pop, 1) := by decide +kernel
theorem dX5_pack_28 : decode cX5_pack 28 = .ok (.iconst (-1), 1) := by decide +kernel
theorem dX5_pack_29 : decode cX5_pack 29 = .ok (.istore_n 3, 1) := by decide +kernel
theorem dX5_pack_30 : decode cX5_pack 30 = .ok (.iconst (-1), 1) := by decide +kernel
theorem dX5_pack_31 : decode cX5_pack 31 = .ok (.istore 4, 2) := by decide +kernel
theorem dX5_pack_33 : decode cX5_pack 33 = .ok (.iconst 0, 1) := by decide +kernel
theorem dX5_pack_34 : decode cX5_pack 34 = .ok (.istore 5, 2) := by decide +kernel
theorem dX5_pack_36 : decode cX5_pack 36 = .ok (.iload 5, 2) := by decide +kernel
theorem dX5_pack_38 : decode cX5_pack 38 = .ok (.aload_n 0, 1) := by decide +kernel
theorem dX5_pack_39 : decode cX5_pack 39 = .ok (.getfield 10, 3) := by decide +kernel
theorem dX5_pack_42 : decode cX5_pack 42 = .ok (.getfield 85, 3) := by decide +kernel
theorem dX5_pack_45 : decode cX5_pack 45 = .ok (.if_icmp .ge 38, 3) := by decide +kernel
theorem dX5_pack_48 : decode cX5_pack 48 = .ok (.aload_n 0, 1) := by decide +kernel
theorem dX5_pack_49 : decode cX5_pack 49 = .ok (.getfield 25, 3) := by decide +kernel
theorem dX5_pack_52 : decode cX5_pack 52 = .ok (.iload_n 1, 1) := by decide +kernel
theorem dX5_pack_53 : decode cX5_pack 53 = .ok (.iload 5, 2) := by decide +kernel
theorem dX5_pack_55 : decode cX5_pack 55 = .ok (.invokevirtual 228, 3) := by decide +kernel
theorem dX5_pack_58 : decode cX5_pack 58 = .ok (.istore 6, 2) := by decide +kernel
theorem dX5_pack_60 : decode cX5_pack 60 = .ok (.iload 6, 2) := by decide +kernel
theorem dX5_pack_62 : decode cX5_pack 62 = .ok (.iload 4, 2) := by decide +kernel
theorem dX5_pack_64 : decode cX5_pack 64 = .ok (.invokestatic 231, 3) := by decide +kernel
theorem dX5_pack_67 : decode cX5_pack 67 = .ok (.ifCond .eq 10, 3) := by decide +kernel
theorem dX5_pack_70 : decode cX5_pack 70 = .ok (.iload 5, 2) := by decide +kernel
theorem dX5_pack_72 : decode cX5_pack 72 = .ok (.istore_n 3, 1) := by decide +kernel
theorem dX5_pack_73 : decode cX5_pack 73 = .ok (.iload 6, 2) := by decide +kernel
theorem dX5_pack_75 : decode cX5_pack 75 = .ok (.istore 4, 2) := by decide +kernel
theorem dX5_pack_77 : decode cX5_pack 77 = .ok (.iinc 5 1, 3) := by decide +kernel
theorem dX5_pack_80 : decode cX5_pack 80 = .ok (.goto (-44), 3) := by decide +kernel
theorem dX5_pack_83 : decode cX5_pack 83 = .ok (.iload_n 2, 1) := by decide +kernel
theorem dX5_pack_84 : decode cX5_pack 84 = .ok (.ifCond .ne 7, 3) := by decide +kernel
theorem dX5_pack_87 : decode cX5_pack 87 = .ok (.iload_n 3, 1) := by decide +kernel
theorem dX5_pack_88 : decode cX5_pack 88 = .ok (.goto 5, 3) := by decide +kernel
theorem dX5_pack_91 : decode cX5_pack 91 = .ok (.iload 4, 2) := by decide +kernel
theorem dX5_pack_93 : decode cX5_pack 93 = .ok (.ireturn, 1) := by decide +kernel
theorem dX5_ring_0 : decode cX5_ring 0 = .ok (.iload_n 1, 1) := by decide +kernel
theorem dX5_ring_1 : decode cX5_ring 1 = .ok (.iconst 2, 1) := by decide +kernel
theorem dX5_ring_2 : decode cX5_ring 2 = .ok (.invokestatic 81, 3) := by decide +kernel
theorem dX5_ring_5 : decode cX5_ring 5 = .ok (.ifCond .ne 6, 3) := by decide +kernel
theorem dX5_ring_8 : decode cX5_ring 8 = .ok (.bipush (-2), 2) := by decide +kernel
theorem dX5_ring_10 : decode cX5_ring 10 = .ok (.ireturn, 1) := by decide +kernel
theorem dX5_ring_11 : decode cX5_ring 11 = .ok (.aload_n 0, 1) := by decide +kernel
theorem dX5_ring_12 : decode cX5_ring 12 = .ok (.invokevirtual 213, 3) := by decide +kernel
theorem dX5_ring_15 : decode cX5_ring 15 = .ok (.aload_n 0, 1) := by decide +kernel
theorem dX5_ring_16 : decode cX5_ring 16 = .ok (.iconst (-1), 1) := by decide +kernel
theorem dX5_ring_17 : decode cX5_ring 17 = .ok (.iconst (-1), 1) := by decide +kernel
theorem dX5_ring_18 : decode cX5_ring 18 = .ok (.invokevirtual 216, 3) := by decide +kernel
theorem dX5_ring_21 : decode cX5_ring 21 = .ok (.istore_n 2, 1) := by decide +kernel
theorem dX5_ring_22 : decode cX5_ring 22 = .ok (.aload_n 0, 1) := by decide +kernel
theorem dX5_ring_23 : decode cX5_ring 23 = .ok (.invokevirtual 189, 3) := by decide +kernel
theorem dX5_ring_26 : decode cX5_ring 26 = .ok (.istore_n 3, 1) := by decide +kernel
theorem dX5_ring_27 : decode cX5_ring 27 = .ok (.iload_n 3, 1) := by decide +kernel
theorem dX5_ring_28 : decode cX5_ring 28 = .ok (.iload_n 2, 1) := by decide +kernel
theorem dX5_ring_29 : decode cX5_ring 29 = .ok (.invokestatic 231, 3) := by decide +kernel
theorem dX5_ring_32 : decode cX5_ring 32 = .ok (.istore 4, 2) := by decide +kernel
theorem dX5_ring_34 : decode cX5_ring 34 = .ok (.iload_n 1, 1) := by decide +kernel
theorem dX5_ring_35 : decode cX5_ring 35 = .ok (.ifCond .ne 14, 3) := by decide +kernel
theorem dX5_ring_38 : decode cX5_ring 38 = .ok (.iload 4, 2) := by decide +kernel
theorem dX5_ring_40 : decode cX5_ring 40 = .ok (.ifCond .eq 7, 3) := by decide +kernel
theorem dX5_ring_43 : decode cX5_ring 43 = .ok (.iconst 1, 1) := by decide +kernel
theorem dX5_ring_44 : decode cX5_ring 44 = .ok (.goto 4, 3) := by decide +kernel
theorem dX5_ring_47 : decode cX5_ring 47 = .ok (.iconst 0, 1) := by decide +kernel
theorem dX5_ring_48 : decode cX5_ring 48 = .ok (.ireturn, 1) := by decide +kernel
theorem dX5_ring_49 : decode cX5_ring 49 = .ok (.iload 4, 2) := by decide +kernel
theorem dX5_ring_51 : decode cX5_ring 51 = .ok (.ifCond .eq 7, 3) := by decide +kernel
theorem dX5_ring_54 : decode cX5_ring 54 = .ok (.iload_n 3, 1) := by decide +kernel
theorem dX5_ring_55 : decode cX5_ring 55 = .ok (.goto 4, 3) := by decide +kernel
theorem dX5_ring_58 : decode cX5_ring 58 = .ok (.iload_n 2, 1) := by decide +kernel
theorem dX5_ring_59 : decode cX5_ring 59 = .ok (.ireturn, 1) := by decide +kernel
theorem dX5_leave_0 : decode cX5_leave 0 = .ok (.aload_n 0, 1) := by decide +kernel
theorem dX5_leave_1 : decode cX5_leave 1 = .ok (.invokevirtual 213, 3) := by decide +kernel
theorem dX5_leave_4 : decode cX5_leave 4 = .ok (.aload_n 0, 1) := by decide +kernel
theorem dX5_leave_5 : decode cX5_leave 5 = .ok (.iconst (-1), 1) := by decide +kernel
theorem dX5_leave_6 : decode cX5_leave 6 = .ok (.iconst (-1), 1) := by decide +kernel
theorem dX5_leave_7 : decode cX5_leave 7 = .ok (.invokevirtual 216, 3) := by decide +kernel
theorem dX5_leave_10 : decode cX5_leave 10 = .ok (.istore_n 1, 1) := by decide +kernel
theorem dX5_leave_11 : decode cX5_leave 11 = .ok (.iconst (-1), 1) := by decide +kernel
theorem dX5_leave_12 : decode cX5_leave 12 = .ok (.istore_n 2, 1) := by decide +kernel
theorem dX5_leave_13 : decode cX5_leave 13 = .ok (.iconst 0, 1) := by decide +kernel
theorem dX5_leave_14 : decode cX5_leave 14 = .ok (.istore_n 3, 1) := by decide +kernel
theorem dX5_leave_15 : decode cX5_leave 15 = .ok (.iload_n 3, 1) := by decide +kernel
theorem dX5_leave_16 : decode cX5_leave 16 = .ok (.aload_n 0, 1) := by decide +kernel
theorem dX5_leave_17 : decode cX5_leave 17 = .ok (.getfield 10, 3) := by decide +kernel
theorem dX5_leave_20 : decode cX5_leave 20 = .ok (.getfield 99, 3) := by decide +kernel
theorem dX5_leave_23 : decode cX5_leave 23 = .ok (.if_icmp .ge 64, 3) := by decide +kernel
theorem dX5_leave_26 : decode cX5_leave 26 = .ok (.iload_n 3, 1) := by decide +kernel
theorem dX5_leave_27 : decode cX5_leave 27 = .ok (.aload_n 0, 1) := by decide +kernel
theorem dX5_leave_28 : decode cX5_leave 28 = .ok (.getfield 10, 3) := by decide +kernel
theorem dX5_leave_31 : decode cX5_leave 31 = .ok (.getfield 137, 3) := by decide +kernel
theorem dX5_leave_34 : decode cX5_leave 34 = .ok (.if_icmp .ne 7, 3) := by decide +kernel
theorem dX5_leave_37 : decode cX5_leave 37 = .ok (.iconst (-1), 1) := by decide +kernel
theorem dX5_leave_38 : decode cX5_leave 38 = .ok (.goto 9, 3) := by decide +kernel
theorem dX5_leave_41 : decode cX5_leave 41 = .ok (.aload_n 0, 1) := by decide +kernel
theorem dX5_leave_42 : decode cX5_leave 42 = .ok (.iload_n 3, 1) := by decide +kernel
theorem dX5_leave_43 : decode cX5_leave 43 = .ok (.iconst (-1), 1) := by decide +kernel
theorem dX5_leave_44 : decode cX5_leave 44 = .ok (.invokevirtual 216, 3) := by decide +kernel
theorem dX5_leave_47 : decode cX5_leave 47 = .ok (.istore 4, 2) := by decide +kernel
theorem dX5_leave_49 : decode cX5_leave 49 = .ok (.iload 4, 2) := by decide +kernel
theorem dX5_leave_51 : decode cX5_leave 51 = .ok (.iconst (-1), 1) := by decide +kernel
theorem dX5_leave_52 : decode cX5_leave 52 = .ok (.if_icmp .eq 29, 3) := by decide +kernel
theorem dX5_leave_55 : decode cX5_leave 55 = .ok (.iload 4, 2) := by decide +kernel
theorem dX5_leave_57 : decode cX5_leave 57 = .ok (.aload_n 0, 1) := by decide +kernel
theorem dX5_leave_58 : decode cX5_leave 58 = .ok (.iload_n 3, 1) := by decide +kernel
theorem dX5_leave_59 : decode cX5_leave 59 = .ok (.invokevirtual 192, 3) := by decide +kernel
theorem dX5_leave_62 : decode cX5_leave 62 = .ok (.iadd, 1) := by decide +kernel
theorem dX5_leave_63 : decode cX5_leave 63 = .ok (.iload_n 1, 1) := by decide +kernel
theorem dX5_leave_64 : decode cX5_leave 64 = .ok (.invokestatic 231, 3) := by decide +kernel
theorem dX5_leave_67 : decode cX5_leave 67 = .ok (.ifCond .eq 14, 3) := by decide +kernel
theorem dX5_leave_70 : decode cX5_leave 70 = .ok (.iload_n 3, 1) := by decide +kernel
theorem dX5_leave_71 : decode cX5_leave 71 = .ok (.istore_n 2, 1) := by decide +kernel
theorem dX5_leave_72 : decode cX5_leave 72 = .ok (.iload 4, 2) := by decide +kernel
theorem dX5_leave_74 : decode cX5_leave 74 = .ok (.aload_n 0, 1) := by decide +kernel
theorem dX5_leave_75 : decode cX5_leave 75 = .ok (.iload_n 3, 1) := by decide +kernel
theorem dX5_leave_76 : decode cX5_leave 76 = .ok (.invokevirtual 192, 3) := by decide +kernel
theorem dX5_leave_79 : decode cX5_leave 79 = .ok (.iadd, 1) := by decide +kernel
theorem dX5_leave_80 : decode cX5_leave 80 = .ok (.istore_n 1, 1) := by decide +kernel
theorem dX5_leave_81 : decode cX5_leave 81 = .ok (.iinc 3 1, 3) := by decide +kernel
theorem dX5_leave_84 : decode cX5_leave 84 = .ok (.goto (-69), 3) := by decide +kernel
theorem dX5_leave_87 : decode cX5_leave 87 = .ok (.iload_n 2, 1) := by decide +kernel
theorem dX5_leave_88 : decode cX5_leave 88 = .ok (.ireturn, 1) := by decide +kernel
theorem dX5_roomy_0 : decode cX5_roomy 0 = .ok (.iload_n 1, 1) := by decide +kernel
theorem dX5_roomy_1 : decode cX5_roomy 1 = .ok (.iconst 2, 1) := by decide +kernel
theorem dX5_roomy_2 : decode cX5_roomy 2 = .ok (.invokestatic 81, 3) := by decide +kernel
theorem dX5_roomy_5 : decode cX5_roomy 5 = .ok (.ifCond .ne 6, 3) := by decide +kernel
theorem dX5_roomy_8 : decode cX5_roomy 8 = .ok (.bipush (-2), 2) := by decide +kernel
theorem dX5_roomy_10 : decode cX5_roomy 10 = .ok (.ireturn, 1) := by decide +kernel
theorem dX5_roomy_11 : decode cX5_roomy 11 = .ok (.aload_n 0, 1) := by decide +kernel
theorem dX5_roomy_12 : decode cX5_roomy 12 = .ok (.invokevirtual 213, 3) := by decide +kernel
theorem dX5_roomy_15 : decode cX5_roomy 15 = .ok (.aload_n 0, 1) := by decide +kernel
theorem dX5_roomy_16 : decode cX5_roomy 16 = .ok (.iconst (-1), 1) := by decide +kernel
theorem dX5_roomy_17 : decode cX5_roomy 17 = .ok (.iconst (-1), 1) := by decide +kernel
theorem dX5_roomy_18 : decode cX5_roomy 18 = .ok (.invokevirtual 216, 3) := by decide +kernel
theorem dX5_roomy_21 : decode cX5_roomy 21 = .ok (.istore_n 2, 1) := by decide +kernel
theorem dX5_roomy_22 : decode cX5_roomy 22 = .ok (.iconst (-1), 1) := by decide +kernel
theorem dX5_roomy_23 : decode cX5_roomy 23 = .ok (.istore_n 3, 1) := by decide +kernel
theorem dX5_roomy_24 : decode cX5_roomy 24 = .ok (.iconst 0, 1) := by decide +kernel
theorem dX5_roomy_25 : decode cX5_roomy 25 = .ok (.istore 4, 2) := by decide +kernel
theorem dX5_roomy_27 : decode cX5_roomy 27 = .ok (.iload 4, 2) := by decide +kernel
theorem dX5_roomy_29 : decode cX5_roomy 29 = .ok (.aload_n 0, 1) := by decide +kernel
theorem dX5_roomy_30 : decode cX5_roomy 30 = .ok (.getfield 10, 3) := by decide +kernel
theorem dX5_roomy_33 : decode cX5_roomy 33 = .ok (.getfield 85, 3) := by decide +kernel
theorem dX5_roomy_36 : decode cX5_roomy 36 = .ok (.if_icmp .ge 33, 3) := by decide +kernel
theorem dX5_roomy_39 : decode cX5_roomy 39 = .ok (.aload_n 0, 1) := by decide +kernel
theorem dX5_roomy_40 : decode cX5_roomy 40 = .ok (.iconst (-1), 1) := by decide +kernel
theorem dX5_roomy_41 : decode cX5_roomy 41 = .ok (.iload 4, 2) := by decide +kernel
theorem dX5_roomy_43 : decode cX5_roomy 43 = .ok (.invokevirtual 216, 3) := by decide +kernel
theorem dX5_roomy_46 : decode cX5_roomy 46 = .ok (.istore 5, 2) := by decide +kernel
theorem dX5_roomy_48 : decode cX5_roomy 48 = .ok (.iload 5, 2) := by decide +kernel
theorem dX5_roomy_50 : decode cX5_roomy 50 = .ok (.iload_n 2, 1) := by decide +kernel
theorem dX5_roomy_51 : decode cX5_roomy 51 = .ok (.invokestatic 231, 3) := by decide +kernel
theorem dX5_roomy_54 : decode cX5_roomy 54 = .ok (.ifCond .eq 9, 3) := by decide +kernel
theorem dX5_roomy_57 : decode cX5_roomy 57 = .ok (.iload 4, 2) := by decide +kernel
theorem dX5_roomy_59 : decode cX5_roomy 59 = .ok (.istore_n 3, 1) := by decide +kernel
theorem dX5_roomy_60 : decode cX5_roomy 60 = .ok (.iload 5, 2) := by decide +kernel
theorem dX5_roomy_62 : decode cX5_roomy 62 = .ok (.istore_n 2, 1) := by decide +kernel
theorem dX5_roomy_63 : decode cX5_roomy 63 = .ok (.iinc 4 1, 3) := by decide +kernel
theorem dX5_roomy_66 : decode cX5_roomy 66 = .ok (.goto (-39), 3) := by decide +kernel
theorem dX5_roomy_69 : decode cX5_roomy 69 = .ok (.iload_n 3, 1) := by decide +kernel
theorem dX5_roomy_70 : decode cX5_roomy 70 = .ok (.iconst (-1), 1) := by decide +kernel
theorem dX5_roomy_71 : decode cX5_roomy 71 = .ok (.if_icmp .ne 5, 3) := by decide +kernel
theorem dX5_roomy_74 : decode cX5_roomy 74 = .ok (.iconst (-1), 1) := by decide +kernel
theorem dX5_roomy_75 : decode cX5_roomy 75 = .ok (.ireturn, 1) := by decide +kernel
theorem dX5_roomy_76 : decode cX5_roomy 76 = .ok (.iload_n 1, 1) := by decide +kernel
theorem dX5_roomy_77 : decode cX5_roomy 77 = .ok (.ifCond .ne 7, 3) := by decide +kernel
theorem dX5_roomy_80 : decode cX5_roomy 80 = .ok (.iload_n 3, 1) := by decide +kernel
theorem dX5_roomy_81 : decode cX5_roomy 81 = .ok (.goto 4, 3) := by decide +kernel
theorem dX5_roomy_84 : decode cX5_roomy 84 = .ok (.iload_n 2, 1) := by decide +kernel
theorem dX5_roomy_85 : decode cX5_roomy 85 = .ok (.ireturn, 1) := by decide +kernel
theorem dX5_fewest_0 : decode cX5_fewest 0 = .ok (.aload_n 0, 1) := by decide +kernel
theorem dX5_fewest_1 : decode cX5_fewest 1 = .ok (.iconst (-1), 1) := by decide +kernel
theorem dX5_fewest_2 : decode cX5_fewest 2 = .ok (.iconst (-1), 1) := by decide +kernel
theorem dX5_fewest_3 : decode cX5_fewest 3 = .ok (.invokevirtual 219, 3) := by decide +kernel
theorem dX5_fewest_6 : decode cX5_fewest 6 = .ok (.aload_n 0, 1) := by decide +kernel
theorem dX5_fewest_7 : decode cX5_fewest 7 = .ok (.getfield 25, 3) := by decide +kernel
theorem dX5_fewest_10 : decode cX5_fewest 10 = .ok (.invokevirtual 234, 3) := by decide +kernel
theorem dX5_fewest_13 : decode cX5_fewest 13 = .ok (.aload_n 0, 1) := by decide +kernel
theorem dX5_fewest_14 : decode cX5_fewest 14 = .ok (.getfield 25, 3) := by decide +kernel
theorem dX5_fewest_17 : decode cX5_fewest 17 = .ok (.iload_n 1, 1) := by decide +kernel
theorem dX5_fewest_18 : decode cX5_fewest 18 = .ok (.invokevirtual 237, 3) := by decide +kernel
theorem dX5_fewest_21 : decode cX5_fewest 21 = .ok (.ireturn, 1) := by decide +kernel
theorem dX5_countCosts_0 : decode cX5_countCosts 0 = .ok (.iconst 0, 1) := by decide +kernel
theorem dX5_countCosts_1 : decode cX5_countCosts 1 = .ok (.istore_n 1, 1) := by decide +kernel
theorem dX5_countCosts_2 : decode cX5_countCosts 2 = .ok (.iload_n 1, 1) := by decide +kernel
theorem dX5_countCosts_3 : decode cX5_countCosts 3 = .ok (.aload_n 0, 1) := by decide +kernel
theorem dX5_countCosts_4 : decode cX5_countCosts 4 = .ok (.getfield 10, 3) := by decide +kernel
theorem dX5_countCosts_7 : decode cX5_countCosts 7 = .ok (.getfield 99, 3) := by decide +kernel
theorem dX5_countCosts_10 : decode cX5_countCosts 10 = .ok (.if_icmp .ge 64, 3) := by decide +kernel
theorem dX5_countCosts_13 : decode cX5_countCosts 13 = .ok (.iconst 0, 1) := by decide +kernel
theorem dX5_countCosts_14 : decode cX5_countCosts 14 = .ok (.istore_n 2, 1) := by decide +kernel
theorem dX5_countCosts_15 : decode cX5_countCosts 15 = .ok (.iload_n 2, 1) := by decide +kernel
theorem dX5_countCosts_16 : decode cX5_countCosts 16 = .ok (.aload_n 0, 1) := by decide +kernel
theorem dX5_countCosts_17 : decode cX5_countCosts 17 = .ok (.getfield 10, 3) := by decide +kernel
theorem dX5_countCosts_20 : decode cX5_countCosts 20 = .ok (.getfield 85, 3) := by decide +kernel
theorem dX5_countCosts_23 : decode cX5_countCosts 23 = .ok (.if_icmp .ge 45, 3) := by decide +kernel
theorem dX5_countCosts_26 : decode cX5_countCosts 26 = .ok (.iconst 0, 1) := by decide +kernel
theorem dX5_countCosts_27 : decode cX5_countCosts 27 = .ok (.istore_n 3, 1) := by decide +kernel
theorem dX5_countCosts_28 : decode cX5_countCosts 28 = .ok (.iload_n 3, 1) := by decide +kernel
theorem dX5_countCosts_29 : decode cX5_countCosts 29 = .ok (.aload_n 0, 1) := by decide +kernel
theorem dX5_countCosts_30 : decode cX5_countCosts 30 = .ok (.getfield 10, 3) := by decide +kernel
theorem dX5_countCosts_33 : decode cX5_countCosts 33 = .ok (.getfield 85, 3) := by decide +kernel
theorem dX5_countCosts_36 : decode cX5_countCosts 36 = .ok (.if_icmp .ge 26, 3) := by decide +kernel
theorem dX5_countCosts_39 : decode cX5_countCosts 39 = .ok (.aload_n 0, 1) := by decide +kernel
theorem dX5_countCosts_40 : decode cX5_countCosts 40 = .ok (.getfield 25, 3) := by decide +kernel
theorem dX5_countCosts_43 : decode cX5_countCosts 43 = .ok (.iload_n 1, 1) := by decide +kernel
theorem dX5_countCosts_44 : decode cX5_countCosts 44 = .ok (.iload_n 2, 1) := by decide +kernel
theorem dX5_countCosts_45 : decode cX5_countCosts 45 = .ok (.iload_n 3, 1) := by decide +kernel
theorem dX5_countCosts_46 : decode cX5_countCosts 46 = .ok (.aload_n 0, 1) := by decide +kernel
theorem dX5_countCosts_47 : decode cX5_countCosts 47 = .ok (.iload_n 1, 1) := by decide +kernel
theorem dX5_countCosts_48 : decode cX5_countCosts 48 = .ok (.iload_n 2, 1) := by decide +kernel
theorem dX5_countCosts_49 : decode cX5_countCosts 49 = .ok (.iload_n 3, 1) := by decide +kernel
theorem dX5_countCosts_50 : decode cX5_countCosts 50 = .ok (.invokevirtual 176, 3) := by decide +kernel
theorem dX5_countCosts_53 : decode cX5_countCosts 53 = .ok (.invokevirtual 240, 3) := by decide +kernel
theorem dX5_countCosts_56 : decode cX5_countCosts 56 = .ok (.iinc 3 1, 3) := by decide +kernel
theorem dX5_countCosts_59 : decode cX5_countCosts 59 = .ok (.goto (-31), 3) := by decide +kernel
theorem dX5_countCosts_62 : decode cX5_countCosts 62 = .ok (.iinc 2 1, 3) := by decide +kernel
theorem dX5_countCosts_65 : decode cX5_countCosts 65 = .ok (.goto (-50), 3) := by decide +kernel
theorem dX5_countCosts_68 : decode cX5_countCosts 68 = .ok (.iinc 1 1, 3) := by decide +kernel
theorem dX5_countCosts_71 : decode cX5_countCosts 71 = .ok (.goto (-69), 3) := by decide +kernel
theorem dX5_countCosts_74 : decode cX5_countCosts 74 = .ok (.return_, 1) := by decide +kernel
theorem dX5_leastIf_0 : decode cX5_leastIf 0 = .ok (.aload_n 0, 1) := by decide +kernel
theorem dX5_leastIf_1 : decode cX5_leastIf 1 = .ok (.iload_n 1, 1) := by decide +kernel
theorem dX5_leastIf_2 : decode cX5_leastIf 2 = .ok (.iload_n 2, 1) := by decide +kernel
theorem dX5_leastIf_3 : decode cX5_leastIf 3 = .ok (.invokevirtual 219, 3) := by decide +kernel
theorem dX5_leastIf_6 : decode cX5_leastIf 6 = .ok (.aload_n 0, 1) := by decide +kernel
theorem dX5_leastIf_7 : decode cX5_leastIf 7 = .ok (.getfield 25, 3) := by decide +kernel
theorem dX5_leastIf_10 : decode cX5_leastIf 10 = .ok (.iconst 0, 1) := by decide +kernel
theorem dX5_leastIf_11 : decode cX5_leastIf 11 = .ok (.invokevirtual 237, 3) := by decide +kernel
theorem dX5_leastIf_14 : decode cX5_leastIf 14 = .ok (.ireturn, 1) := by decide +kernel
theorem dX5_think_0 : decode cX5_think 0 = .ok (.aload_n 0, 1) := by decide +kernel
theorem dX5_think_1 : decode cX5_think 1 = .ok (.getfield 19, 3) := by decide +kernel
theorem dX5_think_4 : decode cX5_think 4 = .ok (.aload_n 0, 1) := by decide +kernel
theorem dX5_think_5 : decode cX5_think 5 = .ok (.getfield 10, 3) := by decide +kernel
theorem dX5_think_8 : decode cX5_think 8 = .ok (.invokevirtual 244, 3) := by decide +kernel
theorem dX5_think_11 : decode cX5_think 11 = .ok (.aload_n 0, 1) := by decide +kernel
theorem dX5_think_12 : decode cX5_think 12 = .ok (.getfield 19, 3) := by decide +kernel
theorem dX5_think_15 : decode cX5_think 15 = .ok (.iload_n 1, 1) := by decide +kernel
theorem dX5_think_16 : decode cX5_think 16 = .ok (.putfield 248, 3) := by decide +kernel
theorem dX5_think_19 : decode cX5_think 19 = .ok (.iload_n 2, 1) := by decide +kernel
theorem dX5_think_20 : decode cX5_think 20 = .ok (.iconst (-1), 1) := by decide +kernel
theorem dX5_think_21 : decode cX5_think 21 = .ok (.if_icmp .eq 16, 3) := by decide +kernel
theorem dX5_think_24 : decode cX5_think 24 = .ok (.aload_n 0, 1) := by decide +kernel
theorem dX5_think_25 : decode cX5_think 25 = .ok (.getfield 19, 3) := by decide +kernel
theorem dX5_think_28 : decode cX5_think 28 = .ok (.getfield 159, 3) := by decide +kernel
theorem dX5_think_31 : decode cX5_think 31 = .ok (.iload_n 2, 1) := by decide +kernel
theorem dX5_think_32 : decode cX5_think 32 = .ok (.dup2, 1) := by decide +kernel
theorem dX5_think_33 : decode cX5_think 33 = .ok (.iaload, 1) := by decide +kernel
theorem dX5_think_34 : decode cX5_think 34 = .ok (.iconst 1, 1) := by decide +kernel
theorem dX5_think_35 : decode cX5_think 35 = .ok (.iadd, 1) := by decide +kernel
theorem dX5_think_36 : decode cX5_think 36 = .ok (.iastore, 1) := by decide +kernel
theorem dX5_think_37 : decode cX5_think 37 = .ok (.aload_n 0, 1) := by decide +kernel
theorem dX5_think_38 : decode cX5_think 38 = .ok (.getfield 25, 3) := by decide +kernel
theorem dX5_think_41 : decode cX5_think 41 = .ok (.aload_n 0, 1) := by decide +kernel
theorem dX5_think_42 : decode cX5_think 42 = .ok (.getfield 19, 3) := by decide +kernel
theorem dX5_think_45 : decode cX5_think 45 = .ok (.invokevirtual 251, 3) := by decide +kernel
theorem dX5_think_48 : decode cX5_think 48 = .ok (.return_, 1) := by decide +kernel
theorem dX5_isLess_0 : decode cX5_isLess 0 = .ok (.iload_n 0, 1) := by decide +kernel
theorem dX5_isLess_1 : decode cX5_isLess 1 = .ok (.iconst (-1), 1) := by decide +kernel
theorem dX5_isLess_2 : decode cX5_isLess 2 = .ok (.if_icmp .eq 17, 3) := by decide +kernel
theorem dX5_isLess_5 : decode cX5_isLess 5 = .ok (.iload_n 1, 1) := by decide +kernel
theorem dX5_isLess_6 : decode cX5_isLess 6 = .ok (.iconst (-1), 1) := by decide +kernel
theorem dX5_isLess_7 : decode cX5_isLess 7 = .ok (.if_icmp .eq 8, 3) := by decide +kernel
theorem dX5_isLess_10 : decode cX5_isLess 10 = .ok (.iload_n 0, 1) := by decide +kernel
theorem dX5_isLess_11 : decode cX5_isLess 11 = .ok (.iload_n 1, 1) := by decide +kernel
theorem dX5_isLess_12 : decode cX5_isLess 12 = .ok (.if_icmp .ge 7, 3) := by decide +kernel
theorem dX5_isLess_15 : decode cX5_isLess 15 = .ok (.iconst 1, 1) := by decide +kernel
theorem dX5_isLess_16 : decode cX5_isLess 16 = .ok (.goto 4, 3) := by decide +kernel
theorem dX5_isLess_19 : decode cX5_isLess 19 = .ok (.iconst 0, 1) := by decide +kernel
theorem dX5_isLess_20 : decode cX5_isLess 20 = .ok (.ireturn, 1) := by decide +kernel
theorem dX5_judge_0 : decode cX5_judge 0 = .ok (.iload_n 1, 1) := by decide +kernel
theorem dX5_judge_1 : decode cX5_judge 1 = .ok (.iconst 4, 1) := by decide +kernel
theorem dX5_judge_2 : decode cX5_judge 2 = .ok (.invokestatic 81, 3) := by decide +kernel
theorem dX5_judge_5 : decode cX5_judge 5 = .ok (.ifCond .eq 11, 3) := by decide +kernel
theorem dX5_judge_8 : decode cX5_judge 8 = .ok (.iload_n 2, 1) := by decide +kernel
theorem dX5_judge_9 : decode cX5_judge 9 = .ok (.iconst 3, 1) := by decide +kernel
theorem dX5_judge_10 : decode cX5_judge 10 = .ok (.invokestatic 81, 3) := by decide +kernel
theorem dX5_judge_13 : decode cX5_judge 13 = .ok (.ifCond .ne 6, 3) := by decide +kernel
theorem dX5_judge_16 : decode cX5_judge 16 = .ok (.bipush (-2), 2) := by decide +kernel
theorem dX5_judge_18 : decode cX5_judge 18 = .ok (.ireturn, 1) := by decide +kernel
theorem dX5_judge_19 : decode cX5_judge 19 = .ok (.aload_n 0, 1) := by decide +kernel
theorem dX5_judge_20 : decode cX5_judge 20 = .ok (.getfield 44, 3) := by decide +kernel
theorem dX5_judge_23 : decode cX5_judge 23 = .ok (.iload_n 1, 1) := by decide +kernel
theorem dX5_judge_24 : decode cX5_judge 24 = .ok (.aaload, 1) := by decide +kernel
theorem dX5_judge_25 : decode cX5_judge 25 = .ok (.astore_n 3, 1) := by decide +kernel
theorem dX5_judge_26 : decode cX5_judge 26 = .ok (.aload_n 3, 1) := by decide +kernel
theorem dX5_judge_27 : decode cX5_judge 27 = .ok (.invokevirtual 254, 3) := by decide +kernel
theorem dX5_judge_30 : decode cX5_judge 30 = .ok (.ifCond .eq 6, 3) := by decide +kernel
theorem dX5_judge_33 : decode cX5_judge 33 = .ok (.bipush (-11), 2) := by decide +kernel
theorem dX5_judge_35 : decode cX5_judge 35 = .ok (.ireturn, 1) := by decide +kernel
theorem dX5_judge_36 : decode cX5_judge 36 = .ok (.aload_n 0, 1) := by decide +kernel
theorem dX5_judge_37 : decode cX5_judge 37 = .ok (.getfield 19, 3) := by decide +kernel
theorem dX5_judge_40 : decode cX5_judge 40 = .ok (.aload_n 0, 1) := by decide +kernel
theorem dX5_judge_41 : decode cX5_judge 41 = .ok (.getfield 10, 3) := by decide +kernel
theorem dX5_judge_44 : decode cX5_judge 44 = .ok (.invokevirtual 244, 3) := by decide +kernel
theorem dX5_judge_47 : decode cX5_judge 47 = .ok (.iconst 0, 1) := by decide +kernel
theorem dX5_judge_48 : decode cX5_judge 48 = .ok (.istore 4, 2) := by decide +kernel
theorem dX5_judge_50 : decode cX5_judge 50 = .ok (.iconst 0, 1) := by decide +kernel
theorem dX5_judge_51 : decode cX5_judge 51 = .ok (.istore 5, 2) := by decide +kernel
theorem dX5_judge_53 : decode cX5_judge 53 = .ok (.iload 5, 2) := by decide +kernel
theorem dX5_judge_55 : decode cX5_judge 55 = .ok (.aload_n 3, 1) := by decide +kernel
theorem dX5_judge_56 : decode cX5_judge 56 = .ok (.getfield 257, 3) := by decide +kernel
theorem dX5_judge_59 : decode cX5_judge 59 = .ok (.if_icmp .ge 82, 3) := by decide +kernel
theorem dX5_judge_62 : decode cX5_judge 62 = .ok (.aload_n 0, 1) := by decide +kernel
theorem dX5_judge_63 : decode cX5_judge 63 = .ok (.aload_n 3, 1) := by decide +kernel
theorem dX5_judge_64 : decode cX5_judge 64 = .ok (.getfield 258, 3) := by decide +kernel
theorem dX5_judge_67 : decode cX5_judge 67 = .ok (.iload 5, 2) := by decide +kernel
theorem dX5_judge_69 : decode cX5_judge 69 = .ok (.iaload, 1) := by decide +kernel
theorem dX5_judge_70 : decode cX5_judge 70 = .ok (.invokevirtual 261, 3) := by decide +kernel
theorem dX5_judge_73 : decode cX5_judge 73 = .ok (.ifCond .eq 68, 3) := by decide +kernel
theorem dX5_judge_76 : decode cX5_judge 76 = .ok (.aload_n 3, 1) := by decide +kernel
theorem dX5_judge_77 : decode cX5_judge 77 = .ok (.getfield 258, 3) := by decide +kernel
theorem dX5_judge_80 : decode cX5_judge 80 = .ok (.iload 5, 2) := by decide +kernel
theorem dX5_judge_82 : decode cX5_judge 82 = .ok (.iaload, 1) := by decide +kernel
theorem dX5_judge_83 : decode cX5_judge 83 = .ok (.bipush 10, 2) := by decide +kernel
theorem dX5_judge_85 : decode cX5_judge 85 = .ok (.idiv, 1) := by decide +kernel
theorem dX5_judge_86 : decode cX5_judge 86 = .ok (.istore 6, 2) := by decide +kernel
theorem dX5_judge_88 : decode cX5_judge 88 = .ok (.aload_n 3, 1) := by decide +kernel
theorem dX5_judge_89 : decode cX5_judge 89 = .ok (.getfield 258, 3) := by decide +kernel
theorem dX5_judge_92 : decode cX5_judge 92 = .ok (.iload 5, 2) := by decide +kernel
theorem dX5_judge_94 : decode cX5_judge 94 = .ok (.iaload, 1) := by decide +kernel
theorem dX5_judge_95 : decode cX5_judge 95 = .ok (.bipush 10, 2) := by decide +kernel
theorem dX5_judge_97 : decode cX5_judge 97 = .ok (.irem, 1) := by decide +kernel
theorem dX5_judge_98 : decode cX5_judge 98 = .ok (.istore 7, 2) := by decide +kernel
theorem dX5_judge_100 : decode cX5_judge 100 = .ok (.iload 4, 2) := by decide +kernel
theorem dX5_judge_102 : decode cX5_judge 102 = .ok (.aload_n 0, 1) := by decide +kernel
theorem dX5_judge_103 : decode cX5_judge 103 = .ok (.iload 6, 2) := by decide +kernel
theorem dX5_judge_105 : decode cX5_judge 105 = .ok (.aload_n 0, 1) := by decide +kernel
theorem dX5_judge_106 : decode cX5_judge 106 = .ok (.getfield 19, 3) := by decide +kernel
theorem dX5_judge_109 : decode cX5_judge 109 = .ok (.getfield 111, 3) := by decide +kernel
theorem dX5_judge_112 : decode cX5_judge 112 = .ok (.iload 6, 2) := by decide +kernel
theorem dX5_judge_114 : decode cX5_judge 114 = .ok (.iaload, 1) := by decide +kernel
theorem dX5_judge_115 : decode cX5_judge 115 = .ok (.iload 7, 2) := by decide +kernel
theorem dX5_judge_117 : decode cX5_judge 117 = .ok (.invokevirtual 176, 3) := by decide +kernel
