theorem dX6_not0_31 : decode cX6_not0 31 = .ok (.istore_n 1, 1) := by decide +kernel
theorem dX6_not0_32 : decode cX6_not0 32 = .ok (.aload_n 0, 1) := by decide +kernel
theorem dX6_not0_33 : decode cX6_not0 33 = .ok (.dup, 1) := by decide +kernel
theorem dX6_not0_34 : decode cX6_not0 34 = .ok (.getfield 209, 3) := by decide +kernel
theorem dX6_not0_37 : decode cX6_not0 37 = .ok (.iconst 1, 1) := by decide +kernel
theorem dX6_not0_38 : decode cX6_not0 38 = .ok (.isub, 1) := by decide +kernel
theorem dX6_not0_39 : decode cX6_not0 39 = .ok (.putfield 209, 3) := by decide +kernel
theorem dX6_not0_42 : decode cX6_not0 42 = .ok (.iload_n 1, 1) := by decide +kernel
theorem dX6_not0_43 : decode cX6_not0 43 = .ok (.ifCond .ne 7, 3) := by decide +kernel
theorem dX6_not0_46 : decode cX6_not0 46 = .ok (.iconst 1, 1) := by decide +kernel
theorem dX6_not0_47 : decode cX6_not0 47 = .ok (.goto 4, 3) := by decide +kernel
theorem dX6_not0_50 : decode cX6_not0 50 = .ok (.iconst 0, 1) := by decide +kernel
theorem dX6_not0_51 : decode cX6_not0 51 = .ok (.ireturn, 1) := by decide +kernel
theorem dX6_not0_52 : decode cX6_not0 52 = .ok (.aload_n 0, 1) := by decide +kernel
theorem dX6_not0_53 : decode cX6_not0 53 = .ok (.invokevirtual 351, 3) := by decide +kernel
theorem dX6_not0_56 : decode cX6_not0 56 = .ok (.istore_n 1, 1) := by decide +kernel
theorem dX6_not0_57 : decode cX6_not0 57 = .ok (.aload_n 0, 1) := by decide +kernel
theorem dX6_not0_58 : decode cX6_not0 58 = .ok (.bipush 60, 2) := by decide +kernel
theorem dX6_not0_60 : decode cX6_not0 60 = .ok (.invokevirtual 240, 3) := by decide +kernel
theorem dX6_not0_63 : decode cX6_not0 63 = .ok (.ifCond .ne 14, 3) := by decide +kernel
theorem dX6_not0_66 : decode cX6_not0 66 = .ok (.aload_n 0, 1) := by decide +kernel
theorem dX6_not0_67 : decode cX6_not0 67 = .ok (.bipush 61, 2) := by decide +kernel
theorem dX6_not0_69 : decode cX6_not0 69 = .ok (.invokevirtual 240, 3) := by decide +kernel
theorem dX6_not0_72 : decode cX6_not0 72 = .ok (.ifCond .ne 5, 3) := by decide +kernel
theorem dX6_not0_75 : decode cX6_not0 75 = .ok (.iload_n 1, 1) := by decide +kernel
theorem dX6_not0_76 : decode cX6_not0 76 = .ok (.ireturn, 1) := by decide +kernel
theorem dX6_not0_77 : decode cX6_not0 77 = .ok (.aload_n 0, 1) := by decide +kernel
theorem dX6_not0_78 : decode cX6_not0 78 = .ok (.getfield 194, 3) := by decide +kernel
theorem dX6_not0_81 : decode cX6_not0 81 = .ok (.ldc2_w 262, 3) := by decide +kernel
theorem dX6_not0_84 : decode cX6_not0 84 = .ok (.lcmp, 1) := by decide +kernel
theorem dX6_not0_85 : decode cX6_not0 85 = .ok (.ifCond .ne 7, 3) := by decide +kernel
theorem dX6_not0_88 : decode cX6_not0 88 = .ok (.iconst 1, 1) := by decide +kernel
theorem dX6_not0_89 : decode cX6_not0 89 = .ok (.goto 4, 3) := by decide +kernel
theorem dX6_not0_92 : decode cX6_not0 92 = .ok (.iconst 0, 1) := by decide +kernel
theorem dX6_not0_93 : decode cX6_not0 93 = .ok (.istore_n 2, 1) := by decide +kernel
theorem dX6_not0_94 : decode cX6_not0 94 = .ok (.aload_n 0, 1) := by decide +kernel
theorem dX6_not0_95 : decode cX6_not0 95 = .ok (.invokevirtual 215, 3) := by decide +kernel
theorem dX6_not0_98 : decode cX6_not0 98 = .ok (.aload_n 0, 1) := by decide +kernel
theorem dX6_not0_99 : decode cX6_not0 99 = .ok (.invokevirtual 351, 3) := by decide +kernel
theorem dX6_not0_102 : decode cX6_not0 102 = .ok (.istore_n 3, 1) := by decide +kernel
theorem dX6_not0_103 : decode cX6_not0 103 = .ok (.iload_n 2, 1) := by decide +kernel
theorem dX6_not0_104 : decode cX6_not0 104 = .ok (.ifCond .eq 11, 3) := by decide +kernel
theorem dX6_not0_107 : decode cX6_not0 107 = .ok (.iload_n 1, 1) := by decide +kernel
theorem dX6_not0_108 : decode cX6_not0 108 = .ok (.iload_n 3, 1) := by decide +kernel
theorem dX6_not0_109 : decode cX6_not0 109 = .ok (.if_icmp .ge 15, 3) := by decide +kernel
theorem dX6_not0_112 : decode cX6_not0 112 = .ok (.goto 8, 3) := by decide +kernel
theorem dX6_not0_115 : decode cX6_not0 115 = .ok (.iload_n 1, 1) := by decide +kernel
theorem dX6_not0_116 : decode cX6_not0 116 = .ok (.iload_n 3, 1) := by decide +kernel
theorem dX6_not0_117 : decode cX6_not0 117 = .ok (.if_icmp .ne 7, 3) := by decide +kernel
theorem dX6_not0_120 : decode cX6_not0 120 = .ok (.iconst 1, 1) := by decide +kernel
theorem dX6_not0_121 : decode cX6_not0 121 = .ok (.goto 4, 3) := by decide +kernel
theorem dX6_not0_124 : decode cX6_not0 124 = .ok (.iconst 0, 1) := by decide +kernel
theorem dX6_not0_125 : decode cX6_not0 125 = .ok (.ireturn, 1) := by decide +kernel
theorem dX6_both0_0 : decode cX6_both0 0 = .ok (.aload_n 0, 1) := by decide +kernel
theorem dX6_both0_1 : decode cX6_both0 1 = .ok (.invokevirtual 354, 3) := by decide +kernel
theorem dX6_both0_4 : decode cX6_both0 4 = .ok (.istore_n 1, 1) := by decide +kernel
theorem dX6_both0_5 : decode cX6_both0 5 = .ok (.aload_n 0, 1) := by decide +kernel
theorem dX6_both0_6 : decode cX6_both0 6 = .ok (.bipush 97, 2) := by decide +kernel
theorem dX6_both0_8 : decode cX6_both0 8 = .ok (.bipush 110, 2) := by decide +kernel
theorem dX6_both0_10 : decode cX6_both0 10 = .ok (.bipush 100, 2) := by decide +kernel
theorem dX6_both0_12 : decode cX6_both0 12 = .ok (.iconst 0, 1) := by decide +kernel
theorem dX6_both0_13 : decode cX6_both0 13 = .ok (.iconst 0, 1) := by decide +kernel
theorem dX6_both0_14 : decode cX6_both0 14 = .ok (.iconst 0, 1) := by decide +kernel
theorem dX6_both0_15 : decode cX6_both0 15 = .ok (.iconst 0, 1) := by decide +kernel
theorem dX6_both0_16 : decode cX6_both0 16 = .ok (.iconst 0, 1) := by decide +kernel
theorem dX6_both0_17 : decode cX6_both0 17 = .ok (.invokevirtual 218, 3) := by decide +kernel
theorem dX6_both0_20 : decode cX6_both0 20 = .ok (.ifCond .eq 29, 3) := by decide +kernel
theorem dX6_both0_23 : decode cX6_both0 23 = .ok (.aload_n 0, 1) := by decide +kernel
theorem dX6_both0_24 : decode cX6_both0 24 = .ok (.invokevirtual 215, 3) := by decide +kernel
theorem dX6_both0_27 : decode cX6_both0 27 = .ok (.aload_n 0, 1) := by decide +kernel
theorem dX6_both0_28 : decode cX6_both0 28 = .ok (.invokevirtual 354, 3) := by decide +kernel
theorem dX6_both0_31 : decode cX6_both0 31 = .ok (.istore_n 2, 1) := by decide +kernel
theorem dX6_both0_32 : decode cX6_both0 32 = .ok (.iload_n 1, 1) := by decide +kernel
theorem dX6_both0_33 : decode cX6_both0 33 = .ok (.ifCond .eq 11, 3) := by decide +kernel
theorem dX6_both0_36 : decode cX6_both0 36 = .ok (.iload_n 2, 1) := by decide +kernel
theorem dX6_both0_37 : decode cX6_both0 37 = .ok (.ifCond .eq 7, 3) := by decide +kernel
theorem dX6_both0_40 : decode cX6_both0 40 = .ok (.iconst 1, 1) := by decide +kernel
theorem dX6_both0_41 : decode cX6_both0 41 = .ok (.goto 4, 3) := by decide +kernel
theorem dX6_both0_44 : decode cX6_both0 44 = .ok (.iconst 0, 1) := by decide +kernel
theorem dX6_both0_45 : decode cX6_both0 45 = .ok (.istore_n 1, 1) := by decide +kernel
theorem dX6_both0_46 : decode cX6_both0 46 = .ok (.goto (-41), 3) := by decide +kernel
theorem dX6_both0_49 : decode cX6_both0 49 = .ok (.iload_n 1, 1) := by decide +kernel
theorem dX6_both0_50 : decode cX6_both0 50 = .ok (.ireturn, 1) := by decide +kernel
theorem dX6_either0_0 : decode cX6_either0 0 = .ok (.aload_n 0, 1) := by decide +kernel
theorem dX6_either0_1 : decode cX6_either0 1 = .ok (.invokevirtual 357, 3) := by decide +kernel
theorem dX6_either0_4 : decode cX6_either0 4 = .ok (.istore_n 1, 1) := by decide +kernel
theorem dX6_either0_5 : decode cX6_either0 5 = .ok (.aload_n 0, 1) := by decide +kernel
theorem dX6_either0_6 : decode cX6_either0 6 = .ok (.bipush 111, 2) := by decide +kernel
theorem dX6_either0_8 : decode cX6_either0 8 = .ok (.bipush 114, 2) := by decide +kernel
theorem dX6_either0_10 : decode cX6_either0 10 = .ok (.iconst 0, 1) := by decide +kernel
theorem dX6_either0_11 : decode cX6_either0 11 = .ok (.iconst 0, 1) := by decide +kernel
theorem dX6_either0_12 : decode cX6_either0 12 = .ok (.iconst 0, 1) := by decide +kernel
theorem dX6_either0_13 : decode cX6_either0 13 = .ok (.iconst 0, 1) := by decide +kernel
theorem dX6_either0_14 : decode cX6_either0 14 = .ok (.iconst 0, 1) := by decide +kernel
theorem dX6_either0_15 : decode cX6_either0 15 = .ok (.iconst 0, 1) := by decide +kernel
theorem dX6_either0_16 : decode cX6_either0 16 = .ok (.invokevirtual 218, 3) := by decide +kernel
theorem dX6_either0_19 : decode cX6_either0 19 = .ok (.ifCond .eq 29, 3) := by decide +kernel
theorem dX6_either0_22 : decode cX6_either0 22 = .ok (.aload_n 0, 1) := by decide +kernel
theorem dX6_either0_23 : decode cX6_either0 23 = .ok (.invokevirtual 215, 3) := by decide +kernel
theorem dX6_either0_26 : decode cX6_either0 26 = .ok (.aload_n 0, 1) := by decide +kernel
theorem dX6_either0_27 : decode cX6_either0 27 = .ok (.invokevirtual 357, 3) := by decide +kernel
theorem dX6_either0_30 : decode cX6_either0 30 = .ok (.istore_n 2, 1) := by decide +kernel
theorem dX6_either0_31 : decode cX6_either0 31 = .ok (.iload_n 1, 1) := by decide +kernel
theorem dX6_either0_32 : decode cX6_either0 32 = .ok (.ifCond .ne 7, 3) := by decide +kernel
theorem dX6_either0_35 : decode cX6_either0 35 = .ok (.iload_n 2, 1) := by decide +kernel
theorem dX6_either0_36 : decode cX6_either0 36 = .ok (.ifCond .eq 7, 3) := by decide +kernel
theorem dX6_either0_39 : decode cX6_either0 39 = .ok (.iconst 1, 1) := by decide +kernel
theorem dX6_either0_40 : decode cX6_either0 40 = .ok (.goto 4, 3) := by decide +kernel
theorem dX6_either0_43 : decode cX6_either0 43 = .ok (.iconst 0, 1) := by decide +kernel
theorem dX6_either0_44 : decode cX6_either0 44 = .ok (.istore_n 1, 1) := by decide +kernel
theorem dX6_either0_45 : decode cX6_either0 45 = .ok (.goto (-40), 3) := by decide +kernel
theorem dX6_either0_48 : decode cX6_either0 48 = .ok (.iload_n 1, 1) := by decide +kernel
theorem dX6_either0_49 : decode cX6_either0 49 = .ok (.ireturn, 1) := by decide +kernel
theorem dX6_part__0 : decode cX6_part_ 0 = .ok (.iload_n 1, 1) := by decide +kernel
theorem dX6_part__1 : decode cX6_part_ 1 = .ok (.ifCond .ne 7, 3) := by decide +kernel
theorem dX6_part__4 : decode cX6_part_ 4 = .ok (.aload_n 0, 1) := by decide +kernel
theorem dX6_part__5 : decode cX6_part_ 5 = .ok (.invokevirtual 212, 3) := by decide +kernel
theorem dX6_part__8 : decode cX6_part_ 8 = .ok (.aload_n 0, 1) := by decide +kernel
theorem dX6_part__9 : decode cX6_part_ 9 = .ok (.getfield 198, 3) := by decide +kernel
theorem dX6_part__12 : decode cX6_part_ 12 = .ok (.ifCond .ne 7, 3) := by decide +kernel
theorem dX6_part__15 : decode cX6_part_ 15 = .ok (.aload_n 0, 1) := by decide +kernel
theorem dX6_part__16 : decode cX6_part_ 16 = .ok (.invokevirtual 215, 3) := by decide +kernel
theorem dX6_part__19 : decode cX6_part_ 19 = .ok (.aload_n 0, 1) := by decide +kernel
theorem dX6_part__20 : decode cX6_part_ 20 = .ok (.getfield 198, 3) := by decide +kernel
theorem dX6_part__23 : decode cX6_part_ 23 = .ok (.ifCond .eq 7, 3) := by decide +kernel
theorem dX6_part__26 : decode cX6_part_ 26 = .ok (.iconst 0, 1) := by decide +kernel
theorem dX6_part__27 : decode cX6_part_ 27 = .ok (.goto 7, 3) := by decide +kernel
theorem dX6_part__30 : decode cX6_part_ 30 = .ok (.aload_n 0, 1) := by decide +kernel
theorem dX6_part__31 : decode cX6_part_ 31 = .ok (.invokevirtual 360, 3) := by decide +kernel
theorem dX6_part__34 : decode cX6_part_ 34 = .ok (.istore_n 2, 1) := by decide +kernel
theorem dX6_part__35 : decode cX6_part_ 35 = .ok (.aload_n 0, 1) := by decide +kernel
theorem dX6_part__36 : decode cX6_part_ 36 = .ok (.bipush 59, 2) := by decide +kernel
theorem dX6_part__38 : decode cX6_part_ 38 = .ok (.invokevirtual 240, 3) := by decide +kernel
theorem dX6_part__41 : decode cX6_part_ 41 = .ok (.ifCond .ne 7, 3) := by decide +kernel
theorem dX6_part__44 : decode cX6_part_ 44 = .ok (.aload_n 0, 1) := by decide +kernel
theorem dX6_part__45 : decode cX6_part_ 45 = .ok (.invokevirtual 212, 3) := by decide +kernel
theorem dX6_part__48 : decode cX6_part_ 48 = .ok (.aload_n 0, 1) := by decide +kernel
theorem dX6_part__49 : decode cX6_part_ 49 = .ok (.getfield 198, 3) := by decide +kernel
theorem dX6_part__52 : decode cX6_part_ 52 = .ok (.ifCond .ne 7, 3) := by decide +kernel
theorem dX6_part__55 : decode cX6_part_ 55 = .ok (.aload_n 0, 1) := by decide +kernel
theorem dX6_part__56 : decode cX6_part_ 56 = .ok (.invokevirtual 215, 3) := by decide +kernel
theorem dX6_part__59 : decode cX6_part_ 59 = .ok (.iload_n 2, 1) := by decide +kernel
theorem dX6_part__60 : decode cX6_part_ 60 = .ok (.ireturn, 1) := by decide +kernel
theorem dX6_read_0 : decode cX6_read 0 = .ok (.aload_n 0, 1) := by decide +kernel
theorem dX6_read_1 : decode cX6_read 1 = .ok (.sipush 160, 3) := by decide +kernel
theorem dX6_read_4 : decode cX6_read 4 = .ok (.iload_n 1, 1) := by decide +kernel
theorem dX6_read_5 : decode cX6_read 5 = .ok (.imul, 1) := by decide +kernel
theorem dX6_read_6 : decode cX6_read 6 = .ok (.putfield 171, 3) := by decide +kernel
theorem dX6_read_9 : decode cX6_read 9 = .ok (.aload_n 0, 1) := by decide +kernel
theorem dX6_read_10 : decode cX6_read 10 = .ok (.aload_n 0, 1) := by decide +kernel
theorem dX6_read_11 : decode cX6_read 11 = .ok (.getfield 17, 3) := by decide +kernel
theorem dX6_read_14 : decode cX6_read 14 = .ok (.iload_n 1, 1) := by decide +kernel
theorem dX6_read_15 : decode cX6_read 15 = .ok (.iaload, 1) := by decide +kernel
theorem dX6_read_16 : decode cX6_read 16 = .ok (.putfield 168, 3) := by decide +kernel
theorem dX6_read_19 : decode cX6_read 19 = .ok (.aload_n 0, 1) := by decide +kernel
theorem dX6_read_20 : decode cX6_read 20 = .ok (.iconst 0, 1) := by decide +kernel
theorem dX6_read_21 : decode cX6_read 21 = .ok (.putfield 174, 3) := by decide +kernel
theorem dX6_read_24 : decode cX6_read 24 = .ok (.aload_n 0, 1) := by decide +kernel
theorem dX6_read_25 : decode cX6_read 25 = .ok (.iconst 0, 1) := by decide +kernel
theorem dX6_read_26 : decode cX6_read 26 = .ok (.putfield 209, 3) := by decide +kernel
theorem dX6_read_29 : decode cX6_read 29 = .ok (.aload_n 0, 1) := by decide +kernel
theorem dX6_read_30 : decode cX6_read 30 = .ok (.iconst 0, 1) := by decide +kernel
theorem dX6_read_31 : decode cX6_read 31 = .ok (.putfield 198, 3) := by decide +kernel
theorem dX6_read_34 : decode cX6_read 34 = .ok (.aload_n 0, 1) := by decide +kernel
theorem dX6_read_35 : decode cX6_read 35 = .ok (.invokevirtual 215, 3) := by decide +kernel
theorem dX6_read_38 : decode cX6_read 38 = .ok (.aload_n 0, 1) := by decide +kernel
theorem dX6_read_39 : decode cX6_read 39 = .ok (.aload_n 0, 1) := by decide +kernel
theorem dX6_read_40 : decode cX6_read 40 = .ok (.bipush 99, 2) := by decide +kernel
theorem dX6_read_42 : decode cX6_read 42 = .ok (.bipush 111, 2) := by decide +kernel
theorem dX6_read_44 : decode cX6_read 44 = .ok (.bipush 115, 2) := by decide +kernel
theorem dX6_read_46 : decode cX6_read 46 = .ok (.bipush 116, 2) := by decide +kernel
theorem dX6_read_48 : decode cX6_read 48 = .ok (.bipush 115, 2) := by decide +kernel
theorem dX6_read_50 : decode cX6_read 50 = .ok (.iconst 0, 1) := by decide +kernel
theorem dX6_read_51 : decode cX6_read 51 = .ok (.iconst 0, 1) := by decide +kernel
theorem dX6_read_52 : decode cX6_read 52 = .ok (.iconst 0, 1) := by decide +kernel
theorem dX6_read_53 : decode cX6_read 53 = .ok (.invokevirtual 218, 3) := by decide +kernel
theorem dX6_read_56 : decode cX6_read 56 = .ok (.invokevirtual 363, 3) := by decide +kernel
theorem dX6_read_59 : decode cX6_read 59 = .ok (.istore_n 3, 1) := by decide +kernel
theorem dX6_read_60 : decode cX6_read 60 = .ok (.aload_n 0, 1) := by decide +kernel
theorem dX6_read_61 : decode cX6_read 61 = .ok (.getfield 198, 3) := by decide +kernel
theorem dX6_read_64 : decode cX6_read 64 = .ok (.ifCond .eq 7, 3) := by decide +kernel
theorem dX6_read_67 : decode cX6_read 67 = .ok (.iconst 0, 1) := by decide +kernel
theorem dX6_read_68 : decode cX6_read 68 = .ok (.goto 23, 3) := by decide +kernel
theorem dX6_read_71 : decode cX6_read 71 = .ok (.aload_n 0, 1) := by decide +kernel
theorem dX6_read_72 : decode cX6_read 72 = .ok (.aload_n 0, 1) := by decide +kernel
theorem dX6_read_73 : decode cX6_read 73 = .ok (.bipush 98, 2) := by decide +kernel
theorem dX6_read_75 : decode cX6_read 75 = .ok (.bipush 101, 2) := by decide +kernel
theorem dX6_read_77 : decode cX6_read 77 = .ok (.bipush 108, 2) := by decide +kernel
theorem dX6_read_79 : decode cX6_read 79 = .ok (.bipush 108, 2) := by decide +kernel
theorem dX6_read_81 : decode cX6_read 81 = .ok (.iconst 0, 1) := by decide +kernel
theorem dX6_read_82 : decode cX6_read 82 = .ok (.iconst 0, 1) := by decide +kernel
theorem dX6_read_83 : decode cX6_read 83 = .ok (.iconst 0, 1) := by decide +kernel
theorem dX6_read_84 : decode cX6_read 84 = .ok (.iconst 0, 1) := by decide +kernel
theorem dX6_read_85 : decode cX6_read 85 = .ok (.invokevirtual 218, 3) := by decide +kernel
theorem dX6_read_88 : decode cX6_read 88 = .ok (.invokevirtual 363, 3) := by decide +kernel
theorem dX6_read_91 : decode cX6_read 91 = .ok (.istore 4, 2) := by decide +kernel
theorem dX6_read_93 : decode cX6_read 93 = .ok (.aload_n 0, 1) := by decide +kernel
theorem dX6_read_94 : decode cX6_read 94 = .ok (.getfield 198, 3) := by decide +kernel
theorem dX6_read_97 : decode cX6_read 97 = .ok (.ifCond .eq 7, 3) := by decide +kernel
theorem dX6_read_100 : decode cX6_read 100 = .ok (.iconst 0, 1) := by decide +kernel
theorem dX6_read_101 : decode cX6_read 101 = .ok (.goto 24, 3) := by decide +kernel
theorem dX6_read_104 : decode cX6_read 104 = .ok (.aload_n 0, 1) := by decide +kernel
theorem dX6_read_105 : decode cX6_read 105 = .ok (.aload_n 0, 1) := by decide +kernel
theorem dX6_read_106 : decode cX6_read 106 = .ok (.bipush 119, 2) := by decide +kernel
theorem dX6_read_108 : decode cX6_read 108 = .ok (.bipush 111, 2) := by decide +kernel
theorem dX6_read_110 : decode cX6_read 110 = .ok (.bipush 114, 2) := by decide +kernel
theorem dX6_read_112 : decode cX6_read 112 = .ok (.bipush 116, 2) := by decide +kernel
theorem dX6_read_114 : decode cX6_read 114 = .ok (.bipush 104, 2) := by decide +kernel
theorem dX6_read_116 : decode cX6_read 116 = .ok (.iconst 0, 1) := by decide +kernel
theorem dX6_read_117 : decode cX6_read 117 = .ok (.iconst 0, 1) := by decide +kernel
theorem dX6_read_118 : decode cX6_read 118 = .ok (.iconst 0, 1) := by decide +kernel
theorem dX6_read_119 : decode cX6_read 119 = .ok (.invokevirtual 218, 3) := by decide +kernel
theorem dX6_read_122 : decode cX6_read 122 = .ok (.invokevirtual 363, 3) := by decide +kernel
theorem dX6_read_125 : decode cX6_read 125 = .ok (.istore 5, 2) := by decide +kernel
theorem dX6_read_127 : decode cX6_read 127 = .ok (.aload_n 0, 1) := by decide +kernel
theorem dX6_read_128 : decode cX6_read 128 = .ok (.getfield 198, 3) := by decide +kernel
theorem dX6_read_131 : decode cX6_read 131 = .ok (.ifCond .ne 14, 3) := by decide +kernel
theorem dX6_read_134 : decode cX6_read 134 = .ok (.aload_n 0, 1) := by decide +kernel
theorem dX6_read_135 : decode cX6_read 135 = .ok (.getfield 183, 3) := by decide +kernel
theorem dX6_read_138 : decode cX6_read 138 = .ok (.ifCond .eq 7, 3) := by decide +kernel
theorem dX6_read_141 : decode cX6_read 141 = .ok (.aload_n 0, 1) := by decide +kernel
theorem dX6_read_142 : decode cX6_read 142 = .ok (.invokevirtual 212, 3) := by decide +kernel
theorem dX6_read_145 : decode cX6_read 145 = .ok (.iload_n 2, 1) := by decide +kernel
theorem dX6_read_146 : decode cX6_read 146 = .ok (.ifCond .ne 7, 3) := by decide +kernel
theorem dX6_read_149 : decode cX6_read 149 = .ok (.iload_n 3, 1) := by decide +kernel
theorem dX6_read_150 : decode cX6_read 150 = .ok (.goto 15, 3) := by decide +kernel
theorem dX6_read_153 : decode cX6_read 153 = .ok (.iload_n 2, 1) := by decide +kernel
theorem dX6_read_154 : decode cX6_read 154 = .ok (.iconst 1, 1) := by decide +kernel
theorem dX6_read_155 : decode cX6_read 155 = .ok (.if_icmp .ne 8, 3) := by decide +kernel
theorem dX6_read_158 : decode cX6_read 158 = .ok (.iload 4, 2) := by decide +kernel
theorem dX6_read_160 : decode cX6_read 160 = .ok (.goto 5, 3) := by decide +kernel
theorem dX6_read_163 : decode cX6_read 163 = .ok (.iload 5, 2) := by decide +kernel
theorem dX6_read_165 : decode cX6_read 165 = .ok (.ireturn, 1) := by decide +kernel
theorem dX6_text_0 : decode cX6_text 0 = .ok (.aload_n 0, 1) := by decide +kernel
theorem dX6_text_1 : decode cX6_text 1 = .ok (.getfield 101, 3) := by decide +kernel
theorem dX6_text_4 : decode cX6_text 4 = .ok (.bipush 6, 2) := by decide +kernel
theorem dX6_text_6 : decode cX6_text 6 = .ok (.if_icmp .ne 6, 3) := by decide +kernel
theorem dX6_text_9 : decode cX6_text 9 = .ok (.bipush (-4), 2) := by decide +kernel
theorem dX6_text_11 : decode cX6_text 11 = .ok (.ireturn, 1) := by decide +kernel
theorem dX6_text_12 : decode cX6_text 12 = .ok (.iconst 0, 1) := by decide +kernel
theorem dX6_text_13 : decode cX6_text 13 = .ok (.istore_n 1, 1) := by decide +kernel
theorem dX6_text_14 : decode cX6_text 14 = .ok (.iload_n 1, 1) := by decide +kernel
theorem dX6_text_15 : decode cX6_text 15 = .ok (.aload_n 0, 1) := by decide +kernel
theorem dX6_text_16 : decode cX6_text 16 = .ok (.getfield 165, 3) := by decide +kernel
theorem dX6_text_19 : decode cX6_text 19 = .ok (.if_icmp .ge 30, 3) := by decide +kernel
theorem dX6_text_22 : decode cX6_text 22 = .ok (.aload_n 0, 1) := by decide +kernel
theorem dX6_text_23 : decode cX6_text 23 = .ok (.getfield 13, 3) := by decide +kernel
theorem dX6_text_26 : decode cX6_text 26 = .ok (.sipush 160, 3) := by decide +kernel
theorem dX6_text_29 : decode cX6_text 29 = .ok (.aload_n 0, 1) := by decide +kernel
theorem dX6_text_30 : decode cX6_text 30 = .ok (.getfield 101, 3) := by decide +kernel
theorem dX6_text_33 : decode cX6_text 33 = .ok (.imul, 1) := by decide +kernel
theorem dX6_text_34 : decode cX6_text 34 = .ok (.iload_n 1, 1) := by decide +kernel
theorem dX6_text_35 : decode cX6_text 35 = .ok (.iadd, 1) := by decide +kernel
theorem dX6_text_36 : decode cX6_text 36 = .ok (.aload_n 0, 1) := by decide +kernel
theorem dX6_text_37 : decode cX6_text 37 = .ok (.getfield 20, 3) := by decide +kernel
theorem dX6_text_40 : decode cX6_text 40 = .ok (.iload_n 1, 1) := by decide +kernel
theorem dX6_text_41 : decode cX6_text 41 = .ok (.iaload, 1) := by decide +kernel
theorem dX6_text_42 : decode cX6_text 42 = .ok (.iastore, 1) := by decide +kernel
theorem dX6_text_43 : decode cX6_text 43 = .ok (.iinc 1 1, 3) := by decide +kernel
theorem dX6_text_46 : decode cX6_text 46 = .ok (.goto (-32), 3) := by decide +kernel
theorem dX6_text_49 : decode cX6_text 49 = .ok (.aload_n 0, 1) := by decide +kernel
theorem dX6_text_50 : decode cX6_text 50 = .ok (.getfield 17, 3) := by decide +kernel
theorem dX6_text_53 : decode cX6_text 53 = .ok (.aload_n 0, 1) := by decide +kernel
theorem dX6_text_54 : decode cX6_text 54 = .ok (.getfield 101, 3) := by decide +kernel
theorem dX6_text_57 : decode cX6_text 57 = .ok (.aload_n 0, 1) := by decide +kernel
theorem dX6_text_58 : decode cX6_text 58 = .ok (.getfield 165, 3) := by decide +kernel
theorem dX6_text_61 : decode cX6_text 61 = .ok (.iastore, 1) := by decide +kernel
theorem dX6_text_62 : decode cX6_text 62 = .ok (.aload_n 0, 1) := by decide +kernel
theorem dX6_text_63 : decode cX6_text 63 = .ok (.iconst 0, 1) := by decide +kernel
theorem dX6_text_64 : decode cX6_text 64 = .ok (.putfield 165, 3) := by decide +kernel
theorem dX6_text_67 : decode cX6_text 67 = .ok (.aload_n 0, 1) := by decide +kernel
theorem dX6_text_68 : decode cX6_text 68 = .ok (.aload_n 0, 1) := by decide +kernel
theorem dX6_text_69 : decode cX6_text 69 = .ok (.getfield 101, 3) := by decide +kernel
theorem dX6_text_72 : decode cX6_text 72 = .ok (.iconst 0, 1) := by decide +kernel
theorem dX6_text_73 : decode cX6_text 73 = .ok (.invokevirtual 367, 3) := by decide +kernel
theorem dX6_text_76 : decode cX6_text 76 = .ok (.istore_n 1, 1) := by decide +kernel
theorem dX6_text_77 : decode cX6_text 77 = .ok (.aload_n 0, 1) := by decide +kernel
theorem dX6_text_78 : decode cX6_text 78 = .ok (.getfield 198, 3) := by decide +kernel
theorem dX6_text_81 : decode cX6_text 81 = .ok (.ifCond .eq 11, 3) := by decide +kernel
theorem dX6_text_84 : decode cX6_text 84 = .ok (.bipush (-100), 2) := by decide +kernel
theorem dX6_text_86 : decode cX6_text 86 = .ok (.aload_n 0, 1) := by decide +kernel
theorem dX6_text_87 : decode cX6_text 87 = .ok (.getfield 202, 3) := by decide +kernel
theorem dX6_text_90 : decode cX6_text 90 = .ok (.isub, 1) := by decide +kernel
theorem dX6_text_91 : decode cX6_text 91 = .ok (.ireturn, 1) := by decide +kernel
theorem dX6_text_92 : decode cX6_text 92 = .ok (.aload_n 0, 1) := by decide +kernel
theorem dX6_text_93 : decode cX6_text 93 = .ok (.dup, 1) := by decide +kernel
theorem dX6_text_94 : decode cX6_text 94 = .ok (.getfield 101, 3) := by decide +kernel
theorem dX6_text_97 : decode cX6_text 97 = .ok (.iconst 1, 1) := by decide +kernel
theorem dX6_text_98 : decode cX6_text 98 = .ok (.iadd, 1) := by decide +kernel
theorem dX6_text_99 : decode cX6_text 99 = .ok (.putfield 101, 3) := by decide +kernel
theorem dX6_text_102 : decode cX6_text 102 = .ok (.aload_n 0, 1) := by decide +kernel
theorem dX6_text_103 : decode cX6_text 103 = .ok (.getfield 101, 3) := by decide +kernel
theorem dX6_text_106 : decode cX6_text 106 = .ok (.iconst 1, 1) := by decide +kernel
theorem dX6_text_107 : decode cX6_text 107 = .ok (.isub, 1) := by decide +kernel
theorem dX6_text_108 : decode cX6_text 108 = .ok (.ireturn, 1) := by decide +kernel
theorem dX6_force_0 : decode cX6_force 0 = .ok (.iload_n 1, 1) := by decide +kernel
theorem dX6_force_1 : decode cX6_force 1 = .ok (.i2l, 1) := by decide +kernel
theorem dX6_force_2 : decode cX6_force 2 = .ok (.lconst 0, 1) := by decide +kernel
theorem dX6_force_3 : decode cX6_force 3 = .ok (.aload_n 0, 1) := by decide +kernel
theorem dX6_force_4 : decode cX6_force 4 = .ok (.getfield 101, 3) := by decide +kernel
theorem dX6_force_7 : decode cX6_force 7 = .ok (.iconst 1, 1) := by decide +kernel
theorem dX6_force_8 : decode cX6_force 8 = .ok (.isub, 1) := by decide +kernel
theorem dX6_force_9 : decode cX6_force 9 = .ok (.i2l, 1) := by decide +kernel
theorem dX6_force_10 : decode cX6_force 10 = .ok (.invokestatic 107, 3) := by decide +kernel
theorem dX6_force_13 : decode cX6_force 13 = .ok (.ifCond .ne 6, 3) := by decide +kernel
theorem dX6_force_16 : decode cX6_force 16 = .ok (.bipush (-2), 2) := by decide +kernel
theorem dX6_force_18 : decode cX6_force 18 = .ok (.ireturn, 1) := by decide +kernel
theorem dX6_force_19 : decode cX6_force 19 = .ok (.aload_n 0, 1) := by decide +kernel
theorem dX6_force_20 : decode cX6_force 20 = .ok (.getfield 370, 3) := by decide +kernel
theorem dX6_force_23 : decode cX6_force 23 = .ok (.istore_n 2, 1) := by decide +kernel
theorem dX6_force_24 : decode cX6_force 24 = .ok (.aload_n 0, 1) := by decide +kernel
theorem dX6_force_25 : decode cX6_force 25 = .ok (.iload_n 1, 1) := by decide +kernel
theorem dX6_force_26 : decode cX6_force 26 = .ok (.putfield 370, 3) := by decide +kernel
theorem dX6_force_29 : decode cX6_force 29 = .ok (.iload_n 2, 1) := by decide +kernel
theorem dX6_force_30 : decode cX6_force 30 = .ok (.ireturn, 1) := by decide +kernel
theorem dX6_says_0 : decode cX6_says 0 = .ok (.aload_n 0, 1) := by decide +kernel
theorem dX6_says_1 : decode cX6_says 1 = .ok (.iload_n 1, 1) := by decide +kernel
theorem dX6_says_2 : decode cX6_says 2 = .ok (.iconst 1, 1) := by decide +kernel
theorem dX6_says_3 : decode cX6_says 3 = .ok (.if_icmp .ne 7, 3) := by decide +kernel
theorem dX6_says_6 : decode cX6_says 6 = .ok (.iconst 0, 1) := by decide +kernel
theorem dX6_says_7 : decode cX6_says 7 = .ok (.goto 9, 3) := by decide +kernel
theorem dX6_says_10 : decode cX6_says 10 = .ok (.aload_n 0, 1) := by decide +kernel
theorem dX6_says_11 : decode cX6_says 11 = .ok (.getfield 29, 3) := by decide +kernel
theorem dX6_says_14 : decode cX6_says 14 = .ok (.iload_n 2, 1) := by decide +kernel
theorem dX6_says_15 : decode cX6_says 15 = .ok (.iaload, 1) := by decide +kernel
theorem dX6_says_16 : decode cX6_says 16 = .ok (.putfield 222, 3) := by decide +kernel
theorem dX6_says_19 : decode cX6_says 19 = .ok (.aload_n 0, 1) := by decide +kernel
theorem dX6_says_20 : decode cX6_says 20 = .ok (.iload_n 3, 1) := by decide +kernel
theorem dX6_says_21 : decode cX6_says 21 = .ok (.putfield 225, 3) := by decide +kernel
theorem dX6_says_24 : decode cX6_says 24 = .ok (.aload_n 0, 1) := by decide +kernel
theorem dX6_says_25 : decode cX6_says 25 = .ok (.iload 4, 2) := by decide +kernel
theorem dX6_says_27 : decode cX6_says 27 = .ok (.putfield 228, 3) := by decide +kernel
theorem dX6_says_30 : decode cX6_says 30 = .ok (.aload_n 0, 1) := by decide +kernel
theorem dX6_says_31 : decode cX6_says 31 = .ok (.iload_n 1, 1) := by decide +kernel
theorem dX6_says_32 : decode cX6_says 32 = .ok (.iconst 1, 1) := by decide +kernel
theorem dX6_says_33 : decode cX6_says 33 = .ok (.if_icmp .ne 7, 3) := by decide +kernel
theorem dX6_says_36 : decode cX6_says 36 = .ok (.iconst 0, 1) := by decide +kernel
theorem dX6_says_37 : decode cX6_says 37 = .ok (.goto 4, 3) := by decide +kernel
theorem dX6_says_40 : decode cX6_says 40 = .ok (.iload_n 2, 1) := by decide +kernel
theorem dX6_says_41 : decode cX6_says 41 = .ok (.putfield 231, 3) := by decide +kernel
theorem dX6_says_44 : decode cX6_says 44 = .ok (.aload_n 0, 1) := by decide +kernel
theorem dX6_says_45 : decode cX6_says 45 = .ok (.aload_n 0, 1) := by decide +kernel
theorem dX6_says_46 : decode cX6_says 46 = .ok (.getfield 111, 3) := by decide +kernel
theorem dX6_says_49 : decode cX6_says 49 = .ok (.putfield 234, 3) := by decide +kernel
theorem dX6_says_52 : decode cX6_says 52 = .ok (.aload_n 0, 1) := by decide +kernel
theorem dX6_says_53 : decode cX6_says 53 = .ok (.iload_n 1, 1) := by decide +kernel
theorem dX6_says_54 : decode cX6_says 54 = .ok (.ifCond .ne 12, 3) := by decide +kernel
theorem dX6_says_57 : decode cX6_says 57 = .ok (.aload_n 0, 1) := by decide +kernel
theorem dX6_says_58 : decode cX6_says 58 = .ok (.iload 4, 2) := by decide +kernel
theorem dX6_says_60 : decode cX6_says 60 = .ok (.invokevirtual 127, 3) := by decide +kernel
theorem dX6_says_63 : decode cX6_says 63 = .ok (.goto 4, 3) := by decide +kernel
theorem dX6_says_66 : decode cX6_says 66 = .ok (.iconst 0, 1) := by decide +kernel
theorem dX6_says_67 : decode cX6_says 67 = .ok (.putfield 237, 3) := by decide +kernel
theorem dX6_says_70 : decode cX6_says 70 = .ok (.aload_n 0, 1) := by decide +kernel
theorem dX6_says_71 : decode cX6_says 71 = .ok (.aload_n 0, 1) := by decide +kernel
theorem dX6_says_72 : decode cX6_says 72 = .ok (.getfield 370, 3) := by decide +kernel
theorem dX6_says_75 : decode cX6_says 75 = .ok (.iload_n 1, 1) := by decide +kernel
theorem dX6_says_76 : decode cX6_says 76 = .ok (.invokevirtual 367, 3) := by decide +kernel
theorem dX6_says_79 : decode cX6_says 79 = .ok (.iconst 0, 1) := by decide +kernel
theorem dX6_says_80 : decode cX6_says 80 = .ok (.iload_n 1, 1) := by decide +kernel
theorem dX6_says_81 : decode cX6_says 81 = .ok (.ifCond .ne 8, 3) := by decide +kernel
theorem dX6_says_84 : decode cX6_says 84 = .ok (.bipush 99, 2) := by decide +kernel
theorem dX6_says_86 : decode cX6_says 86 = .ok (.goto 17, 3) := by decide +kernel
theorem dX6_says_89 : decode cX6_says 89 = .ok (.iload_n 1, 1) := by decide +kernel
theorem dX6_says_90 : decode cX6_says 90 = .ok (.iconst 1, 1) := by decide +kernel
theorem dX6_says_91 : decode cX6_says 91 = .ok (.if_icmp .ne 9, 3) := by decide +kernel
theorem dX6_says_94 : decode cX6_says 94 = .ok (.sipush 9999, 3) := by decide +kernel
theorem dX6_says_97 : decode cX6_says 97 = .ok (.goto 6, 3) := by decide +kernel
theorem dX6_says_100 : decode cX6_says 100 = .ok (.sipush 999, 3) := by decide +kernel
theorem dX6_says_103 : decode cX6_says 103 = .ok (.invokestatic 373, 3) := by decide +kernel
theorem dX6_says_106 : decode cX6_says 106 = .ok (.ireturn, 1) := by decide +kernel
theorem dX6_asks_0 : decode cX6_asks 0 = .ok (.iload_n 1, 1) := by decide +kernel
theorem dX6_asks_1 : decode cX6_asks 1 = .ok (.i2l, 1) := by decide +kernel
theorem dX6_asks_2 : decode cX6_asks 2 = .ok (.lconst 0, 1) := by decide +kernel
theorem dX6_asks_3 : decode cX6_asks 3 = .ok (.ldc2_w 377, 3) := by decide +kernel
theorem dX6_asks_6 : decode cX6_asks 6 = .ok (.invokestatic 107, 3) := by decide +kernel
theorem dX6_asks_9 : decode cX6_asks 9 = .ok (.ifCond .eq 28, 3) := by decide +kernel
theorem dX6_asks_12 : decode cX6_asks 12 = .ok (.iload_n 1, 1) := by decide +kernel
theorem dX6_asks_13 : decode cX6_asks 13 = .ok (.iconst 1, 1) := by decide +kernel
theorem dX6_asks_14 : decode cX6_asks 14 = .ok (.if_icmp .eq 11, 3) := by decide +kernel
theorem dX6_asks_17 : decode cX6_asks 17 = .ok (.aload_n 0, 1) := by decide +kernel
theorem dX6_asks_18 : decode cX6_asks 18 = .ok (.iload_n 2, 1) := by decide +kernel
theorem dX6_asks_19 : decode cX6_asks 19 = .ok (.invokevirtual 155, 3) := by decide +kernel
theorem dX6_asks_22 : decode cX6_asks 22 = .ok (.ifCond .eq 15, 3) := by decide +kernel
theorem dX6_asks_25 : decode cX6_asks 25 = .ok (.iload_n 1, 1) := by decide +kernel
theorem dX6_asks_26 : decode cX6_asks 26 = .ok (.ifCond .ne 13, 3) := by decide +kernel
theorem dX6_asks_29 : decode cX6_asks 29 = .ok (.aload_n 0, 1) := by decide +kernel
theorem dX6_asks_30 : decode cX6_asks 30 = .ok (.iload_n 3, 1) := by decide +kernel
theorem dX6_asks_31 : decode cX6_asks 31 = .ok (.invokevirtual 149, 3) := by decide +kernel
theorem dX6_asks_34 : decode cX6_asks 34 = .ok (.ifCond .ne 5, 3) := by decide +kernel
theorem dX6_asks_37 : decode cX6_asks 37 = .ok (.iconst (-1), 1) := by decide +kernel
theorem dX6_asks_38 : decode cX6_asks 38 = .ok (.ireturn, 1) := by decide +kernel
theorem dX6_asks_39 : decode cX6_asks 39 = .ok (.iload_n 1, 1) := by decide +kernel
theorem dX6_asks_40 : decode cX6_asks 40 = .ok (.ifCond .ne 19, 3) := by decide +kernel
theorem dX6_asks_43 : decode cX6_asks 43 = .ok (.aload_n 0, 1) := by decide +kernel
theorem dX6_asks_44 : decode cX6_asks 44 = .ok (.iconst 0, 1) := by decide +kernel
theorem dX6_asks_45 : decode cX6_asks 45 = .ok (.iload_n 2, 1) := by decide +kernel
theorem dX6_asks_46 : decode cX6_asks 46 = .ok (.aload_n 0, 1) := by decide +kernel
theorem dX6_asks_47 : decode cX6_asks 47 = .ok (.getfield 35, 3) := by decide +kernel
theorem dX6_asks_50 : decode cX6_asks 50 = .ok (.iload_n 2, 1) := by decide +kernel
theorem dX6_asks_51 : decode cX6_asks 51 = .ok (.iaload, 1) := by decide +kernel
theorem dX6_asks_52 : decode cX6_asks 52 = .ok (.iload_n 3, 1) := by decide +kernel
theorem dX6_asks_53 : decode cX6_asks 53 = .ok (.invokevirtual 379, 3) := by decide +kernel
theorem dX6_asks_56 : decode cX6_asks 56 = .ok (.goto 32, 3) := by decide +kernel
theorem dX6_asks_59 : decode cX6_asks 59 = .ok (.iload_n 1, 1) := by decide +kernel
theorem dX6_asks_60 : decode cX6_asks 60 = .ok (.iconst 1, 1) := by decide +kernel
theorem dX6_asks_61 : decode cX6_asks 61 = .ok (.if_icmp .ne 14, 3) := by decide +kernel
theorem dX6_asks_64 : decode cX6_asks 64 = .ok (.aload_n 0, 1) := by decide +kernel
theorem dX6_asks_65 : decode cX6_asks 65 = .ok (.iconst 1, 1) := by decide +kernel
theorem dX6_asks_66 : decode cX6_asks 66 = .ok (.iconst 0, 1) := by decide +kernel
theorem dX6_asks_67 : decode cX6_asks 67 = .ok (.iconst 0, 1) := by decide +kernel
theorem dX6_asks_68 : decode cX6_asks 68 = .ok (.iconst 0, 1) := by decide +kernel
theorem dX6_asks_69 : decode cX6_asks 69 = .ok (.invokevirtual 379, 3) := by decide +kernel
theorem dX6_asks_72 : decode cX6_asks 72 = .ok (.goto 16, 3) := by decide +kernel
theorem dX6_asks_75 : decode cX6_asks 75 = .ok (.aload_n 0, 1) := by decide +kernel
theorem dX6_asks_76 : decode cX6_asks 76 = .ok (.iconst 2, 1) := by decide +kernel
theorem dX6_asks_77 : decode cX6_asks 77 = .ok (.iload_n 2, 1) := by decide +kernel
theorem dX6_asks_78 : decode cX6_asks 78 = .ok (.aload_n 0, 1) := by decide +kernel
theorem dX6_asks_79 : decode cX6_asks 79 = .ok (.getfield 35, 3) := by decide +kernel
theorem dX6_asks_82 : decode cX6_asks 82 = .ok (.iload_n 2, 1) := by decide +kernel
theorem dX6_asks_83 : decode cX6_asks 83 = .ok (.iaload, 1) := by decide +kernel
theorem dX6_asks_84 : decode cX6_asks 84 = .ok (.iconst 0, 1) := by decide +kernel
theorem dX6_asks_85 : decode cX6_asks 85 = .ok (.invokevirtual 379, 3) := by decide +kernel
theorem dX6_asks_88 : decode cX6_asks 88 = .ok (.ireturn, 1) := by decide +kernel
theorem dX6_move_0 : decode cX6_move 0 = .ok (.aload_n 0, 1) := by decide +kernel
theorem dX6_move_1 : decode cX6_move 1 = .ok (.iload_n 1, 1) := by decide +kernel
theorem dX6_move_2 : decode cX6_move 2 = .ok (.invokevirtual 155, 3) := by decide +kernel
theorem dX6_move_5 : decode cX6_move 5 = .ok (.ifCond .eq 11, 3) := by decide +kernel
theorem dX6_move_8 : decode cX6_move 8 = .ok (.aload_n 0, 1) := by decide +kernel
theorem dX6_move_9 : decode cX6_move 9 = .ok (.iload_n 2, 1) := by decide +kernel
theorem dX6_move_10 : decode cX6_move 10 = .ok (.invokevirtual 149, 3) := by decide +kernel
theorem dX6_move_13 : decode cX6_move 13 = .ok (.ifCond .ne 6, 3) := by decide +kernel
theorem dX6_move_16 : decode cX6_move 16 = .ok (.bipush (-2), 2) := by decide +kernel
theorem dX6_move_18 : decode cX6_move 18 = .ok (.ireturn, 1) := by decide +kernel
theorem dX6_move_19 : decode cX6_move 19 = .ok (.aload_n 0, 1) := by decide +kernel
theorem dX6_move_20 : decode cX6_move 20 = .ok (.iload_n 1, 1) := by decide +kernel
theorem dX6_move_21 : decode cX6_move 21 = .ok (.iload_n 2, 1) := by decide +kernel
theorem dX6_move_22 : decode cX6_move 22 = .ok (.invokevirtual 383, 3) := by decide +kernel
theorem dX6_move_25 : decode cX6_move 25 = .ok (.ifCond .ne 6, 3) := by decide +kernel
theorem dX6_move_28 : decode cX6_move 28 = .ok (.bipush (-3), 2) := by decide +kernel
theorem dX6_move_30 : decode cX6_move 30 = .ok (.ireturn, 1) := by decide +kernel
theorem dX6_move_31 : decode cX6_move 31 = .ok (.aload_n 0, 1) := by decide +kernel
theorem dX6_move_32 : decode cX6_move 32 = .ok (.iconst 0, 1) := by decide +kernel
theorem dX6_move_33 : decode cX6_move 33 = .ok (.iload_n 1, 1) := by decide +kernel
theorem dX6_move_34 : decode cX6_move 34 = .ok (.aload_n 0, 1) := by decide +kernel
theorem dX6_move_35 : decode cX6_move 35 = .ok (.getfield 35, 3) := by decide +kernel
theorem dX6_move_38 : decode cX6_move 38 = .ok (.iload_n 1, 1) := by decide +kernel
theorem dX6_move_39 : decode cX6_move 39 = .ok (.iaload, 1) := by decide +kernel
theorem dX6_move_40 : decode cX6_move 40 = .ok (.iload_n 2, 1) := by decide +kernel
theorem dX6_move_41 : decode cX6_move 41 = .ok (.invokevirtual 379, 3) := by decide +kernel
theorem dX6_move_44 : decode cX6_move 44 = .ok (.istore_n 3, 1) := by decide +kernel
theorem dX6_move_45 : decode cX6_move 45 = .ok (.aload_n 0, 1) := by decide +kernel
theorem dX6_move_46 : decode cX6_move 46 = .ok (.getfield 35, 3) := by decide +kernel
theorem dX6_move_49 : decode cX6_move 49 = .ok (.iload_n 1, 1) := by decide +kernel
theorem dX6_move_50 : decode cX6_move 50 = .ok (.iload_n 2, 1) := by decide +kernel
theorem dX6_move_51 : decode cX6_move 51 = .ok (.iastore, 1) := by decide +kernel
theorem dX6_move_52 : decode cX6_move 52 = .ok (.iload_n 3, 1) := by decide +kernel
theorem dX6_move_53 : decode cX6_move 53 = .ok (.ireturn, 1) := by decide +kernel
theorem dX6_why_0 : decode cX6_why 0 = .ok (.aload_n 0, 1) := by decide +kernel
theorem dX6_why_1 : decode cX6_why 1 = .ok (.iload_n 1, 1) := by decide +kernel
theorem dX6_why_2 : decode cX6_why 2 = .ok (.invokevirtual 155, 3) := by decide +kernel
theorem dX6_why_5 : decode cX6_why 5 = .ok (.ifCond .eq 11, 3) := by decide +kernel
theorem dX6_why_8 : decode cX6_why 8 = .ok (.aload_n 0, 1) := by decide +kernel
theorem dX6_why_9 : decode cX6_why 9 = .ok (.iload_n 2, 1) := by decide +kernel
theorem dX6_why_10 : decode cX6_why 10 = .ok (.invokevirtual 149, 3) := by decide +kernel
theorem dX6_why_13 : decode cX6_why 13 = .ok (.ifCond .ne 6, 3) := by decide +kernel
theorem dX6_why_16 : decode cX6_why 16 = .ok (.bipush (-2), 2) := by decide +kernel
theorem dX6_why_18 : decode cX6_why 18 = .ok (.ireturn, 1) := by decide +kernel
theorem dX6_why_19 : decode cX6_why 19 = .ok (.aload_n 0, 1) := by decide +kernel
theorem dX6_why_20 : decode cX6_why 20 = .ok (.getfield 35, 3) := by decide +kernel
theorem dX6_why_23 : decode cX6_why 23 = .ok (.iload_n 1, 1) := by decide +kernel
theorem dX6_why_24 : decode cX6_why 24 = .ok (.iaload, 1) := by decide +kernel
theorem dX6_why_25 : decode cX6_why 25 = .ok (.iload_n 2, 1) := by decide +kernel
theorem dX6_why_26 : decode cX6_why 26 = .ok (.if_icmp .ne 7, 3) := by decide +kernel
theorem dX6_why_29 : decode cX6_why 29 = .ok (.iconst 1, 1) := by decide +kernel
theorem dX6_why_30 : decode cX6_why 30 = .ok (.goto 9, 3) := by decide +kernel
theorem dX6_why_33 : decode cX6_why 33 = .ok (.aload_n 0, 1) := by decide +kernel
theorem dX6_why_34 : decode cX6_why 34 = .ok (.iload_n 1, 1) := by decide +kernel
theorem dX6_why_35 : decode cX6_why 35 = .ok (.iload_n 2, 1) := by decide +kernel
theorem dX6_why_36 : decode cX6_why 36 = .ok (.invokevirtual 137, 3) := by decide +kernel
theorem dX6_why_39 : decode cX6_why 39 = .ok (.ireturn, 1) := by decide +kernel
theorem dX6_isOpen_0 : decode cX6_isOpen 0 = .ok (.aload_n 0, 1) := by decide +kernel
theorem dX6_isOpen_1 : decode cX6_isOpen 1 = .ok (.getfield 41, 3) := by decide +kernel
theorem dX6_isOpen_4 : decode cX6_isOpen 4 = .ok (.iconst (-1), 1) := by decide +kernel
theorem dX6_isOpen_5 : decode cX6_isOpen 5 = .ok (.if_icmp .eq 19, 3) := by decide +kernel
theorem dX6_isOpen_8 : decode cX6_isOpen 8 = .ok (.aload_n 0, 1) := by decide +kernel
theorem dX6_isOpen_9 : decode cX6_isOpen 9 = .ok (.aload_n 0, 1) := by decide +kernel
theorem dX6_isOpen_10 : decode cX6_isOpen 10 = .ok (.getfield 35, 3) := by decide +kernel
theorem dX6_isOpen_13 : decode cX6_isOpen 13 = .ok (.aload_n 0, 1) := by decide +kernel
theorem dX6_isOpen_14 : decode cX6_isOpen 14 = .ok (.getfield 41, 3) := by decide +kernel
theorem dX6_isOpen_17 : decode cX6_isOpen 17 = .ok (.iaload, 1) := by decide +kernel
theorem dX6_isOpen_18 : decode cX6_isOpen 18 = .ok (.invokevirtual 160, 3) := by decide +kernel
theorem dX6_isOpen_21 : decode cX6_isOpen 21 = .ok (.ifCond .ne 5, 3) := by decide +kernel
theorem dX6_isOpen_24 : decode cX6_isOpen 24 = .ok (.iconst 0, 1) := by decide +kernel
theorem dX6_isOpen_25 : decode cX6_isOpen 25 = .ok (.ireturn, 1) := by decide +kernel
theorem dX6_isOpen_26 : decode cX6_isOpen 26 = .ok (.iconst 0, 1) := by decide +kernel
theorem dX6_isOpen_27 : decode cX6_isOpen 27 = .ok (.istore_n 1, 1) := by decide +kernel
theorem dX6_isOpen_28 : decode cX6_isOpen 28 = .ok (.iconst 0, 1) := by decide +kernel
theorem dX6_isOpen_29 : decode cX6_isOpen 29 = .ok (.istore_n 2, 1) := by decide +kernel
theorem dX6_isOpen_30 : decode cX6_isOpen 30 = .ok (.iload_n 2, 1) := by decide +kernel
theorem dX6_isOpen_31 : decode cX6_isOpen 31 = .ok (.aload_n 0, 1) := by decide +kernel
theorem dX6_isOpen_32 : decode cX6_isOpen 32 = .ok (.getfield 104, 3) := by decide +kernel
theorem dX6_isOpen_35 : decode cX6_isOpen 35 = .ok (.if_icmp .ge 47, 3) := by decide +kernel
theorem dX6_isOpen_38 : decode cX6_isOpen 38 = .ok (.iload_n 1, 1) := by decide +kernel
theorem dX6_isOpen_39 : decode cX6_isOpen 39 = .ok (.iload_n 2, 1) := by decide +kernel
theorem dX6_isOpen_40 : decode cX6_isOpen 40 = .ok (.aload_n 0, 1) := by decide +kernel
theorem dX6_isOpen_41 : decode cX6_isOpen 41 = .ok (.getfield 35, 3) := by decide +kernel
theorem dX6_isOpen_44 : decode cX6_isOpen 44 = .ok (.aload_n 0, 1) := by decide +kernel
theorem dX6_isOpen_45 : decode cX6_isOpen 45 = .ok (.getfield 41, 3) := by decide +kernel
theorem dX6_isOpen_48 : decode cX6_isOpen 48 = .ok (.iaload, 1) := by decide +kernel
theorem dX6_isOpen_49 : decode cX6_isOpen 49 = .ok (.if_icmp .eq 24, 3) := by decide +kernel
theorem dX6_isOpen_52 : decode cX6_isOpen 52 = .ok (.aload_n 0, 1) := by decide +kernel
theorem dX6_isOpen_53 : decode cX6_isOpen 53 = .ok (.iload_n 2, 1) := by decide +kernel
theorem dX6_isOpen_54 : decode cX6_isOpen 54 = .ok (.invokevirtual 160, 3) := by decide +kernel
theorem dX6_isOpen_57 : decode cX6_isOpen 57 = .ok (.iconst 1, 1) := by decide +kernel
theorem dX6_isOpen_58 : decode cX6_isOpen 58 = .ok (.if_icmp .ne 15, 3) := by decide +kernel
theorem dX6_isOpen_61 : decode cX6_isOpen 61 = .ok (.aload_n 0, 1) := by decide +kernel
theorem dX6_isOpen_62 : decode cX6_isOpen 62 = .ok (.iload_n 2, 1) := by decide +kernel
theorem dX6_isOpen_63 : decode cX6_isOpen 63 = .ok (.invokevirtual 130, 3) := by decide +kernel
theorem dX6_isOpen_66 : decode cX6_isOpen 66 = .ok (.ifCond .ne 7, 3) := by decide +kernel
theorem dX6_isOpen_69 : decode cX6_isOpen 69 = .ok (.iconst 1, 1) := by decide +kernel
theorem dX6_isOpen_70 : decode cX6_isOpen 70 = .ok (.goto 4, 3) := by decide +kernel
theorem dX6_isOpen_73 : decode cX6_isOpen 73 = .ok (.iconst 0, 1) := by decide +kernel
theorem dX6_isOpen_74 : decode cX6_isOpen 74 = .ok (.iadd, 1) := by decide +kernel
theorem dX6_isOpen_75 : decode cX6_isOpen 75 = .ok (.istore_n 1, 1) := by decide +kernel
theorem dX6_isOpen_76 : decode cX6_isOpen 76 = .ok (.iinc 2 1, 3) := by decide +kernel
theorem dX6_isOpen_79 : decode cX6_isOpen 79 = .ok (.goto (-49), 3) := by decide +kernel
theorem dX6_isOpen_82 : decode cX6_isOpen 82 = .ok (.iload_n 1, 1) := by decide +kernel
theorem dX6_isOpen_83 : decode cX6_isOpen 83 = .ok (.aload_n 0, 1) := by decide +kernel
theorem dX6_isOpen_84 : decode cX6_isOpen 84 = .ok (.getfield 44, 3) := by decide +kernel
theorem dX6_isOpen_87 : decode cX6_isOpen 87 = .ok (.if_icmp .lt 7, 3) := by decide +kernel
theorem dX6_isOpen_90 : decode cX6_isOpen 90 = .ok (.iconst 1, 1) := by decide +kernel
theorem dX6_isOpen_91 : decode cX6_isOpen 91 = .ok (.goto 4, 3) := by decide +kernel
theorem dX6_isOpen_94 : decode cX6_isOpen 94 = .ok (.iconst 0, 1) := by decide +kernel
theorem dX6_isOpen_95 : decode cX6_isOpen 95 = .ok (.ireturn, 1) := by decide +kernel
theorem dX6_open_0 : decode cX6_open 0 = .ok (.iload_n 1, 1) := by decide +kernel
theorem dX6_open_1 : decode cX6_open 1 = .ok (.i2l, 1) := by decide +kernel
theorem dX6_open_2 : decode cX6_open 2 = .ok (.lconst 0, 1) := by decide +kernel
theorem dX6_open_3 : decode cX6_open 3 = .ok (.ldc2_w 377, 3) := by decide +kernel
theorem dX6_open_6 : decode cX6_open 6 = .ok (.invokestatic 107, 3) := by decide +kernel
theorem dX6_open_9 : decode cX6_open 9 = .ok (.ifCond .ne 6, 3) := by decide +kernel
theorem dX6_open_12 : decode cX6_open 12 = .ok (.bipush (-2), 2) := by decide +kernel
theorem dX6_open_14 : decode cX6_open 14 = .ok (.ireturn, 1) := by decide +kernel
theorem dX6_open_15 : decode cX6_open 15 = .ok (.iload_n 1, 1) := by decide +kernel
theorem dX6_open_16 : decode cX6_open 16 = .ok (.ifCond .ne 16, 3) := by decide +kernel
theorem dX6_open_19 : decode cX6_open 19 = .ok (.aload_n 0, 1) := by decide +kernel
theorem dX6_open_20 : decode cX6_open 20 = .ok (.invokevirtual 386, 3) := by decide +kernel
theorem dX6_open_23 : decode cX6_open 23 = .ok (.ifCond .eq 7, 3) := by decide +kernel
theorem dX6_open_26 : decode cX6_open 26 = .ok (.iconst 1, 1) := by decide +kernel
theorem dX6_open_27 : decode cX6_open 27 = .ok (.goto 4, 3) := by decide +kernel
theorem dX6_open_30 : decode cX6_open 30 = .ok (.iconst 0, 1) := by decide +kernel
theorem dX6_open_31 : decode cX6_open 31 = .ok (.ireturn, 1) := by decide +kernel
theorem dX6_open_32 : decode cX6_open 32 = .ok (.iconst 0, 1) := by decide +kernel
theorem dX6_open_33 : decode cX6_open 33 = .ok (.istore_n 2, 1) := by decide +kernel
theorem dX6_open_34 : decode cX6_open 34 = .ok (.iload_n 1, 1) := by decide +kernel
theorem dX6_open_35 : decode cX6_open 35 = .ok (.iconst 1, 1) := by decide +kernel
theorem dX6_open_36 : decode cX6_open 36 = .ok (.if_icmp .ne 46, 3) := by decide +kernel
theorem dX6_open_39 : decode cX6_open 39 = .ok (.iconst 0, 1) := by decide +kernel
theorem dX6_open_40 : decode cX6_open 40 = .ok (.istore_n 3, 1) := by decide +kernel
theorem dX6_open_41 : decode cX6_open 41 = .ok (.iload_n 3, 1) := by decide +kernel
theorem dX6_open_42 : decode cX6_open 42 = .ok (.aload_n 0, 1) := by decide +kernel
theorem dX6_open_43 : decode cX6_open 43 = .ok (.getfield 104, 3) := by decide +kernel
theorem dX6_open_46 : decode cX6_open 46 = .ok (.if_icmp .ge 34, 3) := by decide +kernel
theorem dX6_open_49 : decode cX6_open 49 = .ok (.iload_n 2, 1) := by decide +kernel
theorem dX6_open_50 : decode cX6_open 50 = .ok (.aload_n 0, 1) := by decide +kernel
theorem dX6_open_51 : decode cX6_open 51 = .ok (.iload_n 3, 1) := by decide +kernel
theorem dX6_open_52 : decode cX6_open 52 = .ok (.invokevirtual 160, 3) := by decide +kernel
theorem dX6_open_55 : decode cX6_open 55 = .ok (.iconst 1, 1) := by decide +kernel
theorem dX6_open_56 : decode cX6_open 56 = .ok (.if_icmp .ne 15, 3) := by decide +kernel
theorem dX6_open_59 : decode cX6_open 59 = .ok (.aload_n 0, 1) := by decide +kernel
theorem dX6_open_60 : decode cX6_open 60 = .ok (.iload_n 3, 1) := by decide +kernel
theorem dX6_open_61 : decode cX6_open 61 = .ok (.invokevirtual 130, 3) := by decide +kernel
theorem dX6_open_64 : decode cX6_open 64 = .ok (.ifCond .ne 7, 3) := by decide +kernel
theorem dX6_open_67 : decode cX6_open 67 = .ok (.iconst 1, 1) := by decide +kernel
theorem dX6_open_68 : decode cX6_open 68 = .ok (.goto 4, 3) := by decide +kernel
theorem dX6_open_71 : decode cX6_open 71 = .ok (.iconst 0, 1) := by decide +kernel
theorem dX6_open_72 : decode cX6_open 72 = .ok (.iadd, 1) := by decide +kernel
theorem dX6_open_73 : decode cX6_open 73 = .ok (.istore_n 2, 1) := by decide +kernel
theorem dX6_open_74 : decode cX6_open 74 = .ok (.iinc 3 1, 3) := by decide +kernel
theorem dX6_open_77 : decode cX6_open 77 = .ok (.goto (-36), 3) := by decide +kernel
theorem dX6_open_80 : decode cX6_open 80 = .ok (.iload_n 2, 1) := by decide +kernel
theorem dX6_open_81 : decode cX6_open 81 = .ok (.ireturn, 1) := by decide +kernel
theorem dX6_open_82 : decode cX6_open 82 = .ok (.iconst 0, 1) := by decide +kernel
theorem dX6_open_83 : decode cX6_open 83 = .ok (.istore_n 3, 1) := by decide +kernel
theorem dX6_open_84 : decode cX6_open 84 = .ok (.iload_n 3, 1) := by decide +kernel
theorem dX6_open_85 : decode cX6_open 85 = .ok (.aload_n 0, 1) := by decide +kernel
theorem dX6_open_86 : decode cX6_open 86 = .ok (.getfield 111, 3) := by decide +kernel
theorem dX6_open_89 : decode cX6_open 89 = .ok (.if_icmp .ge 45, 3) := by decide +kernel
theorem dX6_open_92 : decode cX6_open 92 = .ok (.iconst 0, 1) := by decide +kernel
theorem dX6_open_93 : decode cX6_open 93 = .ok (.istore 4, 2) := by decide +kernel
theorem dX6_open_95 : decode cX6_open 95 = .ok (.iload 4, 2) := by decide +kernel
theorem dX6_open_97 : decode cX6_open 97 = .ok (.aload_n 0, 1) := by decide +kernel
theorem dX6_open_98 : decode cX6_open 98 = .ok (.getfield 104, 3) := by decide +kernel
theorem dX6_open_101 : decode cX6_open 101 = .ok (.if_icmp .ge 27, 3) := by decide +kernel
theorem dX6_open_104 : decode cX6_open 104 = .ok (.iload_n 2, 1) := by decide +kernel
theorem dX6_open_105 : decode cX6_open 105 = .ok (.aload_n 0, 1) := by decide +kernel
theorem dX6_open_106 : decode cX6_open 106 = .ok (.iload_n 3, 1) := by decide +kernel
theorem dX6_open_107 : decode cX6_open 107 = .ok (.iload 4, 2) := by decide +kernel
theorem dX6_open_109 : decode cX6_open 109 = .ok (.invokevirtual 383, 3) := by decide +kernel
theorem dX6_open_112 : decode cX6_open 112 = .ok (.ifCond .eq 7, 3) := by decide +kernel
theorem dX6_open_115 : decode cX6_open 115 = .ok (.iconst 1, 1) := by decide +kernel
theorem dX6_open_116 : decode cX6_open 116 = .ok (.goto 4, 3) := by decide +kernel
theorem dX6_open_119 : decode cX6_open 119 = .ok (.iconst 0, 1) := by decide +kernel
theorem dX6_open_120 : decode cX6_open 120 = .ok (.iadd, 1) := by decide +kernel
theorem dX6_open_121 : decode cX6_open 121 = .ok (.istore_n 2, 1) := by decide +kernel
theorem dX6_open_122 : decode cX6_open 122 = .ok (.iinc 4 1, 3) := by decide +kernel
theorem dX6_open_125 : decode cX6_open 125 = .ok (.goto (-30), 3) := by decide +kernel
theorem dX6_open_128 : decode cX6_open 128 = .ok (.iinc 3 1, 3) := by decide +kernel
theorem dX6_open_131 : decode cX6_open 131 = .ok (.goto (-47), 3) := by decide +kernel
theorem dX6_open_134 : decode cX6_open 134 = .ok (.iload_n 2, 1) := by decide +kernel
theorem dX6_open_135 : decode cX6_open 135 = .ok (.ireturn, 1) := by decide +kernel
theorem dX6_place_0 : decode cX6_place 0 = .ok (.iload_n 0, 1) := by decide +kernel
theorem dX6_place_1 : decode cX6_place 1 = .ok (.ifCond .ne 7, 3) := by decide +kernel
theorem dX6_place_4 : decode cX6_place 4 = .ok (.iconst 1, 1) := by decide +kernel
theorem dX6_place_5 : decode cX6_place 5 = .ok (.goto 35, 3) := by decide +kernel
theorem dX6_place_8 : decode cX6_place 8 = .ok (.iload_n 0, 1) := by decide +kernel
theorem dX6_place_9 : decode cX6_place 9 = .ok (.iconst 1, 1) := by decide +kernel
theorem dX6_place_10 : decode cX6_place 10 = .ok (.if_icmp .ne 7, 3) := by decide +kernel
theorem dX6_place_13 : decode cX6_place 13 = .ok (.iconst 5, 1) := by decide +kernel
theorem dX6_place_14 : decode cX6_place 14 = .ok (.goto 26, 3) := by decide +kernel
theorem dX6_place_17 : decode cX6_place 17 = .ok (.iload_n 0, 1) := by decide +kernel
theorem dX6_place_18 : decode cX6_place 18 = .ok (.iconst 2, 1) := by decide +kernel
theorem dX6_place_19 : decode cX6_place 19 = .ok (.if_icmp .ne 8, 3) := by decide +kernel
theorem dX6_place_22 : decode cX6_place 22 = .ok (.bipush 25, 2) := by decide +kernel
theorem dX6_place_24 : decode cX6_place 24 = .ok (.goto 16, 3) := by decide +kernel
theorem dX6_place_27 : decode cX6_place 27 = .ok (.iload_n 0, 1) := by decide +kernel
theorem dX6_place_28 : decode cX6_place 28 = .ok (.iconst 3, 1) := by decide +kernel
theorem dX6_place_29 : decode cX6_place 29 = .ok (.if_icmp .ne 8, 3) := by decide +kernel
theorem dX6_place_32 : decode cX6_place 32 = .ok (.bipush 125, 2) := by decide +kernel
theorem dX6_place_34 : decode cX6_place 34 = .ok (.goto 6, 3) := by decide +kernel
theorem dX6_place_37 : decode cX6_place 37 = .ok (.sipush 625, 3) := by decide +kernel
theorem dX6_place_40 : decode cX6_place 40 = .ok (.ireturn, 1) := by decide +kernel
theorem dX6_codeNow_0 : decode cX6_codeNow 0 = .ok (.iconst 0, 1) := by decide +kernel
theorem dX6_codeNow_1 : decode cX6_codeNow 1 = .ok (.istore_n 1, 1) := by decide +kernel
theorem dX6_codeNow_2 : decode cX6_codeNow 2 = .ok (.iconst 0, 1) := by decide +kernel
theorem dX6_codeNow_3 : decode cX6_codeNow 3 = .ok (.istore_n 2, 1) := by decide +kernel
theorem dX6_codeNow_4 : decode cX6_codeNow 4 = .ok (.iload_n 2, 1) := by decide +kernel
theorem dX6_codeNow_5 : decode cX6_codeNow 5 = .ok (.aload_n 0, 1) := by decide +kernel
theorem dX6_codeNow_6 : decode cX6_codeNow 6 = .ok (.getfield 111, 3) := by decide +kernel
theorem dX6_codeNow_9 : decode cX6_codeNow 9 = .ok (.if_icmp .ge 23, 3) := by decide +kernel
theorem dX6_codeNow_12 : decode cX6_codeNow 12 = .ok (.iload_n 1, 1) := by decide +kernel
theorem dX6_codeNow_13 : decode cX6_codeNow 13 = .ok (.iload_n 2, 1) := by decide +kernel
theorem dX6_codeNow_14 : decode cX6_codeNow 14 = .ok (.invokestatic 389, 3) := by decide +kernel
theorem dX6_codeNow_17 : decode cX6_codeNow 17 = .ok (.aload_n 0, 1) := by decide +kernel
theorem dX6_codeNow_18 : decode cX6_codeNow 18 = .ok (.getfield 35, 3) := by decide +kernel
theorem dX6_codeNow_21 : decode cX6_codeNow 21 = .ok (.iload_n 2, 1) := by decide +kernel
theorem dX6_codeNow_22 : decode cX6_codeNow 22 = .ok (.iaload, 1) := by decide +kernel
theorem dX6_codeNow_23 : decode cX6_codeNow 23 = .ok (.imul, 1) := by decide +kernel
theorem dX6_codeNow_24 : decode cX6_codeNow 24 = .ok (.iadd, 1) := by decide +kernel
theorem dX6_codeNow_25 : decode cX6_codeNow 25 = .ok (.istore_n 1, 1) := by decide +kernel
theorem dX6_codeNow_26 : decode cX6_codeNow 26 = .ok (.iinc 2 1, 3) := by decide +kernel
theorem dX6_codeNow_29 : decode cX6_codeNow 29 = .ok (.goto (-25), 3) := by decide +kernel
theorem dX6_codeNow_32 : decode cX6_codeNow 32 = .ok (.iload_n 1, 1) := by decide +kernel
theorem dX6_codeNow_33 : decode cX6_codeNow 33 = .ok (.ireturn, 1) := by decide +kernel
theorem dX6_lays_0 : decode cX6_lays 0 = .ok (.iconst 0, 1) := by decide +kernel
theorem dX6_lays_1 : decode cX6_lays 1 = .ok (.istore_n 2, 1) := by decide +kernel
theorem dX6_lays_2 : decode cX6_lays 2 = .ok (.iload_n 2, 1) := by decide +kernel
theorem dX6_lays_3 : decode cX6_lays 3 = .ok (.aload_n 0, 1) := by decide +kernel
theorem dX6_lays_4 : decode cX6_lays 4 = .ok (.getfield 111, 3) := by decide +kernel
theorem dX6_lays_7 : decode cX6_lays 7 = .ok (.if_icmp .ge 23, 3) := by decide +kernel
theorem dX6_lays_10 : decode cX6_lays 10 = .ok (.aload_n 0, 1) := by decide +kernel
theorem dX6_lays_11 : decode cX6_lays 11 = .ok (.getfield 35, 3) := by decide +kernel
theorem dX6_lays_14 : decode cX6_lays 14 = .ok (.iload_n 2, 1) := by decide +kernel
theorem dX6_lays_15 : decode cX6_lays 15 = .ok (.iload_n 1, 1) := by decide +kernel
theorem dX6_lays_16 : decode cX6_lays 16 = .ok (.iload_n 2, 1) := by decide +kernel
theorem dX6_lays_17 : decode cX6_lays 17 = .ok (.invokestatic 389, 3) := by decide +kernel
theorem dX6_lays_20 : decode cX6_lays 20 = .ok (.idiv, 1) := by decide +kernel
theorem dX6_lays_21 : decode cX6_lays 21 = .ok (.iconst 5, 1) := by decide +kernel
theorem dX6_lays_22 : decode cX6_lays 22 = .ok (.irem, 1) := by decide +kernel
theorem dX6_lays_23 : decode cX6_lays 23 = .ok (.iastore, 1) := by decide +kernel
theorem dX6_lays_24 : decode cX6_lays 24 = .ok (.iinc 2 1, 3) := by decide +kernel
theorem dX6_lays_27 : decode cX6_lays 27 = .ok (.goto (-25), 3) := by decide +kernel
theorem dX6_lays_30 : decode cX6_lays 30 = .ok (.return_, 1) := by decide +kernel
theorem dX6_areWell_0 : decode cX6_areWell 0 = .ok (.iconst 0, 1) := by decide +kernel
theorem dX6_areWell_1 : decode cX6_areWell 1 = .ok (.istore_n 1, 1) := by decide +kernel
theorem dX6_areWell_2 : decode cX6_areWell 2 = .ok (.iload_n 1, 1) := by decide +kernel
theorem dX6_areWell_3 : decode cX6_areWell 3 = .ok (.aload_n 0, 1) := by decide +kernel
theorem dX6_areWell_4 : decode cX6_areWell 4 = .ok (.getfield 111, 3) := by decide +kernel
theorem dX6_areWell_7 : decode cX6_areWell 7 = .ok (.if_icmp .ge 46, 3) := by decide +kernel
theorem dX6_areWell_10 : decode cX6_areWell 10 = .ok (.aload_n 0, 1) := by decide +kernel
theorem dX6_areWell_11 : decode cX6_areWell 11 = .ok (.aload_n 0, 1) := by decide +kernel
theorem dX6_areWell_12 : decode cX6_areWell 12 = .ok (.getfield 35, 3) := by decide +kernel
theorem dX6_areWell_15 : decode cX6_areWell 15 = .ok (.iload_n 1, 1) := by decide +kernel
theorem dX6_areWell_16 : decode cX6_areWell 16 = .ok (.iaload, 1) := by decide +kernel
theorem dX6_areWell_17 : decode cX6_areWell 17 = .ok (.invokevirtual 149, 3) := by decide +kernel
theorem dX6_areWell_20 : decode cX6_areWell 20 = .ok (.ifCond .eq 25, 3) := by decide +kernel
theorem dX6_areWell_23 : decode cX6_areWell 23 = .ok (.iload_n 1, 1) := by decide +kernel
theorem dX6_areWell_24 : decode cX6_areWell 24 = .ok (.aload_n 0, 1) := by decide +kernel
theorem dX6_areWell_25 : decode cX6_areWell 25 = .ok (.getfield 50, 3) := by decide +kernel
theorem dX6_areWell_28 : decode cX6_areWell 28 = .ok (.if_icmp .eq 19, 3) := by decide +kernel
theorem dX6_areWell_31 : decode cX6_areWell 31 = .ok (.aload_n 0, 1) := by decide +kernel
theorem dX6_areWell_32 : decode cX6_areWell 32 = .ok (.iload_n 1, 1) := by decide +kernel
theorem dX6_areWell_33 : decode cX6_areWell 33 = .ok (.aload_n 0, 1) := by decide +kernel
theorem dX6_areWell_34 : decode cX6_areWell 34 = .ok (.getfield 35, 3) := by decide +kernel
theorem dX6_areWell_37 : decode cX6_areWell 37 = .ok (.iload_n 1, 1) := by decide +kernel
theorem dX6_areWell_38 : decode cX6_areWell 38 = .ok (.iaload, 1) := by decide +kernel
theorem dX6_areWell_39 : decode cX6_areWell 39 = .ok (.invokevirtual 137, 3) := by decide +kernel
theorem dX6_areWell_42 : decode cX6_areWell 42 = .ok (.ifCond .eq 5, 3) := by decide +kernel
theorem dX6_areWell_45 : decode cX6_areWell 45 = .ok (.iconst 0, 1) := by decide +kernel
theorem dX6_areWell_46 : decode cX6_areWell 46 = .ok (.ireturn, 1) := by decide +kernel
theorem dX6_areWell_47 : decode cX6_areWell 47 = .ok (.iinc 1 1, 3) := by decide +kernel
theorem dX6_areWell_50 : decode cX6_areWell 50 = .ok (.goto (-48), 3) := by decide +kernel
theorem dX6_areWell_53 : decode cX6_areWell 53 = .ok (.iconst 1, 1) := by decide +kernel
theorem dX6_areWell_54 : decode cX6_areWell 54 = .ok (.ireturn, 1) := by decide +kernel
theorem dX6_after_0 : decode cX6_after 0 = .ok (.iload_n 1, 1) := by decide +kernel
theorem dX6_after_1 : decode cX6_after 1 = .ok (.iload_n 2, 1) := by decide +kernel
theorem dX6_after_2 : decode cX6_after 2 = .ok (.invokestatic 389, 3) := by decide +kernel
theorem dX6_after_5 : decode cX6_after 5 = .ok (.iload_n 3, 1) := by decide +kernel
theorem dX6_after_6 : decode cX6_after 6 = .ok (.iload_n 1, 1) := by decide +kernel
theorem dX6_after_7 : decode cX6_after 7 = .ok (.iload_n 2, 1) := by decide +kernel
theorem dX6_after_8 : decode cX6_after 8 = .ok (.invokestatic 389, 3) := by decide +kernel
theorem dX6_after_11 : decode cX6_after 11 = .ok (.idiv, 1) := by decide +kernel
theorem dX6_after_12 : decode cX6_after 12 = .ok (.iconst 5, 1) := by decide +kernel
theorem dX6_after_13 : decode cX6_after 13 = .ok (.irem, 1) := by decide +kernel
theorem dX6_after_14 : decode cX6_after 14 = .ok (.isub, 1) := by decide +kernel
theorem dX6_after_15 : decode cX6_after 15 = .ok (.imul, 1) := by decide +kernel
theorem dX6_after_16 : decode cX6_after 16 = .ok (.iadd, 1) := by decide +kernel
theorem dX6_after_17 : decode cX6_after 17 = .ok (.ireturn, 1) := by decide +kernel
theorem dX6_gathers_0 : decode cX6_gathers 0 = .ok (.aload_n 0, 1) := by decide +kernel
theorem dX6_gathers_1 : decode cX6_gathers 1 = .ok (.invokevirtual 392, 3) := by decide +kernel
theorem dX6_gathers_4 : decode cX6_gathers 4 = .ok (.istore_n 1, 1) := by decide +kernel
theorem dX6_gathers_5 : decode cX6_gathers 5 = .ok (.aload_n 0, 1) := by decide +kernel
theorem dX6_gathers_6 : decode cX6_gathers 6 = .ok (.getfield 111, 3) := by decide +kernel
theorem dX6_gathers_9 : decode cX6_gathers 9 = .ok (.ifCond .ne 7, 3) := by decide +kernel
theorem dX6_gathers_12 : decode cX6_gathers 12 = .ok (.iconst 1, 1) := by decide +kernel
theorem dX6_gathers_13 : decode cX6_gathers 13 = .ok (.goto 14, 3) := by decide +kernel
theorem dX6_gathers_16 : decode cX6_gathers 16 = .ok (.aload_n 0, 1) := by decide +kernel
theorem dX6_gathers_17 : decode cX6_gathers 17 = .ok (.getfield 111, 3) := by decide +kernel
theorem dX6_gathers_20 : decode cX6_gathers 20 = .ok (.iconst 1, 1) := by decide +kernel
theorem dX6_gathers_21 : decode cX6_gathers 21 = .ok (.isub, 1) := by decide +kernel
theorem dX6_gathers_22 : decode cX6_gathers 22 = .ok (.invokestatic 389, 3) := by decide +kernel
theorem dX6_gathers_25 : decode cX6_gathers 25 = .ok (.iconst 5, 1) := by decide +kernel
theorem dX6_gathers_26 : decode cX6_gathers 26 = .ok (.imul, 1) := by decide +kernel
theorem dX6_gathers_27 : decode cX6_gathers 27 = .ok (.istore_n 2, 1) := by decide +kernel
theorem dX6_gathers_28 : decode cX6_gathers 28 = .ok (.iconst 0, 1) := by decide +kernel
theorem dX6_gathers_29 : decode cX6_gathers 29 = .ok (.istore_n 3, 1) := by decide +kernel
theorem dX6_gathers_30 : decode cX6_gathers 30 = .ok (.iload_n 3, 1) := by decide +kernel
theorem dX6_gathers_31 : decode cX6_gathers 31 = .ok (.aload_n 0, 1) := by decide +kernel
theorem dX6_gathers_32 : decode cX6_gathers 32 = .ok (.getfield 111, 3) := by decide +kernel
theorem dX6_gathers_35 : decode cX6_gathers 35 = .ok (.if_icmp .ge 72, 3) := by decide +kernel
theorem dX6_gathers_38 : decode cX6_gathers 38 = .ok (.iconst 0, 1) := by decide +kernel
theorem dX6_gathers_39 : decode cX6_gathers 39 = .ok (.istore 4, 2) := by decide +kernel
theorem dX6_gathers_41 : decode cX6_gathers 41 = .ok (.iload 4, 2) := by decide +kernel
theorem dX6_gathers_43 : decode cX6_gathers 43 = .ok (.aload_n 0, 1) := by decide +kernel
theorem dX6_gathers_44 : decode cX6_gathers 44 = .ok (.getfield 104, 3) := by decide +kernel
theorem dX6_gathers_47 : decode cX6_gathers 47 = .ok (.if_icmp .ge 54, 3) := by decide +kernel
theorem dX6_gathers_50 : decode cX6_gathers 50 = .ok (.iconst 0, 1) := by decide +kernel
theorem dX6_gathers_51 : decode cX6_gathers 51 = .ok (.istore 5, 2) := by decide +kernel
theorem dX6_gathers_53 : decode cX6_gathers 53 = .ok (.iload 5, 2) := by decide +kernel
theorem dX6_gathers_55 : decode cX6_gathers 55 = .ok (.aload_n 0, 1) := by decide +kernel
theorem dX6_gathers_56 : decode cX6_gathers 56 = .ok (.getfield 104, 3) := by decide +kernel
theorem dX6_gathers_59 : decode cX6_gathers 59 = .ok (.if_icmp .ge 36, 3) := by decide +kernel
theorem dX6_gathers_62 : decode cX6_gathers 62 = .ok (.aload_n 0, 1) := by decide +kernel
theorem dX6_gathers_63 : decode cX6_gathers 63 = .ok (.getfield 65, 3) := by decide +kernel
theorem dX6_gathers_66 : decode cX6_gathers 66 = .ok (.bipush 25, 2) := by decide +kernel
theorem dX6_gathers_68 : decode cX6_gathers 68 = .ok (.iload_n 3, 1) := by decide +kernel
theorem dX6_gathers_69 : decode cX6_gathers 69 = .ok (.imul, 1) := by decide +kernel
theorem dX6_gathers_70 : decode cX6_gathers 70 = .ok (.iconst 5, 1) := by decide +kernel
theorem dX6_gathers_71 : decode cX6_gathers 71 = .ok (.iload 4, 2) := by decide +kernel
theorem dX6_gathers_73 : decode cX6_gathers 73 = .ok (.imul, 1) := by decide +kernel
theorem dX6_gathers_74 : decode cX6_gathers 74 = .ok (.iadd, 1) := by decide +kernel
theorem dX6_gathers_75 : decode cX6_gathers 75 = .ok (.iload 5, 2) := by decide +kernel
theorem dX6_gathers_77 : decode cX6_gathers 77 = .ok (.iadd, 1) := by decide +kernel
theorem dX6_gathers_78 : decode cX6_gathers 78 = .ok (.aload_n 0, 1) := by decide +kernel
theorem dX6_gathers_79 : decode cX6_gathers 79 = .ok (.iconst 0, 1) := by decide +kernel
theorem dX6_gathers_80 : decode cX6_gathers 80 = .ok (.iload_n 3, 1) := by decide +kernel
theorem dX6_gathers_81 : decode cX6_gathers 81 = .ok (.iload 4, 2) := by decide +kernel
theorem dX6_gathers_83 : decode cX6_gathers 83 = .ok (.iload 5, 2) := by decide +kernel
theorem dX6_gathers_85 : decode cX6_gathers 85 = .ok (.invokevirtual 379, 3) := by decide +kernel
theorem dX6_gathers_88 : decode cX6_gathers 88 = .ok (.iastore, 1) := by decide +kernel
theorem dX6_gathers_89 : decode cX6_gathers 89 = .ok (.iinc 5 1, 3) := by decide +kernel
theorem dX6_gathers_92 : decode cX6_gathers 92 = .ok (.goto (-39), 3) := by decide +kernel
theorem dX6_gathers_95 : decode cX6_gathers 95 = .ok (.iinc 4 1, 3) := by decide +kernel
theorem dX6_gathers_98 : decode cX6_gathers 98 = .ok (.goto (-57), 3) := by decide +kernel
theorem dX6_gathers_101 : decode cX6_gathers 101 = .ok (.iinc 3 1, 3) := by decide +kernel
theorem dX6_gathers_104 : decode cX6_gathers 104 = .ok (.goto (-74), 3) := by decide +kernel
theorem dX6_gathers_107 : decode cX6_gathers 107 = .ok (.iconst 0, 1) := by decide +kernel
theorem dX6_gathers_108 : decode cX6_gathers 108 = .ok (.istore_n 3, 1) := by decide +kernel
theorem dX6_gathers_109 : decode cX6_gathers 109 = .ok (.iload_n 3, 1) := by decide +kernel
theorem dX6_gathers_110 : decode cX6_gathers 110 = .ok (.iload_n 2, 1) := by decide +kernel
theorem dX6_gathers_111 : decode cX6_gathers 111 = .ok (.if_icmp .ge 73, 3) := by decide +kernel
theorem dX6_gathers_114 : decode cX6_gathers 114 = .ok (.aload_n 0, 1) := by decide +kernel
theorem dX6_gathers_115 : decode cX6_gathers 115 = .ok (.iload_n 3, 1) := by decide +kernel
theorem dX6_gathers_116 : decode cX6_gathers 116 = .ok (.invokevirtual 395, 3) := by decide +kernel
theorem dX6_gathers_119 : decode cX6_gathers 119 = .ok (.aload_n 0, 1) := by decide +kernel
theorem dX6_gathers_120 : decode cX6_gathers 120 = .ok (.invokevirtual 399, 3) := by decide +kernel
theorem dX6_gathers_123 : decode cX6_gathers 123 = .ok (.istore 4, 2) := by decide +kernel
theorem dX6_gathers_125 : decode cX6_gathers 125 = .ok (.aload_n 0, 1) := by decide +kernel
theorem dX6_gathers_126 : decode cX6_gathers 126 = .ok (.getfield 56, 3) := by decide +kernel
theorem dX6_gathers_129 : decode cX6_gathers 129 = .ok (.iload_n 3, 1) := by decide +kernel
theorem dX6_gathers_130 : decode cX6_gathers 130 = .ok (.iload 4, 2) := by decide +kernel
theorem dX6_gathers_132 : decode cX6_gathers 132 = .ok (.ifCond .eq 7, 3) := by decide +kernel
theorem dX6_gathers_135 : decode cX6_gathers 135 = .ok (.iconst 1, 1) := by decide +kernel
theorem dX6_gathers_136 : decode cX6_gathers 136 = .ok (.goto 4, 3) := by decide +kernel
theorem dX6_gathers_139 : decode cX6_gathers 139 = .ok (.iconst 0, 1) := by decide +kernel
theorem dX6_gathers_140 : decode cX6_gathers 140 = .ok (.iastore, 1) := by decide +kernel
theorem dX6_gathers_141 : decode cX6_gathers 141 = .ok (.aload_n 0, 1) := by decide +kernel
theorem dX6_gathers_142 : decode cX6_gathers 142 = .ok (.getfield 59, 3) := by decide +kernel
theorem dX6_gathers_145 : decode cX6_gathers 145 = .ok (.iload_n 3, 1) := by decide +kernel
theorem dX6_gathers_146 : decode cX6_gathers 146 = .ok (.iload 4, 2) := by decide +kernel
theorem dX6_gathers_148 : decode cX6_gathers 148 = .ok (.ifCond .eq 14, 3) := by decide +kernel
theorem dX6_gathers_151 : decode cX6_gathers 151 = .ok (.aload_n 0, 1) := by decide +kernel
theorem dX6_gathers_152 : decode cX6_gathers 152 = .ok (.invokevirtual 386, 3) := by decide +kernel
theorem dX6_gathers_155 : decode cX6_gathers 155 = .ok (.ifCond .eq 7, 3) := by decide +kernel
theorem dX6_gathers_158 : decode cX6_gathers 158 = .ok (.iconst 0, 1) := by decide +kernel
theorem dX6_gathers_159 : decode cX6_gathers 159 = .ok (.goto 6, 3) := by decide +kernel
theorem dX6_gathers_162 : decode cX6_gathers 162 = .ok (.ldc_w 402, 3) := by decide +kernel
theorem dX6_gathers_165 : decode cX6_gathers 165 = .ok (.iastore, 1) := by decide +kernel
theorem dX6_gathers_166 : decode cX6_gathers 166 = .ok (.aload_n 0, 1) := by decide +kernel
theorem dX6_gathers_167 : decode cX6_gathers 167 = .ok (.getfield 62, 3) := by decide +kernel
theorem dX6_gathers_170 : decode cX6_gathers 170 = .ok (.iload_n 3, 1) := by decide +kernel
theorem dX6_gathers_171 : decode cX6_gathers 171 = .ok (.aload_n 0, 1) := by decide +kernel
theorem dX6_gathers_172 : decode cX6_gathers 172 = .ok (.getfield 59, 3) := by decide +kernel
theorem dX6_gathers_175 : decode cX6_gathers 175 = .ok (.iload_n 3, 1) := by decide +kernel
theorem dX6_gathers_176 : decode cX6_gathers 176 = .ok (.iaload, 1) := by decide +kernel
theorem dX6_gathers_177 : decode cX6_gathers 177 = .ok (.iastore, 1) := by decide +kernel
theorem dX6_gathers_178 : decode cX6_gathers 178 = .ok (.iinc 3 1, 3) := by decide +kernel
theorem dX6_gathers_181 : decode cX6_gathers 181 = .ok (.goto (-72), 3) := by decide +kernel
theorem dX6_gathers_184 : decode cX6_gathers 184 = .ok (.aload_n 0, 1) := by decide +kernel
theorem dX6_gathers_185 : decode cX6_gathers 185 = .ok (.iload_n 1, 1) := by decide +kernel
theorem dX6_gathers_186 : decode cX6_gathers 186 = .ok (.invokevirtual 395, 3) := by decide +kernel
theorem dX6_gathers_189 : decode cX6_gathers 189 = .ok (.iconst 1, 1) := by decide +kernel
theorem dX6_gathers_190 : decode cX6_gathers 190 = .ok (.istore_n 3, 1) := by decide +kernel
theorem dX6_gathers_191 : decode cX6_gathers 191 = .ok (.iload_n 3, 1) := by decide +kernel
theorem dX6_gathers_192 : decode cX6_gathers 192 = .ok (.ifCond .eq 45, 3) := by decide +kernel
theorem dX6_gathers_195 : decode cX6_gathers 195 = .ok (.iconst 0, 1) := by decide +kernel
theorem dX6_gathers_196 : decode cX6_gathers 196 = .ok (.istore_n 3, 1) := by decide +kernel
theorem dX6_gathers_197 : decode cX6_gathers 197 = .ok (.iconst 0, 1) := by decide +kernel
theorem dX6_gathers_198 : decode cX6_gathers 198 = .ok (.istore 4, 2) := by decide +kernel
theorem dX6_gathers_200 : decode cX6_gathers 200 = .ok (.iload 4, 2) := by decide +kernel
theorem dX6_gathers_202 : decode cX6_gathers 202 = .ok (.iload_n 2, 1) := by decide +kernel
theorem dX6_gathers_203 : decode cX6_gathers 203 = .ok (.if_icmp .ge 31, 3) := by decide +kernel
theorem dX6_gathers_206 : decode cX6_gathers 206 = .ok (.aload_n 0, 1) := by decide +kernel
theorem dX6_gathers_207 : decode cX6_gathers 207 = .ok (.getfield 56, 3) := by decide +kernel
theorem dX6_gathers_210 : decode cX6_gathers 210 = .ok (.iload 4, 2) := by decide +kernel
theorem dX6_gathers_212 : decode cX6_gathers 212 = .ok (.iaload, 1) := by decide +kernel
theorem dX6_gathers_213 : decode cX6_gathers 213 = .ok (.iconst 1, 1) := by decide +kernel
theorem dX6_gathers_214 : decode cX6_gathers 214 = .ok (.if_icmp .ne 14, 3) := by decide +kernel
theorem dX6_gathers_217 : decode cX6_gathers 217 = .ok (.aload_n 0, 1) := by decide +kernel
theorem dX6_gathers_218 : decode cX6_gathers 218 = .ok (.iload 4, 2) := by decide +kernel
theorem dX6_gathers_220 : decode cX6_gathers 220 = .ok (.invokevirtual 403, 3) := by decide +kernel
theorem dX6_gathers_223 : decode cX6_gathers 223 = .ok (.ifCond .eq 5, 3) := by decide +kernel
theorem dX6_gathers_226 : decode cX6_gathers 226 = .ok (.iconst 1, 1) := by decide +kernel
theorem dX6_gathers_227 : decode cX6_gathers 227 = .ok (.istore_n 3, 1) := by decide +kernel
theorem dX6_gathers_228 : decode cX6_gathers 228 = .ok (.iinc 4 1, 3) := by decide +kernel
theorem dX6_gathers_231 : decode cX6_gathers 231 = .ok (.goto (-31), 3) := by decide +kernel
theorem dX6_gathers_234 : decode cX6_gathers 234 = .ok (.goto (-43), 3) := by decide +kernel
theorem dX6_gathers_237 : decode cX6_gathers 237 = .ok (.return_, 1) := by decide +kernel
theorem dX6_eases_0 : decode cX6_eases 0 = .ok (.iconst 0, 1) := by decide +kernel
theorem dX6_eases_1 : decode cX6_eases 1 = .ok (.istore_n 2, 1) := by decide +kernel
theorem dX6_eases_2 : decode cX6_eases 2 = .ok (.iconst 0, 1) := by decide +kernel
theorem dX6_eases_3 : decode cX6_eases 3 = .ok (.istore_n 3, 1) := by decide +kernel
theorem dX6_eases_4 : decode cX6_eases 4 = .ok (.iload_n 3, 1) := by decide +kernel
theorem dX6_eases_5 : decode cX6_eases 5 = .ok (.aload_n 0, 1) := by decide +kernel
theorem dX6_eases_6 : decode cX6_eases 6 = .ok (.getfield 111, 3) := by decide +kernel
theorem dX6_eases_9 : decode cX6_eases 9 = .ok (.if_icmp .ge 175, 3) := by decide +kernel
theorem dX6_eases_12 : decode cX6_eases 12 = .ok (.iload_n 1, 1) := by decide +kernel
theorem dX6_eases_13 : decode cX6_eases 13 = .ok (.iload_n 3, 1) := by decide +kernel
theorem dX6_eases_14 : decode cX6_eases 14 = .ok (.invokestatic 389, 3) := by decide +kernel
theorem dX6_eases_17 : decode cX6_eases 17 = .ok (.idiv, 1) := by decide +kernel
theorem dX6_eases_18 : decode cX6_eases 18 = .ok (.iconst 5, 1) := by decide +kernel
theorem dX6_eases_19 : decode cX6_eases 19 = .ok (.irem, 1) := by decide +kernel
theorem dX6_eases_20 : decode cX6_eases 20 = .ok (.istore 4, 2) := by decide +kernel
theorem dX6_eases_22 : decode cX6_eases 22 = .ok (.iconst 0, 1) := by decide +kernel
theorem dX6_eases_23 : decode cX6_eases 23 = .ok (.istore 5, 2) := by decide +kernel
theorem dX6_eases_25 : decode cX6_eases 25 = .ok (.iload 5, 2) := by decide +kernel
theorem dX6_eases_27 : decode cX6_eases 27 = .ok (.aload_n 0, 1) := by decide +kernel
theorem dX6_eases_28 : decode cX6_eases 28 = .ok (.getfield 104, 3) := by decide +kernel
theorem dX6_eases_31 : decode cX6_eases 31 = .ok (.if_icmp .ge 147, 3) := by decide +kernel
theorem dX6_eases_34 : decode cX6_eases 34 = .ok (.iload_n 3, 1) := by decide +kernel
theorem dX6_eases_35 : decode cX6_eases 35 = .ok (.aload_n 0, 1) := by decide +kernel
theorem dX6_eases_36 : decode cX6_eases 36 = .ok (.getfield 50, 3) := by decide +kernel
theorem dX6_eases_39 : decode cX6_eases 39 = .ok (.if_icmp .eq 139, 3) := by decide +kernel
theorem dX6_eases_42 : decode cX6_eases 42 = .ok (.aload_n 0, 1) := by decide +kernel
theorem dX6_eases_43 : decode cX6_eases 43 = .ok (.iload_n 1, 1) := by decide +kernel
theorem dX6_eases_44 : decode cX6_eases 44 = .ok (.iload_n 3, 1) := by decide +kernel
theorem dX6_eases_45 : decode cX6_eases 45 = .ok (.iload 5, 2) := by decide +kernel
theorem dX6_eases_47 : decode cX6_eases 47 = .ok (.invokevirtual 406, 3) := by decide +kernel
theorem dX6_eases_50 : decode cX6_eases 50 = .ok (.istore 6, 2) := by decide +kernel
theorem dX6_eases_52 : decode cX6_eases 52 = .ok (.iload 5, 2) := by decide +kernel
theorem dX6_eases_54 : decode cX6_eases 54 = .ok (.iload 4, 2) := by decide +kernel
theorem dX6_eases_56 : decode cX6_eases 56 = .ok (.if_icmp .eq 116, 3) := by decide +kernel
theorem dX6_eases_59 : decode cX6_eases 59 = .ok (.aload_n 0, 1) := by decide +kernel
theorem dX6_eases_60 : decode cX6_eases 60 = .ok (.getfield 56, 3) := by decide +kernel
theorem dX6_eases_63 : decode cX6_eases 63 = .ok (.iload 6, 2) := by decide +kernel
theorem dX6_eases_65 : decode cX6_eases 65 = .ok (.iaload, 1) := by decide +kernel
theorem dX6_eases_66 : decode cX6_eases 66 = .ok (.iconst 1, 1) := by decide +kernel
theorem dX6_eases_67 : decode cX6_eases 67 = .ok (.if_icmp .ne 105, 3) := by decide +kernel
theorem dX6_eases_70 : decode cX6_eases 70 = .ok (.aload_n 0, 1) := by decide +kernel
theorem dX6_eases_71 : decode cX6_eases 71 = .ok (.getfield 59, 3) := by decide +kernel
theorem dX6_eases_74 : decode cX6_eases 74 = .ok (.iload 6, 2) := by decide +kernel
theorem dX6_eases_76 : decode cX6_eases 76 = .ok (.iaload, 1) := by decide +kernel
theorem dX6_eases_77 : decode cX6_eases 77 = .ok (.iconst 1, 1) := by decide +kernel
theorem dX6_eases_78 : decode cX6_eases 78 = .ok (.iadd, 1) := by decide +kernel
theorem dX6_eases_79 : decode cX6_eases 79 = .ok (.aload_n 0, 1) := by decide +kernel
theorem dX6_eases_80 : decode cX6_eases 80 = .ok (.getfield 59, 3) := by decide +kernel
theorem dX6_eases_83 : decode cX6_eases 83 = .ok (.iload_n 1, 1) := by decide +kernel
theorem dX6_eases_84 : decode cX6_eases 84 = .ok (.iaload, 1) := by decide +kernel
theorem dX6_eases_85 : decode cX6_eases 85 = .ok (.if_icmp .ge 20, 3) := by decide +kernel
theorem dX6_eases_88 : decode cX6_eases 88 = .ok (.aload_n 0, 1) := by decide +kernel
theorem dX6_eases_89 : decode cX6_eases 89 = .ok (.getfield 59, 3) := by decide +kernel
theorem dX6_eases_92 : decode cX6_eases 92 = .ok (.iload_n 1, 1) := by decide +kernel
theorem dX6_eases_93 : decode cX6_eases 93 = .ok (.aload_n 0, 1) := by decide +kernel
theorem dX6_eases_94 : decode cX6_eases 94 = .ok (.getfield 59, 3) := by decide +kernel
theorem dX6_eases_97 : decode cX6_eases 97 = .ok (.iload 6, 2) := by decide +kernel
theorem dX6_eases_99 : decode cX6_eases 99 = .ok (.iaload, 1) := by decide +kernel
theorem dX6_eases_100 : decode cX6_eases 100 = .ok (.iconst 1, 1) := by decide +kernel
theorem dX6_eases_101 : decode cX6_eases 101 = .ok (.iadd, 1) := by decide +kernel
theorem dX6_eases_102 : decode cX6_eases 102 = .ok (.iastore, 1) := by decide +kernel
theorem dX6_eases_103 : decode cX6_eases 103 = .ok (.iconst 1, 1) := by decide +kernel
theorem dX6_eases_104 : decode cX6_eases 104 = .ok (.istore_n 2, 1) := by decide +kernel
theorem dX6_eases_105 : decode cX6_eases 105 = .ok (.aload_n 0, 1) := by decide +kernel
theorem dX6_eases_106 : decode cX6_eases 106 = .ok (.getfield 62, 3) := by decide +kernel
theorem dX6_eases_109 : decode cX6_eases 109 = .ok (.iload 6, 2) := by decide +kernel
theorem dX6_eases_111 : decode cX6_eases 111 = .ok (.iaload, 1) := by decide +kernel
theorem dX6_eases_112 : decode cX6_eases 112 = .ok (.aload_n 0, 1) := by decide +kernel
theorem dX6_eases_113 : decode cX6_eases 113 = .ok (.getfield 65, 3) := by decide +kernel
theorem dX6_eases_116 : decode cX6_eases 116 = .ok (.bipush 25, 2) := by decide +kernel
theorem dX6_eases_118 : decode cX6_eases 118 = .ok (.iload_n 3, 1) := by decide +kernel
theorem dX6_eases_119 : decode cX6_eases 119 = .ok (.imul, 1) := by decide +kernel
theorem dX6_eases_120 : decode cX6_eases 120 = .ok (.iconst 5, 1) := by decide +kernel
theorem dX6_eases_121 : decode cX6_eases 121 = .ok (.iload 4, 2) := by decide +kernel
theorem dX6_eases_123 : decode cX6_eases 123 = .ok (.imul, 1) := by decide +kernel
theorem dX6_eases_124 : decode cX6_eases 124 = .ok (.iadd, 1) := by decide +kernel
theorem dX6_eases_125 : decode cX6_eases 125 = .ok (.iload 5, 2) := by decide +kernel
theorem dX6_eases_127 : decode cX6_eases 127 = .ok (.iadd, 1) := by decide +kernel
theorem dX6_eases_128 : decode cX6_eases 128 = .ok (.iaload, 1) := by decide +kernel
theorem dX6_eases_129 : decode cX6_eases 129 = .ok (.iadd, 1) := by decide +kernel
theorem dX6_eases_130 : decode cX6_eases 130 = .ok (.aload_n 0, 1) := by decide +kernel
theorem dX6_eases_131 : decode cX6_eases 131 = .ok (.getfield 62, 3) := by decide +kernel
theorem dX6_eases_134 : decode cX6_eases 134 = .ok (.iload_n 1, 1) := by decide +kernel
theorem dX6_eases_135 : decode cX6_eases 135 = .ok (.iaload, 1) := by decide +kernel
theorem dX6_eases_136 : decode cX6_eases 136 = .ok (.if_icmp .ge 36, 3) := by decide +kernel
theorem dX6_eases_139 : decode cX6_eases 139 = .ok (.aload_n 0, 1) := by decide +kernel
theorem dX6_eases_140 : decode cX6_eases 140 = .ok (.getfield 62, 3) := by decide +kernel
theorem dX6_eases_143 : decode cX6_eases 143 = .ok (.iload_n 1, 1) := by decide +kernel
theorem dX6_eases_144 : decode cX6_eases 144 = .ok (.aload_n 0, 1) := by decide +kernel
theorem dX6_eases_145 : decode cX6_eases 145 = .ok (.getfield 62, 3) := by decide +kernel
theorem dX6_eases_148 : decode cX6_eases 148 = .ok (.iload 6, 2) := by decide +kernel
theorem dX6_eases_150 : decode cX6_eases 150 = .ok (.iaload, 1) := by decide +kernel
theorem dX6_eases_151 : decode cX6_eases 151 = .ok (.aload_n 0, 1) := by decide +kernel
theorem dX6_eases_152 : decode cX6_eases 152 = .ok (.getfield 65, 3) := by decide +kernel
theorem dX6_eases_155 : decode cX6_eases 155 = .ok (.bipush 25, 2) := by decide +kernel
theorem dX6_eases_157 : decode cX6_eases 157 = .ok (.iload_n 3, 1) := by decide +kernel
theorem dX6_eases_158 : decode cX6_eases 158 = .ok (.imul, 1) := by decide +kernel
theorem dX6_eases_159 : decode cX6_eases 159 = .ok (.iconst 5, 1) := by decide +kernel
theorem dX6_eases_160 : decode cX6_eases 160 = .ok (.iload 4, 2) := by decide +kernel
theorem dX6_eases_162 : decode cX6_eases 162 = .ok (.imul, 1) := by decide +kernel
theorem dX6_eases_163 : decode cX6_eases 163 = .ok (.iadd, 1) := by decide +kernel
theorem dX6_eases_164 : decode cX6_eases 164 = .ok (.iload 5, 2) := by decide +kernel
theorem dX6_eases_166 : decode cX6_eases 166 = .ok (.iadd, 1) := by decide +kernel
theorem dX6_eases_167 : decode cX6_eases 167 = .ok (.iaload, 1) := by decide +kernel
theorem dX6_eases_168 : decode cX6_eases 168 = .ok (.iadd, 1) := by decide +kernel
theorem dX6_eases_169 : decode cX6_eases 169 = .ok (.iastore, 1) := by decide +kernel
theorem dX6_eases_170 : decode cX6_eases 170 = .ok (.iconst 1, 1) := by decide +kernel
theorem dX6_eases_171 : decode cX6_eases 171 = .ok (.istore_n 2, 1) := by decide +kernel
theorem dX6_eases_172 : decode cX6_eases 172 = .ok (.iinc 5 1, 3) := by decide +kernel
theorem dX6_eases_175 : decode cX6_eases 175 = .ok (.goto (-150), 3) := by decide +kernel
theorem dX6_eases_178 : decode cX6_eases 178 = .ok (.iinc 3 1, 3) := by decide +kernel
theorem dX6_eases_181 : decode cX6_eases 181 = .ok (.goto (-177), 3) := by decide +kernel
theorem dX6_eases_184 : decode cX6_eases 184 = .ok (.iload_n 2, 1) := by decide +kernel
theorem dX6_eases_185 : decode cX6_eases 185 = .ok (.ireturn, 1) := by decide +kernel
theorem dX6_told1_0 : decode cX6_told1 0 = .ok (.iload_n 0, 1) := by decide +kernel
theorem dX6_told1_1 : decode cX6_told1 1 = .ok (.ldc_w 402, 3) := by decide +kernel
theorem dX6_told1_4 : decode cX6_told1 4 = .ok (.if_icmp .lt 7, 3) := by decide +kernel
theorem dX6_told1_7 : decode cX6_told1 7 = .ok (.iconst (-1), 1) := by decide +kernel
theorem dX6_told1_8 : decode cX6_told1 8 = .ok (.goto 4, 3) := by decide +kernel
theorem dX6_told1_11 : decode cX6_told1 11 = .ok (.iload_n 0, 1) := by decide +kernel
theorem dX6_told1_12 : decode cX6_told1 12 = .ok (.ireturn, 1) := by decide +kernel
theorem dX6_moveBy_0 : decode cX6_moveBy 0 = .ok (.aload_n 0, 1) := by decide +kernel
theorem dX6_moveBy_1 : decode cX6_moveBy 1 = .ok (.invokevirtual 392, 3) := by decide +kernel
theorem dX6_moveBy_4 : decode cX6_moveBy 4 = .ok (.istore_n 2, 1) := by decide +kernel
theorem dX6_moveBy_5 : decode cX6_moveBy 5 = .ok (.aload_n 0, 1) := by decide +kernel
theorem dX6_moveBy_6 : decode cX6_moveBy 6 = .ok (.getfield 59, 3) := by decide +kernel
theorem dX6_moveBy_9 : decode cX6_moveBy 9 = .ok (.iload_n 2, 1) := by decide +kernel
theorem dX6_moveBy_10 : decode cX6_moveBy 10 = .ok (.iaload, 1) := by decide +kernel
theorem dX6_moveBy_11 : decode cX6_moveBy 11 = .ok (.ifCond .eq 15, 3) := by decide +kernel
theorem dX6_moveBy_14 : decode cX6_moveBy 14 = .ok (.aload_n 0, 1) := by decide +kernel
theorem dX6_moveBy_15 : decode cX6_moveBy 15 = .ok (.getfield 59, 3) := by decide +kernel
theorem dX6_moveBy_18 : decode cX6_moveBy 18 = .ok (.iload_n 2, 1) := by decide +kernel
theorem dX6_moveBy_19 : decode cX6_moveBy 19 = .ok (.iaload, 1) := by decide +kernel
theorem dX6_moveBy_20 : decode cX6_moveBy 20 = .ok (.ldc_w 402, 3) := by decide +kernel
theorem dX6_moveBy_23 : decode cX6_moveBy 23 = .ok (.if_icmp .lt 5, 3) := by decide +kernel
theorem dX6_moveBy_26 : decode cX6_moveBy 26 = .ok (.iconst (-1), 1) := by decide +kernel
theorem dX6_moveBy_27 : decode cX6_moveBy 27 = .ok (.ireturn, 1) := by decide +kernel
theorem dX6_moveBy_28 : decode cX6_moveBy 28 = .ok (.iconst 0, 1) := by decide +kernel
theorem dX6_moveBy_29 : decode cX6_moveBy 29 = .ok (.istore_n 3, 1) := by decide +kernel
theorem dX6_moveBy_30 : decode cX6_moveBy 30 = .ok (.iload_n 3, 1) := by decide +kernel
theorem dX6_moveBy_31 : decode cX6_moveBy 31 = .ok (.aload_n 0, 1) := by decide +kernel
theorem dX6_moveBy_32 : decode cX6_moveBy 32 = .ok (.getfield 111, 3) := by decide +kernel
theorem dX6_moveBy_35 : decode cX6_moveBy 35 = .ok (.if_icmp .ge 130, 3) := by decide +kernel
theorem dX6_moveBy_38 : decode cX6_moveBy 38 = .ok (.iconst 0, 1) := by decide +kernel
theorem dX6_moveBy_39 : decode cX6_moveBy 39 = .ok (.istore 4, 2) := by decide +kernel
theorem dX6_moveBy_41 : decode cX6_moveBy 41 = .ok (.iload 4, 2) := by decide +kernel
theorem dX6_moveBy_43 : decode cX6_moveBy 43 = .ok (.aload_n 0, 1) := by decide +kernel
theorem dX6_moveBy_44 : decode cX6_moveBy 44 = .ok (.getfield 104, 3) := by decide +kernel
theorem dX6_moveBy_47 : decode cX6_moveBy 47 = .ok (.if_icmp .ge 112, 3) := by decide +kernel
theorem dX6_moveBy_50 : decode cX6_moveBy 50 = .ok (.aload_n 0, 1) := by decide +kernel
theorem dX6_moveBy_51 : decode cX6_moveBy 51 = .ok (.iload_n 2, 1) := by decide +kernel
theorem dX6_moveBy_52 : decode cX6_moveBy 52 = .ok (.iload_n 3, 1) := by decide +kernel
theorem dX6_moveBy_53 : decode cX6_moveBy 53 = .ok (.iload 4, 2) := by decide +kernel
theorem dX6_moveBy_55 : decode cX6_moveBy 55 = .ok (.invokevirtual 406, 3) := by decide +kernel
theorem dX6_moveBy_58 : decode cX6_moveBy 58 = .ok (.istore 5, 2) := by decide +kernel
theorem dX6_moveBy_60 : decode cX6_moveBy 60 = .ok (.iload 4, 2) := by decide +kernel
theorem dX6_moveBy_62 : decode cX6_moveBy 62 = .ok (.aload_n 0, 1) := by decide +kernel
theorem dX6_moveBy_63 : decode cX6_moveBy 63 = .ok (.getfield 35, 3) := by decide +kernel
theorem dX6_moveBy_66 : decode cX6_moveBy 66 = .ok (.iload_n 3, 1) := by decide +kernel
theorem dX6_moveBy_67 : decode cX6_moveBy 67 = .ok (.iaload, 1) := by decide +kernel
theorem dX6_moveBy_68 : decode cX6_moveBy 68 = .ok (.if_icmp .eq 85, 3) := by decide +kernel
theorem dX6_moveBy_71 : decode cX6_moveBy 71 = .ok (.aload_n 0, 1) := by decide +kernel
theorem dX6_moveBy_72 : decode cX6_moveBy 72 = .ok (.getfield 56, 3) := by decide +kernel
theorem dX6_moveBy_75 : decode cX6_moveBy 75 = .ok (.iload 5, 2) := by decide +kernel
theorem dX6_moveBy_77 : decode cX6_moveBy 77 = .ok (.iaload, 1) := by decide +kernel
theorem dX6_moveBy_78 : decode cX6_moveBy 78 = .ok (.iconst 1, 1) := by decide +kernel
theorem dX6_moveBy_79 : decode cX6_moveBy 79 = .ok (.if_icmp .ne 74, 3) := by decide +kernel
theorem dX6_moveBy_82 : decode cX6_moveBy 82 = .ok (.iload_n 1, 1) := by decide +kernel
theorem dX6_moveBy_83 : decode cX6_moveBy 83 = .ok (.ifCond .eq 44, 3) := by decide +kernel
theorem dX6_moveBy_86 : decode cX6_moveBy 86 = .ok (.aload_n 0, 1) := by decide +kernel
theorem dX6_moveBy_87 : decode cX6_moveBy 87 = .ok (.getfield 62, 3) := by decide +kernel
theorem dX6_moveBy_90 : decode cX6_moveBy 90 = .ok (.iload 5, 2) := by decide +kernel
theorem dX6_moveBy_92 : decode cX6_moveBy 92 = .ok (.iaload, 1) := by decide +kernel
theorem dX6_moveBy_93 : decode cX6_moveBy 93 = .ok (.aload_n 0, 1) := by decide +kernel
theorem dX6_moveBy_94 : decode cX6_moveBy 94 = .ok (.getfield 65, 3) := by decide +kernel
theorem dX6_moveBy_97 : decode cX6_moveBy 97 = .ok (.bipush 25, 2) := by decide +kernel
theorem dX6_moveBy_99 : decode cX6_moveBy 99 = .ok (.iload_n 3, 1) := by decide +kernel
theorem dX6_moveBy_100 : decode cX6_moveBy 100 = .ok (.imul, 1) := by decide +kernel
theorem dX6_moveBy_101 : decode cX6_moveBy 101 = .ok (.iconst 5, 1) := by decide +kernel
theorem dX6_moveBy_102 : decode cX6_moveBy 102 = .ok (.aload_n 0, 1) := by decide +kernel
theorem dX6_moveBy_103 : decode cX6_moveBy 103 = .ok (.getfield 35, 3) := by decide +kernel
theorem dX6_moveBy_106 : decode cX6_moveBy 106 = .ok (.iload_n 3, 1) := by decide +kernel
theorem dX6_moveBy_107 : decode cX6_moveBy 107 = .ok (.iaload, 1) := by decide +kernel
theorem dX6_moveBy_108 : decode cX6_moveBy 108 = .ok (.imul, 1) := by decide +kernel
theorem dX6_moveBy_109 : decode cX6_moveBy 109 = .ok (.iadd, 1) := by decide +kernel
theorem dX6_moveBy_110 : decode cX6_moveBy 110 = .ok (.iload 4, 2) := by decide +kernel
theorem dX6_moveBy_112 : decode cX6_moveBy 112 = .ok (.iadd, 1) := by decide +kernel
theorem dX6_moveBy_113 : decode cX6_moveBy 113 = .ok (.iaload, 1) := by decide +kernel
theorem dX6_moveBy_114 : decode cX6_moveBy 114 = .ok (.iadd, 1) := by decide +kernel
theorem dX6_moveBy_115 : decode cX6_moveBy 115 = .ok (.aload_n 0, 1) := by decide +kernel
theorem dX6_moveBy_116 : decode cX6_moveBy 116 = .ok (.getfield 62, 3) := by decide +kernel
theorem dX6_moveBy_119 : decode cX6_moveBy 119 = .ok (.iload_n 2, 1) := by decide +kernel
theorem dX6_moveBy_120 : decode cX6_moveBy 120 = .ok (.iaload, 1) := by decide +kernel
theorem dX6_moveBy_121 : decode cX6_moveBy 121 = .ok (.if_icmp .ne 32, 3) := by decide +kernel
theorem dX6_moveBy_124 : decode cX6_moveBy 124 = .ok (.goto 21, 3) := by decide +kernel
theorem dX6_moveBy_127 : decode cX6_moveBy 127 = .ok (.aload_n 0, 1) := by decide +kernel
theorem dX6_moveBy_128 : decode cX6_moveBy 128 = .ok (.getfield 59, 3) := by decide +kernel
theorem dX6_moveBy_131 : decode cX6_moveBy 131 = .ok (.iload 5, 2) := by decide +kernel
theorem dX6_moveBy_133 : decode cX6_moveBy 133 = .ok (.iaload, 1) := by decide +kernel
theorem dX6_moveBy_134 : decode cX6_moveBy 134 = .ok (.iconst 1, 1) := by decide +kernel
theorem dX6_moveBy_135 : decode cX6_moveBy 135 = .ok (.iadd, 1) := by decide +kernel
theorem dX6_moveBy_136 : decode cX6_moveBy 136 = .ok (.aload_n 0, 1) := by decide +kernel
theorem dX6_moveBy_137 : decode cX6_moveBy 137 = .ok (.getfield 59, 3) := by decide +kernel
theorem dX6_moveBy_140 : decode cX6_moveBy 140 = .ok (.iload_n 2, 1) := by decide +kernel
theorem dX6_moveBy_141 : decode cX6_moveBy 141 = .ok (.iaload, 1) := by decide +kernel
theorem dX6_moveBy_142 : decode cX6_moveBy 142 = .ok (.if_icmp .ne 11, 3) := by decide +kernel
theorem dX6_moveBy_145 : decode cX6_moveBy 145 = .ok (.bipush 10, 2) := by decide +kernel
theorem dX6_moveBy_147 : decode cX6_moveBy 147 = .ok (.iload_n 3, 1) := by decide +kernel
theorem dX6_moveBy_148 : decode cX6_moveBy 148 = .ok (.imul, 1) := by decide +kernel
theorem dX6_moveBy_149 : decode cX6_moveBy 149 = .ok (.iload 4, 2) := by decide +kernel
theorem dX6_moveBy_151 : decode cX6_moveBy 151 = .ok (.iadd, 1) := by decide +kernel
theorem dX6_moveBy_152 : decode cX6_moveBy 152 = .ok (.ireturn, 1) := by decide +kernel
theorem dX6_moveBy_153 : decode cX6_moveBy 153 = .ok (.iinc 4 1, 3) := by decide +kernel
theorem dX6_moveBy_156 : decode cX6_moveBy 156 = .ok (.goto (-115), 3) := by decide +kernel
theorem dX6_moveBy_159 : decode cX6_moveBy 159 = .ok (.iinc 3 1, 3) := by decide +kernel
theorem dX6_moveBy_162 : decode cX6_moveBy 162 = .ok (.goto (-132), 3) := by decide +kernel
theorem dX6_moveBy_165 : decode cX6_moveBy 165 = .ok (.iconst (-1), 1) := by decide +kernel
theorem dX6_moveBy_166 : decode cX6_moveBy 166 = .ok (.ireturn, 1) := by decide +kernel
theorem dX6_reaches_0 : decode cX6_reaches 0 = .ok (.aload_n 0, 1) := by decide +kernel
theorem dX6_reaches_1 : decode cX6_reaches 1 = .ok (.getfield 111, 3) := by decide +kernel
theorem dX6_reaches_4 : decode cX6_reaches 4 = .ok (.ifCond .ne 7, 3) := by decide +kernel
theorem dX6_reaches_7 : decode cX6_reaches 7 = .ok (.iconst 1, 1) := by decide +kernel
theorem dX6_reaches_8 : decode cX6_reaches 8 = .ok (.goto 14, 3) := by decide +kernel
theorem dX6_reaches_11 : decode cX6_reaches 11 = .ok (.aload_n 0, 1) := by decide +kernel
theorem dX6_reaches_12 : decode cX6_reaches 12 = .ok (.getfield 111, 3) := by decide +kernel
theorem dX6_reaches_15 : decode cX6_reaches 15 = .ok (.iconst 1, 1) := by decide +kernel
theorem dX6_reaches_16 : decode cX6_reaches 16 = .ok (.isub, 1) := by decide +kernel
theorem dX6_reaches_17 : decode cX6_reaches 17 = .ok (.invokestatic 389, 3) := by decide +kernel
theorem dX6_reaches_20 : decode cX6_reaches 20 = .ok (.iconst 5, 1) := by decide +kernel
theorem dX6_reaches_21 : decode cX6_reaches 21 = .ok (.imul, 1) := by decide +kernel
theorem dX6_reaches_22 : decode cX6_reaches 22 = .ok (.istore_n 2, 1) := by decide +kernel
theorem dX6_reaches_23 : decode cX6_reaches 23 = .ok (.iconst 0, 1) := by decide +kernel
theorem dX6_reaches_24 : decode cX6_reaches 24 = .ok (.istore_n 3, 1) := by decide +kernel
theorem dX6_reaches_25 : decode cX6_reaches 25 = .ok (.iload_n 3, 1) := by decide +kernel
theorem dX6_reaches_26 : decode cX6_reaches 26 = .ok (.iload_n 2, 1) := by decide +kernel
theorem dX6_reaches_27 : decode cX6_reaches 27 = .ok (.if_icmp .ge 16, 3) := by decide +kernel
theorem dX6_reaches_30 : decode cX6_reaches 30 = .ok (.aload_n 0, 1) := by decide +kernel
theorem dX6_reaches_31 : decode cX6_reaches 31 = .ok (.getfield 68, 3) := by decide +kernel
theorem dX6_reaches_34 : decode cX6_reaches 34 = .ok (.iload_n 3, 1) := by decide +kernel
theorem dX6_reaches_35 : decode cX6_reaches 35 = .ok (.iconst 0, 1) := by decide +kernel
theorem dX6_reaches_36 : decode cX6_reaches 36 = .ok (.iastore, 1) := by decide +kernel
theorem dX6_reaches_37 : decode cX6_reaches 37 = .ok (.iinc 3 1, 3) := by decide +kernel
theorem dX6_reaches_40 : decode cX6_reaches 40 = .ok (.goto (-15), 3) := by decide +kernel
theorem dX6_reaches_43 : decode cX6_reaches 43 = .ok (.aload_n 0, 1) := by decide +kernel
theorem dX6_reaches_44 : decode cX6_reaches 44 = .ok (.getfield 68, 3) := by decide +kernel
theorem dX6_reaches_47 : decode cX6_reaches 47 = .ok (.aload_n 0, 1) := by decide +kernel
theorem dX6_reaches_48 : decode cX6_reaches 48 = .ok (.invokevirtual 392, 3) := by decide +kernel
theorem dX6_reaches_51 : decode cX6_reaches 51 = .ok (.iconst 1, 1) := by decide +kernel
theorem dX6_reaches_52 : decode cX6_reaches 52 = .ok (.iastore, 1) := by decide +kernel
theorem dX6_reaches_53 : decode cX6_reaches 53 = .ok (.iconst 1, 1) := by decide +kernel
theorem dX6_reaches_54 : decode cX6_reaches 54 = .ok (.istore_n 3, 1) := by decide +kernel
theorem dX6_reaches_55 : decode cX6_reaches 55 = .ok (.iload_n 3, 1) := by decide +kernel
theorem dX6_reaches_56 : decode cX6_reaches 56 = .ok (.ifCond .eq 113, 3) := by decide +kernel
theorem dX6_reaches_59 : decode cX6_reaches 59 = .ok (.iconst 0, 1) := by decide +kernel
theorem dX6_reaches_60 : decode cX6_reaches 60 = .ok (.istore_n 3, 1) := by decide +kernel
theorem dX6_reaches_61 : decode cX6_reaches 61 = .ok (.iconst 0, 1) := by decide +kernel
theorem dX6_reaches_62 : decode cX6_reaches 62 = .ok (.istore 4, 2) := by decide +kernel
theorem dX6_reaches_64 : decode cX6_reaches 64 = .ok (.iload 4, 2) := by decide +kernel
theorem dX6_reaches_66 : decode cX6_reaches 66 = .ok (.iload_n 2, 1) := by decide +kernel
theorem dX6_reaches_67 : decode cX6_reaches 67 = .ok (.if_icmp .ge 99, 3) := by decide +kernel
theorem dX6_reaches_70 : decode cX6_reaches 70 = .ok (.iconst 0, 1) := by decide +kernel
theorem dX6_reaches_71 : decode cX6_reaches 71 = .ok (.istore 5, 2) := by decide +kernel
theorem dX6_reaches_73 : decode cX6_reaches 73 = .ok (.iload 5, 2) := by decide +kernel
theorem dX6_reaches_75 : decode cX6_reaches 75 = .ok (.aload_n 0, 1) := by decide +kernel
theorem dX6_reaches_76 : decode cX6_reaches 76 = .ok (.getfield 111, 3) := by decide +kernel
theorem dX6_reaches_79 : decode cX6_reaches 79 = .ok (.if_icmp .ge 81, 3) := by decide +kernel
theorem dX6_reaches_82 : decode cX6_reaches 82 = .ok (.aload_n 0, 1) := by decide +kernel
theorem dX6_reaches_83 : decode cX6_reaches 83 = .ok (.getfield 68, 3) := by decide +kernel
theorem dX6_reaches_86 : decode cX6_reaches 86 = .ok (.iload 4, 2) := by decide +kernel
theorem dX6_reaches_88 : decode cX6_reaches 88 = .ok (.iaload, 1) := by decide +kernel
theorem dX6_reaches_89 : decode cX6_reaches 89 = .ok (.iconst 1, 1) := by decide +kernel
theorem dX6_reaches_90 : decode cX6_reaches 90 = .ok (.if_icmp .ne 70, 3) := by decide +kernel
theorem dX6_reaches_93 : decode cX6_reaches 93 = .ok (.iconst 0, 1) := by decide +kernel
theorem dX6_reaches_94 : decode cX6_reaches 94 = .ok (.istore 6, 2) := by decide +kernel
theorem dX6_reaches_96 : decode cX6_reaches 96 = .ok (.iload 6, 2) := by decide +kernel
theorem dX6_reaches_98 : decode cX6_reaches 98 = .ok (.aload_n 0, 1) := by decide +kernel
theorem dX6_reaches_99 : decode cX6_reaches 99 = .ok (.getfield 104, 3) := by decide +kernel
theorem dX6_reaches_102 : decode cX6_reaches 102 = .ok (.if_icmp .ge 52, 3) := by decide +kernel
theorem dX6_reaches_105 : decode cX6_reaches 105 = .ok (.aload_n 0, 1) := by decide +kernel
theorem dX6_reaches_106 : decode cX6_reaches 106 = .ok (.iload 4, 2) := by decide +kernel
theorem dX6_reaches_108 : decode cX6_reaches 108 = .ok (.iload 5, 2) := by decide +kernel
theorem dX6_reaches_110 : decode cX6_reaches 110 = .ok (.iload 6, 2) := by decide +kernel
theorem dX6_reaches_112 : decode cX6_reaches 112 = .ok (.invokevirtual 406, 3) := by decide +kernel
theorem dX6_reaches_115 : decode cX6_reaches 115 = .ok (.istore 7, 2) := by decide +kernel
theorem dX6_reaches_117 : decode cX6_reaches 117 = .ok (.aload_n 0, 1) := by decide +kernel
theorem dX6_reaches_118 : decode cX6_reaches 118 = .ok (.getfield 56, 3) := by decide +kernel
theorem dX6_reaches_121 : decode cX6_reaches 121 = .ok (.iload 7, 2) := by decide +kernel
theorem dX6_reaches_123 : decode cX6_reaches 123 = .ok (.iaload, 1) := by decide +kernel
theorem dX6_reaches_124 : decode cX6_reaches 124 = .ok (.iconst 1, 1) := by decide +kernel
theorem dX6_reaches_125 : decode cX6_reaches 125 = .ok (.if_icmp .ne 23, 3) := by decide +kernel
theorem dX6_reaches_128 : decode cX6_reaches 128 = .ok (.aload_n 0, 1) := by decide +kernel
theorem dX6_reaches_129 : decode cX6_reaches 129 = .ok (.getfield 68, 3) := by decide +kernel
theorem dX6_reaches_132 : decode cX6_reaches 132 = .ok (.iload 7, 2) := by decide +kernel
theorem dX6_reaches_134 : decode cX6_reaches 134 = .ok (.iaload, 1) := by decide +kernel
theorem dX6_reaches_135 : decode cX6_reaches 135 = .ok (.ifCond .ne 13, 3) := by decide +kernel
theorem dX6_reaches_138 : decode cX6_reaches 138 = .ok (.aload_n 0, 1) := by decide +kernel
theorem dX6_reaches_139 : decode cX6_reaches 139 = .ok (.getfield 68, 3) := by decide +kernel
theorem dX6_reaches_142 : decode cX6_reaches 142 = .ok (.iload 7, 2) := by decide +kernel
theorem dX6_reaches_144 : decode cX6_reaches 144 = .ok (.iconst 1, 1) := by decide +kernel
theorem dX6_reaches_145 : decode cX6_reaches 145 = .ok (.iastore, 1) := by decide +kernel
theorem dX6_reaches_146 : decode cX6_reaches 146 = .ok (.iconst 1, 1) := by decide +kernel
theorem dX6_reaches_147 : decode cX6_reaches 147 = .ok (.istore_n 3, 1) := by decide +kernel
theorem dX6_reaches_148 : decode cX6_reaches 148 = .ok (.iinc 6 1, 3) := by decide +kernel
theorem dX6_reaches_151 : decode cX6_reaches 151 = .ok (.goto (-55), 3) := by decide +kernel
theorem dX6_reaches_154 : decode cX6_reaches 154 = .ok (.iinc 5 1, 3) := by decide +kernel
theorem dX6_reaches_157 : decode cX6_reaches 157 = .ok (.goto (-84), 3) := by decide +kernel
theorem dX6_reaches_160 : decode cX6_reaches 160 = .ok (.iinc 4 1, 3) := by decide +kernel
theorem dX6_reaches_163 : decode cX6_reaches 163 = .ok (.goto (-99), 3) := by decide +kernel
theorem dX6_reaches_166 : decode cX6_reaches 166 = .ok (.goto (-111), 3) := by decide +kernel
theorem dX6_reaches_169 : decode cX6_reaches 169 = .ok (.iconst 0, 1) := by decide +kernel
theorem dX6_reaches_170 : decode cX6_reaches 170 = .ok (.istore 4, 2) := by decide +kernel
theorem dX6_reaches_172 : decode cX6_reaches 172 = .ok (.iconst (-1), 1) := by decide +kernel
theorem dX6_reaches_173 : decode cX6_reaches 173 = .ok (.istore 5, 2) := by decide +kernel
theorem dX6_reaches_175 : decode cX6_reaches 175 = .ok (.iconst 0, 1) := by decide +kernel
theorem dX6_reaches_176 : decode cX6_reaches 176 = .ok (.istore 6, 2) := by decide +kernel
theorem dX6_reaches_178 : decode cX6_reaches 178 = .ok (.iload 6, 2) := by decide +kernel
theorem dX6_reaches_180 : decode cX6_reaches 180 = .ok (.iload_n 2, 1) := by decide +kernel
theorem dX6_reaches_181 : decode cX6_reaches 181 = .ok (.if_icmp .ge 71, 3) := by decide +kernel
theorem dX6_reaches_184 : decode cX6_reaches 184 = .ok (.iload 4, 2) := by decide +kernel
theorem dX6_reaches_186 : decode cX6_reaches 186 = .ok (.aload_n 0, 1) := by decide +kernel
theorem dX6_reaches_187 : decode cX6_reaches 187 = .ok (.getfield 68, 3) := by decide +kernel
theorem dX6_reaches_190 : decode cX6_reaches 190 = .ok (.iload 6, 2) := by decide +kernel
theorem dX6_reaches_192 : decode cX6_reaches 192 = .ok (.iaload, 1) := by decide +kernel
theorem dX6_reaches_193 : decode cX6_reaches 193 = .ok (.iadd, 1) := by decide +kernel
theorem dX6_reaches_194 : decode cX6_reaches 194 = .ok (.istore 4, 2) := by decide +kernel
theorem dX6_reaches_196 : decode cX6_reaches 196 = .ok (.aload_n 0, 1) := by decide +kernel
theorem dX6_reaches_197 : decode cX6_reaches 197 = .ok (.getfield 68, 3) := by decide +kernel
theorem dX6_reaches_200 : decode cX6_reaches 200 = .ok (.iload 6, 2) := by decide +kernel
theorem dX6_reaches_202 : decode cX6_reaches 202 = .ok (.iaload, 1) := by decide +kernel
theorem dX6_reaches_203 : decode cX6_reaches 203 = .ok (.iconst 1, 1) := by decide +kernel
theorem dX6_reaches_204 : decode cX6_reaches 204 = .ok (.if_icmp .ne 38, 3) := by decide +kernel
theorem dX6_reaches_207 : decode cX6_reaches 207 = .ok (.aload_n 0, 1) := by decide +kernel
theorem dX6_reaches_208 : decode cX6_reaches 208 = .ok (.getfield 59, 3) := by decide +kernel
theorem dX6_reaches_211 : decode cX6_reaches 211 = .ok (.iload 6, 2) := by decide +kernel
theorem dX6_reaches_213 : decode cX6_reaches 213 = .ok (.iaload, 1) := by decide +kernel
theorem dX6_reaches_214 : decode cX6_reaches 214 = .ok (.ldc_w 402, 3) := by decide +kernel
theorem dX6_reaches_217 : decode cX6_reaches 217 = .ok (.if_icmp .ge 25, 3) := by decide +kernel
theorem dX6_reaches_220 : decode cX6_reaches 220 = .ok (.aload_n 0, 1) := by decide +kernel
theorem dX6_reaches_221 : decode cX6_reaches 221 = .ok (.getfield 59, 3) := by decide +kernel
theorem dX6_reaches_224 : decode cX6_reaches 224 = .ok (.iload 6, 2) := by decide +kernel
theorem dX6_reaches_226 : decode cX6_reaches 226 = .ok (.iaload, 1) := by decide +kernel
theorem dX6_reaches_227 : decode cX6_reaches 227 = .ok (.iload 5, 2) := by decide +kernel
theorem dX6_reaches_229 : decode cX6_reaches 229 = .ok (.if_icmp .le 13, 3) := by decide +kernel
theorem dX6_reaches_232 : decode cX6_reaches 232 = .ok (.aload_n 0, 1) := by decide +kernel
theorem dX6_reaches_233 : decode cX6_reaches 233 = .ok (.getfield 59, 3) := by decide +kernel
theorem dX6_reaches_236 : decode cX6_reaches 236 = .ok (.iload 6, 2) := by decide +kernel
theorem dX6_reaches_238 : decode cX6_reaches 238 = .ok (.iaload, 1) := by decide +kernel
theorem dX6_reaches_239 : decode cX6_reaches 239 = .ok (.goto 5, 3) := by decide +kernel
theorem dX6_reaches_242 : decode cX6_reaches 242 = .ok (.iload 5, 2) := by decide +kernel
theorem dX6_reaches_244 : decode cX6_reaches 244 = .ok (.istore 5, 2) := by decide +kernel
theorem dX6_reaches_246 : decode cX6_reaches 246 = .ok (.iinc 6 1, 3) := by decide +kernel
theorem dX6_reaches_249 : decode cX6_reaches 249 = .ok (.goto (-71), 3) := by decide +kernel
theorem dX6_reaches_252 : decode cX6_reaches 252 = .ok (.iload_n 1, 1) := by decide +kernel
theorem dX6_reaches_253 : decode cX6_reaches 253 = .ok (.ifCond .ne 8, 3) := by decide +kernel
theorem dX6_reaches_256 : decode cX6_reaches 256 = .ok (.iload 4, 2) := by decide +kernel
theorem dX6_reaches_258 : decode cX6_reaches 258 = .ok (.goto 5, 3) := by decide +kernel
theorem dX6_reaches_261 : decode cX6_reaches 261 = .ok (.iload 5, 2) := by decide +kernel
theorem dX6_reaches_263 : decode cX6_reaches 263 = .ok (.ireturn, 1) := by decide +kernel
theorem dX6_best_0 : decode cX6_best 0 = .ok (.iload_n 1, 1) := by decide +kernel
theorem dX6_best_1 : decode cX6_best 1 = .ok (.i2l, 1) := by decide +kernel
theorem dX6_best_2 : decode cX6_best 2 = .ok (.lconst 0, 1) := by decide +kernel
theorem dX6_best_3 : decode cX6_best 3 = .ok (.ldc2_w 141, 3) := by decide +kernel
theorem dX6_best_6 : decode cX6_best 6 = .ok (.invokestatic 107, 3) := by decide +kernel
theorem dX6_best_9 : decode cX6_best 9 = .ok (.ifCond .ne 6, 3) := by decide +kernel
theorem dX6_best_12 : decode cX6_best 12 = .ok (.bipush (-100), 2) := by decide +kernel
theorem dX6_best_14 : decode cX6_best 14 = .ok (.ireturn, 1) := by decide +kernel
theorem dX6_best_15 : decode cX6_best 15 = .ok (.aload_n 0, 1) := by decide +kernel
theorem dX6_best_16 : decode cX6_best 16 = .ok (.invokevirtual 409, 3) := by decide +kernel
theorem dX6_best_19 : decode cX6_best 19 = .ok (.iload_n 1, 1) := by decide +kernel
theorem dX6_best_20 : decode cX6_best 20 = .ok (.ifCond .eq 8, 3) := by decide +kernel
theorem dX6_best_23 : decode cX6_best 23 = .ok (.iload_n 1, 1) := by decide +kernel
theorem dX6_best_24 : decode cX6_best 24 = .ok (.iconst 2, 1) := by decide +kernel
theorem dX6_best_25 : decode cX6_best 25 = .ok (.if_icmp .ne 32, 3) := by decide +kernel
theorem dX6_best_28 : decode cX6_best 28 = .ok (.iload_n 1, 1) := by decide +kernel
theorem dX6_best_29 : decode cX6_best 29 = .ok (.ifCond .ne 15, 3) := by decide +kernel
theorem dX6_best_32 : decode cX6_best 32 = .ok (.aload_n 0, 1) := by decide +kernel
theorem dX6_best_33 : decode cX6_best 33 = .ok (.getfield 59, 3) := by decide +kernel
theorem dX6_best_36 : decode cX6_best 36 = .ok (.aload_n 0, 1) := by decide +kernel
theorem dX6_best_37 : decode cX6_best 37 = .ok (.invokevirtual 392, 3) := by decide +kernel
theorem dX6_best_40 : decode cX6_best 40 = .ok (.iaload, 1) := by decide +kernel
theorem dX6_best_41 : decode cX6_best 41 = .ok (.goto 12, 3) := by decide +kernel
theorem dX6_best_44 : decode cX6_best 44 = .ok (.aload_n 0, 1) := by decide +kernel
theorem dX6_best_45 : decode cX6_best 45 = .ok (.getfield 62, 3) := by decide +kernel
theorem dX6_best_48 : decode cX6_best 48 = .ok (.aload_n 0, 1) := by decide +kernel
theorem dX6_best_49 : decode cX6_best 49 = .ok (.invokevirtual 392, 3) := by decide +kernel
theorem dX6_best_52 : decode cX6_best 52 = .ok (.iaload, 1) := by decide +kernel
theorem dX6_best_53 : decode cX6_best 53 = .ok (.invokestatic 412, 3) := by decide +kernel
theorem dX6_best_56 : decode cX6_best 56 = .ok (.ireturn, 1) := by decide +kernel
theorem dX6_best_57 : decode cX6_best 57 = .ok (.iload_n 1, 1) := by decide +kernel
theorem dX6_best_58 : decode cX6_best 58 = .ok (.iconst 4, 1) := by decide +kernel
theorem dX6_best_59 : decode cX6_best 59 = .ok (.if_icmp .ge 20, 3) := by decide +kernel
theorem dX6_best_62 : decode cX6_best 62 = .ok (.aload_n 0, 1) := by decide +kernel
theorem dX6_best_63 : decode cX6_best 63 = .ok (.iload_n 1, 1) := by decide +kernel
theorem dX6_best_64 : decode cX6_best 64 = .ok (.iconst 3, 1) := by decide +kernel
theorem dX6_best_65 : decode cX6_best 65 = .ok (.if_icmp .ne 7, 3) := by decide +kernel
theorem dX6_best_68 : decode cX6_best 68 = .ok (.iconst 1, 1) := by decide +kernel
theorem dX6_best_69 : decode cX6_best 69 = .ok (.goto 4, 3) := by decide +kernel
theorem dX6_best_72 : decode cX6_best 72 = .ok (.iconst 0, 1) := by decide +kernel
theorem dX6_best_73 : decode cX6_best 73 = .ok (.invokevirtual 415, 3) := by decide +kernel
theorem dX6_best_76 : decode cX6_best 76 = .ok (.goto 10, 3) := by decide +kernel
theorem dX6_best_79 : decode cX6_best 79 = .ok (.aload_n 0, 1) := by decide +kernel
theorem dX6_best_80 : decode cX6_best 80 = .ok (.iload_n 1, 1) := by decide +kernel
theorem dX6_best_81 : decode cX6_best 81 = .ok (.iconst 4, 1) := by decide +kernel
theorem dX6_best_82 : decode cX6_best 82 = .ok (.isub, 1) := by decide +kernel
theorem dX6_best_83 : decode cX6_best 83 = .ok (.invokevirtual 418, 3) := by decide +kernel
theorem dX6_best_86 : decode cX6_best 86 = .ok (.ireturn, 1) := by decide +kernel
theorem dX6_pack_0 : decode cX6_pack 0 = .ok (.aload_n 0, 1) := by decide +kernel
theorem dX6_pack_1 : decode cX6_pack 1 = .ok (.iload_n 1, 1) := by decide +kernel
theorem dX6_pack_2 : decode cX6_pack 2 = .ok (.invokevirtual 155, 3) := by decide +kernel
theorem dX6_pack_5 : decode cX6_pack 5 = .ok (.ifCond .eq 13, 3) := by decide +kernel
theorem dX6_pack_8 : decode cX6_pack 8 = .ok (.iload_n 2, 1) := by decide +kernel
theorem dX6_pack_9 : decode cX6_pack 9 = .ok (.i2l, 1) := by decide +kernel
theorem dX6_pack_10 : decode cX6_pack 10 = .ok (.lconst 0, 1) := by decide +kernel
theorem dX6_pack_11 : decode cX6_pack 11 = .ok (.lconst 1, 1) := by decide +kernel
theorem dX6_pack_12 : decode cX6_pack 12 = .ok (.invokestatic 107, 3) := by decide +kernel
theorem dX6_pack_15 : decode cX6_pack 15 = .ok (.ifCond .ne 6, 3) := by decide +kernel
theorem dX6_pack_18 : decode cX6_pack 18 = .ok (.bipush (-2), 2) := by decide +kernel
theorem dX6_pack_20 : decode cX6_pack 20 = .ok (.ireturn, 1) := by decide +kernel
theorem dX6_pack_21 : decode cX6_pack 21 = .ok (.aload_n 0, 1) := by decide +kernel
theorem dX6_pack_22 : decode cX6_pack 22 = .ok (.invokevirtual 409, 3) := by decide +kernel
theorem dX6_pack_25 : decode cX6_pack 25 = .ok (.aload_n 0, 1) := by decide +kernel
theorem dX6_pack_26 : decode cX6_pack 26 = .ok (.invokevirtual 392, 3) := by decide +kernel
theorem dX6_pack_29 : decode cX6_pack 29 = .ok (.istore_n 3, 1) := by decide +kernel
theorem dX6_pack_30 : decode cX6_pack 30 = .ok (.iconst (-1), 1) := by decide +kernel
theorem dX6_pack_31 : decode cX6_pack 31 = .ok (.istore 4, 2) := by decide +kernel
theorem dX6_pack_33 : decode cX6_pack 33 = .ok (.ldc_w 402, 3) := by decide +kernel
theorem dX6_pack_36 : decode cX6_pack 36 = .ok (.istore 5, 2) := by decide +kernel
theorem dX6_pack_38 : decode cX6_pack 38 = .ok (.iconst 0, 1) := by decide +kernel
theorem dX6_pack_39 : decode cX6_pack 39 = .ok (.istore 6, 2) := by decide +kernel
theorem dX6_pack_41 : decode cX6_pack 41 = .ok (.iload 6, 2) := by decide +kernel
theorem dX6_pack_43 : decode cX6_pack 43 = .ok (.aload_n 0, 1) := by decide +kernel
theorem dX6_pack_44 : decode cX6_pack 44 = .ok (.getfield 104, 3) := by decide +kernel
theorem dX6_pack_47 : decode cX6_pack 47 = .ok (.if_icmp .ge 55, 3) := by decide +kernel
theorem dX6_pack_50 : decode cX6_pack 50 = .ok (.aload_n 0, 1) := by decide +kernel
theorem dX6_pack_51 : decode cX6_pack 51 = .ok (.iload_n 3, 1) := by decide +kernel
theorem dX6_pack_52 : decode cX6_pack 52 = .ok (.iload_n 1, 1) := by decide +kernel
theorem dX6_pack_53 : decode cX6_pack 53 = .ok (.iload 6, 2) := by decide +kernel
theorem dX6_pack_55 : decode cX6_pack 55 = .ok (.invokevirtual 406, 3) := by decide +kernel
theorem dX6_pack_58 : decode cX6_pack 58 = .ok (.istore 7, 2) := by decide +kernel
theorem dX6_pack_60 : decode cX6_pack 60 = .ok (.aload_n 0, 1) := by decide +kernel
theorem dX6_pack_61 : decode cX6_pack 61 = .ok (.getfield 56, 3) := by decide +kernel
theorem dX6_pack_64 : decode cX6_pack 64 = .ok (.iload 7, 2) := by decide +kernel
theorem dX6_pack_66 : decode cX6_pack 66 = .ok (.iaload, 1) := by decide +kernel
theorem dX6_pack_67 : decode cX6_pack 67 = .ok (.iconst 1, 1) := by decide +kernel
theorem dX6_pack_68 : decode cX6_pack 68 = .ok (.if_icmp .ne 28, 3) := by decide +kernel
theorem dX6_pack_71 : decode cX6_pack 71 = .ok (.aload_n 0, 1) := by decide +kernel
theorem dX6_pack_72 : decode cX6_pack 72 = .ok (.getfield 59, 3) := by decide +kernel
theorem dX6_pack_75 : decode cX6_pack 75 = .ok (.iload 7, 2) := by decide +kernel
theorem dX6_pack_77 : decode cX6_pack 77 = .ok (.iaload, 1) := by decide +kernel
theorem dX6_pack_78 : decode cX6_pack 78 = .ok (.iload 5, 2) := by decide +kernel
theorem dX6_pack_80 : decode cX6_pack 80 = .ok (.if_icmp .ge 16, 3) := by decide +kernel
theorem dX6_pack_83 : decode cX6_pack 83 = .ok (.iload 6, 2) := by decide +kernel
theorem dX6_pack_85 : decode cX6_pack 85 = .ok (.istore 4, 2) := by decide +kernel
theorem dX6_pack_87 : decode cX6_pack 87 = .ok (.aload_n 0, 1) := by decide +kernel
theorem dX6_pack_88 : decode cX6_pack 88 = .ok (.getfield 59, 3) := by decide +kernel
theorem dX6_pack_91 : decode cX6_pack 91 = .ok (.iload 7, 2) := by decide +kernel
theorem dX6_pack_93 : decode cX6_pack 93 = .ok (.iaload, 1) := by decide +kernel
theorem dX6_pack_94 : decode cX6_pack 94 = .ok (.istore 5, 2) := by decide +kernel
theorem dX6_pack_96 : decode cX6_pack 96 = .ok (.iinc 6 1, 3) := by decide +kernel
theorem dX6_pack_99 : decode cX6_pack 99 = .ok (.goto (-58), 3) := by decide +kernel
theorem dX6_pack_102 : decode cX6_pack 102 = .ok (.iload_n 2, 1) := by decide +kernel
theorem dX6_pack_103 : decode cX6_pack 103 = .ok (.ifCond .ne 8, 3) := by decide +kernel
theorem dX6_pack_106 : decode cX6_pack 106 = .ok (.iload 4, 2) := by decide +kernel
theorem dX6_pack_108 : decode cX6_pack 108 = .ok (.goto 8, 3) := by decide +kernel
theorem dX6_pack_111 : decode cX6_pack 111 = .ok (.iload 5, 2) := by decide +kernel
theorem dX6_pack_113 : decode cX6_pack 113 = .ok (.invokestatic 412, 3) := by decide +kernel
theorem dX6_pack_116 : decode cX6_pack 116 = .ok (.ireturn, 1) := by decide +kernel
theorem dX6_ring_0 : decode cX6_ring 0 = .ok (.iload_n 1, 1) := by decide +kernel
theorem dX6_ring_1 : decode cX6_ring 1 = .ok (.i2l, 1) := by decide +kernel
theorem dX6_ring_2 : decode cX6_ring 2 = .ok (.lconst 0, 1) := by decide +kernel
theorem dX6_ring_3 : decode cX6_ring 3 = .ok (.lconst 1, 1) := by decide +kernel
theorem dX6_ring_4 : decode cX6_ring 4 = .ok (.invokestatic 107, 3) := by decide +kernel
theorem dX6_ring_7 : decode cX6_ring 7 = .ok (.ifCond .ne 6, 3) := by decide +kernel
theorem dX6_ring_10 : decode cX6_ring 10 = .ok (.bipush (-2), 2) := by decide +kernel
theorem dX6_ring_12 : decode cX6_ring 12 = .ok (.ireturn, 1) := by decide +kernel
theorem dX6_ring_13 : decode cX6_ring 13 = .ok (.aload_n 0, 1) := by decide +kernel
theorem dX6_ring_14 : decode cX6_ring 14 = .ok (.invokevirtual 409, 3) := by decide +kernel
theorem dX6_ring_17 : decode cX6_ring 17 = .ok (.aload_n 0, 1) := by decide +kernel
theorem dX6_ring_18 : decode cX6_ring 18 = .ok (.iconst 1, 1) := by decide +kernel
theorem dX6_ring_19 : decode cX6_ring 19 = .ok (.iconst 0, 1) := by decide +kernel
theorem dX6_ring_20 : decode cX6_ring 20 = .ok (.iconst 0, 1) := by decide +kernel
theorem dX6_ring_21 : decode cX6_ring 21 = .ok (.iconst 0, 1) := by decide +kernel
theorem dX6_ring_22 : decode cX6_ring 22 = .ok (.invokevirtual 379, 3) := by decide +kernel
theorem dX6_ring_25 : decode cX6_ring 25 = .ok (.istore_n 2, 1) := by decide +kernel
theorem dX6_ring_26 : decode cX6_ring 26 = .ok (.aload_n 0, 1) := by decide +kernel
theorem dX6_ring_27 : decode cX6_ring 27 = .ok (.getfield 62, 3) := by decide +kernel
theorem dX6_ring_30 : decode cX6_ring 30 = .ok (.aload_n 0, 1) := by decide +kernel
theorem dX6_ring_31 : decode cX6_ring 31 = .ok (.invokevirtual 392, 3) := by decide +kernel
theorem dX6_ring_34 : decode cX6_ring 34 = .ok (.iaload, 1) := by decide +kernel
theorem dX6_ring_35 : decode cX6_ring 35 = .ok (.istore_n 3, 1) := by decide +kernel
theorem dX6_ring_36 : decode cX6_ring 36 = .ok (.iload_n 1, 1) := by decide +kernel
theorem dX6_ring_37 : decode cX6_ring 37 = .ok (.ifCond .ne 14, 3) := by decide +kernel
theorem dX6_ring_40 : decode cX6_ring 40 = .ok (.iload_n 2, 1) := by decide +kernel
theorem dX6_ring_41 : decode cX6_ring 41 = .ok (.iload_n 3, 1) := by decide +kernel
theorem dX6_ring_42 : decode cX6_ring 42 = .ok (.if_icmp .ge 7, 3) := by decide +kernel
theorem dX6_ring_45 : decode cX6_ring 45 = .ok (.iconst 1, 1) := by decide +kernel
theorem dX6_ring_46 : decode cX6_ring 46 = .ok (.goto 4, 3) := by decide +kernel
theorem dX6_ring_49 : decode cX6_ring 49 = .ok (.iconst 0, 1) := by decide +kernel
theorem dX6_ring_50 : decode cX6_ring 50 = .ok (.ireturn, 1) := by decide +kernel
theorem dX6_ring_51 : decode cX6_ring 51 = .ok (.iload_n 2, 1) := by decide +kernel
theorem dX6_ring_52 : decode cX6_ring 52 = .ok (.iload_n 3, 1) := by decide +kernel
theorem dX6_ring_53 : decode cX6_ring 53 = .ok (.if_icmp .ge 7, 3) := by decide +kernel
theorem dX6_ring_56 : decode cX6_ring 56 = .ok (.iload_n 2, 1) := by decide +kernel
theorem dX6_ring_57 : decode cX6_ring 57 = .ok (.goto 4, 3) := by decide +kernel
theorem dX6_ring_60 : decode cX6_ring 60 = .ok (.iload_n 3, 1) := by decide +kernel
theorem dX6_ring_61 : decode cX6_ring 61 = .ok (.ireturn, 1) := by decide +kernel
theorem dX6_leave_0 : decode cX6_leave 0 = .ok (.aload_n 0, 1) := by decide +kernel
theorem dX6_leave_1 : decode cX6_leave 1 = .ok (.invokevirtual 409, 3) := by decide +kernel
theorem dX6_leave_4 : decode cX6_leave 4 = .ok (.aload_n 0, 1) := by decide +kernel
theorem dX6_leave_5 : decode cX6_leave 5 = .ok (.getfield 62, 3) := by decide +kernel
theorem dX6_leave_8 : decode cX6_leave 8 = .ok (.aload_n 0, 1) := by decide +kernel
theorem dX6_leave_9 : decode cX6_leave 9 = .ok (.invokevirtual 392, 3) := by decide +kernel
theorem dX6_leave_12 : decode cX6_leave 12 = .ok (.iaload, 1) := by decide +kernel
theorem dX6_leave_13 : decode cX6_leave 13 = .ok (.istore_n 1, 1) := by decide +kernel
theorem dX6_leave_14 : decode cX6_leave 14 = .ok (.iconst (-1), 1) := by decide +kernel
theorem dX6_leave_15 : decode cX6_leave 15 = .ok (.istore_n 2, 1) := by decide +kernel
theorem dX6_leave_16 : decode cX6_leave 16 = .ok (.iconst 0, 1) := by decide +kernel
theorem dX6_leave_17 : decode cX6_leave 17 = .ok (.istore_n 3, 1) := by decide +kernel
theorem dX6_leave_18 : decode cX6_leave 18 = .ok (.iload_n 3, 1) := by decide +kernel
theorem dX6_leave_19 : decode cX6_leave 19 = .ok (.aload_n 0, 1) := by decide +kernel
theorem dX6_leave_20 : decode cX6_leave 20 = .ok (.getfield 111, 3) := by decide +kernel
theorem dX6_leave_23 : decode cX6_leave 23 = .ok (.if_icmp .ge 85, 3) := by decide +kernel
theorem dX6_leave_26 : decode cX6_leave 26 = .ok (.iload_n 3, 1) := by decide +kernel
theorem dX6_leave_27 : decode cX6_leave 27 = .ok (.aload_n 0, 1) := by decide +kernel
theorem dX6_leave_28 : decode cX6_leave 28 = .ok (.getfield 41, 3) := by decide +kernel
theorem dX6_leave_31 : decode cX6_leave 31 = .ok (.if_icmp .eq 71, 3) := by decide +kernel
theorem dX6_leave_34 : decode cX6_leave 34 = .ok (.aload_n 0, 1) := by decide +kernel
theorem dX6_leave_35 : decode cX6_leave 35 = .ok (.iload_n 3, 1) := by decide +kernel
theorem dX6_leave_36 : decode cX6_leave 36 = .ok (.putfield 50, 3) := by decide +kernel
theorem dX6_leave_39 : decode cX6_leave 39 = .ok (.aload_n 0, 1) := by decide +kernel
theorem dX6_leave_40 : decode cX6_leave 40 = .ok (.invokevirtual 409, 3) := by decide +kernel
theorem dX6_leave_43 : decode cX6_leave 43 = .ok (.aload_n 0, 1) := by decide +kernel
theorem dX6_leave_44 : decode cX6_leave 44 = .ok (.getfield 62, 3) := by decide +kernel
theorem dX6_leave_47 : decode cX6_leave 47 = .ok (.aload_n 0, 1) := by decide +kernel
theorem dX6_leave_48 : decode cX6_leave 48 = .ok (.invokevirtual 392, 3) := by decide +kernel
theorem dX6_leave_51 : decode cX6_leave 51 = .ok (.iaload, 1) := by decide +kernel
theorem dX6_leave_52 : decode cX6_leave 52 = .ok (.istore 4, 2) := by decide +kernel
theorem dX6_leave_54 : decode cX6_leave 54 = .ok (.aload_n 0, 1) := by decide +kernel
theorem dX6_leave_55 : decode cX6_leave 55 = .ok (.iconst (-1), 1) := by decide +kernel
theorem dX6_leave_56 : decode cX6_leave 56 = .ok (.putfield 50, 3) := by decide +kernel
theorem dX6_leave_59 : decode cX6_leave 59 = .ok (.iload 4, 2) := by decide +kernel
theorem dX6_leave_61 : decode cX6_leave 61 = .ok (.ldc_w 402, 3) := by decide +kernel
theorem dX6_leave_64 : decode cX6_leave 64 = .ok (.if_icmp .lt 9, 3) := by decide +kernel
theorem dX6_leave_67 : decode cX6_leave 67 = .ok (.ldc_w 402, 3) := by decide +kernel
theorem dX6_leave_70 : decode cX6_leave 70 = .ok (.goto 19, 3) := by decide +kernel
theorem dX6_leave_73 : decode cX6_leave 73 = .ok (.iload 4, 2) := by decide +kernel
theorem dX6_leave_75 : decode cX6_leave 75 = .ok (.aload_n 0, 1) := by decide +kernel
theorem dX6_leave_76 : decode cX6_leave 76 = .ok (.iconst 2, 1) := by decide +kernel
theorem dX6_leave_77 : decode cX6_leave 77 = .ok (.iload_n 3, 1) := by decide +kernel
theorem dX6_leave_78 : decode cX6_leave 78 = .ok (.aload_n 0, 1) := by decide +kernel
theorem dX6_leave_79 : decode cX6_leave 79 = .ok (.getfield 35, 3) := by decide +kernel
theorem dX6_leave_82 : decode cX6_leave 82 = .ok (.iload_n 3, 1) := by decide +kernel
theorem dX6_leave_83 : decode cX6_leave 83 = .ok (.iaload, 1) := by decide +kernel
theorem dX6_leave_84 : decode cX6_leave 84 = .ok (.iconst 0, 1) := by decide +kernel
theorem dX6_leave_85 : decode cX6_leave 85 = .ok (.invokevirtual 379, 3) := by decide +kernel
theorem dX6_leave_88 : decode cX6_leave 88 = .ok (.iadd, 1) := by decide +kernel
theorem dX6_leave_89 : decode cX6_leave 89 = .ok (.istore 5, 2) := by decide +kernel
theorem dX6_leave_91 : decode cX6_leave 91 = .ok (.iload 5, 2) := by decide +kernel
theorem dX6_leave_93 : decode cX6_leave 93 = .ok (.iload_n 1, 1) := by decide +kernel
theorem dX6_leave_94 : decode cX6_leave 94 = .ok (.if_icmp .ge 8, 3) := by decide +kernel
theorem dX6_leave_97 : decode cX6_leave 97 = .ok (.iload_n 3, 1) := by decide +kernel
theorem dX6_leave_98 : decode cX6_leave 98 = .ok (.istore_n 2, 1) := by decide +kernel
theorem dX6_leave_99 : decode cX6_leave 99 = .ok (.iload 5, 2) := by decide +kernel
theorem dX6_leave_101 : decode cX6_leave 101 = .ok (.istore_n 1, 1) := by decide +kernel
theorem dX6_leave_102 : decode cX6_leave 102 = .ok (.iinc 3 1, 3) := by decide +kernel
theorem dX6_leave_105 : decode cX6_leave 105 = .ok (.goto (-87), 3) := by decide +kernel
theorem dX6_leave_108 : decode cX6_leave 108 = .ok (.iload_n 2, 1) := by decide +kernel
theorem dX6_leave_109 : decode cX6_leave 109 = .ok (.ireturn, 1) := by decide +kernel
theorem dX6_roomy_0 : decode cX6_roomy 0 = .ok (.iload_n 1, 1) := by decide +kernel
theorem dX6_roomy_1 : decode cX6_roomy 1 = .ok (.i2l, 1) := by decide +kernel
theorem dX6_roomy_2 : decode cX6_roomy 2 = .ok (.lconst 0, 1) := by decide +kernel
theorem dX6_roomy_3 : decode cX6_roomy 3 = .ok (.lconst 1, 1) := by decide +kernel
theorem dX6_roomy_4 : decode cX6_roomy 4 = .ok (.invokestatic 107, 3) := by decide +kernel
theorem dX6_roomy_7 : decode cX6_roomy 7 = .ok (.ifCond .ne 6, 3) := by decide +kernel
theorem dX6_roomy_10 : decode cX6_roomy 10 = .ok (.bipush (-2), 2) := by decide +kernel
theorem dX6_roomy_12 : decode cX6_roomy 12 = .ok (.ireturn, 1) := by decide +kernel
theorem dX6_roomy_13 : decode cX6_roomy 13 = .ok (.aload_n 0, 1) := by decide +kernel
theorem dX6_roomy_14 : decode cX6_roomy 14 = .ok (.invokevirtual 409, 3) := by decide +kernel
theorem dX6_roomy_17 : decode cX6_roomy 17 = .ok (.aload_n 0, 1) := by decide +kernel
theorem dX6_roomy_18 : decode cX6_roomy 18 = .ok (.getfield 62, 3) := by decide +kernel
theorem dX6_roomy_21 : decode cX6_roomy 21 = .ok (.aload_n 0, 1) := by decide +kernel
theorem dX6_roomy_22 : decode cX6_roomy 22 = .ok (.invokevirtual 392, 3) := by decide +kernel
theorem dX6_roomy_25 : decode cX6_roomy 25 = .ok (.iaload, 1) := by decide +kernel
theorem dX6_roomy_26 : decode cX6_roomy 26 = .ok (.istore_n 2, 1) := by decide +kernel
theorem dX6_roomy_27 : decode cX6_roomy 27 = .ok (.iconst (-1), 1) := by decide +kernel
theorem dX6_roomy_28 : decode cX6_roomy 28 = .ok (.istore_n 3, 1) := by decide +kernel
theorem dX6_roomy_29 : decode cX6_roomy 29 = .ok (.iconst 0, 1) := by decide +kernel
theorem dX6_roomy_30 : decode cX6_roomy 30 = .ok (.istore 4, 2) := by decide +kernel
theorem dX6_roomy_32 : decode cX6_roomy 32 = .ok (.iload 4, 2) := by decide +kernel
theorem dX6_roomy_34 : decode cX6_roomy 34 = .ok (.aload_n 0, 1) := by decide +kernel
theorem dX6_roomy_35 : decode cX6_roomy 35 = .ok (.getfield 104, 3) := by decide +kernel
theorem dX6_roomy_38 : decode cX6_roomy 38 = .ok (.if_icmp .ge 47, 3) := by decide +kernel
theorem dX6_roomy_41 : decode cX6_roomy 41 = .ok (.aload_n 0, 1) := by decide +kernel
theorem dX6_roomy_42 : decode cX6_roomy 42 = .ok (.iload 4, 2) := by decide +kernel
theorem dX6_roomy_44 : decode cX6_roomy 44 = .ok (.putfield 47, 3) := by decide +kernel
theorem dX6_roomy_47 : decode cX6_roomy 47 = .ok (.aload_n 0, 1) := by decide +kernel
theorem dX6_roomy_48 : decode cX6_roomy 48 = .ok (.invokevirtual 409, 3) := by decide +kernel
theorem dX6_roomy_51 : decode cX6_roomy 51 = .ok (.aload_n 0, 1) := by decide +kernel
theorem dX6_roomy_52 : decode cX6_roomy 52 = .ok (.iconst (-1), 1) := by decide +kernel
theorem dX6_roomy_53 : decode cX6_roomy 53 = .ok (.putfield 47, 3) := by decide +kernel
theorem dX6_roomy_56 : decode cX6_roomy 56 = .ok (.aload_n 0, 1) := by decide +kernel
theorem dX6_roomy_57 : decode cX6_roomy 57 = .ok (.getfield 62, 3) := by decide +kernel
theorem dX6_roomy_60 : decode cX6_roomy 60 = .ok (.aload_n 0, 1) := by decide +kernel
theorem dX6_roomy_61 : decode cX6_roomy 61 = .ok (.invokevirtual 392, 3) := by decide +kernel
theorem dX6_roomy_64 : decode cX6_roomy 64 = .ok (.iaload, 1) := by decide +kernel
theorem dX6_roomy_65 : decode cX6_roomy 65 = .ok (.istore 5, 2) := by decide +kernel
theorem dX6_roomy_67 : decode cX6_roomy 67 = .ok (.iload 5, 2) := by decide +kernel
theorem dX6_roomy_69 : decode cX6_roomy 69 = .ok (.iload_n 2, 1) := by decide +kernel
theorem dX6_roomy_70 : decode cX6_roomy 70 = .ok (.if_icmp .ge 9, 3) := by decide +kernel
theorem dX6_roomy_73 : decode cX6_roomy 73 = .ok (.iload 4, 2) := by decide +kernel
theorem dX6_roomy_75 : decode cX6_roomy 75 = .ok (.istore_n 3, 1) := by decide +kernel
theorem dX6_roomy_76 : decode cX6_roomy 76 = .ok (.iload 5, 2) := by decide +kernel
theorem dX6_roomy_78 : decode cX6_roomy 78 = .ok (.istore_n 2, 1) := by decide +kernel
theorem dX6_roomy_79 : decode cX6_roomy 79 = .ok (.iinc 4 1, 3) := by decide +kernel
theorem dX6_roomy_82 : decode cX6_roomy 82 = .ok (.goto (-50), 3) := by decide +kernel
theorem dX6_roomy_85 : decode cX6_roomy 85 = .ok (.iload_n 1, 1) := by decide +kernel
theorem dX6_roomy_86 : decode cX6_roomy 86 = .ok (.ifCond .eq 8, 3) := by decide +kernel
theorem dX6_roomy_89 : decode cX6_roomy 89 = .ok (.iload_n 3, 1) := by decide +kernel
theorem dX6_roomy_90 : decode cX6_roomy 90 = .ok (.iconst (-1), 1) := by decide +kernel
theorem dX6_roomy_91 : decode cX6_roomy 91 = .ok (.if_icmp .ne 7, 3) := by decide +kernel
theorem dX6_roomy_94 : decode cX6_roomy 94 = .ok (.iload_n 3, 1) := by decide +kernel
theorem dX6_roomy_95 : decode cX6_roomy 95 = .ok (.goto 4, 3) := by decide +kernel
theorem dX6_roomy_98 : decode cX6_roomy 98 = .ok (.iload_n 2, 1) := by decide +kernel
theorem dX6_roomy_99 : decode cX6_roomy 99 = .ok (.ireturn, 1) := by decide +kernel
theorem dX6_goesBy_0 : decode cX6_goesBy 0 = .ok (.iconst 0, 1) := by decide +kernel
theorem dX6_goesBy_1 : decode cX6_goesBy 1 = .ok (.istore_n 2, 1) := by decide +kernel
theorem dX6_goesBy_2 : decode cX6_goesBy 2 = .ok (.iload_n 2, 1) := by decide +kernel
theorem dX6_goesBy_3 : decode cX6_goesBy 3 = .ok (.iconst 5, 1) := by decide +kernel
theorem dX6_goesBy_4 : decode cX6_goesBy 4 = .ok (.if_icmp .ge 21, 3) := by decide +kernel
theorem dX6_goesBy_7 : decode cX6_goesBy 7 = .ok (.aload_n 0, 1) := by decide +kernel
theorem dX6_goesBy_8 : decode cX6_goesBy 8 = .ok (.getfield 53, 3) := by decide +kernel
theorem dX6_goesBy_11 : decode cX6_goesBy 11 = .ok (.iload_n 2, 1) := by decide +kernel
theorem dX6_goesBy_12 : decode cX6_goesBy 12 = .ok (.aload_n 0, 1) := by decide +kernel
theorem dX6_goesBy_13 : decode cX6_goesBy 13 = .ok (.getfield 35, 3) := by decide +kernel
theorem dX6_goesBy_16 : decode cX6_goesBy 16 = .ok (.iload_n 2, 1) := by decide +kernel
theorem dX6_goesBy_17 : decode cX6_goesBy 17 = .ok (.iaload, 1) := by decide +kernel
theorem dX6_goesBy_18 : decode cX6_goesBy 18 = .ok (.iastore, 1) := by decide +kernel
theorem dX6_goesBy_19 : decode cX6_goesBy 19 = .ok (.iinc 2 1, 3) := by decide +kernel
theorem dX6_goesBy_22 : decode cX6_goesBy 22 = .ok (.goto (-20), 3) := by decide +kernel
theorem dX6_goesBy_25 : decode cX6_goesBy 25 = .ok (.aload_n 0, 1) := by decide +kernel
theorem dX6_goesBy_26 : decode cX6_goesBy 26 = .ok (.iconst 0, 1) := by decide +kernel
theorem dX6_goesBy_27 : decode cX6_goesBy 27 = .ok (.putfield 421, 3) := by decide +kernel
theorem dX6_goesBy_30 : decode cX6_goesBy 30 = .ok (.iconst (-1), 1) := by decide +kernel
theorem dX6_goesBy_31 : decode cX6_goesBy 31 = .ok (.istore_n 2, 1) := by decide +kernel
theorem dX6_goesBy_32 : decode cX6_goesBy 32 = .ok (.iconst 0, 1) := by decide +kernel
theorem dX6_goesBy_33 : decode cX6_goesBy 33 = .ok (.istore_n 3, 1) := by decide +kernel
theorem dX6_goesBy_34 : decode cX6_goesBy 34 = .ok (.iload_n 3, 1) := by decide +kernel
theorem dX6_goesBy_35 : decode cX6_goesBy 35 = .ok (.aload_n 0, 1) := by decide +kernel
theorem dX6_goesBy_36 : decode cX6_goesBy 36 = .ok (.getfield 91, 3) := by decide +kernel
theorem dX6_goesBy_39 : decode cX6_goesBy 39 = .ok (.iload_n 1, 1) := by decide +kernel
theorem dX6_goesBy_40 : decode cX6_goesBy 40 = .ok (.iaload, 1) := by decide +kernel
theorem dX6_goesBy_41 : decode cX6_goesBy 41 = .ok (.if_icmp .ge 82, 3) := by decide +kernel
theorem dX6_goesBy_44 : decode cX6_goesBy 44 = .ok (.iload_n 2, 1) := by decide +kernel
theorem dX6_goesBy_45 : decode cX6_goesBy 45 = .ok (.iconst (-1), 1) := by decide +kernel
theorem dX6_goesBy_46 : decode cX6_goesBy 46 = .ok (.if_icmp .ne 77, 3) := by decide +kernel
theorem dX6_goesBy_49 : decode cX6_goesBy 49 = .ok (.aload_n 0, 1) := by decide +kernel
theorem dX6_goesBy_50 : decode cX6_goesBy 50 = .ok (.getfield 94, 3) := by decide +kernel
theorem dX6_goesBy_53 : decode cX6_goesBy 53 = .ok (.bipush 40, 2) := by decide +kernel
theorem dX6_goesBy_55 : decode cX6_goesBy 55 = .ok (.iload_n 1, 1) := by decide +kernel
theorem dX6_goesBy_56 : decode cX6_goesBy 56 = .ok (.imul, 1) := by decide +kernel
theorem dX6_goesBy_57 : decode cX6_goesBy 57 = .ok (.iload_n 3, 1) := by decide +kernel
theorem dX6_goesBy_58 : decode cX6_goesBy 58 = .ok (.iadd, 1) := by decide +kernel
theorem dX6_goesBy_59 : decode cX6_goesBy 59 = .ok (.iaload, 1) := by decide +kernel
theorem dX6_goesBy_60 : decode cX6_goesBy 60 = .ok (.istore 4, 2) := by decide +kernel
theorem dX6_goesBy_62 : decode cX6_goesBy 62 = .ok (.iload 4, 2) := by decide +kernel
theorem dX6_goesBy_64 : decode cX6_goesBy 64 = .ok (.i2l, 1) := by decide +kernel
theorem dX6_goesBy_65 : decode cX6_goesBy 65 = .ok (.lconst 0, 1) := by decide +kernel
theorem dX6_goesBy_66 : decode cX6_goesBy 66 = .ok (.ldc2_w 147, 3) := by decide +kernel
theorem dX6_goesBy_69 : decode cX6_goesBy 69 = .ok (.invokestatic 107, 3) := by decide +kernel
theorem dX6_goesBy_72 : decode cX6_goesBy 72 = .ok (.ifCond .eq 20, 3) := by decide +kernel
theorem dX6_goesBy_75 : decode cX6_goesBy 75 = .ok (.aload_n 0, 1) := by decide +kernel
theorem dX6_goesBy_76 : decode cX6_goesBy 76 = .ok (.iload 4, 2) := by decide +kernel
theorem dX6_goesBy_78 : decode cX6_goesBy 78 = .ok (.bipush 10, 2) := by decide +kernel
theorem dX6_goesBy_80 : decode cX6_goesBy 80 = .ok (.idiv, 1) := by decide +kernel
theorem dX6_goesBy_81 : decode cX6_goesBy 81 = .ok (.iload 4, 2) := by decide +kernel
theorem dX6_goesBy_83 : decode cX6_goesBy 83 = .ok (.bipush 10, 2) := by decide +kernel
theorem dX6_goesBy_85 : decode cX6_goesBy 85 = .ok (.irem, 1) := by decide +kernel
theorem dX6_goesBy_86 : decode cX6_goesBy 86 = .ok (.invokevirtual 424, 3) := by decide +kernel
theorem dX6_goesBy_89 : decode cX6_goesBy 89 = .ok (.goto 5, 3) := by decide +kernel
theorem dX6_goesBy_92 : decode cX6_goesBy 92 = .ok (.bipush (-2), 2) := by decide +kernel
theorem dX6_goesBy_94 : decode cX6_goesBy 94 = .ok (.istore 5, 2) := by decide +kernel
theorem dX6_goesBy_96 : decode cX6_goesBy 96 = .ok (.iload 5, 2) := by decide +kernel
theorem dX6_goesBy_98 : decode cX6_goesBy 98 = .ok (.ifCond .ge 8, 3) := by decide +kernel
theorem dX6_goesBy_101 : decode cX6_goesBy 101 = .ok (.iload_n 3, 1) := by decide +kernel
theorem dX6_goesBy_102 : decode cX6_goesBy 102 = .ok (.istore_n 2, 1) := by decide +kernel
theorem dX6_goesBy_103 : decode cX6_goesBy 103 = .ok (.goto 14, 3) := by decide +kernel
theorem dX6_goesBy_106 : decode cX6_goesBy 106 = .ok (.aload_n 0, 1) := by decide +kernel
theorem dX6_goesBy_107 : decode cX6_goesBy 107 = .ok (.dup, 1) := by decide +kernel
theorem dX6_goesBy_108 : decode cX6_goesBy 108 = .ok (.getfield 421, 3) := by decide +kernel
theorem dX6_goesBy_111 : decode cX6_goesBy 111 = .ok (.iload 5, 2) := by decide +kernel
theorem dX6_goesBy_113 : decode cX6_goesBy 113 = .ok (.iadd, 1) := by decide +kernel
theorem dX6_goesBy_114 : decode cX6_goesBy 114 = .ok (.putfield 421, 3) := by decide +kernel
theorem dX6_goesBy_117 : decode cX6_goesBy 117 = .ok (.iinc 3 1, 3) := by decide +kernel
theorem dX6_goesBy_120 : decode cX6_goesBy 120 = .ok (.goto (-86), 3) := by decide +kernel
theorem dX6_goesBy_123 : decode cX6_goesBy 123 = .ok (.aload_n 0, 1) := by decide +kernel
theorem dX6_goesBy_124 : decode cX6_goesBy 124 = .ok (.aload_n 0, 1) := by decide +kernel
theorem dX6_goesBy_125 : decode cX6_goesBy 125 = .ok (.invokevirtual 386, 3) := by decide +kernel
theorem dX6_goesBy_128 : decode cX6_goesBy 128 = .ok (.putfield 427, 3) := by decide +kernel
theorem dX6_goesBy_131 : decode cX6_goesBy 131 = .ok (.iconst 0, 1) := by decide +kernel
theorem dX6_goesBy_132 : decode cX6_goesBy 132 = .ok (.istore_n 3, 1) := by decide +kernel
theorem dX6_goesBy_133 : decode cX6_goesBy 133 = .ok (.iload_n 3, 1) := by decide +kernel
theorem dX6_goesBy_134 : decode cX6_goesBy 134 = .ok (.iconst 5, 1) := by decide +kernel
theorem dX6_goesBy_135 : decode cX6_goesBy 135 = .ok (.if_icmp .ge 21, 3) := by decide +kernel
theorem dX6_goesBy_138 : decode cX6_goesBy 138 = .ok (.aload_n 0, 1) := by decide +kernel
theorem dX6_goesBy_139 : decode cX6_goesBy 139 = .ok (.getfield 35, 3) := by decide +kernel
theorem dX6_goesBy_142 : decode cX6_goesBy 142 = .ok (.iload_n 3, 1) := by decide +kernel
theorem dX6_goesBy_143 : decode cX6_goesBy 143 = .ok (.aload_n 0, 1) := by decide +kernel
theorem dX6_goesBy_144 : decode cX6_goesBy 144 = .ok (.getfield 53, 3) := by decide +kernel
theorem dX6_goesBy_147 : decode cX6_goesBy 147 = .ok (.iload_n 3, 1) := by decide +kernel
theorem dX6_goesBy_148 : decode cX6_goesBy 148 = .ok (.iaload, 1) := by decide +kernel
theorem dX6_goesBy_149 : decode cX6_goesBy 149 = .ok (.iastore, 1) := by decide +kernel
theorem dX6_goesBy_150 : decode cX6_goesBy 150 = .ok (.iinc 3 1, 3) := by decide +kernel
theorem dX6_goesBy_153 : decode cX6_goesBy 153 = .ok (.goto (-20), 3) := by decide +kernel
theorem dX6_goesBy_156 : decode cX6_goesBy 156 = .ok (.iload_n 2, 1) := by decide +kernel
theorem dX6_goesBy_157 : decode cX6_goesBy 157 = .ok (.ireturn, 1) := by decide +kernel
theorem dX6_judge_0 : decode cX6_judge 0 = .ok (.iload_n 1, 1) := by decide +kernel
theorem dX6_judge_1 : decode cX6_judge 1 = .ok (.invokestatic 430, 3) := by decide +kernel
theorem dX6_judge_4 : decode cX6_judge 4 = .ok (.ifCond .eq 15, 3) := by decide +kernel
theorem dX6_judge_7 : decode cX6_judge 7 = .ok (.iload_n 2, 1) := by decide +kernel
theorem dX6_judge_8 : decode cX6_judge 8 = .ok (.i2l, 1) := by decide +kernel
theorem dX6_judge_9 : decode cX6_judge 9 = .ok (.lconst 0, 1) := by decide +kernel
theorem dX6_judge_10 : decode cX6_judge 10 = .ok (.ldc2_w 377, 3) := by decide +kernel
theorem dX6_judge_13 : decode cX6_judge 13 = .ok (.invokestatic 107, 3) := by decide +kernel
theorem dX6_judge_16 : decode cX6_judge 16 = .ok (.ifCond .ne 6, 3) := by decide +kernel
theorem dX6_judge_19 : decode cX6_judge 19 = .ok (.bipush (-2), 2) := by decide +kernel
theorem dX6_judge_21 : decode cX6_judge 21 = .ok (.ireturn, 1) := by decide +kernel
theorem dX6_judge_22 : decode cX6_judge 22 = .ok (.aload_n 0, 1) := by decide +kernel
theorem dX6_judge_23 : decode cX6_judge 23 = .ok (.getfield 84, 3) := by decide +kernel
theorem dX6_judge_26 : decode cX6_judge 26 = .ok (.iload_n 1, 1) := by decide +kernel
theorem dX6_judge_27 : decode cX6_judge 27 = .ok (.baload, 1) := by decide +kernel
theorem dX6_judge_28 : decode cX6_judge 28 = .ok (.ifCond .ne 6, 3) := by decide +kernel
theorem dX6_judge_31 : decode cX6_judge 31 = .ok (.bipush (-11), 2) := by decide +kernel
theorem dX6_judge_33 : decode cX6_judge 33 = .ok (.ireturn, 1) := by decide +kernel
theorem dX6_judge_34 : decode cX6_judge 34 = .ok (.aload_n 0, 1) := by decide +kernel
theorem dX6_judge_35 : decode cX6_judge 35 = .ok (.iload_n 1, 1) := by decide +kernel
theorem dX6_judge_36 : decode cX6_judge 36 = .ok (.invokevirtual 433, 3) := by decide +kernel
theorem dX6_judge_39 : decode cX6_judge 39 = .ok (.istore_n 3, 1) := by decide +kernel
theorem dX6_judge_40 : decode cX6_judge 40 = .ok (.iload_n 2, 1) := by decide +kernel
theorem dX6_judge_41 : decode cX6_judge 41 = .ok (.ifCond .ne 7, 3) := by decide +kernel
theorem dX6_judge_44 : decode cX6_judge 44 = .ok (.iload_n 3, 1) := by decide +kernel
theorem dX6_judge_45 : decode cX6_judge 45 = .ok (.goto 27, 3) := by decide +kernel
theorem dX6_judge_48 : decode cX6_judge 48 = .ok (.iload_n 2, 1) := by decide +kernel
theorem dX6_judge_49 : decode cX6_judge 49 = .ok (.iconst 1, 1) := by decide +kernel
theorem dX6_judge_50 : decode cX6_judge 50 = .ok (.if_icmp .ne 10, 3) := by decide +kernel
theorem dX6_judge_53 : decode cX6_judge 53 = .ok (.aload_n 0, 1) := by decide +kernel
theorem dX6_judge_54 : decode cX6_judge 54 = .ok (.getfield 421, 3) := by decide +kernel
theorem dX6_judge_57 : decode cX6_judge 57 = .ok (.goto 15, 3) := by decide +kernel
theorem dX6_judge_60 : decode cX6_judge 60 = .ok (.aload_n 0, 1) := by decide +kernel
theorem dX6_judge_61 : decode cX6_judge 61 = .ok (.getfield 427, 3) := by decide +kernel
theorem dX6_judge_64 : decode cX6_judge 64 = .ok (.ifCond .eq 7, 3) := by decide +kernel
theorem dX6_judge_67 : decode cX6_judge 67 = .ok (.iconst 1, 1) := by decide +kernel
theorem dX6_judge_68 : decode cX6_judge 68 = .ok (.goto 4, 3) := by decide +kernel
theorem dX6_judge_71 : decode cX6_judge 71 = .ok (.iconst 0, 1) := by decide +kernel
theorem dX6_judge_72 : decode cX6_judge 72 = .ok (.ireturn, 1) := by decide +kernel
theorem dX6_codeOf_0 : decode cX6_codeOf 0 = .ok (.iconst 0, 1) := by decide +kernel
theorem dX6_codeOf_1 : decode cX6_codeOf 1 = .ok (.istore_n 2, 1) := by decide +kernel
theorem dX6_codeOf_2 : decode cX6_codeOf 2 = .ok (.iconst 0, 1) := by decide +kernel
theorem dX6_codeOf_3 : decode cX6_codeOf 3 = .ok (.istore_n 3, 1) := by decide +kernel
theorem dX6_codeOf_4 : decode cX6_codeOf 4 = .ok (.iload_n 3, 1) := by decide +kernel
theorem dX6_codeOf_5 : decode cX6_codeOf 5 = .ok (.aload_n 0, 1) := by decide +kernel
theorem dX6_codeOf_6 : decode cX6_codeOf 6 = .ok (.getfield 111, 3) := by decide +kernel
theorem dX6_codeOf_9 : decode cX6_codeOf 9 = .ok (.if_icmp .ge 43, 3) := by decide +kernel
theorem dX6_codeOf_12 : decode cX6_codeOf 12 = .ok (.aload_n 0, 1) := by decide +kernel
theorem dX6_codeOf_13 : decode cX6_codeOf 13 = .ok (.getfield 94, 3) := by decide +kernel
theorem dX6_codeOf_16 : decode cX6_codeOf 16 = .ok (.bipush 40, 2) := by decide +kernel
theorem dX6_codeOf_18 : decode cX6_codeOf 18 = .ok (.iload_n 1, 1) := by decide +kernel
theorem dX6_codeOf_19 : decode cX6_codeOf 19 = .ok (.imul, 1) := by decide +kernel
theorem dX6_codeOf_20 : decode cX6_codeOf 20 = .ok (.iload_n 3, 1) := by decide +kernel
theorem dX6_codeOf_21 : decode cX6_codeOf 21 = .ok (.iadd, 1) := by decide +kernel
theorem dX6_codeOf_22 : decode cX6_codeOf 22 = .ok (.iaload, 1) := by decide +kernel
theorem dX6_codeOf_23 : decode cX6_codeOf 23 = .ok (.istore 4, 2) := by decide +kernel
theorem dX6_codeOf_25 : decode cX6_codeOf 25 = .ok (.aload_n 0, 1) := by decide +kernel
theorem dX6_codeOf_26 : decode cX6_codeOf 26 = .ok (.iload 4, 2) := by decide +kernel
theorem dX6_codeOf_28 : decode cX6_codeOf 28 = .ok (.invokevirtual 149, 3) := by decide +kernel
theorem dX6_codeOf_31 : decode cX6_codeOf 31 = .ok (.ifCond .ne 5, 3) := by decide +kernel
theorem dX6_codeOf_34 : decode cX6_codeOf 34 = .ok (.iconst (-1), 1) := by decide +kernel
theorem dX6_codeOf_35 : decode cX6_codeOf 35 = .ok (.ireturn, 1) := by decide +kernel
theorem dX6_codeOf_36 : decode cX6_codeOf 36 = .ok (.iload_n 2, 1) := by decide +kernel
theorem dX6_codeOf_37 : decode cX6_codeOf 37 = .ok (.iload_n 3, 1) := by decide +kernel
theorem dX6_codeOf_38 : decode cX6_codeOf 38 = .ok (.invokestatic 389, 3) := by decide +kernel
theorem dX6_codeOf_41 : decode cX6_codeOf 41 = .ok (.iload 4, 2) := by decide +kernel
theorem dX6_codeOf_43 : decode cX6_codeOf 43 = .ok (.imul, 1) := by decide +kernel
theorem dX6_codeOf_44 : decode cX6_codeOf 44 = .ok (.iadd, 1) := by decide +kernel
theorem dX6_codeOf_45 : decode cX6_codeOf 45 = .ok (.istore_n 2, 1) := by decide +kernel
theorem dX6_codeOf_46 : decode cX6_codeOf 46 = .ok (.iinc 3 1, 3) := by decide +kernel
theorem dX6_codeOf_49 : decode cX6_codeOf 49 = .ok (.goto (-45), 3) := by decide +kernel
theorem dX6_codeOf_52 : decode cX6_codeOf 52 = .ok (.iload_n 2, 1) := by decide +kernel
theorem dX6_codeOf_53 : decode cX6_codeOf 53 = .ok (.ireturn, 1) := by decide +kernel
theorem dX6_begins_0 : decode cX6_begins 0 = .ok (.aload_n 0, 1) := by decide +kernel
theorem dX6_begins_1 : decode cX6_begins 1 = .ok (.invokevirtual 409, 3) := by decide +kernel
theorem dX6_begins_4 : decode cX6_begins 4 = .ok (.iconst 0, 1) := by decide +kernel
theorem dX6_begins_5 : decode cX6_begins 5 = .ok (.istore_n 1, 1) := by decide +kernel
theorem dX6_begins_6 : decode cX6_begins 6 = .ok (.iload_n 1, 1) := by decide +kernel
theorem dX6_begins_7 : decode cX6_begins 7 = .ok (.sipush 3125, 3) := by decide +kernel
theorem dX6_begins_10 : decode cX6_begins 10 = .ok (.if_icmp .ge 16, 3) := by decide +kernel
theorem dX6_begins_13 : decode cX6_begins 13 = .ok (.aload_n 0, 1) := by decide +kernel
theorem dX6_begins_14 : decode cX6_begins 14 = .ok (.getfield 71, 3) := by decide +kernel
theorem dX6_begins_17 : decode cX6_begins 17 = .ok (.iload_n 1, 1) := by decide +kernel
theorem dX6_begins_18 : decode cX6_begins 18 = .ok (.lconst 0, 1) := by decide +kernel
theorem dX6_begins_19 : decode cX6_begins 19 = .ok (.lastore, 1) := by decide +kernel
theorem dX6_begins_20 : decode cX6_begins 20 = .ok (.iinc 1 1, 3) := by decide +kernel
theorem dX6_begins_23 : decode cX6_begins 23 = .ok (.goto (-17), 3) := by decide +kernel
theorem dX6_begins_26 : decode cX6_begins 26 = .ok (.aload_n 0, 1) := by decide +kernel
theorem dX6_begins_27 : decode cX6_begins 27 = .ok (.getfield 71, 3) := by decide +kernel
theorem dX6_begins_30 : decode cX6_begins 30 = .ok (.aload_n 0, 1) := by decide +kernel
theorem dX6_begins_31 : decode cX6_begins 31 = .ok (.invokevirtual 392, 3) := by decide +kernel
theorem dX6_begins_34 : decode cX6_begins 34 = .ok (.lconst 1, 1) := by decide +kernel
theorem dX6_begins_35 : decode cX6_begins 35 = .ok (.lastore, 1) := by decide +kernel
theorem dX6_begins_36 : decode cX6_begins 36 = .ok (.return_, 1) := by decide +kernel
theorem dX6_steps_0 : decode cX6_steps 0 = .ok (.aload_n 0, 1) := by decide +kernel
theorem dX6_steps_1 : decode cX6_steps 1 = .ok (.getfield 111, 3) := by decide +kernel
theorem dX6_steps_4 : decode cX6_steps 4 = .ok (.ifCond .ne 7, 3) := by decide +kernel
theorem dX6_steps_7 : decode cX6_steps 7 = .ok (.iconst 1, 1) := by decide +kernel
theorem dX6_steps_8 : decode cX6_steps 8 = .ok (.goto 14, 3) := by decide +kernel
theorem dX6_steps_11 : decode cX6_steps 11 = .ok (.aload_n 0, 1) := by decide +kernel
theorem dX6_steps_12 : decode cX6_steps 12 = .ok (.getfield 111, 3) := by decide +kernel
theorem dX6_steps_15 : decode cX6_steps 15 = .ok (.iconst 1, 1) := by decide +kernel
theorem dX6_steps_16 : decode cX6_steps 16 = .ok (.isub, 1) := by decide +kernel
theorem dX6_steps_17 : decode cX6_steps 17 = .ok (.invokestatic 389, 3) := by decide +kernel
theorem dX6_steps_20 : decode cX6_steps 20 = .ok (.iconst 5, 1) := by decide +kernel
theorem dX6_steps_21 : decode cX6_steps 21 = .ok (.imul, 1) := by decide +kernel
theorem dX6_steps_22 : decode cX6_steps 22 = .ok (.istore_n 1, 1) := by decide +kernel
theorem dX6_steps_23 : decode cX6_steps 23 = .ok (.iconst 0, 1) := by decide +kernel
theorem dX6_steps_24 : decode cX6_steps 24 = .ok (.istore_n 2, 1) := by decide +kernel
theorem dX6_steps_25 : decode cX6_steps 25 = .ok (.iload_n 2, 1) := by decide +kernel
theorem dX6_steps_26 : decode cX6_steps 26 = .ok (.iload_n 1, 1) := by decide +kernel
theorem dX6_steps_27 : decode cX6_steps 27 = .ok (.if_icmp .ge 16, 3) := by decide +kernel
theorem dX6_steps_30 : decode cX6_steps 30 = .ok (.aload_n 0, 1) := by decide +kernel
theorem dX6_steps_31 : decode cX6_steps 31 = .ok (.getfield 75, 3) := by decide +kernel
theorem dX6_steps_34 : decode cX6_steps 34 = .ok (.iload_n 2, 1) := by decide +kernel
theorem dX6_steps_35 : decode cX6_steps 35 = .ok (.lconst 0, 1) := by decide +kernel
theorem dX6_steps_36 : decode cX6_steps 36 = .ok (.lastore, 1) := by decide +kernel
theorem dX6_steps_37 : decode cX6_steps 37 = .ok (.iinc 2 1, 3) := by decide +kernel
theorem dX6_steps_40 : decode cX6_steps 40 = .ok (.goto (-15), 3) := by decide +kernel
theorem dX6_steps_43 : decode cX6_steps 43 = .ok (.iconst 0, 1) := by decide +kernel
theorem dX6_steps_44 : decode cX6_steps 44 = .ok (.istore_n 2, 1) := by decide +kernel
theorem dX6_steps_45 : decode cX6_steps 45 = .ok (.iload_n 2, 1) := by decide +kernel
theorem dX6_steps_46 : decode cX6_steps 46 = .ok (.iload_n 1, 1) := by decide +kernel
theorem dX6_steps_47 : decode cX6_steps 47 = .ok (.if_icmp .ge 97, 3) := by decide +kernel
theorem dX6_steps_50 : decode cX6_steps 50 = .ok (.iconst 0, 1) := by decide +kernel
theorem dX6_steps_51 : decode cX6_steps 51 = .ok (.istore_n 3, 1) := by decide +kernel
theorem dX6_steps_52 : decode cX6_steps 52 = .ok (.iload_n 3, 1) := by decide +kernel
theorem dX6_steps_53 : decode cX6_steps 53 = .ok (.aload_n 0, 1) := by decide +kernel
theorem dX6_steps_54 : decode cX6_steps 54 = .ok (.getfield 111, 3) := by decide +kernel
theorem dX6_steps_57 : decode cX6_steps 57 = .ok (.if_icmp .ge 81, 3) := by decide +kernel
theorem dX6_steps_60 : decode cX6_steps 60 = .ok (.aload_n 0, 1) := by decide +kernel
theorem dX6_steps_61 : decode cX6_steps 61 = .ok (.getfield 71, 3) := by decide +kernel
theorem dX6_steps_64 : decode cX6_steps 64 = .ok (.iload_n 2, 1) := by decide +kernel
theorem dX6_steps_65 : decode cX6_steps 65 = .ok (.laload, 1) := by decide +kernel
theorem dX6_steps_66 : decode cX6_steps 66 = .ok (.lconst 0, 1) := by decide +kernel
theorem dX6_steps_67 : decode cX6_steps 67 = .ok (.lcmp, 1) := by decide +kernel
theorem dX6_steps_68 : decode cX6_steps 68 = .ok (.ifCond .le 70, 3) := by decide +kernel
theorem dX6_steps_71 : decode cX6_steps 71 = .ok (.iconst 0, 1) := by decide +kernel
theorem dX6_steps_72 : decode cX6_steps 72 = .ok (.istore 4, 2) := by decide +kernel
theorem dX6_steps_74 : decode cX6_steps 74 = .ok (.iload 4, 2) := by decide +kernel
theorem dX6_steps_76 : decode cX6_steps 76 = .ok (.aload_n 0, 1) := by decide +kernel
theorem dX6_steps_77 : decode cX6_steps 77 = .ok (.getfield 104, 3) := by decide +kernel
theorem dX6_steps_80 : decode cX6_steps 80 = .ok (.if_icmp .ge 52, 3) := by decide +kernel
theorem dX6_steps_83 : decode cX6_steps 83 = .ok (.aload_n 0, 1) := by decide +kernel
theorem dX6_steps_84 : decode cX6_steps 84 = .ok (.iload_n 2, 1) := by decide +kernel
theorem dX6_steps_85 : decode cX6_steps 85 = .ok (.iload_n 3, 1) := by decide +kernel
theorem dX6_steps_86 : decode cX6_steps 86 = .ok (.iload 4, 2) := by decide +kernel
theorem dX6_steps_88 : decode cX6_steps 88 = .ok (.invokevirtual 406, 3) := by decide +kernel
theorem dX6_steps_91 : decode cX6_steps 91 = .ok (.istore 5, 2) := by decide +kernel
theorem dX6_steps_93 : decode cX6_steps 93 = .ok (.iload 5, 2) := by decide +kernel
theorem dX6_steps_95 : decode cX6_steps 95 = .ok (.iload_n 2, 1) := by decide +kernel
theorem dX6_steps_96 : decode cX6_steps 96 = .ok (.if_icmp .eq 30, 3) := by decide +kernel
theorem dX6_steps_99 : decode cX6_steps 99 = .ok (.aload_n 0, 1) := by decide +kernel
theorem dX6_steps_100 : decode cX6_steps 100 = .ok (.getfield 56, 3) := by decide +kernel
theorem dX6_steps_103 : decode cX6_steps 103 = .ok (.iload 5, 2) := by decide +kernel
theorem dX6_steps_105 : decode cX6_steps 105 = .ok (.iaload, 1) := by decide +kernel
theorem dX6_steps_106 : decode cX6_steps 106 = .ok (.iconst 1, 1) := by decide +kernel
theorem dX6_steps_107 : decode cX6_steps 107 = .ok (.if_icmp .ne 19, 3) := by decide +kernel
theorem dX6_steps_110 : decode cX6_steps 110 = .ok (.aload_n 0, 1) := by decide +kernel
theorem dX6_steps_111 : decode cX6_steps 111 = .ok (.getfield 75, 3) := by decide +kernel
theorem dX6_steps_114 : decode cX6_steps 114 = .ok (.iload 5, 2) := by decide +kernel
theorem dX6_steps_116 : decode cX6_steps 116 = .ok (.dup2, 1) := by decide +kernel
theorem dX6_steps_117 : decode cX6_steps 117 = .ok (.laload, 1) := by decide +kernel
theorem dX6_steps_118 : decode cX6_steps 118 = .ok (.aload_n 0, 1) := by decide +kernel
theorem dX6_steps_119 : decode cX6_steps 119 = .ok (.getfield 71, 3) := by decide +kernel
theorem dX6_steps_122 : decode cX6_steps 122 = .ok (.iload_n 2, 1) := by decide +kernel
theorem dX6_steps_123 : decode cX6_steps 123 = .ok (.laload, 1) := by decide +kernel
theorem dX6_steps_124 : decode cX6_steps 124 = .ok (.ladd, 1) := by decide +kernel
theorem dX6_steps_125 : decode cX6_steps 125 = .ok (.lastore, 1) := by decide +kernel
theorem dX6_steps_126 : decode cX6_steps 126 = .ok (.iinc 4 1, 3) := by decide +kernel
theorem dX6_steps_129 : decode cX6_steps 129 = .ok (.goto (-55), 3) := by decide +kernel
theorem dX6_steps_132 : decode cX6_steps 132 = .ok (.iinc 3 1, 3) := by decide +kernel
theorem dX6_steps_135 : decode cX6_steps 135 = .ok (.goto (-83), 3) := by decide +kernel
theorem dX6_steps_138 : decode cX6_steps 138 = .ok (.iinc 2 1, 3) := by decide +kernel
theorem dX6_steps_141 : decode cX6_steps 141 = .ok (.goto (-96), 3) := by decide +kernel
theorem dX6_steps_144 : decode cX6_steps 144 = .ok (.iconst 0, 1) := by decide +kernel
theorem dX6_steps_145 : decode cX6_steps 145 = .ok (.istore_n 2, 1) := by decide +kernel
theorem dX6_steps_146 : decode cX6_steps 146 = .ok (.iload_n 2, 1) := by decide +kernel
theorem dX6_steps_147 : decode cX6_steps 147 = .ok (.iload_n 1, 1) := by decide +kernel
theorem dX6_steps_148 : decode cX6_steps 148 = .ok (.if_icmp .ge 21, 3) := by decide +kernel
theorem dX6_steps_151 : decode cX6_steps 151 = .ok (.aload_n 0, 1) := by decide +kernel
theorem dX6_steps_152 : decode cX6_steps 152 = .ok (.getfield 71, 3) := by decide +kernel
theorem dX6_steps_155 : decode cX6_steps 155 = .ok (.iload_n 2, 1) := by decide +kernel
theorem dX6_steps_156 : decode cX6_steps 156 = .ok (.aload_n 0, 1) := by decide +kernel
theorem dX6_steps_157 : decode cX6_steps 157 = .ok (.getfield 75, 3) := by decide +kernel
theorem dX6_steps_160 : decode cX6_steps 160 = .ok (.iload_n 2, 1) := by decide +kernel
theorem dX6_steps_161 : decode cX6_steps 161 = .ok (.laload, 1) := by decide +kernel
theorem dX6_steps_162 : decode cX6_steps 162 = .ok (.lastore, 1) := by decide +kernel
theorem dX6_steps_163 : decode cX6_steps 163 = .ok (.iinc 2 1, 3) := by decide +kernel
theorem dX6_steps_166 : decode cX6_steps 166 = .ok (.goto (-20), 3) := by decide +kernel
theorem dX6_steps_169 : decode cX6_steps 169 = .ok (.return_, 1) := by decide +kernel
theorem dX6_ways_0 : decode cX6_ways 0 = .ok (.iload_n 1, 1) := by decide +kernel
theorem dX6_ways_1 : decode cX6_ways 1 = .ok (.invokestatic 430, 3) := by decide +kernel
theorem dX6_ways_4 : decode cX6_ways 4 = .ok (.ifCond .eq 37, 3) := by decide +kernel
theorem dX6_ways_7 : decode cX6_ways 7 = .ok (.iload_n 2, 1) := by decide +kernel
theorem dX6_ways_8 : decode cX6_ways 8 = .ok (.i2l, 1) := by decide +kernel
theorem dX6_ways_9 : decode cX6_ways 9 = .ok (.lconst 0, 1) := by decide +kernel
theorem dX6_ways_10 : decode cX6_ways 10 = .ok (.ldc2_w 436, 3) := by decide +kernel
theorem dX6_ways_13 : decode cX6_ways 13 = .ok (.invokestatic 107, 3) := by decide +kernel
theorem dX6_ways_16 : decode cX6_ways 16 = .ok (.ifCond .eq 25, 3) := by decide +kernel
theorem dX6_ways_19 : decode cX6_ways 19 = .ok (.aload_n 0, 1) := by decide +kernel
theorem dX6_ways_20 : decode cX6_ways 20 = .ok (.getfield 84, 3) := by decide +kernel
theorem dX6_ways_23 : decode cX6_ways 23 = .ok (.iload_n 1, 1) := by decide +kernel
theorem dX6_ways_24 : decode cX6_ways 24 = .ok (.baload, 1) := by decide +kernel
theorem dX6_ways_25 : decode cX6_ways 25 = .ok (.ifCond .eq 16, 3) := by decide +kernel
theorem dX6_ways_28 : decode cX6_ways 28 = .ok (.aload_n 0, 1) := by decide +kernel
theorem dX6_ways_29 : decode cX6_ways 29 = .ok (.getfield 91, 3) := by decide +kernel
theorem dX6_ways_32 : decode cX6_ways 32 = .ok (.iload_n 1, 1) := by decide +kernel
theorem dX6_ways_33 : decode cX6_ways 33 = .ok (.iaload, 1) := by decide +kernel
theorem dX6_ways_34 : decode cX6_ways 34 = .ok (.aload_n 0, 1) := by decide +kernel
theorem dX6_ways_35 : decode cX6_ways 35 = .ok (.getfield 111, 3) := by decide +kernel
theorem dX6_ways_38 : decode cX6_ways 38 = .ok (.if_icmp .eq 7, 3) := by decide +kernel
theorem dX6_ways_41 : decode cX6_ways 41 = .ok (.ldc2_w 438, 3) := by decide +kernel
theorem dX6_ways_44 : decode cX6_ways 44 = .ok (.lreturn, 1) := by decide +kernel
theorem dX6_ways_45 : decode cX6_ways 45 = .ok (.aload_n 0, 1) := by decide +kernel
theorem dX6_ways_46 : decode cX6_ways 46 = .ok (.iload_n 1, 1) := by decide +kernel
theorem dX6_ways_47 : decode cX6_ways 47 = .ok (.invokevirtual 440, 3) := by decide +kernel
theorem dX6_ways_50 : decode cX6_ways 50 = .ok (.istore_n 3, 1) := by decide +kernel
theorem dX6_ways_51 : decode cX6_ways 51 = .ok (.iload_n 3, 1) := by decide +kernel
theorem dX6_ways_52 : decode cX6_ways 52 = .ok (.iconst (-1), 1) := by decide +kernel
theorem dX6_ways_53 : decode cX6_ways 53 = .ok (.if_icmp .ne 5, 3) := by decide +kernel
theorem dX6_ways_56 : decode cX6_ways 56 = .ok (.lconst 0, 1) := by decide +kernel
theorem dX6_ways_57 : decode cX6_ways 57 = .ok (.lreturn, 1) := by decide +kernel
theorem dX6_ways_58 : decode cX6_ways 58 = .ok (.aload_n 0, 1) := by decide +kernel
theorem dX6_ways_59 : decode cX6_ways 59 = .ok (.invokevirtual 443, 3) := by decide +kernel
theorem dX6_ways_62 : decode cX6_ways 62 = .ok (.iconst 0, 1) := by decide +kernel
theorem dX6_ways_63 : decode cX6_ways 63 = .ok (.istore 4, 2) := by decide +kernel
theorem dX6_ways_65 : decode cX6_ways 65 = .ok (.iload 4, 2) := by decide +kernel
theorem dX6_ways_67 : decode cX6_ways 67 = .ok (.iload_n 2, 1) := by decide +kernel
theorem dX6_ways_68 : decode cX6_ways 68 = .ok (.if_icmp .ge 13, 3) := by decide +kernel
theorem dX6_ways_71 : decode cX6_ways 71 = .ok (.aload_n 0, 1) := by decide +kernel
theorem dX6_ways_72 : decode cX6_ways 72 = .ok (.invokevirtual 446, 3) := by decide +kernel
theorem dX6_ways_75 : decode cX6_ways 75 = .ok (.iinc 4 1, 3) := by decide +kernel
theorem dX6_ways_78 : decode cX6_ways 78 = .ok (.goto (-13), 3) := by decide +kernel
theorem dX6_ways_81 : decode cX6_ways 81 = .ok (.aload_n 0, 1) := by decide +kernel
theorem dX6_ways_82 : decode cX6_ways 82 = .ok (.getfield 71, 3) := by decide +kernel
theorem dX6_ways_85 : decode cX6_ways 85 = .ok (.iload_n 3, 1) := by decide +kernel
theorem dX6_ways_86 : decode cX6_ways 86 = .ok (.laload, 1) := by decide +kernel
theorem dX6_ways_87 : decode cX6_ways 87 = .ok (.lreturn, 1) := by decide +kernel
theorem dX6_soonest_0 : decode cX6_soonest 0 = .ok (.iload_n 1, 1) := by decide +kernel
theorem dX6_soonest_1 : decode cX6_soonest 1 = .ok (.invokestatic 430, 3) := by decide +kernel
theorem dX6_soonest_4 : decode cX6_soonest 4 = .ok (.ifCond .ne 6, 3) := by decide +kernel
theorem dX6_soonest_7 : decode cX6_soonest 7 = .ok (.bipush (-2), 2) := by decide +kernel
theorem dX6_soonest_9 : decode cX6_soonest 9 = .ok (.ireturn, 1) := by decide +kernel
theorem dX6_soonest_10 : decode cX6_soonest 10 = .ok (.aload_n 0, 1) := by decide +kernel
theorem dX6_soonest_11 : decode cX6_soonest 11 = .ok (.getfield 84, 3) := by decide +kernel
theorem dX6_soonest_14 : decode cX6_soonest 14 = .ok (.iload_n 1, 1) := by decide +kernel
theorem dX6_soonest_15 : decode cX6_soonest 15 = .ok (.baload, 1) := by decide +kernel
theorem dX6_soonest_16 : decode cX6_soonest 16 = .ok (.ifCond .ne 6, 3) := by decide +kernel
theorem dX6_soonest_19 : decode cX6_soonest 19 = .ok (.bipush (-11), 2) := by decide +kernel
theorem dX6_soonest_21 : decode cX6_soonest 21 = .ok (.ireturn, 1) := by decide +kernel
theorem dX6_soonest_22 : decode cX6_soonest 22 = .ok (.aload_n 0, 1) := by decide +kernel
theorem dX6_soonest_23 : decode cX6_soonest 23 = .ok (.getfield 91, 3) := by decide +kernel
theorem dX6_soonest_26 : decode cX6_soonest 26 = .ok (.iload_n 1, 1) := by decide +kernel
theorem dX6_soonest_27 : decode cX6_soonest 27 = .ok (.iaload, 1) := by decide +kernel
theorem dX6_soonest_28 : decode cX6_soonest 28 = .ok (.aload_n 0, 1) := by decide +kernel
theorem dX6_soonest_29 : decode cX6_soonest 29 = .ok (.getfield 111, 3) := by decide +kernel
theorem dX6_soonest_32 : decode cX6_soonest 32 = .ok (.if_icmp .eq 6, 3) := by decide +kernel
theorem dX6_soonest_35 : decode cX6_soonest 35 = .ok (.bipush (-2), 2) := by decide +kernel
theorem dX6_soonest_37 : decode cX6_soonest 37 = .ok (.ireturn, 1) := by decide +kernel
theorem dX6_soonest_38 : decode cX6_soonest 38 = .ok (.aload_n 0, 1) := by decide +kernel
theorem dX6_soonest_39 : decode cX6_soonest 39 = .ok (.iload_n 1, 1) := by decide +kernel
theorem dX6_soonest_40 : decode cX6_soonest 40 = .ok (.invokevirtual 440, 3) := by decide +kernel
theorem dX6_soonest_43 : decode cX6_soonest 43 = .ok (.istore_n 2, 1) := by decide +kernel
theorem dX6_soonest_44 : decode cX6_soonest 44 = .ok (.iload_n 2, 1) := by decide +kernel
theorem dX6_soonest_45 : decode cX6_soonest 45 = .ok (.iconst (-1), 1) := by decide +kernel
theorem dX6_soonest_46 : decode cX6_soonest 46 = .ok (.if_icmp .ne 5, 3) := by decide +kernel
theorem dX6_soonest_49 : decode cX6_soonest 49 = .ok (.iconst (-1), 1) := by decide +kernel
theorem dX6_soonest_50 : decode cX6_soonest 50 = .ok (.ireturn, 1) := by decide +kernel
theorem dX6_soonest_51 : decode cX6_soonest 51 = .ok (.aload_n 0, 1) := by decide +kernel
theorem dX6_soonest_52 : decode cX6_soonest 52 = .ok (.invokevirtual 443, 3) := by decide +kernel
theorem dX6_soonest_55 : decode cX6_soonest 55 = .ok (.iconst 0, 1) := by decide +kernel
theorem dX6_soonest_56 : decode cX6_soonest 56 = .ok (.istore_n 3, 1) := by decide +kernel
theorem dX6_soonest_57 : decode cX6_soonest 57 = .ok (.iload_n 3, 1) := by decide +kernel
theorem dX6_soonest_58 : decode cX6_soonest 58 = .ok (.bipush 9, 2) := by decide +kernel
theorem dX6_soonest_60 : decode cX6_soonest 60 = .ok (.if_icmp .ge 26, 3) := by decide +kernel
theorem dX6_soonest_63 : decode cX6_soonest 63 = .ok (.aload_n 0, 1) := by decide +kernel
theorem dX6_soonest_64 : decode cX6_soonest 64 = .ok (.getfield 71, 3) := by decide +kernel
theorem dX6_soonest_67 : decode cX6_soonest 67 = .ok (.iload_n 2, 1) := by decide +kernel
theorem dX6_soonest_68 : decode cX6_soonest 68 = .ok (.laload, 1) := by decide +kernel
theorem dX6_soonest_69 : decode cX6_soonest 69 = .ok (.lconst 0, 1) := by decide +kernel
theorem dX6_soonest_70 : decode cX6_soonest 70 = .ok (.lcmp, 1) := by decide +kernel
theorem dX6_soonest_71 : decode cX6_soonest 71 = .ok (.ifCond .le 5, 3) := by decide +kernel
theorem dX6_soonest_74 : decode cX6_soonest 74 = .ok (.iload_n 3, 1) := by decide +kernel
theorem dX6_soonest_75 : decode cX6_soonest 75 = .ok (.ireturn, 1) := by decide +kernel
theorem dX6_soonest_76 : decode cX6_soonest 76 = .ok (.aload_n 0, 1) := by decide +kernel
theorem dX6_soonest_77 : decode cX6_soonest 77 = .ok (.invokevirtual 446, 3) := by decide +kernel
theorem dX6_soonest_80 : decode cX6_soonest 80 = .ok (.iinc 3 1, 3) := by decide +kernel
theorem dX6_soonest_83 : decode cX6_soonest 83 = .ok (.goto (-26), 3) := by decide +kernel
theorem dX6_soonest_86 : decode cX6_soonest 86 = .ok (.iconst (-1), 1) := by decide +kernel
theorem dX6_soonest_87 : decode cX6_soonest 87 = .ok (.ireturn, 1) := by decide +kernel
theorem dX6_draws_0 : decode cX6_draws 0 = .ok (.iconst 0, 1) := by decide +kernel
theorem dX6_draws_1 : decode cX6_draws 1 = .ok (.istore_n 3, 1) := by decide +kernel
theorem dX6_draws_2 : decode cX6_draws 2 = .ok (.iload_n 3, 1) := by decide +kernel
theorem dX6_draws_3 : decode cX6_draws 3 = .ok (.iconst 5, 1) := by decide +kernel
theorem dX6_draws_4 : decode cX6_draws 4 = .ok (.if_icmp .ge 21, 3) := by decide +kernel
theorem dX6_draws_7 : decode cX6_draws 7 = .ok (.aload_n 0, 1) := by decide +kernel
theorem dX6_draws_8 : decode cX6_draws 8 = .ok (.getfield 53, 3) := by decide +kernel
theorem dX6_draws_11 : decode cX6_draws 11 = .ok (.iload_n 3, 1) := by decide +kernel
theorem dX6_draws_12 : decode cX6_draws 12 = .ok (.aload_n 0, 1) := by decide +kernel
theorem dX6_draws_13 : decode cX6_draws 13 = .ok (.getfield 35, 3) := by decide +kernel
theorem dX6_draws_16 : decode cX6_draws 16 = .ok (.iload_n 3, 1) := by decide +kernel
theorem dX6_draws_17 : decode cX6_draws 17 = .ok (.iaload, 1) := by decide +kernel
theorem dX6_draws_18 : decode cX6_draws 18 = .ok (.iastore, 1) := by decide +kernel
theorem dX6_draws_19 : decode cX6_draws 19 = .ok (.iinc 3 1, 3) := by decide +kernel
theorem dX6_draws_22 : decode cX6_draws 22 = .ok (.goto (-20), 3) := by decide +kernel
theorem dX6_draws_25 : decode cX6_draws 25 = .ok (.iload_n 1, 1) := by decide +kernel
theorem dX6_draws_26 : decode cX6_draws 26 = .ok (.istore_n 3, 1) := by decide +kernel
theorem dX6_draws_27 : decode cX6_draws 27 = .ok (.aload_n 0, 1) := by decide +kernel
theorem dX6_draws_28 : decode cX6_draws 28 = .ok (.invokevirtual 386, 3) := by decide +kernel
theorem dX6_draws_31 : decode cX6_draws 31 = .ok (.ifCond .eq 7, 3) := by decide +kernel
theorem dX6_draws_34 : decode cX6_draws 34 = .ok (.iconst 0, 1) := by decide +kernel
theorem dX6_draws_35 : decode cX6_draws 35 = .ok (.goto 4, 3) := by decide +kernel
theorem dX6_draws_38 : decode cX6_draws 38 = .ok (.iconst (-1), 1) := by decide +kernel
theorem dX6_draws_39 : decode cX6_draws 39 = .ok (.istore 4, 2) := by decide +kernel
theorem dX6_draws_41 : decode cX6_draws 41 = .ok (.iconst 1, 1) := by decide +kernel
theorem dX6_draws_42 : decode cX6_draws 42 = .ok (.istore 5, 2) := by decide +kernel
theorem dX6_draws_44 : decode cX6_draws 44 = .ok (.iload 5, 2) := by decide +kernel
theorem dX6_draws_46 : decode cX6_draws 46 = .ok (.iload_n 2, 1) := by decide +kernel
theorem dX6_draws_47 : decode cX6_draws 47 = .ok (.if_icmp .gt 89, 3) := by decide +kernel
theorem dX6_draws_50 : decode cX6_draws 50 = .ok (.iload 4, 2) := by decide +kernel
theorem dX6_draws_52 : decode cX6_draws 52 = .ok (.iconst (-1), 1) := by decide +kernel
theorem dX6_draws_53 : decode cX6_draws 53 = .ok (.if_icmp .ne 83, 3) := by decide +kernel
theorem dX6_draws_56 : decode cX6_draws 56 = .ok (.aload_n 0, 1) := by decide +kernel
theorem dX6_draws_57 : decode cX6_draws 57 = .ok (.getfield 111, 3) := by decide +kernel
theorem dX6_draws_60 : decode cX6_draws 60 = .ok (.ifCond .le 76, 3) := by decide +kernel
theorem dX6_draws_63 : decode cX6_draws 63 = .ok (.iload_n 3, 1) := by decide +kernel
theorem dX6_draws_64 : decode cX6_draws 64 = .ok (.ldc_w 449, 3) := by decide +kernel
theorem dX6_draws_67 : decode cX6_draws 67 = .ok (.imul, 1) := by decide +kernel
theorem dX6_draws_68 : decode cX6_draws 68 = .ok (.sipush 12345, 3) := by decide +kernel
theorem dX6_draws_71 : decode cX6_draws 71 = .ok (.iadd, 1) := by decide +kernel
theorem dX6_draws_72 : decode cX6_draws 72 = .ok (.istore_n 3, 1) := by decide +kernel
theorem dX6_draws_73 : decode cX6_draws 73 = .ok (.iload_n 3, 1) := by decide +kernel
theorem dX6_draws_74 : decode cX6_draws 74 = .ok (.bipush 9, 2) := by decide +kernel
theorem dX6_draws_76 : decode cX6_draws 76 = .ok (.iushr, 1) := by decide +kernel
theorem dX6_draws_77 : decode cX6_draws 77 = .ok (.aload_n 0, 1) := by decide +kernel
theorem dX6_draws_78 : decode cX6_draws 78 = .ok (.getfield 111, 3) := by decide +kernel
theorem dX6_draws_81 : decode cX6_draws 81 = .ok (.irem, 1) := by decide +kernel
theorem dX6_draws_82 : decode cX6_draws 82 = .ok (.istore 6, 2) := by decide +kernel
theorem dX6_draws_84 : decode cX6_draws 84 = .ok (.iload_n 3, 1) := by decide +kernel
theorem dX6_draws_85 : decode cX6_draws 85 = .ok (.bipush 17, 2) := by decide +kernel
theorem dX6_draws_87 : decode cX6_draws 87 = .ok (.iushr, 1) := by decide +kernel
theorem dX6_draws_88 : decode cX6_draws 88 = .ok (.aload_n 0, 1) := by decide +kernel
theorem dX6_draws_89 : decode cX6_draws 89 = .ok (.getfield 104, 3) := by decide +kernel
theorem dX6_draws_92 : decode cX6_draws 92 = .ok (.irem, 1) := by decide +kernel
theorem dX6_draws_93 : decode cX6_draws 93 = .ok (.istore 7, 2) := by decide +kernel
theorem dX6_draws_95 : decode cX6_draws 95 = .ok (.aload_n 0, 1) := by decide +kernel
theorem dX6_draws_96 : decode cX6_draws 96 = .ok (.iload 6, 2) := by decide +kernel
theorem dX6_draws_98 : decode cX6_draws 98 = .ok (.iload 7, 2) := by decide +kernel
theorem dX6_draws_100 : decode cX6_draws 100 = .ok (.invokevirtual 383, 3) := by decide +kernel
theorem dX6_draws_103 : decode cX6_draws 103 = .ok (.ifCond .eq 12, 3) := by decide +kernel
theorem dX6_draws_106 : decode cX6_draws 106 = .ok (.aload_n 0, 1) := by decide +kernel
theorem dX6_draws_107 : decode cX6_draws 107 = .ok (.getfield 35, 3) := by decide +kernel
theorem dX6_draws_110 : decode cX6_draws 110 = .ok (.iload 6, 2) := by decide +kernel
theorem dX6_draws_112 : decode cX6_draws 112 = .ok (.iload 7, 2) := by decide +kernel
theorem dX6_draws_114 : decode cX6_draws 114 = .ok (.iastore, 1) := by decide +kernel
theorem dX6_draws_115 : decode cX6_draws 115 = .ok (.aload_n 0, 1) := by decide +kernel
theorem dX6_draws_116 : decode cX6_draws 116 = .ok (.invokevirtual 386, 3) := by decide +kernel
theorem dX6_draws_119 : decode cX6_draws 119 = .ok (.ifCond .eq 8, 3) := by decide +kernel
theorem dX6_draws_122 : decode cX6_draws 122 = .ok (.iload 5, 2) := by decide +kernel
theorem dX6_draws_124 : decode cX6_draws 124 = .ok (.goto 4, 3) := by decide +kernel
theorem dX6_draws_127 : decode cX6_draws 127 = .ok (.iconst (-1), 1) := by decide +kernel
theorem dX6_draws_128 : decode cX6_draws 128 = .ok (.istore 4, 2) := by decide +kernel
theorem dX6_draws_130 : decode cX6_draws 130 = .ok (.iinc 5 1, 3) := by decide +kernel
theorem dX6_draws_133 : decode cX6_draws 133 = .ok (.goto (-89), 3) := by decide +kernel
theorem dX6_draws_136 : decode cX6_draws 136 = .ok (.iconst 0, 1) := by decide +kernel
theorem dX6_draws_137 : decode cX6_draws 137 = .ok (.istore 5, 2) := by decide +kernel
theorem dX6_draws_139 : decode cX6_draws 139 = .ok (.iload 5, 2) := by decide +kernel
theorem dX6_draws_141 : decode cX6_draws 141 = .ok (.iconst 5, 1) := by decide +kernel
theorem dX6_draws_142 : decode cX6_draws 142 = .ok (.if_icmp .ge 23, 3) := by decide +kernel
theorem dX6_draws_145 : decode cX6_draws 145 = .ok (.aload_n 0, 1) := by decide +kernel
theorem dX6_draws_146 : decode cX6_draws 146 = .ok (.getfield 35, 3) := by decide +kernel
theorem dX6_draws_149 : decode cX6_draws 149 = .ok (.iload 5, 2) := by decide +kernel
theorem dX6_draws_151 : decode cX6_draws 151 = .ok (.aload_n 0, 1) := by decide +kernel
theorem dX6_draws_152 : decode cX6_draws 152 = .ok (.getfield 53, 3) := by decide +kernel
theorem dX6_draws_155 : decode cX6_draws 155 = .ok (.iload 5, 2) := by decide +kernel
theorem dX6_draws_157 : decode cX6_draws 157 = .ok (.iaload, 1) := by decide +kernel
theorem dX6_draws_158 : decode cX6_draws 158 = .ok (.iastore, 1) := by decide +kernel
theorem dX6_draws_159 : decode cX6_draws 159 = .ok (.iinc 5 1, 3) := by decide +kernel
theorem dX6_draws_162 : decode cX6_draws 162 = .ok (.goto (-23), 3) := by decide +kernel
theorem dX6_draws_165 : decode cX6_draws 165 = .ok (.iload 4, 2) := by decide +kernel
theorem dX6_draws_167 : decode cX6_draws 167 = .ok (.ireturn, 1) := by decide +kernel
theorem dX6_drawn_0 : decode cX6_drawn 0 = .ok (.iload_n 2, 1) := by decide +kernel
theorem dX6_drawn_1 : decode cX6_drawn 1 = .ok (.i2l, 1) := by decide +kernel
theorem dX6_drawn_2 : decode cX6_drawn 2 = .ok (.lconst 1, 1) := by decide +kernel
theorem dX6_drawn_3 : decode cX6_drawn 3 = .ok (.ldc2_w 450, 3) := by decide +kernel
theorem dX6_drawn_6 : decode cX6_drawn 6 = .ok (.invokestatic 107, 3) := by decide +kernel
theorem dX6_drawn_9 : decode cX6_drawn 9 = .ok (.ifCond .eq 12, 3) := by decide +kernel
theorem dX6_drawn_12 : decode cX6_drawn 12 = .ok (.aload_n 0, 1) := by decide +kernel
theorem dX6_drawn_13 : decode cX6_drawn 13 = .ok (.iload_n 1, 1) := by decide +kernel
theorem dX6_drawn_14 : decode cX6_drawn 14 = .ok (.iload_n 2, 1) := by decide +kernel
theorem dX6_drawn_15 : decode cX6_drawn 15 = .ok (.invokevirtual 452, 3) := by decide +kernel
theorem dX6_drawn_18 : decode cX6_drawn 18 = .ok (.goto 5, 3) := by decide +kernel
theorem dX6_drawn_21 : decode cX6_drawn 21 = .ok (.bipush (-2), 2) := by decide +kernel
theorem dX6_drawn_23 : decode cX6_drawn 23 = .ok (.ireturn, 1) := by decide +kernel
theorem dX6_chance_0 : decode cX6_chance 0 = .ok (.iload_n 2, 1) := by decide +kernel
theorem dX6_chance_1 : decode cX6_chance 1 = .ok (.i2l, 1) := by decide +kernel
theorem dX6_chance_2 : decode cX6_chance 2 = .ok (.lconst 1, 1) := by decide +kernel
theorem dX6_chance_3 : decode cX6_chance 3 = .ok (.ldc2_w 455, 3) := by decide +kernel
theorem dX6_chance_6 : decode cX6_chance 6 = .ok (.invokestatic 107, 3) := by decide +kernel
theorem dX6_chance_9 : decode cX6_chance 9 = .ok (.ifCond .eq 13, 3) := by decide +kernel
theorem dX6_chance_12 : decode cX6_chance 12 = .ok (.iload_n 3, 1) := by decide +kernel
theorem dX6_chance_13 : decode cX6_chance 13 = .ok (.i2l, 1) := by decide +kernel
theorem dX6_chance_14 : decode cX6_chance 14 = .ok (.lconst 0, 1) := by decide +kernel
theorem dX6_chance_15 : decode cX6_chance 15 = .ok (.lconst 1, 1) := by decide +kernel
theorem dX6_chance_16 : decode cX6_chance 16 = .ok (.invokestatic 107, 3) := by decide +kernel
theorem dX6_chance_19 : decode cX6_chance 19 = .ok (.ifCond .ne 7, 3) := by decide +kernel
theorem dX6_chance_22 : decode cX6_chance 22 = .ok (.ldc2_w 438, 3) := by decide +kernel
theorem dX6_chance_25 : decode cX6_chance 25 = .ok (.lreturn, 1) := by decide +kernel
theorem dX6_chance_26 : decode cX6_chance 26 = .ok (.lconst 0, 1) := by decide +kernel
theorem dX6_chance_27 : decode cX6_chance 27 = .ok (.lstore 4, 2) := by decide +kernel
theorem dX6_chance_29 : decode cX6_chance 29 = .ok (.iconst 0, 1) := by decide +kernel
theorem dX6_chance_30 : decode cX6_chance 30 = .ok (.istore 6, 2) := by decide +kernel
theorem dX6_chance_32 : decode cX6_chance 32 = .ok (.iload 6, 2) := by decide +kernel
theorem dX6_chance_34 : decode cX6_chance 34 = .ok (.iload_n 2, 1) := by decide +kernel
theorem dX6_chance_35 : decode cX6_chance 35 = .ok (.if_icmp .ge 33, 3) := by decide +kernel
theorem dX6_chance_38 : decode cX6_chance 38 = .ok (.lload 4, 2) := by decide +kernel
theorem dX6_chance_40 : decode cX6_chance 40 = .ok (.aload_n 0, 1) := by decide +kernel
theorem dX6_chance_41 : decode cX6_chance 41 = .ok (.iload_n 1, 1) := by decide +kernel
theorem dX6_chance_42 : decode cX6_chance 42 = .ok (.iload 6, 2) := by decide +kernel
theorem dX6_chance_44 : decode cX6_chance 44 = .ok (.iadd, 1) := by decide +kernel
theorem dX6_chance_45 : decode cX6_chance 45 = .ok (.bipush 40, 2) := by decide +kernel
theorem dX6_chance_47 : decode cX6_chance 47 = .ok (.invokevirtual 452, 3) := by decide +kernel
theorem dX6_chance_50 : decode cX6_chance 50 = .ok (.iconst (-1), 1) := by decide +kernel
theorem dX6_chance_51 : decode cX6_chance 51 = .ok (.if_icmp .eq 7, 3) := by decide +kernel
theorem dX6_chance_54 : decode cX6_chance 54 = .ok (.lconst 1, 1) := by decide +kernel
theorem dX6_chance_55 : decode cX6_chance 55 = .ok (.goto 4, 3) := by decide +kernel
theorem dX6_chance_58 : decode cX6_chance 58 = .ok (.lconst 0, 1) := by decide +kernel
theorem dX6_chance_59 : decode cX6_chance 59 = .ok (.ladd, 1) := by decide +kernel
theorem dX6_chance_60 : decode cX6_chance 60 = .ok (.lstore 4, 2) := by decide +kernel
theorem dX6_chance_62 : decode cX6_chance 62 = .ok (.iinc 6 1, 3) := by decide +kernel
theorem dX6_chance_65 : decode cX6_chance 65 = .ok (.goto (-33), 3) := by decide +kernel
theorem dX6_chance_68 : decode cX6_chance 68 = .ok (.lload 4, 2) := by decide +kernel
theorem dX6_chance_70 : decode cX6_chance 70 = .ok (.lstore 6, 2) := by decide +kernel
theorem dX6_chance_72 : decode cX6_chance 72 = .ok (.iload_n 2, 1) := by decide +kernel
theorem dX6_chance_73 : decode cX6_chance 73 = .ok (.i2l, 1) := by decide +kernel
theorem dX6_chance_74 : decode cX6_chance 74 = .ok (.lstore 8, 2) := by decide +kernel
theorem dX6_chance_76 : decode cX6_chance 76 = .ok (.lload 8, 2) := by decide +kernel
theorem dX6_chance_78 : decode cX6_chance 78 = .ok (.lconst 0, 1) := by decide +kernel
theorem dX6_chance_79 : decode cX6_chance 79 = .ok (.lcmp, 1) := by decide +kernel
theorem dX6_chance_80 : decode cX6_chance 80 = .ok (.ifCond .eq 21, 3) := by decide +kernel
theorem dX6_chance_83 : decode cX6_chance 83 = .ok (.lload 6, 2) := by decide +kernel
theorem dX6_chance_85 : decode cX6_chance 85 = .ok (.lload 8, 2) := by decide +kernel
theorem dX6_chance_87 : decode cX6_chance 87 = .ok (.lrem, 1) := by decide +kernel
theorem dX6_chance_88 : decode cX6_chance 88 = .ok (.lstore 10, 2) := by decide +kernel
theorem dX6_chance_90 : decode cX6_chance 90 = .ok (.lload 8, 2) := by decide +kernel
theorem dX6_chance_92 : decode cX6_chance 92 = .ok (.lstore 6, 2) := by decide +kernel
theorem dX6_chance_94 : decode cX6_chance 94 = .ok (.lload 10, 2) := by decide +kernel
theorem dX6_chance_96 : decode cX6_chance 96 = .ok (.lstore 8, 2) := by decide +kernel
theorem dX6_chance_98 : decode cX6_chance 98 = .ok (.goto (-22), 3) := by decide +kernel
theorem dX6_chance_101 : decode cX6_chance 101 = .ok (.iload_n 3, 1) := by decide +kernel
theorem dX6_chance_102 : decode cX6_chance 102 = .ok (.ifCond .ne 11, 3) := by decide +kernel
theorem dX6_chance_105 : decode cX6_chance 105 = .ok (.lload 4, 2) := by decide +kernel
theorem dX6_chance_107 : decode cX6_chance 107 = .ok (.lload 6, 2) := by decide +kernel
theorem dX6_chance_109 : decode cX6_chance 109 = .ok (.ldiv, 1) := by decide +kernel
theorem dX6_chance_110 : decode cX6_chance 110 = .ok (.goto 8, 3) := by decide +kernel
theorem dX6_chance_113 : decode cX6_chance 113 = .ok (.iload_n 2, 1) := by decide +kernel
theorem dX6_chance_114 : decode cX6_chance 114 = .ok (.i2l, 1) := by decide +kernel
theorem dX6_chance_115 : decode cX6_chance 115 = .ok (.lload 6, 2) := by decide +kernel
theorem dX6_chance_117 : decode cX6_chance 117 = .ok (.ldiv, 1) := by decide +kernel
theorem dX6_chance_118 : decode cX6_chance 118 = .ok (.lreturn, 1) := by decide +kernel
theorem dX6_image_0 : decode cX6_image 0 = .ok (.iconst 0, 1) := by decide +kernel
theorem dX6_image_1 : decode cX6_image 1 = .ok (.istore_n 1, 1) := by decide +kernel
theorem dX6_image_2 : decode cX6_image 2 = .ok (.iload_n 1, 1) := by decide +kernel
theorem dX6_image_3 : decode cX6_image 3 = .ok (.iconst 5, 1) := by decide +kernel
theorem dX6_image_4 : decode cX6_image 4 = .ok (.if_icmp .ge 65, 3) := by decide +kernel
theorem dX6_image_7 : decode cX6_image 7 = .ok (.aload_n 0, 1) := by decide +kernel
theorem dX6_image_8 : decode cX6_image 8 = .ok (.getfield 78, 3) := by decide +kernel
theorem dX6_image_11 : decode cX6_image 11 = .ok (.iload_n 1, 1) := by decide +kernel
theorem dX6_image_12 : decode cX6_image 12 = .ok (.aload_n 0, 1) := by decide +kernel
theorem dX6_image_13 : decode cX6_image 13 = .ok (.getfield 26, 3) := by decide +kernel
theorem dX6_image_16 : decode cX6_image 16 = .ok (.iload_n 1, 1) := by decide +kernel
theorem dX6_image_17 : decode cX6_image 17 = .ok (.iaload, 1) := by decide +kernel
theorem dX6_image_18 : decode cX6_image 18 = .ok (.iastore, 1) := by decide +kernel
theorem dX6_image_19 : decode cX6_image 19 = .ok (.aload_n 0, 1) := by decide +kernel
theorem dX6_image_20 : decode cX6_image 20 = .ok (.getfield 78, 3) := by decide +kernel
theorem dX6_image_23 : decode cX6_image 23 = .ok (.iconst 5, 1) := by decide +kernel
theorem dX6_image_24 : decode cX6_image 24 = .ok (.iload_n 1, 1) := by decide +kernel
theorem dX6_image_25 : decode cX6_image 25 = .ok (.iadd, 1) := by decide +kernel
theorem dX6_image_26 : decode cX6_image 26 = .ok (.aload_n 0, 1) := by decide +kernel
theorem dX6_image_27 : decode cX6_image 27 = .ok (.getfield 35, 3) := by decide +kernel
theorem dX6_image_30 : decode cX6_image 30 = .ok (.iload_n 1, 1) := by decide +kernel
theorem dX6_image_31 : decode cX6_image 31 = .ok (.iaload, 1) := by decide +kernel
theorem dX6_image_32 : decode cX6_image 32 = .ok (.iastore, 1) := by decide +kernel
theorem dX6_image_33 : decode cX6_image 33 = .ok (.aload_n 0, 1) := by decide +kernel
theorem dX6_image_34 : decode cX6_image 34 = .ok (.getfield 78, 3) := by decide +kernel
theorem dX6_image_37 : decode cX6_image 37 = .ok (.bipush 10, 2) := by decide +kernel
theorem dX6_image_39 : decode cX6_image 39 = .ok (.iload_n 1, 1) := by decide +kernel
theorem dX6_image_40 : decode cX6_image 40 = .ok (.iadd, 1) := by decide +kernel
theorem dX6_image_41 : decode cX6_image 41 = .ok (.aload_n 0, 1) := by decide +kernel
theorem dX6_image_42 : decode cX6_image 42 = .ok (.getfield 32, 3) := by decide +kernel
theorem dX6_image_45 : decode cX6_image 45 = .ok (.iload_n 1, 1) := by decide +kernel
theorem dX6_image_46 : decode cX6_image 46 = .ok (.iaload, 1) := by decide +kernel
theorem dX6_image_47 : decode cX6_image 47 = .ok (.iastore, 1) := by decide +kernel
theorem dX6_image_48 : decode cX6_image 48 = .ok (.aload_n 0, 1) := by decide +kernel
theorem dX6_image_49 : decode cX6_image 49 = .ok (.getfield 78, 3) := by decide +kernel
theorem dX6_image_52 : decode cX6_image 52 = .ok (.bipush 15, 2) := by decide +kernel
theorem dX6_image_54 : decode cX6_image 54 = .ok (.iload_n 1, 1) := by decide +kernel
theorem dX6_image_55 : decode cX6_image 55 = .ok (.iadd, 1) := by decide +kernel
theorem dX6_image_56 : decode cX6_image 56 = .ok (.aload_n 0, 1) := by decide +kernel
theorem dX6_image_57 : decode cX6_image 57 = .ok (.getfield 38, 3) := by decide +kernel
theorem dX6_image_60 : decode cX6_image 60 = .ok (.iload_n 1, 1) := by decide +kernel
theorem dX6_image_61 : decode cX6_image 61 = .ok (.iaload, 1) := by decide +kernel
theorem dX6_image_62 : decode cX6_image 62 = .ok (.iastore, 1) := by decide +kernel
theorem dX6_image_63 : decode cX6_image 63 = .ok (.iinc 1 1, 3) := by decide +kernel
theorem dX6_image_66 : decode cX6_image 66 = .ok (.goto (-64), 3) := by decide +kernel
theorem dX6_image_69 : decode cX6_image 69 = .ok (.aload_n 0, 1) := by decide +kernel
theorem dX6_image_70 : decode cX6_image 70 = .ok (.aload_n 0, 1) := by decide +kernel
theorem dX6_image_71 : decode cX6_image 71 = .ok (.getfield 111, 3) := by decide +kernel
theorem dX6_image_74 : decode cX6_image 74 = .ok (.putfield 81, 3) := by decide +kernel
theorem dX6_image_77 : decode cX6_image 77 = .ok (.aload_n 0, 1) := by decide +kernel
theorem dX6_image_78 : decode cX6_image 78 = .ok (.aload_n 0, 1) := by decide +kernel
theorem dX6_image_79 : decode cX6_image 79 = .ok (.getfield 104, 3) := by decide +kernel
theorem dX6_image_82 : decode cX6_image 82 = .ok (.putfield 457, 3) := by decide +kernel
theorem dX6_image_85 : decode cX6_image 85 = .ok (.aload_n 0, 1) := by decide +kernel
theorem dX6_image_86 : decode cX6_image 86 = .ok (.aload_n 0, 1) := by decide +kernel
theorem dX6_image_87 : decode cX6_image 87 = .ok (.getfield 41, 3) := by decide +kernel
theorem dX6_image_90 : decode cX6_image 90 = .ok (.putfield 460, 3) := by decide +kernel
theorem dX6_image_93 : decode cX6_image 93 = .ok (.aload_n 0, 1) := by decide +kernel
theorem dX6_image_94 : decode cX6_image 94 = .ok (.aload_n 0, 1) := by decide +kernel
theorem dX6_image_95 : decode cX6_image 95 = .ok (.getfield 44, 3) := by decide +kernel
theorem dX6_image_98 : decode cX6_image 98 = .ok (.putfield 463, 3) := by decide +kernel
theorem dX6_image_101 : decode cX6_image 101 = .ok (.aload_n 0, 1) := by decide +kernel
theorem dX6_image_102 : decode cX6_image 102 = .ok (.aload_n 0, 1) := by decide +kernel
theorem dX6_image_103 : decode cX6_image 103 = .ok (.getfield 370, 3) := by decide +kernel
theorem dX6_image_106 : decode cX6_image 106 = .ok (.putfield 466, 3) := by decide +kernel
theorem dX6_image_109 : decode cX6_image 109 = .ok (.aload_n 0, 1) := by decide +kernel
theorem dX6_image_110 : decode cX6_image 110 = .ok (.getfield 111, 3) := by decide +kernel
theorem dX6_image_113 : decode cX6_image 113 = .ok (.ireturn, 1) := by decide +kernel
theorem dX6_back_0 : decode cX6_back 0 = .ok (.aload_n 0, 1) := by decide +kernel
theorem dX6_back_1 : decode cX6_back 1 = .ok (.getfield 81, 3) := by decide +kernel
theorem dX6_back_4 : decode cX6_back 4 = .ok (.iconst (-1), 1) := by decide +kernel
theorem dX6_back_5 : decode cX6_back 5 = .ok (.if_icmp .ne 6, 3) := by decide +kernel
theorem dX6_back_8 : decode cX6_back 8 = .ok (.bipush (-3), 2) := by decide +kernel
theorem dX6_back_10 : decode cX6_back 10 = .ok (.ireturn, 1) := by decide +kernel
theorem dX6_back_11 : decode cX6_back 11 = .ok (.iconst 0, 1) := by decide +kernel
theorem dX6_back_12 : decode cX6_back 12 = .ok (.istore_n 1, 1) := by decide +kernel
theorem dX6_back_13 : decode cX6_back 13 = .ok (.iload_n 1, 1) := by decide +kernel
theorem dX6_back_14 : decode cX6_back 14 = .ok (.iconst 5, 1) := by decide +kernel
theorem dX6_back_15 : decode cX6_back 15 = .ok (.if_icmp .ge 65, 3) := by decide +kernel
theorem dX6_back_18 : decode cX6_back 18 = .ok (.aload_n 0, 1) := by decide +kernel
theorem dX6_back_19 : decode cX6_back 19 = .ok (.getfield 26, 3) := by decide +kernel
theorem dX6_back_22 : decode cX6_back 22 = .ok (.iload_n 1, 1) := by decide +kernel
theorem dX6_back_23 : decode cX6_back 23 = .ok (.aload_n 0, 1) := by decide +kernel
theorem dX6_back_24 : decode cX6_back 24 = .ok (.getfield 78, 3) := by decide +kernel
theorem dX6_back_27 : decode cX6_back 27 = .ok (.iload_n 1, 1) := by decide +kernel
theorem dX6_back_28 : decode cX6_back 28 = .ok (.iaload, 1) := by decide +kernel
theorem dX6_back_29 : decode cX6_back 29 = .ok (.iastore, 1) := by decide +kernel
theorem dX6_back_30 : decode cX6_back 30 = .ok (.aload_n 0, 1) := by decide +kernel
theorem dX6_back_31 : decode cX6_back 31 = .ok (.getfield 35, 3) := by decide +kernel
theorem dX6_back_34 : decode cX6_back 34 = .ok (.iload_n 1, 1) := by decide +kernel
theorem dX6_back_35 : decode cX6_back 35 = .ok (.aload_n 0, 1) := by decide +kernel
theorem dX6_back_36 : decode cX6_back 36 = .ok (.getfield 78, 3) := by decide +kernel
theorem dX6_back_39 : decode cX6_back 39 = .ok (.iconst 5, 1) := by decide +kernel
theorem dX6_back_40 : decode cX6_back 40 = .ok (.iload_n 1, 1) := by decide +kernel
theorem dX6_back_41 : decode cX6_back 41 = .ok (.iadd, 1) := by decide +kernel
theorem dX6_back_42 : decode cX6_back 42 = .ok (.iaload, 1) := by decide +kernel
theorem dX6_back_43 : decode cX6_back 43 = .ok (.iastore, 1) := by decide +kernel
theorem dX6_back_44 : decode cX6_back 44 = .ok (.aload_n 0, 1) := by decide +kernel
theorem dX6_back_45 : decode cX6_back 45 = .ok (.getfield 32, 3) := by decide +kernel
theorem dX6_back_48 : decode cX6_back 48 = .ok (.iload_n 1, 1) := by decide +kernel
theorem dX6_back_49 : decode cX6_back 49 = .ok (.aload_n 0, 1) := by decide +kernel
theorem dX6_back_50 : decode cX6_back 50 = .ok (.getfield 78, 3) := by decide +kernel
theorem dX6_back_53 : decode cX6_back 53 = .ok (.bipush 10, 2) := by decide +kernel
theorem dX6_back_55 : decode cX6_back 55 = .ok (.iload_n 1, 1) := by decide +kernel
theorem dX6_back_56 : decode cX6_back 56 = .ok (.iadd, 1) := by decide +kernel
theorem dX6_back_57 : decode cX6_back 57 = .ok (.iaload, 1) := by decide +kernel
theorem dX6_back_58 : decode cX6_back 58 = .ok (.iastore, 1) := by decide +kernel
theorem dX6_back_59 : decode cX6_back 59 = .ok (.aload_n 0, 1) := by decide +kernel
theorem dX6_back_60 : decode cX6_back 60 = .ok (.getfield 38, 3) := by decide +kernel
theorem dX6_back_63 : decode cX6_back 63 = .ok (.iload_n 1, 1) := by decide +kernel
theorem dX6_back_64 : decode cX6_back 64 = .ok (.aload_n 0, 1) := by decide +kernel
theorem dX6_back_65 : decode cX6_back 65 = .ok (.getfield 78, 3) := by decide +kernel
theorem dX6_back_68 : decode cX6_back 68 = .ok (.bipush 15, 2) := by decide +kernel
theorem dX6_back_70 : decode cX6_back 70 = .ok (.iload_n 1, 1) := by decide +kernel
theorem dX6_back_71 : decode cX6_back 71 = .ok (.iadd, 1) := by decide +kernel
theorem dX6_back_72 : decode cX6_back 72 = .ok (.iaload, 1) := by decide +kernel
theorem dX6_back_73 : decode cX6_back 73 = .ok (.iastore, 1) := by decide +kernel
theorem dX6_back_74 : decode cX6_back 74 = .ok (.iinc 1 1, 3) := by decide +kernel
theorem dX6_back_77 : decode cX6_back 77 = .ok (.goto (-64), 3) := by decide +kernel
theorem dX6_back_80 : decode cX6_back 80 = .ok (.aload_n 0, 1) := by decide +kernel
theorem dX6_back_81 : decode cX6_back 81 = .ok (.aload_n 0, 1) := by decide +kernel
theorem dX6_back_82 : decode cX6_back 82 = .ok (.getfield 81, 3) := by decide +kernel
theorem dX6_back_85 : decode cX6_back 85 = .ok (.putfield 111, 3) := by decide +kernel
theorem dX6_back_88 : decode cX6_back 88 = .ok (.aload_n 0, 1) := by decide +kernel
theorem dX6_back_89 : decode cX6_back 89 = .ok (.aload_n 0, 1) := by decide +kernel
theorem dX6_back_90 : decode cX6_back 90 = .ok (.getfield 457, 3) := by decide +kernel
theorem dX6_back_93 : decode cX6_back 93 = .ok (.putfield 104, 3) := by decide +kernel
theorem dX6_back_96 : decode cX6_back 96 = .ok (.aload_n 0, 1) := by decide +kernel
theorem dX6_back_97 : decode cX6_back 97 = .ok (.aload_n 0, 1) := by decide +kernel
theorem dX6_back_98 : decode cX6_back 98 = .ok (.getfield 460, 3) := by decide +kernel
theorem dX6_back_101 : decode cX6_back 101 = .ok (.putfield 41, 3) := by decide +kernel
theorem dX6_back_104 : decode cX6_back 104 = .ok (.aload_n 0, 1) := by decide +kernel
theorem dX6_back_105 : decode cX6_back 105 = .ok (.aload_n 0, 1) := by decide +kernel
theorem dX6_back_106 : decode cX6_back 106 = .ok (.getfield 463, 3) := by decide +kernel
theorem dX6_back_109 : decode cX6_back 109 = .ok (.putfield 44, 3) := by decide +kernel
theorem dX6_back_112 : decode cX6_back 112 = .ok (.aload_n 0, 1) := by decide +kernel
theorem dX6_back_113 : decode cX6_back 113 = .ok (.aload_n 0, 1) := by decide +kernel
theorem dX6_back_114 : decode cX6_back 114 = .ok (.getfield 466, 3) := by decide +kernel
theorem dX6_back_117 : decode cX6_back 117 = .ok (.putfield 370, 3) := by decide +kernel
theorem dX6_back_120 : decode cX6_back 120 = .ok (.aload_n 0, 1) := by decide +kernel
theorem dX6_back_121 : decode cX6_back 121 = .ok (.getfield 111, 3) := by decide +kernel
theorem dX6_back_124 : decode cX6_back 124 = .ok (.ireturn, 1) := by decide +kernel
theorem dX6_count_0 : decode cX6_count 0 = .ok (.iload_n 1, 1) := by decide +kernel
theorem dX6_count_1 : decode cX6_count 1 = .ok (.i2l, 1) := by decide +kernel
theorem dX6_count_2 : decode cX6_count 2 = .ok (.lconst 0, 1) := by decide +kernel
theorem dX6_count_3 : decode cX6_count 3 = .ok (.ldc2_w 469, 3) := by decide +kernel
theorem dX6_count_6 : decode cX6_count 6 = .ok (.invokestatic 107, 3) := by decide +kernel
theorem dX6_count_9 : decode cX6_count 9 = .ok (.ifCond .ne 6, 3) := by decide +kernel
theorem dX6_count_12 : decode cX6_count 12 = .ok (.bipush (-2), 2) := by decide +kernel
theorem dX6_count_14 : decode cX6_count 14 = .ok (.ireturn, 1) := by decide +kernel
theorem dX6_count_15 : decode cX6_count 15 = .ok (.iload_n 1, 1) := by decide +kernel
theorem dX6_count_16 : decode cX6_count 16 = .ok (.iconst 4, 1) := by decide +kernel
theorem dX6_count_17 : decode cX6_count 17 = .ok (.if_icmp .ge 43, 3) := by decide +kernel
theorem dX6_count_20 : decode cX6_count 20 = .ok (.iload_n 1, 1) := by decide +kernel
theorem dX6_count_21 : decode cX6_count 21 = .ok (.ifCond .ne 10, 3) := by decide +kernel
theorem dX6_count_24 : decode cX6_count 24 = .ok (.aload_n 0, 1) := by decide +kernel
theorem dX6_count_25 : decode cX6_count 25 = .ok (.getfield 104, 3) := by decide +kernel
theorem dX6_count_28 : decode cX6_count 28 = .ok (.goto 31, 3) := by decide +kernel
theorem dX6_count_31 : decode cX6_count 31 = .ok (.iload_n 1, 1) := by decide +kernel
theorem dX6_count_32 : decode cX6_count 32 = .ok (.iconst 1, 1) := by decide +kernel
theorem dX6_count_33 : decode cX6_count 33 = .ok (.if_icmp .ne 10, 3) := by decide +kernel
theorem dX6_count_36 : decode cX6_count 36 = .ok (.aload_n 0, 1) := by decide +kernel
theorem dX6_count_37 : decode cX6_count 37 = .ok (.getfield 111, 3) := by decide +kernel
theorem dX6_count_40 : decode cX6_count 40 = .ok (.goto 19, 3) := by decide +kernel
theorem dX6_count_43 : decode cX6_count 43 = .ok (.iload_n 1, 1) := by decide +kernel
theorem dX6_count_44 : decode cX6_count 44 = .ok (.iconst 2, 1) := by decide +kernel
theorem dX6_count_45 : decode cX6_count 45 = .ok (.if_icmp .ne 10, 3) := by decide +kernel
theorem dX6_count_48 : decode cX6_count 48 = .ok (.aload_n 0, 1) := by decide +kernel
theorem dX6_count_49 : decode cX6_count 49 = .ok (.getfield 44, 3) := by decide +kernel
theorem dX6_count_52 : decode cX6_count 52 = .ok (.goto 7, 3) := by decide +kernel
theorem dX6_count_55 : decode cX6_count 55 = .ok (.aload_n 0, 1) := by decide +kernel
theorem dX6_count_56 : decode cX6_count 56 = .ok (.getfield 41, 3) := by decide +kernel
theorem dX6_count_59 : decode cX6_count 59 = .ok (.ireturn, 1) := by decide +kernel
theorem dX6_count_60 : decode cX6_count 60 = .ok (.iload_n 1, 1) := by decide +kernel
theorem dX6_count_61 : decode cX6_count 61 = .ok (.iconst 4, 1) := by decide +kernel
theorem dX6_count_62 : decode cX6_count 62 = .ok (.if_icmp .ne 10, 3) := by decide +kernel
theorem dX6_count_65 : decode cX6_count 65 = .ok (.aload_n 0, 1) := by decide +kernel
theorem dX6_count_66 : decode cX6_count 66 = .ok (.getfield 101, 3) := by decide +kernel
theorem dX6_count_69 : decode cX6_count 69 = .ok (.goto 19, 3) := by decide +kernel
theorem dX6_count_72 : decode cX6_count 72 = .ok (.iload_n 1, 1) := by decide +kernel
theorem dX6_count_73 : decode cX6_count 73 = .ok (.iconst 5, 1) := by decide +kernel
theorem dX6_count_74 : decode cX6_count 74 = .ok (.if_icmp .ne 10, 3) := by decide +kernel
theorem dX6_count_77 : decode cX6_count 77 = .ok (.aload_n 0, 1) := by decide +kernel
theorem dX6_count_78 : decode cX6_count 78 = .ok (.getfield 165, 3) := by decide +kernel
theorem dX6_count_81 : decode cX6_count 81 = .ok (.goto 7, 3) := by decide +kernel
theorem dX6_count_84 : decode cX6_count 84 = .ok (.aload_n 0, 1) := by decide +kernel
theorem dX6_count_85 : decode cX6_count 85 = .ok (.getfield 370, 3) := by decide +kernel
theorem dX6_count_88 : decode cX6_count 88 = .ok (.ireturn, 1) := by decide +kernel
theorem dX6_isSheet_0 : decode cX6_isSheet 0 = .ok (.iload_n 0, 1) := by decide +kernel
theorem dX6_isSheet_1 : decode cX6_isSheet 1 = .ok (.i2l, 1) := by decide +kernel
theorem dX6_isSheet_2 : decode cX6_isSheet 2 = .ok (.lconst 0, 1) := by decide +kernel
theorem dX6_isSheet_3 : decode cX6_isSheet 3 = .ok (.ldc2_w 153, 3) := by decide +kernel
theorem dX6_isSheet_6 : decode cX6_isSheet 6 = .ok (.invokestatic 107, 3) := by decide +kernel
theorem dX6_isSheet_9 : decode cX6_isSheet 9 = .ok (.ireturn, 1) := by decide +kernel
theorem dX6_sheet_0 : decode cX6_sheet 0 = .ok (.iload_n 1, 1) := by decide +kernel
theorem dX6_sheet_1 : decode cX6_sheet 1 = .ok (.invokestatic 430, 3) := by decide +kernel
theorem dX6_sheet_4 : decode cX6_sheet 4 = .ok (.ifCond .eq 27, 3) := by decide +kernel
theorem dX6_sheet_7 : decode cX6_sheet 7 = .ok (.iload_n 2, 1) := by decide +kernel
theorem dX6_sheet_8 : decode cX6_sheet 8 = .ok (.i2l, 1) := by decide +kernel
theorem dX6_sheet_9 : decode cX6_sheet 9 = .ok (.ldc2_w 471, 3) := by decide +kernel
theorem dX6_sheet_12 : decode cX6_sheet 12 = .ok (.ldc2_w 377, 3) := by decide +kernel
theorem dX6_sheet_15 : decode cX6_sheet 15 = .ok (.invokestatic 107, 3) := by decide +kernel
theorem dX6_sheet_18 : decode cX6_sheet 18 = .ok (.ifCond .eq 13, 3) := by decide +kernel
theorem dX6_sheet_21 : decode cX6_sheet 21 = .ok (.iload_n 2, 1) := by decide +kernel
theorem dX6_sheet_22 : decode cX6_sheet 22 = .ok (.ifCond .lt 12, 3) := by decide +kernel
theorem dX6_sheet_25 : decode cX6_sheet 25 = .ok (.iload_n 3, 1) := by decide +kernel
theorem dX6_sheet_26 : decode cX6_sheet 26 = .ok (.bipush 40, 2) := by decide +kernel
theorem dX6_sheet_28 : decode cX6_sheet 28 = .ok (.if_icmp .le 6, 3) := by decide +kernel
theorem dX6_sheet_31 : decode cX6_sheet 31 = .ok (.bipush (-2), 2) := by decide +kernel
theorem dX6_sheet_33 : decode cX6_sheet 33 = .ok (.ireturn, 1) := by decide +kernel
theorem dX6_sheet_34 : decode cX6_sheet 34 = .ok (.iload_n 2, 1) := by decide +kernel
theorem dX6_sheet_35 : decode cX6_sheet 35 = .ok (.ifCond .lt 10, 3) := by decide +kernel
theorem dX6_sheet_38 : decode cX6_sheet 38 = .ok (.iload_n 3, 1) := by decide +kernel
theorem dX6_sheet_39 : decode cX6_sheet 39 = .ok (.ifCond .ge 6, 3) := by decide +kernel
theorem dX6_sheet_42 : decode cX6_sheet 42 = .ok (.bipush (-14), 2) := by decide +kernel
theorem dX6_sheet_44 : decode cX6_sheet 44 = .ok (.ireturn, 1) := by decide +kernel
theorem dX6_sheet_45 : decode cX6_sheet 45 = .ok (.aload_n 0, 1) := by decide +kernel
theorem dX6_sheet_46 : decode cX6_sheet 46 = .ok (.getfield 84, 3) := by decide +kernel
theorem dX6_sheet_49 : decode cX6_sheet 49 = .ok (.iload_n 1, 1) := by decide +kernel
theorem dX6_sheet_50 : decode cX6_sheet 50 = .ok (.iload_n 2, 1) := by decide +kernel
theorem dX6_sheet_51 : decode cX6_sheet 51 = .ok (.ifCond .lt 7, 3) := by decide +kernel
theorem dX6_sheet_54 : decode cX6_sheet 54 = .ok (.iconst 1, 1) := by decide +kernel
theorem dX6_sheet_55 : decode cX6_sheet 55 = .ok (.goto 4, 3) := by decide +kernel
theorem dX6_sheet_58 : decode cX6_sheet 58 = .ok (.iconst 0, 1) := by decide +kernel
theorem dX6_sheet_59 : decode cX6_sheet 59 = .ok (.bastore, 1) := by decide +kernel
theorem dX6_sheet_60 : decode cX6_sheet 60 = .ok (.aload_n 0, 1) := by decide +kernel
theorem dX6_sheet_61 : decode cX6_sheet 61 = .ok (.getfield 88, 3) := by decide +kernel
theorem dX6_sheet_64 : decode cX6_sheet 64 = .ok (.iload_n 1, 1) := by decide +kernel
theorem dX6_sheet_65 : decode cX6_sheet 65 = .ok (.iload_n 2, 1) := by decide +kernel
theorem dX6_sheet_66 : decode cX6_sheet 66 = .ok (.iastore, 1) := by decide +kernel
theorem dX6_sheet_67 : decode cX6_sheet 67 = .ok (.aload_n 0, 1) := by decide +kernel
theorem dX6_sheet_68 : decode cX6_sheet 68 = .ok (.getfield 91, 3) := by decide +kernel
theorem dX6_sheet_71 : decode cX6_sheet 71 = .ok (.iload_n 1, 1) := by decide +kernel
theorem dX6_sheet_72 : decode cX6_sheet 72 = .ok (.iload_n 3, 1) := by decide +kernel
theorem dX6_sheet_73 : decode cX6_sheet 73 = .ok (.iastore, 1) := by decide +kernel
theorem dX6_sheet_74 : decode cX6_sheet 74 = .ok (.iconst 0, 1) := by decide +kernel
theorem dX6_sheet_75 : decode cX6_sheet 75 = .ok (.istore 4, 2) := by decide +kernel
theorem dX6_sheet_77 : decode cX6_sheet 77 = .ok (.iload 4, 2) := by decide +kernel
theorem dX6_sheet_79 : decode cX6_sheet 79 = .ok (.iload_n 3, 1) := by decide +kernel
theorem dX6_sheet_80 : decode cX6_sheet 80 = .ok (.if_icmp .ge 26, 3) := by decide +kernel
theorem dX6_sheet_83 : decode cX6_sheet 83 = .ok (.iload_n 2, 1) := by decide +kernel
theorem dX6_sheet_84 : decode cX6_sheet 84 = .ok (.ifCond .lt 22, 3) := by decide +kernel
theorem dX6_sheet_87 : decode cX6_sheet 87 = .ok (.aload_n 0, 1) := by decide +kernel
theorem dX6_sheet_88 : decode cX6_sheet 88 = .ok (.getfield 94, 3) := by decide +kernel
theorem dX6_sheet_91 : decode cX6_sheet 91 = .ok (.bipush 40, 2) := by decide +kernel
theorem dX6_sheet_93 : decode cX6_sheet 93 = .ok (.iload_n 1, 1) := by decide +kernel
theorem dX6_sheet_94 : decode cX6_sheet 94 = .ok (.imul, 1) := by decide +kernel
theorem dX6_sheet_95 : decode cX6_sheet 95 = .ok (.iload 4, 2) := by decide +kernel
theorem dX6_sheet_97 : decode cX6_sheet 97 = .ok (.iadd, 1) := by decide +kernel
theorem dX6_sheet_98 : decode cX6_sheet 98 = .ok (.iconst 0, 1) := by decide +kernel
theorem dX6_sheet_99 : decode cX6_sheet 99 = .ok (.iastore, 1) := by decide +kernel
theorem dX6_sheet_100 : decode cX6_sheet 100 = .ok (.iinc 4 1, 3) := by decide +kernel
theorem dX6_sheet_103 : decode cX6_sheet 103 = .ok (.goto (-26), 3) := by decide +kernel
theorem dX6_sheet_106 : decode cX6_sheet 106 = .ok (.iconst 1, 1) := by decide +kernel
theorem dX6_sheet_107 : decode cX6_sheet 107 = .ok (.ireturn, 1) := by decide +kernel
theorem dX6_cell_0 : decode cX6_cell 0 = .ok (.iload_n 1, 1) := by decide +kernel
theorem dX6_cell_1 : decode cX6_cell 1 = .ok (.invokestatic 430, 3) := by decide +kernel
theorem dX6_cell_4 : decode cX6_cell 4 = .ok (.ifCond .ne 6, 3) := by decide +kernel
theorem dX6_cell_7 : decode cX6_cell 7 = .ok (.bipush (-2), 2) := by decide +kernel
theorem dX6_cell_9 : decode cX6_cell 9 = .ok (.ireturn, 1) := by decide +kernel
theorem dX6_cell_10 : decode cX6_cell 10 = .ok (.aload_n 0, 1) := by decide +kernel
theorem dX6_cell_11 : decode cX6_cell 11 = .ok (.getfield 84, 3) := by decide +kernel
theorem dX6_cell_14 : decode cX6_cell 14 = .ok (.iload_n 1, 1) := by decide +kernel
theorem dX6_cell_15 : decode cX6_cell 15 = .ok (.baload, 1) := by decide +kernel
theorem dX6_cell_16 : decode cX6_cell 16 = .ok (.ifCond .ne 6, 3) := by decide +kernel
theorem dX6_cell_19 : decode cX6_cell 19 = .ok (.bipush (-11), 2) := by decide +kernel
theorem dX6_cell_21 : decode cX6_cell 21 = .ok (.ireturn, 1) := by decide +kernel
theorem dX6_cell_22 : decode cX6_cell 22 = .ok (.iload_n 2, 1) := by decide +kernel
theorem dX6_cell_23 : decode cX6_cell 23 = .ok (.i2l, 1) := by decide +kernel
theorem dX6_cell_24 : decode cX6_cell 24 = .ok (.lconst 0, 1) := by decide +kernel
theorem dX6_cell_25 : decode cX6_cell 25 = .ok (.aload_n 0, 1) := by decide +kernel
theorem dX6_cell_26 : decode cX6_cell 26 = .ok (.getfield 91, 3) := by decide +kernel
theorem dX6_cell_29 : decode cX6_cell 29 = .ok (.iload_n 1, 1) := by decide +kernel
theorem dX6_cell_30 : decode cX6_cell 30 = .ok (.iaload, 1) := by decide +kernel
theorem dX6_cell_31 : decode cX6_cell 31 = .ok (.iconst 1, 1) := by decide +kernel
theorem dX6_cell_32 : decode cX6_cell 32 = .ok (.isub, 1) := by decide +kernel
theorem dX6_cell_33 : decode cX6_cell 33 = .ok (.i2l, 1) := by decide +kernel
theorem dX6_cell_34 : decode cX6_cell 34 = .ok (.invokestatic 107, 3) := by decide +kernel
theorem dX6_cell_37 : decode cX6_cell 37 = .ok (.ifCond .ne 6, 3) := by decide +kernel
theorem dX6_cell_40 : decode cX6_cell 40 = .ok (.bipush (-12), 2) := by decide +kernel
theorem dX6_cell_42 : decode cX6_cell 42 = .ok (.ireturn, 1) := by decide +kernel
theorem dX6_cell_43 : decode cX6_cell 43 = .ok (.aload_n 0, 1) := by decide +kernel
theorem dX6_cell_44 : decode cX6_cell 44 = .ok (.getfield 94, 3) := by decide +kernel
theorem dX6_cell_47 : decode cX6_cell 47 = .ok (.bipush 40, 2) := by decide +kernel
theorem dX6_cell_49 : decode cX6_cell 49 = .ok (.iload_n 1, 1) := by decide +kernel
theorem dX6_cell_50 : decode cX6_cell 50 = .ok (.imul, 1) := by decide +kernel
theorem dX6_cell_51 : decode cX6_cell 51 = .ok (.iload_n 2, 1) := by decide +kernel
theorem dX6_cell_52 : decode cX6_cell 52 = .ok (.iadd, 1) := by decide +kernel
theorem dX6_cell_53 : decode cX6_cell 53 = .ok (.aload_n 0, 1) := by decide +kernel
theorem dX6_cell_54 : decode cX6_cell 54 = .ok (.getfield 88, 3) := by decide +kernel
theorem dX6_cell_57 : decode cX6_cell 57 = .ok (.iload_n 1, 1) := by decide +kernel
theorem dX6_cell_58 : decode cX6_cell 58 = .ok (.iaload, 1) := by decide +kernel
theorem dX6_cell_59 : decode cX6_cell 59 = .ok (.ifCond .ne 8, 3) := by decide +kernel
theorem dX6_cell_62 : decode cX6_cell 62 = .ok (.iload_n 3, 1) := by decide +kernel
theorem dX6_cell_63 : decode cX6_cell 63 = .ok (.i2b, 1) := by decide +kernel
theorem dX6_cell_64 : decode cX6_cell 64 = .ok (.goto 19, 3) := by decide +kernel
theorem dX6_cell_67 : decode cX6_cell 67 = .ok (.aload_n 0, 1) := by decide +kernel
theorem dX6_cell_68 : decode cX6_cell 68 = .ok (.getfield 88, 3) := by decide +kernel
theorem dX6_cell_71 : decode cX6_cell 71 = .ok (.iload_n 1, 1) := by decide +kernel
theorem dX6_cell_72 : decode cX6_cell 72 = .ok (.iaload, 1) := by decide +kernel
theorem dX6_cell_73 : decode cX6_cell 73 = .ok (.iconst 1, 1) := by decide +kernel
theorem dX6_cell_74 : decode cX6_cell 74 = .ok (.if_icmp .ne 8, 3) := by decide +kernel
theorem dX6_cell_77 : decode cX6_cell 77 = .ok (.iload_n 3, 1) := by decide +kernel
theorem dX6_cell_78 : decode cX6_cell 78 = .ok (.i2s, 1) := by decide +kernel
theorem dX6_cell_79 : decode cX6_cell 79 = .ok (.goto 4, 3) := by decide +kernel
theorem dX6_cell_82 : decode cX6_cell 82 = .ok (.iload_n 3, 1) := by decide +kernel
theorem dX6_cell_83 : decode cX6_cell 83 = .ok (.iastore, 1) := by decide +kernel
theorem dX6_cell_84 : decode cX6_cell 84 = .ok (.iconst 1, 1) := by decide +kernel
theorem dX6_cell_85 : decode cX6_cell 85 = .ok (.ireturn, 1) := by decide +kernel
theorem dX6_copy_0 : decode cX6_copy 0 = .ok (.iload_n 1, 1) := by decide +kernel
theorem dX6_copy_1 : decode cX6_copy 1 = .ok (.invokestatic 430, 3) := by decide +kernel
theorem dX6_copy_4 : decode cX6_copy 4 = .ok (.ifCond .eq 10, 3) := by decide +kernel
theorem dX6_copy_7 : decode cX6_copy 7 = .ok (.iload_n 3, 1) := by decide +kernel
theorem dX6_copy_8 : decode cX6_copy 8 = .ok (.invokestatic 430, 3) := by decide +kernel
theorem dX6_copy_11 : decode cX6_copy 11 = .ok (.ifCond .ne 6, 3) := by decide +kernel
theorem dX6_copy_14 : decode cX6_copy 14 = .ok (.bipush (-2), 2) := by decide +kernel
theorem dX6_copy_16 : decode cX6_copy 16 = .ok (.ireturn, 1) := by decide +kernel
theorem dX6_copy_17 : decode cX6_copy 17 = .ok (.aload_n 0, 1) := by decide +kernel
theorem dX6_copy_18 : decode cX6_copy 18 = .ok (.getfield 84, 3) := by decide +kernel
theorem dX6_copy_21 : decode cX6_copy 21 = .ok (.iload_n 1, 1) := by decide +kernel
theorem dX6_copy_22 : decode cX6_copy 22 = .ok (.baload, 1) := by decide +kernel
theorem dX6_copy_23 : decode cX6_copy 23 = .ok (.ifCond .eq 12, 3) := by decide +kernel
theorem dX6_copy_26 : decode cX6_copy 26 = .ok (.aload_n 0, 1) := by decide +kernel
theorem dX6_copy_27 : decode cX6_copy 27 = .ok (.getfield 84, 3) := by decide +kernel
theorem dX6_copy_30 : decode cX6_copy 30 = .ok (.iload_n 3, 1) := by decide +kernel
theorem dX6_copy_31 : decode cX6_copy 31 = .ok (.baload, 1) := by decide +kernel
theorem dX6_copy_32 : decode cX6_copy 32 = .ok (.ifCond .ne 6, 3) := by decide +kernel
theorem dX6_copy_35 : decode cX6_copy 35 = .ok (.bipush (-11), 2) := by decide +kernel
theorem dX6_copy_37 : decode cX6_copy 37 = .ok (.ireturn, 1) := by decide +kernel
theorem dX6_copy_38 : decode cX6_copy 38 = .ok (.aload_n 0, 1) := by decide +kernel
theorem dX6_copy_39 : decode cX6_copy 39 = .ok (.getfield 88, 3) := by decide +kernel
theorem dX6_copy_42 : decode cX6_copy 42 = .ok (.iload_n 1, 1) := by decide +kernel
theorem dX6_copy_43 : decode cX6_copy 43 = .ok (.iaload, 1) := by decide +kernel
theorem dX6_copy_44 : decode cX6_copy 44 = .ok (.aload_n 0, 1) := by decide +kernel
theorem dX6_copy_45 : decode cX6_copy 45 = .ok (.getfield 88, 3) := by decide +kernel
theorem dX6_copy_48 : decode cX6_copy 48 = .ok (.iload_n 3, 1) := by decide +kernel
theorem dX6_copy_49 : decode cX6_copy 49 = .ok (.iaload, 1) := by decide +kernel
theorem dX6_copy_50 : decode cX6_copy 50 = .ok (.if_icmp .eq 6, 3) := by decide +kernel
theorem dX6_copy_53 : decode cX6_copy 53 = .ok (.bipush (-13), 2) := by decide +kernel
theorem dX6_copy_55 : decode cX6_copy 55 = .ok (.ireturn, 1) := by decide +kernel
theorem dX6_copy_56 : decode cX6_copy 56 = .ok (.iload 5, 2) := by decide +kernel
theorem dX6_copy_58 : decode cX6_copy 58 = .ok (.ifCond .lt 39, 3) := by decide +kernel
theorem dX6_copy_61 : decode cX6_copy 61 = .ok (.iload_n 2, 1) := by decide +kernel
theorem dX6_copy_62 : decode cX6_copy 62 = .ok (.ifCond .lt 35, 3) := by decide +kernel
theorem dX6_copy_65 : decode cX6_copy 65 = .ok (.iload 4, 2) := by decide +kernel
theorem dX6_copy_67 : decode cX6_copy 67 = .ok (.ifCond .lt 30, 3) := by decide +kernel
theorem dX6_copy_70 : decode cX6_copy 70 = .ok (.iload_n 2, 1) := by decide +kernel
theorem dX6_copy_71 : decode cX6_copy 71 = .ok (.aload_n 0, 1) := by decide +kernel
theorem dX6_copy_72 : decode cX6_copy 72 = .ok (.getfield 91, 3) := by decide +kernel
theorem dX6_copy_75 : decode cX6_copy 75 = .ok (.iload_n 1, 1) := by decide +kernel
theorem dX6_copy_76 : decode cX6_copy 76 = .ok (.iaload, 1) := by decide +kernel
theorem dX6_copy_77 : decode cX6_copy 77 = .ok (.iload 5, 2) := by decide +kernel
theorem dX6_copy_79 : decode cX6_copy 79 = .ok (.isub, 1) := by decide +kernel
theorem dX6_copy_80 : decode cX6_copy 80 = .ok (.if_icmp .gt 17, 3) := by decide +kernel
theorem dX6_copy_83 : decode cX6_copy 83 = .ok (.iload 4, 2) := by decide +kernel
theorem dX6_copy_85 : decode cX6_copy 85 = .ok (.aload_n 0, 1) := by decide +kernel
theorem dX6_copy_86 : decode cX6_copy 86 = .ok (.getfield 91, 3) := by decide +kernel
theorem dX6_copy_89 : decode cX6_copy 89 = .ok (.iload_n 3, 1) := by decide +kernel
theorem dX6_copy_90 : decode cX6_copy 90 = .ok (.iaload, 1) := by decide +kernel
theorem dX6_copy_91 : decode cX6_copy 91 = .ok (.iload 5, 2) := by decide +kernel
theorem dX6_copy_93 : decode cX6_copy 93 = .ok (.isub, 1) := by decide +kernel
theorem dX6_copy_94 : decode cX6_copy 94 = .ok (.if_icmp .le 6, 3) := by decide +kernel
theorem dX6_copy_97 : decode cX6_copy 97 = .ok (.bipush (-12), 2) := by decide +kernel
theorem dX6_copy_99 : decode cX6_copy 99 = .ok (.ireturn, 1) := by decide +kernel
theorem dX6_copy_100 : decode cX6_copy 100 = .ok (.iload_n 1, 1) := by decide +kernel
theorem dX6_copy_101 : decode cX6_copy 101 = .ok (.iload_n 3, 1) := by decide +kernel
theorem dX6_copy_102 : decode cX6_copy 102 = .ok (.if_icmp .ne 13, 3) := by decide +kernel
theorem dX6_copy_105 : decode cX6_copy 105 = .ok (.iload_n 2, 1) := by decide +kernel
theorem dX6_copy_106 : decode cX6_copy 106 = .ok (.iload 4, 2) := by decide +kernel
theorem dX6_copy_108 : decode cX6_copy 108 = .ok (.if_icmp .ge 7, 3) := by decide +kernel
theorem dX6_copy_111 : decode cX6_copy 111 = .ok (.iconst 1, 1) := by decide +kernel
theorem dX6_copy_112 : decode cX6_copy 112 = .ok (.goto 4, 3) := by decide +kernel
theorem dX6_copy_115 : decode cX6_copy 115 = .ok (.iconst 0, 1) := by decide +kernel
theorem dX6_copy_116 : decode cX6_copy 116 = .ok (.istore 6, 2) := by decide +kernel
theorem dX6_copy_118 : decode cX6_copy 118 = .ok (.iconst 0, 1) := by decide +kernel
theorem dX6_copy_119 : decode cX6_copy 119 = .ok (.istore 7, 2) := by decide +kernel
theorem dX6_copy_121 : decode cX6_copy 121 = .ok (.iload 7, 2) := by decide +kernel
theorem dX6_copy_123 : decode cX6_copy 123 = .ok (.iload 5, 2) := by decide +kernel
theorem dX6_copy_125 : decode cX6_copy 125 = .ok (.if_icmp .ge 57, 3) := by decide +kernel
theorem dX6_copy_128 : decode cX6_copy 128 = .ok (.iload 6, 2) := by decide +kernel
theorem dX6_copy_130 : decode cX6_copy 130 = .ok (.ifCond .eq 13, 3) := by decide +kernel
theorem dX6_copy_133 : decode cX6_copy 133 = .ok (.iload 5, 2) := by decide +kernel
theorem dX6_copy_135 : decode cX6_copy 135 = .ok (.iconst 1, 1) := by decide +kernel
theorem dX6_copy_136 : decode cX6_copy 136 = .ok (.isub, 1) := by decide +kernel
theorem dX6_copy_137 : decode cX6_copy 137 = .ok (.iload 7, 2) := by decide +kernel
theorem dX6_copy_139 : decode cX6_copy 139 = .ok (.isub, 1) := by decide +kernel
theorem dX6_copy_140 : decode cX6_copy 140 = .ok (.goto 5, 3) := by decide +kernel
theorem dX6_copy_143 : decode cX6_copy 143 = .ok (.iload 7, 2) := by decide +kernel
theorem dX6_copy_145 : decode cX6_copy 145 = .ok (.istore 8, 2) := by decide +kernel
theorem dX6_copy_147 : decode cX6_copy 147 = .ok (.aload_n 0, 1) := by decide +kernel
theorem dX6_copy_148 : decode cX6_copy 148 = .ok (.getfield 94, 3) := by decide +kernel
theorem dX6_copy_151 : decode cX6_copy 151 = .ok (.bipush 40, 2) := by decide +kernel
theorem dX6_copy_153 : decode cX6_copy 153 = .ok (.iload_n 3, 1) := by decide +kernel
theorem dX6_copy_154 : decode cX6_copy 154 = .ok (.imul, 1) := by decide +kernel
theorem dX6_copy_155 : decode cX6_copy 155 = .ok (.iload 4, 2) := by decide +kernel
theorem dX6_copy_157 : decode cX6_copy 157 = .ok (.iadd, 1) := by decide +kernel
theorem dX6_copy_158 : decode cX6_copy 158 = .ok (.iload 8, 2) := by decide +kernel
theorem dX6_copy_160 : decode cX6_copy 160 = .ok (.iadd, 1) := by decide +kernel
theorem dX6_copy_161 : decode cX6_copy 161 = .ok (.aload_n 0, 1) := by decide +kernel
theorem dX6_copy_162 : decode cX6_copy 162 = .ok (.getfield 94, 3) := by decide +kernel
theorem dX6_copy_165 : decode cX6_copy 165 = .ok (.bipush 40, 2) := by decide +kernel
theorem dX6_copy_167 : decode cX6_copy 167 = .ok (.iload_n 1, 1) := by decide +kernel
theorem dX6_copy_168 : decode cX6_copy 168 = .ok (.imul, 1) := by decide +kernel
theorem dX6_copy_169 : decode cX6_copy 169 = .ok (.iload_n 2, 1) := by decide +kernel
theorem dX6_copy_170 : decode cX6_copy 170 = .ok (.iadd, 1) := by decide +kernel
theorem dX6_copy_171 : decode cX6_copy 171 = .ok (.iload 8, 2) := by decide +kernel
theorem dX6_copy_173 : decode cX6_copy 173 = .ok (.iadd, 1) := by decide +kernel
theorem dX6_copy_174 : decode cX6_copy 174 = .ok (.iaload, 1) := by decide +kernel
theorem dX6_copy_175 : decode cX6_copy 175 = .ok (.iastore, 1) := by decide +kernel
theorem dX6_copy_176 : decode cX6_copy 176 = .ok (.iinc 7 1, 3) := by decide +kernel
theorem dX6_copy_179 : decode cX6_copy 179 = .ok (.goto (-58), 3) := by decide +kernel
theorem dX6_copy_182 : decode cX6_copy 182 = .ok (.iload 5, 2) := by decide +kernel
theorem dX6_copy_184 : decode cX6_copy 184 = .ok (.ireturn, 1) := by decide +kernel
theorem dX6_things_0 : decode cX6_things 0 = .ok (.iload_n 1, 1) := by decide +kernel
theorem dX6_things_1 : decode cX6_things 1 = .ok (.invokestatic 430, 3) := by decide +kernel
theorem dX6_things_4 : decode cX6_things 4 = .ok (.ifCond .eq 28, 3) := by decide +kernel
theorem dX6_things_7 : decode cX6_things 7 = .ok (.iload_n 2, 1) := by decide +kernel
theorem dX6_things_8 : decode cX6_things 8 = .ok (.i2l, 1) := by decide +kernel
theorem dX6_things_9 : decode cX6_things 9 = .ok (.lconst 0, 1) := by decide +kernel
theorem dX6_things_10 : decode cX6_things 10 = .ok (.ldc2_w 377, 3) := by decide +kernel
theorem dX6_things_13 : decode cX6_things 13 = .ok (.invokestatic 107, 3) := by decide +kernel
theorem dX6_things_16 : decode cX6_things 16 = .ok (.ifCond .eq 16, 3) := by decide +kernel
theorem dX6_things_19 : decode cX6_things 19 = .ok (.iload 4, 2) := by decide +kernel
theorem dX6_things_21 : decode cX6_things 21 = .ok (.i2l, 1) := by decide +kernel
theorem dX6_things_22 : decode cX6_things 22 = .ok (.lconst 0, 1) := by decide +kernel
theorem dX6_things_23 : decode cX6_things 23 = .ok (.ldc2_w 141, 3) := by decide +kernel
theorem dX6_things_26 : decode cX6_things 26 = .ok (.invokestatic 107, 3) := by decide +kernel
theorem dX6_things_29 : decode cX6_things 29 = .ok (.ifCond .ne 6, 3) := by decide +kernel
theorem dX6_things_32 : decode cX6_things 32 = .ok (.bipush (-2), 2) := by decide +kernel
theorem dX6_things_34 : decode cX6_things 34 = .ok (.ireturn, 1) := by decide +kernel
theorem dX6_things_35 : decode cX6_things 35 = .ok (.aload_n 0, 1) := by decide +kernel
theorem dX6_things_36 : decode cX6_things 36 = .ok (.getfield 84, 3) := by decide +kernel
theorem dX6_things_39 : decode cX6_things 39 = .ok (.iload_n 1, 1) := by decide +kernel
theorem dX6_things_40 : decode cX6_things 40 = .ok (.baload, 1) := by decide +kernel
theorem dX6_things_41 : decode cX6_things 41 = .ok (.ifCond .eq 16, 3) := by decide +kernel
theorem dX6_things_44 : decode cX6_things 44 = .ok (.aload_n 0, 1) := by decide +kernel
theorem dX6_things_45 : decode cX6_things 45 = .ok (.getfield 88, 3) := by decide +kernel
theorem dX6_things_48 : decode cX6_things 48 = .ok (.iload_n 1, 1) := by decide +kernel
theorem dX6_things_49 : decode cX6_things 49 = .ok (.iaload, 1) := by decide +kernel
theorem dX6_things_50 : decode cX6_things 50 = .ok (.iload_n 2, 1) := by decide +kernel
theorem dX6_things_51 : decode cX6_things 51 = .ok (.if_icmp .eq 6, 3) := by decide +kernel
theorem dX6_things_54 : decode cX6_things 54 = .ok (.bipush (-13), 2) := by decide +kernel
theorem dX6_things_56 : decode cX6_things 56 = .ok (.ireturn, 1) := by decide +kernel
theorem dX6_things_57 : decode cX6_things 57 = .ok (.aload_n 0, 1) := by decide +kernel
theorem dX6_things_58 : decode cX6_things 58 = .ok (.getfield 84, 3) := by decide +kernel
theorem dX6_things_61 : decode cX6_things 61 = .ok (.iload_n 1, 1) := by decide +kernel
theorem dX6_things_62 : decode cX6_things 62 = .ok (.baload, 1) := by decide +kernel
theorem dX6_things_63 : decode cX6_things 63 = .ok (.ifCond .ne 6, 3) := by decide +kernel
theorem dX6_things_66 : decode cX6_things 66 = .ok (.bipush (-11), 2) := by decide +kernel
theorem dX6_things_68 : decode cX6_things 68 = .ok (.ireturn, 1) := by decide +kernel
theorem dX6_things_69 : decode cX6_things 69 = .ok (.iconst 0, 1) := by decide +kernel
theorem dX6_things_70 : decode cX6_things 70 = .ok (.istore 5, 2) := by decide +kernel
theorem dX6_things_72 : decode cX6_things 72 = .ok (.iconst 0, 1) := by decide +kernel
theorem dX6_things_73 : decode cX6_things 73 = .ok (.istore 6, 2) := by decide +kernel
theorem dX6_things_75 : decode cX6_things 75 = .ok (.iload 6, 2) := by decide +kernel
theorem dX6_things_77 : decode cX6_things 77 = .ok (.iload 4, 2) := by decide +kernel
theorem dX6_things_79 : decode cX6_things 79 = .ok (.if_icmp .ge 79, 3) := by decide +kernel
theorem dX6_things_82 : decode cX6_things 82 = .ok (.iload_n 3, 1) := by decide +kernel
theorem dX6_things_83 : decode cX6_things 83 = .ok (.ifCond .lt 20, 3) := by decide +kernel
theorem dX6_things_86 : decode cX6_things 86 = .ok (.iload_n 3, 1) := by decide +kernel
theorem dX6_things_87 : decode cX6_things 87 = .ok (.aload_n 0, 1) := by decide +kernel
theorem dX6_things_88 : decode cX6_things 88 = .ok (.getfield 91, 3) := by decide +kernel
theorem dX6_things_91 : decode cX6_things 91 = .ok (.iload_n 1, 1) := by decide +kernel
theorem dX6_things_92 : decode cX6_things 92 = .ok (.iaload, 1) := by decide +kernel
theorem dX6_things_93 : decode cX6_things 93 = .ok (.iconst 2, 1) := by decide +kernel
theorem dX6_things_94 : decode cX6_things 94 = .ok (.iload 6, 2) := by decide +kernel
theorem dX6_things_96 : decode cX6_things 96 = .ok (.imul, 1) := by decide +kernel
theorem dX6_things_97 : decode cX6_things 97 = .ok (.isub, 1) := by decide +kernel
theorem dX6_things_98 : decode cX6_things 98 = .ok (.iconst 2, 1) := by decide +kernel
theorem dX6_things_99 : decode cX6_things 99 = .ok (.isub, 1) := by decide +kernel
theorem dX6_things_100 : decode cX6_things 100 = .ok (.if_icmp .le 6, 3) := by decide +kernel
theorem dX6_things_103 : decode cX6_things 103 = .ok (.bipush (-12), 2) := by decide +kernel
theorem dX6_things_105 : decode cX6_things 105 = .ok (.ireturn, 1) := by decide +kernel
theorem dX6_things_106 : decode cX6_things 106 = .ok (.bipush 40, 2) := by decide +kernel
theorem dX6_things_108 : decode cX6_things 108 = .ok (.iload_n 1, 1) := by decide +kernel
theorem dX6_things_109 : decode cX6_things 109 = .ok (.imul, 1) := by decide +kernel
theorem dX6_things_110 : decode cX6_things 110 = .ok (.iload_n 3, 1) := by decide +kernel
theorem dX6_things_111 : decode cX6_things 111 = .ok (.iadd, 1) := by decide +kernel
theorem dX6_things_112 : decode cX6_things 112 = .ok (.iconst 2, 1) := by decide +kernel
theorem dX6_things_113 : decode cX6_things 113 = .ok (.iload 6, 2) := by decide +kernel
theorem dX6_things_115 : decode cX6_things 115 = .ok (.imul, 1) := by decide +kernel
theorem dX6_things_116 : decode cX6_things 116 = .ok (.iadd, 1) := by decide +kernel
theorem dX6_things_117 : decode cX6_things 117 = .ok (.istore 7, 2) := by decide +kernel
theorem dX6_things_119 : decode cX6_things 119 = .ok (.iload 5, 2) := by decide +kernel
theorem dX6_things_121 : decode cX6_things 121 = .ok (.aload_n 0, 1) := by decide +kernel
theorem dX6_things_122 : decode cX6_things 122 = .ok (.aload_n 0, 1) := by decide +kernel
theorem dX6_things_123 : decode cX6_things 123 = .ok (.getfield 94, 3) := by decide +kernel
theorem dX6_things_126 : decode cX6_things 126 = .ok (.iload 7, 2) := by decide +kernel
theorem dX6_things_128 : decode cX6_things 128 = .ok (.iaload, 1) := by decide +kernel
theorem dX6_things_129 : decode cX6_things 129 = .ok (.aload_n 0, 1) := by decide +kernel
theorem dX6_things_130 : decode cX6_things 130 = .ok (.getfield 94, 3) := by decide +kernel
theorem dX6_things_133 : decode cX6_things 133 = .ok (.iload 7, 2) := by decide +kernel
theorem dX6_things_135 : decode cX6_things 135 = .ok (.iconst 1, 1) := by decide +kernel
theorem dX6_things_136 : decode cX6_things 136 = .ok (.iadd, 1) := by decide +kernel
theorem dX6_things_137 : decode cX6_things 137 = .ok (.iaload, 1) := by decide +kernel
theorem dX6_things_138 : decode cX6_things 138 = .ok (.invokevirtual 473, 3) := by decide +kernel
theorem dX6_things_141 : decode cX6_things 141 = .ok (.ifCond .lt 7, 3) := by decide +kernel
theorem dX6_things_144 : decode cX6_things 144 = .ok (.iconst 1, 1) := by decide +kernel
theorem dX6_things_145 : decode cX6_things 145 = .ok (.goto 4, 3) := by decide +kernel
theorem dX6_things_148 : decode cX6_things 148 = .ok (.iconst 0, 1) := by decide +kernel
theorem dX6_things_149 : decode cX6_things 149 = .ok (.iadd, 1) := by decide +kernel
theorem dX6_things_150 : decode cX6_things 150 = .ok (.istore 5, 2) := by decide +kernel
theorem dX6_things_152 : decode cX6_things 152 = .ok (.iinc 6 1, 3) := by decide +kernel
theorem dX6_things_155 : decode cX6_things 155 = .ok (.goto (-80), 3) := by decide +kernel
theorem dX6_things_158 : decode cX6_things 158 = .ok (.iload 5, 2) := by decide +kernel
theorem dX6_things_160 : decode cX6_things 160 = .ok (.ireturn, 1) := by decide +kernel
theorem dX6_over_0 : decode cX6_over 0 = .ok (.iload_n 0, 1) := by decide +kernel
theorem dX6_over_1 : decode cX6_over 1 = .ok (.ifCond .ne 7, 3) := by decide +kernel
theorem dX6_over_4 : decode cX6_over 4 = .ok (.iconst (-1), 1) := by decide +kernel
theorem dX6_over_5 : decode cX6_over 5 = .ok (.goto 27, 3) := by decide +kernel
theorem dX6_over_8 : decode cX6_over 8 = .ok (.iload_n 0, 1) := by decide +kernel
theorem dX6_over_9 : decode cX6_over 9 = .ok (.iconst 3, 1) := by decide +kernel
theorem dX6_over_10 : decode cX6_over 10 = .ok (.if_icmp .ne 7, 3) := by decide +kernel
theorem dX6_over_13 : decode cX6_over 13 = .ok (.iconst 1, 1) := by decide +kernel
theorem dX6_over_14 : decode cX6_over 14 = .ok (.goto 18, 3) := by decide +kernel
theorem dX6_over_17 : decode cX6_over 17 = .ok (.iload_n 0, 1) := by decide +kernel
theorem dX6_over_18 : decode cX6_over 18 = .ok (.iconst 4, 1) := by decide +kernel
theorem dX6_over_19 : decode cX6_over 19 = .ok (.if_icmp .eq 8, 3) := by decide +kernel
theorem dX6_over_22 : decode cX6_over 22 = .ok (.iload_n 0, 1) := by decide +kernel
theorem dX6_over_23 : decode cX6_over 23 = .ok (.iconst 5, 1) := by decide +kernel
theorem dX6_over_24 : decode cX6_over 24 = .ok (.if_icmp .ne 7, 3) := by decide +kernel
theorem dX6_over_27 : decode cX6_over 27 = .ok (.iconst 2, 1) := by decide +kernel
theorem dX6_over_28 : decode cX6_over 28 = .ok (.goto 4, 3) := by decide +kernel
theorem dX6_over_31 : decode cX6_over 31 = .ok (.iconst 0, 1) := by decide +kernel
theorem dX6_over_32 : decode cX6_over 32 = .ok (.ireturn, 1) := by decide +kernel
theorem dX6_taken_0 : decode cX6_taken 0 = .ok (.iload_n 2, 1) := by decide +kernel
theorem dX6_taken_1 : decode cX6_taken 1 = .ok (.i2l, 1) := by decide +kernel
theorem dX6_taken_2 : decode cX6_taken 2 = .ok (.lconst 0, 1) := by decide +kernel
theorem dX6_taken_3 : decode cX6_taken 3 = .ok (.ldc2_w 141, 3) := by decide +kernel
theorem dX6_taken_6 : decode cX6_taken 6 = .ok (.invokestatic 107, 3) := by decide +kernel
theorem dX6_taken_9 : decode cX6_taken 9 = .ok (.ifCond .ne 6, 3) := by decide +kernel
theorem dX6_taken_12 : decode cX6_taken 12 = .ok (.bipush (-2), 2) := by decide +kernel
theorem dX6_taken_14 : decode cX6_taken 14 = .ok (.ireturn, 1) := by decide +kernel
theorem dX6_taken_15 : decode cX6_taken 15 = .ok (.aload_n 0, 1) := by decide +kernel
theorem dX6_taken_16 : decode cX6_taken 16 = .ok (.iload_n 1, 1) := by decide +kernel
theorem dX6_taken_17 : decode cX6_taken 17 = .ok (.invokevirtual 149, 3) := by decide +kernel
theorem dX6_taken_20 : decode cX6_taken 20 = .ok (.ifCond .ne 6, 3) := by decide +kernel
theorem dX6_taken_23 : decode cX6_taken 23 = .ok (.bipush (-11), 2) := by decide +kernel
theorem dX6_taken_25 : decode cX6_taken 25 = .ok (.ireturn, 1) := by decide +kernel
theorem dX6_taken_26 : decode cX6_taken 26 = .ok (.aload_n 0, 1) := by decide +kernel
theorem dX6_taken_27 : decode cX6_taken 27 = .ok (.getfield 23, 3) := by decide +kernel
theorem dX6_taken_30 : decode cX6_taken 30 = .ok (.iload_n 1, 1) := by decide +kernel
theorem dX6_taken_31 : decode cX6_taken 31 = .ok (.iaload, 1) := by decide +kernel
theorem dX6_taken_32 : decode cX6_taken 32 = .ok (.istore_n 3, 1) := by decide +kernel
theorem dX6_taken_33 : decode cX6_taken 33 = .ok (.iload_n 3, 1) := by decide +kernel
theorem dX6_taken_34 : decode cX6_taken 34 = .ok (.iconst (-1), 1) := by decide +kernel
theorem dX6_taken_35 : decode cX6_taken 35 = .ok (.if_icmp .eq 16, 3) := by decide +kernel
theorem dX6_taken_38 : decode cX6_taken 38 = .ok (.iload_n 3, 1) := by decide +kernel
theorem dX6_taken_39 : decode cX6_taken 39 = .ok (.iload_n 2, 1) := by decide +kernel
theorem dX6_taken_40 : decode cX6_taken 40 = .ok (.if_icmp .eq 11, 3) := by decide +kernel
theorem dX6_taken_43 : decode cX6_taken 43 = .ok (.iload_n 3, 1) := by decide +kernel
theorem dX6_taken_44 : decode cX6_taken 44 = .ok (.invokestatic 476, 3) := by decide +kernel
theorem dX6_taken_47 : decode cX6_taken 47 = .ok (.istore_n 3, 1) := by decide +kernel
theorem dX6_taken_48 : decode cX6_taken 48 = .ok (.goto (-15), 3) := by decide +kernel
theorem dX6_taken_51 : decode cX6_taken 51 = .ok (.iload_n 3, 1) := by decide +kernel
theorem dX6_taken_52 : decode cX6_taken 52 = .ok (.iload_n 2, 1) := by decide +kernel
theorem dX6_taken_53 : decode cX6_taken 53 = .ok (.if_icmp .ne 12, 3) := by decide +kernel
theorem dX6_taken_56 : decode cX6_taken 56 = .ok (.aload_n 0, 1) := by decide +kernel
theorem dX6_taken_57 : decode cX6_taken 57 = .ok (.getfield 26, 3) := by decide +kernel
theorem dX6_taken_60 : decode cX6_taken 60 = .ok (.iload_n 1, 1) := by decide +kernel
theorem dX6_taken_61 : decode cX6_taken 61 = .ok (.iaload, 1) := by decide +kernel
theorem dX6_taken_62 : decode cX6_taken 62 = .ok (.goto 5, 3) := by decide +kernel
theorem dX6_taken_65 : decode cX6_taken 65 = .ok (.bipush (-13), 2) := by decide +kernel
theorem dX6_taken_67 : decode cX6_taken 67 = .ok (.ireturn, 1) := by decide +kernel
theorem dJ0_length_8abf5_0 : decode cJ0_length_8abf5 0 = .ok (.aload_n 0, 1) := by decide +kernel
theorem dJ0_length_8abf5_1 : decode cJ0_length_8abf5 1 = .ok (.getfield 9, 3) := by decide +kernel
theorem dJ0_length_8abf5_4 : decode cJ0_length_8abf5 4 = .ok (.arraylength, 1) := by decide +kernel
theorem dJ0_length_8abf5_5 : decode cJ0_length_8abf5 5 = .ok (.aload_n 0, 1) := by decide +kernel
theorem dJ0_length_8abf5_6 : decode cJ0_length_8abf5 6 = .ok (.invokevirtual 335, 3) := by decide +kernel
theorem dJ0_length_8abf5_9 : decode cJ0_length_8abf5 9 = .ok (.ishr, 1) := by decide +kernel
theorem dJ0_length_8abf5_10 : decode cJ0_length_8abf5 10 = .ok (.ireturn, 1) := by decide +kernel
theorem dJ0_charAt_5068e_0 : decode cJ0_charAt_5068e 0 = .ok (.aload_n 0, 1) := by decide +kernel
theorem dJ0_charAt_5068e_1 : decode cJ0_charAt_5068e 1 = .ok (.invokevirtual 492, 3) := by decide +kernel
theorem dJ0_charAt_5068e_4 : decode cJ0_charAt_5068e 4 = .ok (.ifCond .eq 12, 3) := by decide +kernel
theorem dJ0_charAt_5068e_7 : decode cJ0_charAt_5068e 7 = .ok (.aload_n 0, 1) := by decide +kernel
theorem dJ0_charAt_5068e_8 : decode cJ0_charAt_5068e 8 = .ok (.getfield 9, 3) := by decide +kernel
theorem dJ0_charAt_5068e_11 : decode cJ0_charAt_5068e 11 = .ok (.iload_n 1, 1) := by decide +kernel
theorem dJ0_charAt_5068e_12 : decode cJ0_charAt_5068e 12 = .ok (.invokestatic 495, 3) := by decide +kernel
theorem dJ0_charAt_5068e_15 : decode cJ0_charAt_5068e 15 = .ok (.ireturn, 1) := by decide +kernel
theorem dJ0_charAt_5068e_16 : decode cJ0_charAt_5068e 16 = .ok (.aload_n 0, 1) := by decide +kernel
theorem dJ0_charAt_5068e_17 : decode cJ0_charAt_5068e 17 = .ok (.getfield 9, 3) := by decide +kernel
theorem dJ0_charAt_5068e_20 : decode cJ0_charAt_5068e 20 = .ok (.iload_n 1, 1) := by decide +kernel
theorem dJ0_charAt_5068e_21 : decode cJ0_charAt_5068e 21 = .ok (.invokestatic 498, 3) := by decide +kernel
theorem dJ0_charAt_5068e_24 : decode cJ0_charAt_5068e 24 = .ok (.ireturn, 1) := by decide +kernel
theorem dJ0_indexOf_0f7a4_0 : decode cJ0_indexOf_0f7a4 0 = .ok (.aload_n 0, 1) := by decide +kernel
theorem dJ0_indexOf_0f7a4_1 : decode cJ0_indexOf_0f7a4 1 = .ok (.iload_n 1, 1) := by decide +kernel
theorem dJ0_indexOf_0f7a4_2 : decode cJ0_indexOf_0f7a4 2 = .ok (.iconst 0, 1) := by decide +kernel
theorem dJ0_indexOf_0f7a4_3 : decode cJ0_indexOf_0f7a4 3 = .ok (.invokevirtual 633, 3) := by decide +kernel
theorem dJ0_indexOf_0f7a4_6 : decode cJ0_indexOf_0f7a4 6 = .ok (.ireturn, 1) := by decide +kernel
theorem dJ0_indexOf_7cf53_0 : decode cJ0_indexOf_7cf53 0 = .ok (.aload_n 0, 1) := by decide +kernel
theorem dJ0_indexOf_7cf53_1 : decode cJ0_indexOf_7cf53 1 = .ok (.invokevirtual 492, 3) := by decide +kernel
theorem dJ0_indexOf_7cf53_4 : decode cJ0_indexOf_7cf53 4 = .ok (.ifCond .eq 19, 3) := by decide +kernel
theorem dJ0_indexOf_7cf53_7 : decode cJ0_indexOf_7cf53 7 = .ok (.aload_n 0, 1) := by decide +kernel
theorem dJ0_indexOf_7cf53_8 : decode cJ0_indexOf_7cf53 8 = .ok (.getfield 9, 3) := by decide +kernel
theorem dJ0_indexOf_7cf53_11 : decode cJ0_indexOf_7cf53 11 = .ok (.iload_n 1, 1) := by decide +kernel
theorem dJ0_indexOf_7cf53_12 : decode cJ0_indexOf_7cf53 12 = .ok (.iload_n 2, 1) := by decide +kernel
theorem dJ0_indexOf_7cf53_13 : decode cJ0_indexOf_7cf53 13 = .ok (.aload_n 0, 1) := by decide +kernel
theorem dJ0_indexOf_7cf53_14 : decode cJ0_indexOf_7cf53 14 = .ok (.invokevirtual 505, 3) := by decide +kernel
theorem dJ0_indexOf_7cf53_17 : decode cJ0_indexOf_7cf53 17 = .ok (.invokestatic 637, 3) := by decide +kernel
theorem dJ0_indexOf_7cf53_20 : decode cJ0_indexOf_7cf53 20 = .ok (.goto 16, 3) := by decide +kernel
theorem dJ0_indexOf_7cf53_23 : decode cJ0_indexOf_7cf53 23 = .ok (.aload_n 0, 1) := by decide +kernel
theorem dJ0_indexOf_7cf53_24 : decode cJ0_indexOf_7cf53 24 = .ok (.getfield 9, 3) := by decide +kernel
theorem dJ0_indexOf_7cf53_27 : decode cJ0_indexOf_7cf53 27 = .ok (.iload_n 1, 1) := by decide +kernel
theorem dJ0_indexOf_7cf53_28 : decode cJ0_indexOf_7cf53 28 = .ok (.iload_n 2, 1) := by decide +kernel
theorem dJ0_indexOf_7cf53_29 : decode cJ0_indexOf_7cf53 29 = .ok (.aload_n 0, 1) := by decide +kernel
theorem dJ0_indexOf_7cf53_30 : decode cJ0_indexOf_7cf53 30 = .ok (.invokevirtual 505, 3) := by decide +kernel
theorem dJ0_indexOf_7cf53_33 : decode cJ0_indexOf_7cf53 33 = .ok (.invokestatic 640, 3) := by decide +kernel
theorem dJ0_indexOf_7cf53_36 : decode cJ0_indexOf_7cf53 36 = .ok (.ireturn, 1) := by decide +kernel
theorem dJ0_coder_7d493_0 : decode cJ0_coder_7d493 0 = .ok (.getstatic 38, 3) := by decide +kernel
theorem dJ0_coder_7d493_3 : decode cJ0_coder_7d493 3 = .ok (.ifCond .eq 10, 3) := by decide +kernel
theorem dJ0_coder_7d493_6 : decode cJ0_coder_7d493 6 = .ok (.aload_n 0, 1) := by decide +kernel
theorem dJ0_coder_7d493_7 : decode cJ0_coder_7d493 7 = .ok (.getfield 15, 3) := by decide +kernel
theorem dJ0_coder_7d493_10 : decode cJ0_coder_7d493 10 = .ok (.goto 4, 3) := by decide +kernel
theorem dJ0_coder_7d493_13 : decode cJ0_coder_7d493 13 = .ok (.iconst 1, 1) := by decide +kernel
theorem dJ0_coder_7d493_14 : decode cJ0_coder_7d493 14 = .ok (.ireturn, 1) := by decide +kernel
theorem dJ0_isLatin1_aae02_0 : decode cJ0_isLatin1_aae02 0 = .ok (.getstatic 38, 3) := by decide +kernel
theorem dJ0_isLatin1_aae02_3 : decode cJ0_isLatin1_aae02 3 = .ok (.ifCond .eq 14, 3) := by decide +kernel
theorem dJ0_isLatin1_aae02_6 : decode cJ0_isLatin1_aae02 6 = .ok (.aload_n 0, 1) := by decide +kernel
theorem dJ0_isLatin1_aae02_7 : decode cJ0_isLatin1_aae02 7 = .ok (.getfield 15, 3) := by decide +kernel
theorem dJ0_isLatin1_aae02_10 : decode cJ0_isLatin1_aae02 10 = .ok (.ifCond .ne 7, 3) := by decide +kernel
theorem dJ0_isLatin1_aae02_13 : decode cJ0_isLatin1_aae02 13 = .ok (.iconst 1, 1) := by decide +kernel
theorem dJ0_isLatin1_aae02_14 : decode cJ0_isLatin1_aae02 14 = .ok (.goto 4, 3) := by decide +kernel
theorem dJ0_isLatin1_aae02_17 : decode cJ0_isLatin1_aae02 17 = .ok (.iconst 0, 1) := by decide +kernel
theorem dJ0_isLatin1_aae02_18 : decode cJ0_isLatin1_aae02 18 = .ok (.ireturn, 1) := by decide +kernel
theorem dJ0_checkIndex_df160_0 : decode cJ0_checkIndex_df160 0 = .ok (.iload_n 0, 1) := by decide +kernel
theorem dJ0_checkIndex_df160_1 : decode cJ0_checkIndex_df160 1 = .ok (.iload_n 1, 1) := by decide +kernel
theorem dJ0_checkIndex_df160_2 : decode cJ0_checkIndex_df160 2 = .ok (.getstatic 1053, 3) := by decide +kernel
theorem dJ0_checkIndex_df160_5 : decode cJ0_checkIndex_df160 5 = .ok (.invokestatic 1059, 3) := by decide +kernel
theorem dJ0_checkIndex_df160_8 : decode cJ0_checkIndex_df160 8 = .ok (.pop, 1) := by decide +kernel
theorem dJ0_checkIndex_df160_9 : decode cJ0_checkIndex_df160 9 = .ok (.return_, 1) := by decide +kernel
theorem dJ1_charAt_3b067_0 : decode cJ1_charAt_3b067 0 = .ok (.iload_n 1, 1) := by decide +kernel
theorem dJ1_charAt_3b067_1 : decode cJ1_charAt_3b067 1 = .ok (.aload_n 0, 1) := by decide +kernel
theorem dJ1_charAt_3b067_2 : decode cJ1_charAt_3b067 2 = .ok (.arraylength, 1) := by decide +kernel
theorem dJ1_charAt_3b067_3 : decode cJ1_charAt_3b067 3 = .ok (.invokestatic 9, 3) := by decide +kernel
theorem dJ1_charAt_3b067_6 : decode cJ1_charAt_3b067 6 = .ok (.aload_n 0, 1) := by decide +kernel
theorem dJ1_charAt_3b067_7 : decode cJ1_charAt_3b067 7 = .ok (.iload_n 1, 1) := by decide +kernel
theorem dJ1_charAt_3b067_8 : decode cJ1_charAt_3b067 8 = .ok (.baload, 1) := by decide +kernel
theorem dJ1_charAt_3b067_9 : decode cJ1_charAt_3b067 9 = .ok (.sipush 255, 3) := by decide +kernel
theorem dJ1_charAt_3b067_12 : decode cJ1_charAt_3b067 12 = .ok (.iand, 1) := by decide +kernel
theorem dJ1_charAt_3b067_13 : decode cJ1_charAt_3b067 13 = .ok (.i2c, 1) := by decide +kernel
theorem dJ1_charAt_3b067_14 : decode cJ1_charAt_3b067 14 = .ok (.ireturn, 1) := by decide +kernel
theorem dJ1_canEncode_9a6ad_0 : decode cJ1_canEncode_9a6ad 0 = .ok (.iload_n 0, 1) := by decide +kernel
theorem dJ1_canEncode_9a6ad_1 : decode cJ1_canEncode_9a6ad 1 = .ok (.ifCond .lt 14, 3) := by decide +kernel
theorem dJ1_canEncode_9a6ad_4 : decode cJ1_canEncode_9a6ad 4 = .ok (.iload_n 0, 1) := by decide +kernel
theorem dJ1_canEncode_9a6ad_5 : decode cJ1_canEncode_9a6ad 5 = .ok (.sipush 255, 3) := by decide +kernel
theorem dJ1_canEncode_9a6ad_8 : decode cJ1_canEncode_9a6ad 8 = .ok (.if_icmp .gt 7, 3) := by decide +kernel
theorem dJ1_canEncode_9a6ad_11 : decode cJ1_canEncode_9a6ad 11 = .ok (.iconst 1, 1) := by decide +kernel
theorem dJ1_canEncode_9a6ad_12 : decode cJ1_canEncode_9a6ad 12 = .ok (.goto 4, 3) := by decide +kernel
theorem dJ1_canEncode_9a6ad_15 : decode cJ1_canEncode_9a6ad 15 = .ok (.iconst 0, 1) := by decide +kernel
theorem dJ1_canEncode_9a6ad_16 : decode cJ1_canEncode_9a6ad 16 = .ok (.ireturn, 1) := by decide +kernel
theorem dJ1_indexOf_4cfef_0 : decode cJ1_indexOf_4cfef 0 = .ok (.iload_n 1, 1) := by decide +kernel
theorem dJ1_indexOf_4cfef_1 : decode cJ1_indexOf_4cfef 1 = .ok (.invokestatic 88, 3) := by decide +kernel
theorem dJ1_indexOf_4cfef_4 : decode cJ1_indexOf_4cfef 4 = .ok (.ifCond .ne 5, 3) := by decide +kernel
theorem dJ1_indexOf_4cfef_7 : decode cJ1_indexOf_4cfef 7 = .ok (.iconst (-1), 1) := by decide +kernel
theorem dJ1_indexOf_4cfef_8 : decode cJ1_indexOf_4cfef 8 = .ok (.ireturn, 1) := by decide +kernel
theorem dJ1_indexOf_4cfef_9 : decode cJ1_indexOf_4cfef 9 = .ok (.iload_n 2, 1) := by decide +kernel
theorem dJ1_indexOf_4cfef_10 : decode cJ1_indexOf_4cfef 10 = .ok (.iconst 0, 1) := by decide +kernel
theorem dJ1_indexOf_4cfef_11 : decode cJ1_indexOf_4cfef 11 = .ok (.invokestatic 92, 3) := by decide +kernel
theorem dJ1_indexOf_4cfef_14 : decode cJ1_indexOf_4cfef 14 = .ok (.istore_n 2, 1) := by decide +kernel
theorem dJ1_indexOf_4cfef_15 : decode cJ1_indexOf_4cfef 15 = .ok (.iload_n 3, 1) := by decide +kernel
theorem dJ1_indexOf_4cfef_16 : decode cJ1_indexOf_4cfef 16 = .ok (.aload_n 0, 1) := by decide +kernel
theorem dJ1_indexOf_4cfef_17 : decode cJ1_indexOf_4cfef 17 = .ok (.arraylength, 1) := by decide +kernel
theorem dJ1_indexOf_4cfef_18 : decode cJ1_indexOf_4cfef 18 = .ok (.invokestatic 38, 3) := by decide +kernel
theorem dJ1_indexOf_4cfef_21 : decode cJ1_indexOf_4cfef 21 = .ok (.istore_n 3, 1) := by decide +kernel
theorem dJ1_indexOf_4cfef_22 : decode cJ1_indexOf_4cfef 22 = .ok (.iload_n 2, 1) := by decide +kernel
theorem dJ1_indexOf_4cfef_23 : decode cJ1_indexOf_4cfef 23 = .ok (.iload_n 3, 1) := by decide +kernel
theorem dJ1_indexOf_4cfef_24 : decode cJ1_indexOf_4cfef 24 = .ok (.if_icmp .lt 5, 3) := by decide +kernel
theorem dJ1_indexOf_4cfef_27 : decode cJ1_indexOf_4cfef 27 = .ok (.iconst (-1), 1) := by decide +kernel
theorem dJ1_indexOf_4cfef_28 : decode cJ1_indexOf_4cfef 28 = .ok (.ireturn, 1) := by decide +kernel
theorem dJ1_indexOf_4cfef_29 : decode cJ1_indexOf_4cfef 29 = .ok (.aload_n 0, 1) := by decide +kernel
theorem dJ1_indexOf_4cfef_30 : decode cJ1_indexOf_4cfef 30 = .ok (.iload_n 1, 1) := by decide +kernel
theorem dJ1_indexOf_4cfef_31 : decode cJ1_indexOf_4cfef 31 = .ok (.iload_n 2, 1) := by decide +kernel
theorem dJ1_indexOf_4cfef_32 : decode cJ1_indexOf_4cfef 32 = .ok (.iload_n 3, 1) := by decide +kernel
theorem dJ1_indexOf_4cfef_33 : decode cJ1_indexOf_4cfef 33 = .ok (.invokestatic 95, 3) := by decide +kernel
theorem dJ1_indexOf_4cfef_36 : decode cJ1_indexOf_4cfef 36 = .ok (.ireturn, 1) := by decide +kernel
theorem dJ1_indexOfChar_4cfef_0 : decode cJ1_indexOfChar_4cfef 0 = .ok (.iload_n 1, 1) := by decide +kernel
theorem dJ1_indexOfChar_4cfef_1 : decode cJ1_indexOfChar_4cfef 1 = .ok (.i2b, 1) := by decide +kernel
theorem dJ1_indexOfChar_4cfef_2 : decode cJ1_indexOfChar_4cfef 2 = .ok (.istore 4, 2) := by decide +kernel
theorem dJ1_indexOfChar_4cfef_4 : decode cJ1_indexOfChar_4cfef 4 = .ok (.iload_n 2, 1) := by decide +kernel
theorem dJ1_indexOfChar_4cfef_5 : decode cJ1_indexOfChar_4cfef 5 = .ok (.istore 5, 2) := by decide +kernel
theorem dJ1_indexOfChar_4cfef_7 : decode cJ1_indexOfChar_4cfef 7 = .ok (.iload 5, 2) := by decide +kernel
theorem dJ1_indexOfChar_4cfef_9 : decode cJ1_indexOfChar_4cfef 9 = .ok (.iload_n 3, 1) := by decide +kernel
theorem dJ1_indexOfChar_4cfef_10 : decode cJ1_indexOfChar_4cfef 10 = .ok (.if_icmp .ge 21, 3) := by decide +kernel
theorem dJ1_indexOfChar_4cfef_13 : decode cJ1_indexOfChar_4cfef 13 = .ok (.aload_n 0, 1) := by decide +kernel
theorem dJ1_indexOfChar_4cfef_14 : decode cJ1_indexOfChar_4cfef 14 = .ok (.iload 5, 2) := by decide +kernel
theorem dJ1_indexOfChar_4cfef_16 : decode cJ1_indexOfChar_4cfef 16 = .ok (.baload, 1) := by decide +kernel
theorem dJ1_indexOfChar_4cfef_17 : decode cJ1_indexOfChar_4cfef 17 = .ok (.iload 4, 2) := by decide +kernel
theorem dJ1_indexOfChar_4cfef_19 : decode cJ1_indexOfChar_4cfef 19 = .ok (.if_icmp .ne 6, 3) := by decide +kernel
theorem dJ1_indexOfChar_4cfef_22 : decode cJ1_indexOfChar_4cfef 22 = .ok (.iload 5, 2) := by decide +kernel
theorem dJ1_indexOfChar_4cfef_24 : decode cJ1_indexOfChar_4cfef 24 = .ok (.ireturn, 1) := by decide +kernel
theorem dJ1_indexOfChar_4cfef_25 : decode cJ1_indexOfChar_4cfef 25 = .ok (.iinc 5 1, 3) := by decide +kernel
theorem dJ1_indexOfChar_4cfef_28 : decode cJ1_indexOfChar_4cfef 28 = .ok (.goto (-21), 3) := by decide +kernel
theorem dJ1_indexOfChar_4cfef_31 : decode cJ1_indexOfChar_4cfef 31 = .ok (.iconst (-1), 1) := by decide +kernel
theorem dJ1_indexOfChar_4cfef_32 : decode cJ1_indexOfChar_4cfef 32 = .ok (.ireturn, 1) := by decide +kernel
theorem dJ3_checkIndex_8e157_0 : decode cJ3_checkIndex_8e157 0 = .ok (.iload_n 0, 1) := by decide +kernel
theorem dJ3_checkIndex_8e157_1 : decode cJ3_checkIndex_8e157 1 = .ok (.ifCond .lt 8, 3) := by decide +kernel
theorem dJ3_checkIndex_8e157_4 : decode cJ3_checkIndex_8e157 4 = .ok (.iload_n 0, 1) := by decide +kernel
theorem dJ3_checkIndex_8e157_5 : decode cJ3_checkIndex_8e157 5 = .ok (.iload_n 1, 1) := by decide +kernel
theorem dJ3_checkIndex_8e157_6 : decode cJ3_checkIndex_8e157 6 = .ok (.if_icmp .lt 10, 3) := by decide +kernel
theorem dJ3_checkIndex_8e157_9 : decode cJ3_checkIndex_8e157 9 = .ok (.aload_n 2, 1) := by decide +kernel
theorem dJ3_checkIndex_8e157_10 : decode cJ3_checkIndex_8e157 10 = .ok (.iload_n 0, 1) := by decide +kernel
theorem dJ3_checkIndex_8e157_11 : decode cJ3_checkIndex_8e157 11 = .ok (.iload_n 1, 1) := by decide +kernel
theorem dJ3_checkIndex_8e157_12 : decode cJ3_checkIndex_8e157 12 = .ok (.invokestatic 95, 3) := by decide +kernel
theorem dJ3_checkIndex_8e157_15 : decode cJ3_checkIndex_8e157 15 = .ok (.athrow, 1) := by decide +kernel
theorem dJ3_checkIndex_8e157_16 : decode cJ3_checkIndex_8e157 16 = .ok (.iload_n 0, 1) := by decide +kernel
theorem dJ3_checkIndex_8e157_17 : decode cJ3_checkIndex_8e157 17 = .ok (.ireturn, 1) := by decide +kernel
theorem dL_law_0 : decode cL_law 0 = .ok (.new 7, 3) := by decide +kernel
theorem dL_law_3 : decode cL_law 3 = .ok (.dup, 1) := by decide +kernel
theorem dL_law_4 : decode cL_law 4 = .ok (.invokespecial 9, 3) := by decide +kernel
theorem dL_law_7 : decode cL_law 7 = .ok (.astore_n 1, 1) := by decide +kernel
theorem dL_law_8 : decode cL_law 8 = .ok (.new 10, 3) := by decide +kernel
theorem dL_law_11 : decode cL_law 11 = .ok (.dup, 1) := by decide +kernel
theorem dL_law_12 : decode cL_law 12 = .ok (.invokespecial 12, 3) := by decide +kernel
theorem dL_law_15 : decode cL_law 15 = .ok (.astore_n 2, 1) := by decide +kernel
theorem dL_law_16 : decode cL_law 16 = .ok (.iconst 0, 1) := by decide +kernel
theorem dL_law_17 : decode cL_law 17 = .ok (.istore_n 3, 1) := by decide +kernel
theorem dL_law_18 : decode cL_law 18 = .ok (.iload_n 3, 1) := by decide +kernel
theorem dL_law_19 : decode cL_law 19 = .ok (.aload_n 0, 1) := by decide +kernel
theorem dL_law_20 : decode cL_law 20 = .ok (.arraylength, 1) := by decide +kernel
theorem dL_law_21 : decode cL_law 21 = .ok (.bipush 6, 2) := by decide +kernel
theorem dL_law_23 : decode cL_law 23 = .ok (.isub, 1) := by decide +kernel
theorem dL_law_24 : decode cL_law 24 = .ok (.if_icmp .gt 1092, 3) := by decide +kernel
theorem dL_law_27 : decode cL_law 27 = .ok (.aload_n 0, 1) := by decide +kernel
theorem dL_law_28 : decode cL_law 28 = .ok (.iload_n 3, 1) := by decide +kernel
theorem dL_law_29 : decode cL_law 29 = .ok (.iaload, 1) := by decide +kernel
theorem dL_law_30 : decode cL_law 30 = .ok (.bipush 31, 2) := by decide +kernel
theorem dL_law_32 : decode cL_law 32 = .ok (.iand, 1) := by decide +kernel
theorem dL_law_33 : decode cL_law 33 = .ok (.tableswitch 1077 0 29 #[135, 168, 201, 244, 287, 320, 343, 356, 379, 412, 445, 468, 511, 534, 567, 590, 603, 626, 659, 693, 716, 749, 793, 806, 819, 842, 885, 928, 991, 1044], 135) := by decide +kernel
theorem dL_law_168 : decode cL_law 168 = .ok (.aload_n 1, 1) := by decide +kernel
theorem dL_law_169 : decode cL_law 169 = .ok (.aload_n 0, 1) := by decide +kernel
theorem dL_law_170 : decode cL_law 170 = .ok (.iload_n 3, 1) := by decide +kernel
theorem dL_law_171 : decode cL_law 171 = .ok (.iconst 1, 1) := by decide +kernel
theorem dL_law_172 : decode cL_law 172 = .ok (.iadd, 1) := by decide +kernel
theorem dL_law_173 : decode cL_law 173 = .ok (.iaload, 1) := by decide +kernel
theorem dL_law_174 : decode cL_law 174 = .ok (.aload_n 0, 1) := by decide +kernel
theorem dL_law_175 : decode cL_law 175 = .ok (.iload_n 3, 1) := by decide +kernel
theorem dL_law_176 : decode cL_law 176 = .ok (.iconst 2, 1) := by decide +kernel
theorem dL_law_177 : decode cL_law 177 = .ok (.iadd, 1) := by decide +kernel
theorem dL_law_178 : decode cL_law 178 = .ok (.iaload, 1) := by decide +kernel
theorem dL_law_179 : decode cL_law 179 = .ok (.invokevirtual 13, 3) := by decide +kernel
theorem dL_law_182 : decode cL_law 182 = .ok (.aload_n 2, 1) := by decide +kernel
theorem dL_law_183 : decode cL_law 183 = .ok (.aload_n 0, 1) := by decide +kernel
theorem dL_law_184 : decode cL_law 184 = .ok (.iload_n 3, 1) := by decide +kernel
theorem dL_law_185 : decode cL_law 185 = .ok (.iconst 1, 1) := by decide +kernel
theorem dL_law_186 : decode cL_law 186 = .ok (.iadd, 1) := by decide +kernel
theorem dL_law_187 : decode cL_law 187 = .ok (.iaload, 1) := by decide +kernel
theorem dL_law_188 : decode cL_law 188 = .ok (.aload_n 0, 1) := by decide +kernel
theorem dL_law_189 : decode cL_law 189 = .ok (.iload_n 3, 1) := by decide +kernel
theorem dL_law_190 : decode cL_law 190 = .ok (.iconst 2, 1) := by decide +kernel
theorem dL_law_191 : decode cL_law 191 = .ok (.iadd, 1) := by decide +kernel
theorem dL_law_192 : decode cL_law 192 = .ok (.iaload, 1) := by decide +kernel
theorem dL_law_193 : decode cL_law 193 = .ok (.invokevirtual 17, 3) := by decide +kernel
theorem dL_law_196 : decode cL_law 196 = .ok (.if_icmp .eq 914, 3) := by decide +kernel
theorem dL_law_199 : decode cL_law 199 = .ok (.iconst 0, 1) := by decide +kernel
theorem dL_law_200 : decode cL_law 200 = .ok (.ireturn, 1) := by decide +kernel
theorem dL_law_201 : decode cL_law 201 = .ok (.aload_n 1, 1) := by decide +kernel
theorem dL_law_202 : decode cL_law 202 = .ok (.aload_n 0, 1) := by decide +kernel
theorem dL_law_203 : decode cL_law 203 = .ok (.iload_n 3, 1) := by decide +kernel
theorem dL_law_204 : decode cL_law 204 = .ok (.iconst 1, 1) := by decide +kernel
theorem dL_law_205 : decode cL_law 205 = .ok (.iadd, 1) := by decide +kernel
theorem dL_law_206 : decode cL_law 206 = .ok (.iaload, 1) := by decide +kernel
theorem dL_law_207 : decode cL_law 207 = .ok (.aload_n 0, 1) := by decide +kernel
theorem dL_law_208 : decode cL_law 208 = .ok (.iload_n 3, 1) := by decide +kernel
theorem dL_law_209 : decode cL_law 209 = .ok (.iconst 2, 1) := by decide +kernel
theorem dL_law_210 : decode cL_law 210 = .ok (.iadd, 1) := by decide +kernel
theorem dL_law_211 : decode cL_law 211 = .ok (.iaload, 1) := by decide +kernel
theorem dL_law_212 : decode cL_law 212 = .ok (.invokevirtual 18, 3) := by decide +kernel
theorem dL_law_215 : decode cL_law 215 = .ok (.aload_n 2, 1) := by decide +kernel
theorem dL_law_216 : decode cL_law 216 = .ok (.aload_n 0, 1) := by decide +kernel
theorem dL_law_217 : decode cL_law 217 = .ok (.iload_n 3, 1) := by decide +kernel
theorem dL_law_218 : decode cL_law 218 = .ok (.iconst 1, 1) := by decide +kernel
theorem dL_law_219 : decode cL_law 219 = .ok (.iadd, 1) := by decide +kernel
theorem dL_law_220 : decode cL_law 220 = .ok (.iaload, 1) := by decide +kernel
theorem dL_law_221 : decode cL_law 221 = .ok (.aload_n 0, 1) := by decide +kernel
theorem dL_law_222 : decode cL_law 222 = .ok (.iload_n 3, 1) := by decide +kernel
theorem dL_law_223 : decode cL_law 223 = .ok (.iconst 2, 1) := by decide +kernel
theorem dL_law_224 : decode cL_law 224 = .ok (.iadd, 1) := by decide +kernel
theorem dL_law_225 : decode cL_law 225 = .ok (.iaload, 1) := by decide +kernel
theorem dL_law_226 : decode cL_law 226 = .ok (.invokevirtual 21, 3) := by decide +kernel
theorem dL_law_229 : decode cL_law 229 = .ok (.if_icmp .eq 881, 3) := by decide +kernel
theorem dL_law_232 : decode cL_law 232 = .ok (.iconst 0, 1) := by decide +kernel
theorem dL_law_233 : decode cL_law 233 = .ok (.ireturn, 1) := by decide +kernel
theorem dL_law_234 : decode cL_law 234 = .ok (.aload_n 1, 1) := by decide +kernel
theorem dL_law_235 : decode cL_law 235 = .ok (.aload_n 0, 1) := by decide +kernel
theorem dL_law_236 : decode cL_law 236 = .ok (.iload_n 3, 1) := by decide +kernel
theorem dL_law_237 : decode cL_law 237 = .ok (.iconst 1, 1) := by decide +kernel
theorem dL_law_238 : decode cL_law 238 = .ok (.iadd, 1) := by decide +kernel
theorem dL_law_239 : decode cL_law 239 = .ok (.iaload, 1) := by decide +kernel
theorem dL_law_240 : decode cL_law 240 = .ok (.aload_n 0, 1) := by decide +kernel
theorem dL_law_241 : decode cL_law 241 = .ok (.iload_n 3, 1) := by decide +kernel
theorem dL_law_242 : decode cL_law 242 = .ok (.iconst 2, 1) := by decide +kernel
theorem dL_law_243 : decode cL_law 243 = .ok (.iadd, 1) := by decide +kernel
theorem dL_law_244 : decode cL_law 244 = .ok (.iaload, 1) := by decide +kernel
theorem dL_law_245 : decode cL_law 245 = .ok (.aload_n 0, 1) := by decide +kernel
theorem dL_law_246 : decode cL_law 246 = .ok (.iload_n 3, 1) := by decide +kernel
theorem dL_law_247 : decode cL_law 247 = .ok (.iconst 3, 1) := by decide +kernel
theorem dL_law_248 : decode cL_law 248 = .ok (.iadd, 1) := by decide +kernel
theorem dL_law_249 : decode cL_law 249 = .ok (.iaload, 1) := by decide +kernel
theorem dL_law_250 : decode cL_law 250 = .ok (.invokevirtual 22, 3) := by decide +kernel
theorem dL_law_253 : decode cL_law 253 = .ok (.aload_n 2, 1) := by decide +kernel
theorem dL_law_254 : decode cL_law 254 = .ok (.aload_n 0, 1) := by decide +kernel
theorem dL_law_255 : decode cL_law 255 = .ok (.iload_n 3, 1) := by decide +kernel
theorem dL_law_256 : decode cL_law 256 = .ok (.iconst 1, 1) := by decide +kernel
theorem dL_law_257 : decode cL_law 257 = .ok (.iadd, 1) := by decide +kernel
theorem dL_law_258 : decode cL_law 258 = .ok (.iaload, 1) := by decide +kernel
theorem dL_law_259 : decode cL_law 259 = .ok (.aload_n 0, 1) := by decide +kernel
theorem dL_law_260 : decode cL_law 260 = .ok (.iload_n 3, 1) := by decide +kernel
theorem dL_law_261 : decode cL_law 261 = .ok (.iconst 2, 1) := by decide +kernel
theorem dL_law_262 : decode cL_law 262 = .ok (.iadd, 1) := by decide +kernel
theorem dL_law_263 : decode cL_law 263 = .ok (.iaload, 1) := by decide +kernel
theorem dL_law_264 : decode cL_law 264 = .ok (.aload_n 0, 1) := by decide +kernel
theorem dL_law_265 : decode cL_law 265 = .ok (.iload_n 3, 1) := by decide +kernel
theorem dL_law_266 : decode cL_law 266 = .ok (.iconst 3, 1) := by decide +kernel
theorem dL_law_267 : decode cL_law 267 = .ok (.iadd, 1) := by decide +kernel
theorem dL_law_268 : decode cL_law 268 = .ok (.iaload, 1) := by decide +kernel
theorem dL_law_269 : decode cL_law 269 = .ok (.invokevirtual 26, 3) := by decide +kernel
theorem dL_law_272 : decode cL_law 272 = .ok (.if_icmp .eq 838, 3) := by decide +kernel
theorem dL_law_275 : decode cL_law 275 = .ok (.iconst 0, 1) := by decide +kernel
theorem dL_law_276 : decode cL_law 276 = .ok (.ireturn, 1) := by decide +kernel
theorem dL_law_277 : decode cL_law 277 = .ok (.aload_n 1, 1) := by decide +kernel
theorem dL_law_278 : decode cL_law 278 = .ok (.aload_n 0, 1) := by decide +kernel
theorem dL_law_279 : decode cL_law 279 = .ok (.iload_n 3, 1) := by decide +kernel
theorem dL_law_280 : decode cL_law 280 = .ok (.iconst 1, 1) := by decide +kernel
theorem dL_law_281 : decode cL_law 281 = .ok (.iadd, 1) := by decide +kernel
theorem dL_law_282 : decode cL_law 282 = .ok (.iaload, 1) := by decide +kernel
theorem dL_law_283 : decode cL_law 283 = .ok (.aload_n 0, 1) := by decide +kernel
theorem dL_law_284 : decode cL_law 284 = .ok (.iload_n 3, 1) := by decide +kernel
theorem dL_law_285 : decode cL_law 285 = .ok (.iconst 2, 1) := by decide +kernel
theorem dL_law_286 : decode cL_law 286 = .ok (.iadd, 1) := by decide +kernel
theorem dL_law_287 : decode cL_law 287 = .ok (.iaload, 1) := by decide +kernel
theorem dL_law_288 : decode cL_law 288 = .ok (.aload_n 0, 1) := by decide +kernel
theorem dL_law_289 : decode cL_law 289 = .ok (.iload_n 3, 1) := by decide +kernel
theorem dL_law_290 : decode cL_law 290 = .ok (.iconst 3, 1) := by decide +kernel
theorem dL_law_291 : decode cL_law 291 = .ok (.iadd, 1) := by decide +kernel
theorem dL_law_292 : decode cL_law 292 = .ok (.iaload, 1) := by decide +kernel
theorem dL_law_293 : decode cL_law 293 = .ok (.invokevirtual 27, 3) := by decide +kernel
theorem dL_law_296 : decode cL_law 296 = .ok (.aload_n 2, 1) := by decide +kernel
theorem dL_law_297 : decode cL_law 297 = .ok (.aload_n 0, 1) := by decide +kernel
theorem dL_law_298 : decode cL_law 298 = .ok (.iload_n 3, 1) := by decide +kernel
theorem dL_law_299 : decode cL_law 299 = .ok (.iconst 1, 1) := by decide +kernel
theorem dL_law_300 : decode cL_law 300 = .ok (.iadd, 1) := by decide +kernel
theorem dL_law_301 : decode cL_law 301 = .ok (.iaload, 1) := by decide +kernel
theorem dL_law_302 : decode cL_law 302 = .ok (.aload_n 0, 1) := by decide +kernel
theorem dL_law_303 : decode cL_law 303 = .ok (.iload_n 3, 1) := by decide +kernel
theorem dL_law_304 : decode cL_law 304 = .ok (.iconst 2, 1) := by decide +kernel
theorem dL_law_305 : decode cL_law 305 = .ok (.iadd, 1) := by decide +kernel
theorem dL_law_306 : decode cL_law 306 = .ok (.iaload, 1) := by decide +kernel
theorem dL_law_307 : decode cL_law 307 = .ok (.aload_n 0, 1) := by decide +kernel
theorem dL_law_308 : decode cL_law 308 = .ok (.iload_n 3, 1) := by decide +kernel
theorem dL_law_309 : decode cL_law 309 = .ok (.iconst 3, 1) := by decide +kernel
theorem dL_law_310 : decode cL_law 310 = .ok (.iadd, 1) := by decide +kernel
theorem dL_law_311 : decode cL_law 311 = .ok (.iaload, 1) := by decide +kernel
theorem dL_law_312 : decode cL_law 312 = .ok (.invokevirtual 30, 3) := by decide +kernel
theorem dL_law_315 : decode cL_law 315 = .ok (.if_icmp .eq 795, 3) := by decide +kernel
theorem dL_law_318 : decode cL_law 318 = .ok (.iconst 0, 1) := by decide +kernel
theorem dL_law_319 : decode cL_law 319 = .ok (.ireturn, 1) := by decide +kernel
theorem dL_law_320 : decode cL_law 320 = .ok (.aload_n 1, 1) := by decide +kernel
theorem dL_law_321 : decode cL_law 321 = .ok (.aload_n 0, 1) := by decide +kernel
theorem dL_law_322 : decode cL_law 322 = .ok (.iload_n 3, 1) := by decide +kernel
theorem dL_law_323 : decode cL_law 323 = .ok (.iconst 1, 1) := by decide +kernel
theorem dL_law_324 : decode cL_law 324 = .ok (.iadd, 1) := by decide +kernel
theorem dL_law_325 : decode cL_law 325 = .ok (.iaload, 1) := by decide +kernel
theorem dL_law_326 : decode cL_law 326 = .ok (.aload_n 0, 1) := by decide +kernel
theorem dL_law_327 : decode cL_law 327 = .ok (.iload_n 3, 1) := by decide +kernel
theorem dL_law_328 : decode cL_law 328 = .ok (.iconst 2, 1) := by decide +kernel
theorem dL_law_329 : decode cL_law 329 = .ok (.iadd, 1) := by decide +kernel
theorem dL_law_330 : decode cL_law 330 = .ok (.iaload, 1) := by decide +kernel
theorem dL_law_331 : decode cL_law 331 = .ok (.invokevirtual 31, 3) := by decide +kernel
theorem dL_law_334 : decode cL_law 334 = .ok (.aload_n 2, 1) := by decide +kernel
theorem dL_law_335 : decode cL_law 335 = .ok (.aload_n 0, 1) := by decide +kernel
theorem dL_law_336 : decode cL_law 336 = .ok (.iload_n 3, 1) := by decide +kernel
theorem dL_law_337 : decode cL_law 337 = .ok (.iconst 1, 1) := by decide +kernel
theorem dL_law_338 : decode cL_law 338 = .ok (.iadd, 1) := by decide +kernel
theorem dL_law_339 : decode cL_law 339 = .ok (.iaload, 1) := by decide +kernel
theorem dL_law_340 : decode cL_law 340 = .ok (.aload_n 0, 1) := by decide +kernel
theorem dL_law_341 : decode cL_law 341 = .ok (.iload_n 3, 1) := by decide +kernel
theorem dL_law_342 : decode cL_law 342 = .ok (.iconst 2, 1) := by decide +kernel
theorem dL_law_343 : decode cL_law 343 = .ok (.iadd, 1) := by decide +kernel
theorem dL_law_344 : decode cL_law 344 = .ok (.iaload, 1) := by decide +kernel
theorem dL_law_345 : decode cL_law 345 = .ok (.invokevirtual 34, 3) := by decide +kernel
theorem dL_law_348 : decode cL_law 348 = .ok (.if_icmp .eq 762, 3) := by decide +kernel
theorem dL_law_351 : decode cL_law 351 = .ok (.iconst 0, 1) := by decide +kernel
theorem dL_law_352 : decode cL_law 352 = .ok (.ireturn, 1) := by decide +kernel
theorem dL_law_353 : decode cL_law 353 = .ok (.aload_n 1, 1) := by decide +kernel
theorem dL_law_354 : decode cL_law 354 = .ok (.aload_n 0, 1) := by decide +kernel
theorem dL_law_355 : decode cL_law 355 = .ok (.iload_n 3, 1) := by decide +kernel
theorem dL_law_356 : decode cL_law 356 = .ok (.iconst 1, 1) := by decide +kernel
theorem dL_law_357 : decode cL_law 357 = .ok (.iadd, 1) := by decide +kernel
theorem dL_law_358 : decode cL_law 358 = .ok (.iaload, 1) := by decide +kernel
theorem dL_law_359 : decode cL_law 359 = .ok (.invokevirtual 35, 3) := by decide +kernel
theorem dL_law_362 : decode cL_law 362 = .ok (.aload_n 2, 1) := by decide +kernel
theorem dL_law_363 : decode cL_law 363 = .ok (.aload_n 0, 1) := by decide +kernel
theorem dL_law_364 : decode cL_law 364 = .ok (.iload_n 3, 1) := by decide +kernel
theorem dL_law_365 : decode cL_law 365 = .ok (.iconst 1, 1) := by decide +kernel
theorem dL_law_366 : decode cL_law 366 = .ok (.iadd, 1) := by decide +kernel
theorem dL_law_367 : decode cL_law 367 = .ok (.iaload, 1) := by decide +kernel
theorem dL_law_368 : decode cL_law 368 = .ok (.invokevirtual 39, 3) := by decide +kernel
theorem dL_law_371 : decode cL_law 371 = .ok (.if_icmp .eq 739, 3) := by decide +kernel
theorem dL_law_374 : decode cL_law 374 = .ok (.iconst 0, 1) := by decide +kernel
theorem dL_law_375 : decode cL_law 375 = .ok (.ireturn, 1) := by decide +kernel
theorem dL_law_376 : decode cL_law 376 = .ok (.aload_n 1, 1) := by decide +kernel
theorem dL_law_377 : decode cL_law 377 = .ok (.invokevirtual 40, 3) := by decide +kernel
theorem dL_law_380 : decode cL_law 380 = .ok (.aload_n 2, 1) := by decide +kernel
theorem dL_law_381 : decode cL_law 381 = .ok (.invokevirtual 44, 3) := by decide +kernel
theorem dL_law_384 : decode cL_law 384 = .ok (.if_icmp .eq 726, 3) := by decide +kernel
theorem dL_law_387 : decode cL_law 387 = .ok (.iconst 0, 1) := by decide +kernel
theorem dL_law_388 : decode cL_law 388 = .ok (.ireturn, 1) := by decide +kernel
theorem dL_law_389 : decode cL_law 389 = .ok (.aload_n 1, 1) := by decide +kernel
theorem dL_law_390 : decode cL_law 390 = .ok (.aload_n 0, 1) := by decide +kernel
theorem dL_law_391 : decode cL_law 391 = .ok (.iload_n 3, 1) := by decide +kernel
theorem dL_law_392 : decode cL_law 392 = .ok (.iconst 1, 1) := by decide +kernel
theorem dL_law_393 : decode cL_law 393 = .ok (.iadd, 1) := by decide +kernel
theorem dL_law_394 : decode cL_law 394 = .ok (.iaload, 1) := by decide +kernel
theorem dL_law_395 : decode cL_law 395 = .ok (.invokevirtual 45, 3) := by decide +kernel
theorem dL_law_398 : decode cL_law 398 = .ok (.aload_n 2, 1) := by decide +kernel
theorem dL_law_399 : decode cL_law 399 = .ok (.aload_n 0, 1) := by decide +kernel
theorem dL_law_400 : decode cL_law 400 = .ok (.iload_n 3, 1) := by decide +kernel
theorem dL_law_401 : decode cL_law 401 = .ok (.iconst 1, 1) := by decide +kernel
theorem dL_law_402 : decode cL_law 402 = .ok (.iadd, 1) := by decide +kernel
theorem dL_law_403 : decode cL_law 403 = .ok (.iaload, 1) := by decide +kernel
theorem dL_law_404 : decode cL_law 404 = .ok (.invokevirtual 48, 3) := by decide +kernel
theorem dL_law_407 : decode cL_law 407 = .ok (.if_icmp .eq 703, 3) := by decide +kernel
theorem dL_law_410 : decode cL_law 410 = .ok (.iconst 0, 1) := by decide +kernel
theorem dL_law_411 : decode cL_law 411 = .ok (.ireturn, 1) := by decide +kernel
theorem dL_law_412 : decode cL_law 412 = .ok (.aload_n 1, 1) := by decide +kernel
theorem dL_law_413 : decode cL_law 413 = .ok (.aload_n 0, 1) := by decide +kernel
theorem dL_law_414 : decode cL_law 414 = .ok (.iload_n 3, 1) := by decide +kernel
theorem dL_law_415 : decode cL_law 415 = .ok (.iconst 1, 1) := by decide +kernel
theorem dL_law_416 : decode cL_law 416 = .ok (.iadd, 1) := by decide +kernel
theorem dL_law_417 : decode cL_law 417 = .ok (.iaload, 1) := by decide +kernel
theorem dL_law_418 : decode cL_law 418 = .ok (.aload_n 0, 1) := by decide +kernel
theorem dL_law_419 : decode cL_law 419 = .ok (.iload_n 3, 1) := by decide +kernel
theorem dL_law_420 : decode cL_law 420 = .ok (.iconst 2, 1) := by decide +kernel
theorem dL_law_421 : decode cL_law 421 = .ok (.iadd, 1) := by decide +kernel
theorem dL_law_422 : decode cL_law 422 = .ok (.iaload, 1) := by decide +kernel
theorem dL_law_423 : decode cL_law 423 = .ok (.invokevirtual 49, 3) := by decide +kernel
theorem dL_law_426 : decode cL_law 426 = .ok (.aload_n 2, 1) := by decide +kernel
theorem dL_law_427 : decode cL_law 427 = .ok (.aload_n 0, 1) := by decide +kernel
theorem dL_law_428 : decode cL_law 428 = .ok (.iload_n 3, 1) := by decide +kernel
theorem dL_law_429 : decode cL_law 429 = .ok (.iconst 1, 1) := by decide +kernel
theorem dL_law_430 : decode cL_law 430 = .ok (.iadd, 1) := by decide +kernel
theorem dL_law_431 : decode cL_law 431 = .ok (.iaload, 1) := by decide +kernel
theorem dL_law_432 : decode cL_law 432 = .ok (.aload_n 0, 1) := by decide +kernel
theorem dL_law_433 : decode cL_law 433 = .ok (.iload_n 3, 1) := by decide +kernel
theorem dL_law_434 : decode cL_law 434 = .ok (.iconst 2, 1) := by decide +kernel
theorem dL_law_435 : decode cL_law 435 = .ok (.iadd, 1) := by decide +kernel
theorem dL_law_436 : decode cL_law 436 = .ok (.iaload, 1) := by decide +kernel
theorem dL_law_437 : decode cL_law 437 = .ok (.invokevirtual 52, 3) := by decide +kernel
theorem dL_law_440 : decode cL_law 440 = .ok (.if_icmp .eq 670, 3) := by decide +kernel
theorem dL_law_443 : decode cL_law 443 = .ok (.iconst 0, 1) := by decide +kernel
theorem dL_law_444 : decode cL_law 444 = .ok (.ireturn, 1) := by decide +kernel
theorem dL_law_445 : decode cL_law 445 = .ok (.aload_n 1, 1) := by decide +kernel
theorem dL_law_446 : decode cL_law 446 = .ok (.aload_n 0, 1) := by decide +kernel
theorem dL_law_447 : decode cL_law 447 = .ok (.iload_n 3, 1) := by decide +kernel
theorem dL_law_448 : decode cL_law 448 = .ok (.iconst 1, 1) := by decide +kernel
theorem dL_law_449 : decode cL_law 449 = .ok (.iadd, 1) := by decide +kernel
theorem dL_law_450 : decode cL_law 450 = .ok (.iaload, 1) := by decide +kernel
theorem dL_law_451 : decode cL_law 451 = .ok (.aload_n 0, 1) := by decide +kernel
theorem dL_law_452 : decode cL_law 452 = .ok (.iload_n 3, 1) := by decide +kernel
theorem dL_law_453 : decode cL_law 453 = .ok (.iconst 2, 1) := by decide +kernel
theorem dL_law_454 : decode cL_law 454 = .ok (.iadd, 1) := by decide +kernel
theorem dL_law_455 : decode cL_law 455 = .ok (.iaload, 1) := by decide +kernel
theorem dL_law_456 : decode cL_law 456 = .ok (.invokevirtual 53, 3) := by decide +kernel
theorem dL_law_459 : decode cL_law 459 = .ok (.aload_n 2, 1) := by decide +kernel
theorem dL_law_460 : decode cL_law 460 = .ok (.aload_n 0, 1) := by decide +kernel
theorem dL_law_461 : decode cL_law 461 = .ok (.iload_n 3, 1) := by decide +kernel
theorem dL_law_462 : decode cL_law 462 = .ok (.iconst 1, 1) := by decide +kernel
theorem dL_law_463 : decode cL_law 463 = .ok (.iadd, 1) := by decide +kernel
theorem dL_law_464 : decode cL_law 464 = .ok (.iaload, 1) := by decide +kernel
theorem dL_law_465 : decode cL_law 465 = .ok (.aload_n 0, 1) := by decide +kernel
theorem dL_law_466 : decode cL_law 466 = .ok (.iload_n 3, 1) := by decide +kernel
theorem dL_law_467 : decode cL_law 467 = .ok (.iconst 2, 1) := by decide +kernel
theorem dL_law_468 : decode cL_law 468 = .ok (.iadd, 1) := by decide +kernel
theorem dL_law_469 : decode cL_law 469 = .ok (.iaload, 1) := by decide +kernel
theorem dL_law_470 : decode cL_law 470 = .ok (.invokevirtual 56, 3) := by decide +kernel
theorem dL_law_473 : decode cL_law 473 = .ok (.if_icmp .eq 637, 3) := by decide +kernel
theorem dL_law_476 : decode cL_law 476 = .ok (.iconst 0, 1) := by decide +kernel
theorem dL_law_477 : decode cL_law 477 = .ok (.ireturn, 1) := by decide +kernel
theorem dL_law_478 : decode cL_law 478 = .ok (.aload_n 1, 1) := by decide +kernel
theorem dL_law_479 : decode cL_law 479 = .ok (.aload_n 0, 1) := by decide +kernel
theorem dL_law_480 : decode cL_law 480 = .ok (.iload_n 3, 1) := by decide +kernel
theorem dL_law_481 : decode cL_law 481 = .ok (.iconst 1, 1) := by decide +kernel
theorem dL_law_482 : decode cL_law 482 = .ok (.iadd, 1) := by decide +kernel
theorem dL_law_483 : decode cL_law 483 = .ok (.iaload, 1) := by decide +kernel
theorem dL_law_484 : decode cL_law 484 = .ok (.invokevirtual 57, 3) := by decide +kernel
theorem dL_law_487 : decode cL_law 487 = .ok (.aload_n 2, 1) := by decide +kernel
theorem dL_law_488 : decode cL_law 488 = .ok (.aload_n 0, 1) := by decide +kernel
theorem dL_law_489 : decode cL_law 489 = .ok (.iload_n 3, 1) := by decide +kernel
theorem dL_law_490 : decode cL_law 490 = .ok (.iconst 1, 1) := by decide +kernel
theorem dL_law_491 : decode cL_law 491 = .ok (.iadd, 1) := by decide +kernel
theorem dL_law_492 : decode cL_law 492 = .ok (.iaload, 1) := by decide +kernel
theorem dL_law_493 : decode cL_law 493 = .ok (.invokevirtual 60, 3) := by decide +kernel
theorem dL_law_496 : decode cL_law 496 = .ok (.if_icmp .eq 614, 3) := by decide +kernel
theorem dL_law_499 : decode cL_law 499 = .ok (.iconst 0, 1) := by decide +kernel
theorem dL_law_500 : decode cL_law 500 = .ok (.ireturn, 1) := by decide +kernel
theorem dL_law_501 : decode cL_law 501 = .ok (.aload_n 1, 1) := by decide +kernel
theorem dL_law_502 : decode cL_law 502 = .ok (.aload_n 0, 1) := by decide +kernel
theorem dL_law_503 : decode cL_law 503 = .ok (.iload_n 3, 1) := by decide +kernel
theorem dL_law_504 : decode cL_law 504 = .ok (.iconst 1, 1) := by decide +kernel
theorem dL_law_505 : decode cL_law 505 = .ok (.iadd, 1) := by decide +kernel
theorem dL_law_506 : decode cL_law 506 = .ok (.iaload, 1) := by decide +kernel
theorem dL_law_507 : decode cL_law 507 = .ok (.aload_n 0, 1) := by decide +kernel
theorem dL_law_508 : decode cL_law 508 = .ok (.iload_n 3, 1) := by decide +kernel
theorem dL_law_509 : decode cL_law 509 = .ok (.iconst 2, 1) := by decide +kernel
theorem dL_law_510 : decode cL_law 510 = .ok (.iadd, 1) := by decide +kernel
theorem dL_law_511 : decode cL_law 511 = .ok (.iaload, 1) := by decide +kernel
theorem dL_law_512 : decode cL_law 512 = .ok (.aload_n 0, 1) := by decide +kernel
theorem dL_law_513 : decode cL_law 513 = .ok (.iload_n 3, 1) := by decide +kernel
theorem dL_law_514 : decode cL_law 514 = .ok (.iconst 3, 1) := by decide +kernel
theorem dL_law_515 : decode cL_law 515 = .ok (.iadd, 1) := by decide +kernel
theorem dL_law_516 : decode cL_law 516 = .ok (.iaload, 1) := by decide +kernel
theorem dL_law_517 : decode cL_law 517 = .ok (.invokevirtual 61, 3) := by decide +kernel
theorem dL_law_520 : decode cL_law 520 = .ok (.aload_n 2, 1) := by decide +kernel
theorem dL_law_521 : decode cL_law 521 = .ok (.aload_n 0, 1) := by decide +kernel
theorem dL_law_522 : decode cL_law 522 = .ok (.iload_n 3, 1) := by decide +kernel
theorem dL_law_523 : decode cL_law 523 = .ok (.iconst 1, 1) := by decide +kernel
theorem dL_law_524 : decode cL_law 524 = .ok (.iadd, 1) := by decide +kernel
theorem dL_law_525 : decode cL_law 525 = .ok (.iaload, 1) := by decide +kernel
theorem dL_law_526 : decode cL_law 526 = .ok (.aload_n 0, 1) := by decide +kernel
theorem dL_law_527 : decode cL_law 527 = .ok (.iload_n 3, 1) := by decide +kernel
theorem dL_law_528 : decode cL_law 528 = .ok (.iconst 2, 1) := by decide +kernel
theorem dL_law_529 : decode cL_law 529 = .ok (.iadd, 1) := by decide +kernel
theorem dL_law_530 : decode cL_law 530 = .ok (.iaload, 1) := by decide +kernel
theorem dL_law_531 : decode cL_law 531 = .ok (.aload_n 0, 1) := by decide +kernel
theorem dL_law_532 : decode cL_law 532 = .ok (.iload_n 3, 1) := by decide +kernel
theorem dL_law_533 : decode cL_law 533 = .ok (.iconst 3, 1) := by decide +kernel
theorem dL_law_534 : decode cL_law 534 = .ok (.iadd, 1) := by decide +kernel
theorem dL_law_535 : decode cL_law 535 = .ok (.iaload, 1) := by decide +kernel
theorem dL_law_536 : decode cL_law 536 = .ok (.invokevirtual 64, 3) := by decide +kernel
theorem dL_law_539 : decode cL_law 539 = .ok (.if_icmp .eq 571, 3) := by decide +kernel
theorem dL_law_542 : decode cL_law 542 = .ok (.iconst 0, 1) := by decide +kernel
theorem dL_law_543 : decode cL_law 543 = .ok (.ireturn, 1) := by decide +kernel
theorem dL_law_544 : decode cL_law 544 = .ok (.aload_n 1, 1) := by decide +kernel
theorem dL_law_545 : decode cL_law 545 = .ok (.aload_n 0, 1) := by decide +kernel
theorem dL_law_546 : decode cL_law 546 = .ok (.iload_n 3, 1) := by decide +kernel
theorem dL_law_547 : decode cL_law 547 = .ok (.iconst 1, 1) := by decide +kernel
theorem dL_law_548 : decode cL_law 548 = .ok (.iadd, 1) := by decide +kernel
theorem dL_law_549 : decode cL_law 549 = .ok (.iaload, 1) := by decide +kernel
theorem dL_law_550 : decode cL_law 550 = .ok (.invokevirtual 65, 3) := by decide +kernel
theorem dL_law_553 : decode cL_law 553 = .ok (.aload_n 2, 1) := by decide +kernel
theorem dL_law_554 : decode cL_law 554 = .ok (.aload_n 0, 1) := by decide +kernel
theorem dL_law_555 : decode cL_law 555 = .ok (.iload_n 3, 1) := by decide +kernel
theorem dL_law_556 : decode cL_law 556 = .ok (.iconst 1, 1) := by decide +kernel
theorem dL_law_557 : decode cL_law 557 = .ok (.iadd, 1) := by decide +kernel
theorem dL_law_558 : decode cL_law 558 = .ok (.iaload, 1) := by decide +kernel
theorem dL_law_559 : decode cL_law 559 = .ok (.invokevirtual 68, 3) := by decide +kernel
theorem dL_law_562 : decode cL_law 562 = .ok (.if_icmp .eq 548, 3) := by decide +kernel
theorem dL_law_565 : decode cL_law 565 = .ok (.iconst 0, 1) := by decide +kernel
theorem dL_law_566 : decode cL_law 566 = .ok (.ireturn, 1) := by decide +kernel
theorem dL_law_567 : decode cL_law 567 = .ok (.aload_n 1, 1) := by decide +kernel
theorem dL_law_568 : decode cL_law 568 = .ok (.aload_n 0, 1) := by decide +kernel
theorem dL_law_569 : decode cL_law 569 = .ok (.iload_n 3, 1) := by decide +kernel
theorem dL_law_570 : decode cL_law 570 = .ok (.iconst 1, 1) := by decide +kernel
theorem dL_law_571 : decode cL_law 571 = .ok (.iadd, 1) := by decide +kernel
theorem dL_law_572 : decode cL_law 572 = .ok (.iaload, 1) := by decide +kernel
theorem dL_law_573 : decode cL_law 573 = .ok (.aload_n 0, 1) := by decide +kernel
theorem dL_law_574 : decode cL_law 574 = .ok (.iload_n 3, 1) := by decide +kernel
theorem dL_law_575 : decode cL_law 575 = .ok (.iconst 2, 1) := by decide +kernel
theorem dL_law_576 : decode cL_law 576 = .ok (.iadd, 1) := by decide +kernel
theorem dL_law_577 : decode cL_law 577 = .ok (.iaload, 1) := by decide +kernel
theorem dL_law_578 : decode cL_law 578 = .ok (.invokevirtual 69, 3) := by decide +kernel
theorem dL_law_581 : decode cL_law 581 = .ok (.aload_n 2, 1) := by decide +kernel
theorem dL_law_582 : decode cL_law 582 = .ok (.aload_n 0, 1) := by decide +kernel
theorem dL_law_583 : decode cL_law 583 = .ok (.iload_n 3, 1) := by decide +kernel
theorem dL_law_584 : decode cL_law 584 = .ok (.iconst 1, 1) := by decide +kernel
theorem dL_law_585 : decode cL_law 585 = .ok (.iadd, 1) := by decide +kernel
theorem dL_law_586 : decode cL_law 586 = .ok (.iaload, 1) := by decide +kernel
theorem dL_law_587 : decode cL_law 587 = .ok (.aload_n 0, 1) := by decide +kernel
theorem dL_law_588 : decode cL_law 588 = .ok (.iload_n 3, 1) := by decide +kernel
theorem dL_law_589 : decode cL_law 589 = .ok (.iconst 2, 1) := by decide +kernel
theorem dL_law_590 : decode cL_law 590 = .ok (.iadd, 1) := by decide +kernel
theorem dL_law_591 : decode cL_law 591 = .ok (.iaload, 1) := by decide +kernel
theorem dL_law_592 : decode cL_law 592 = .ok (.invokevirtual 72, 3) := by decide +kernel
theorem dL_law_595 : decode cL_law 595 = .ok (.if_icmp .eq 515, 3) := by decide +kernel
theorem dL_law_598 : decode cL_law 598 = .ok (.iconst 0, 1) := by decide +kernel
theorem dL_law_599 : decode cL_law 599 = .ok (.ireturn, 1) := by decide +kernel
theorem dL_law_600 : decode cL_law 600 = .ok (.aload_n 1, 1) := by decide +kernel
theorem dL_law_601 : decode cL_law 601 = .ok (.aload_n 0, 1) := by decide +kernel
theorem dL_law_602 : decode cL_law 602 = .ok (.iload_n 3, 1) := by decide +kernel
theorem dL_law_603 : decode cL_law 603 = .ok (.iconst 1, 1) := by decide +kernel
theorem dL_law_604 : decode cL_law 604 = .ok (.iadd, 1) := by decide +kernel
theorem dL_law_605 : decode cL_law 605 = .ok (.iaload, 1) := by decide +kernel
theorem dL_law_606 : decode cL_law 606 = .ok (.invokevirtual 73, 3) := by decide +kernel
theorem dL_law_609 : decode cL_law 609 = .ok (.aload_n 2, 1) := by decide +kernel
theorem dL_law_610 : decode cL_law 610 = .ok (.aload_n 0, 1) := by decide +kernel
theorem dL_law_611 : decode cL_law 611 = .ok (.iload_n 3, 1) := by decide +kernel
theorem dL_law_612 : decode cL_law 612 = .ok (.iconst 1, 1) := by decide +kernel
theorem dL_law_613 : decode cL_law 613 = .ok (.iadd, 1) := by decide +kernel
theorem dL_law_614 : decode cL_law 614 = .ok (.iaload, 1) := by decide +kernel
theorem dL_law_615 : decode cL_law 615 = .ok (.invokevirtual 76, 3) := by decide +kernel
theorem dL_law_618 : decode cL_law 618 = .ok (.if_icmp .eq 492, 3) := by decide +kernel
theorem dL_law_621 : decode cL_law 621 = .ok (.iconst 0, 1) := by decide +kernel
theorem dL_law_622 : decode cL_law 622 = .ok (.ireturn, 1) := by decide +kernel
theorem dL_law_623 : decode cL_law 623 = .ok (.aload_n 1, 1) := by decide +kernel
theorem dL_law_624 : decode cL_law 624 = .ok (.invokevirtual 77, 3) := by decide +kernel
theorem dL_law_627 : decode cL_law 627 = .ok (.aload_n 2, 1) := by decide +kernel
theorem dL_law_628 : decode cL_law 628 = .ok (.invokevirtual 80, 3) := by decide +kernel
theorem dL_law_631 : decode cL_law 631 = .ok (.if_icmp .eq 479, 3) := by decide +kernel
theorem dL_law_634 : decode cL_law 634 = .ok (.iconst 0, 1) := by decide +kernel
theorem dL_law_635 : decode cL_law 635 = .ok (.ireturn, 1) := by decide +kernel
theorem dL_law_636 : decode cL_law 636 = .ok (.aload_n 1, 1) := by decide +kernel
theorem dL_law_637 : decode cL_law 637 = .ok (.aload_n 0, 1) := by decide +kernel
theorem dL_law_638 : decode cL_law 638 = .ok (.iload_n 3, 1) := by decide +kernel
theorem dL_law_639 : decode cL_law 639 = .ok (.iconst 1, 1) := by decide +kernel
theorem dL_law_640 : decode cL_law 640 = .ok (.iadd, 1) := by decide +kernel
theorem dL_law_641 : decode cL_law 641 = .ok (.iaload, 1) := by decide +kernel
theorem dL_law_642 : decode cL_law 642 = .ok (.invokevirtual 81, 3) := by decide +kernel
theorem dL_law_645 : decode cL_law 645 = .ok (.aload_n 2, 1) := by decide +kernel
theorem dL_law_646 : decode cL_law 646 = .ok (.aload_n 0, 1) := by decide +kernel
theorem dL_law_647 : decode cL_law 647 = .ok (.iload_n 3, 1) := by decide +kernel
theorem dL_law_648 : decode cL_law 648 = .ok (.iconst 1, 1) := by decide +kernel
theorem dL_law_649 : decode cL_law 649 = .ok (.iadd, 1) := by decide +kernel
theorem dL_law_650 : decode cL_law 650 = .ok (.iaload, 1) := by decide +kernel
theorem dL_law_651 : decode cL_law 651 = .ok (.invokevirtual 84, 3) := by decide +kernel
theorem dL_law_654 : decode cL_law 654 = .ok (.if_icmp .eq 456, 3) := by decide +kernel
theorem dL_law_657 : decode cL_law 657 = .ok (.iconst 0, 1) := by decide +kernel
theorem dL_law_658 : decode cL_law 658 = .ok (.ireturn, 1) := by decide +kernel
theorem dL_law_659 : decode cL_law 659 = .ok (.aload_n 1, 1) := by decide +kernel
theorem dL_law_660 : decode cL_law 660 = .ok (.aload_n 0, 1) := by decide +kernel
theorem dL_law_661 : decode cL_law 661 = .ok (.iload_n 3, 1) := by decide +kernel
theorem dL_law_662 : decode cL_law 662 = .ok (.iconst 1, 1) := by decide +kernel
theorem dL_law_663 : decode cL_law 663 = .ok (.iadd, 1) := by decide +kernel
theorem dL_law_664 : decode cL_law 664 = .ok (.iaload, 1) := by decide +kernel
theorem dL_law_665 : decode cL_law 665 = .ok (.aload_n 0, 1) := by decide +kernel
theorem dL_law_666 : decode cL_law 666 = .ok (.iload_n 3, 1) := by decide +kernel
theorem dL_law_667 : decode cL_law 667 = .ok (.iconst 2, 1) := by decide +kernel
theorem dL_law_668 : decode cL_law 668 = .ok (.iadd, 1) := by decide +kernel
theorem dL_law_669 : decode cL_law 669 = .ok (.iaload, 1) := by decide +kernel
theorem dL_law_670 : decode cL_law 670 = .ok (.invokevirtual 85, 3) := by decide +kernel
theorem dL_law_673 : decode cL_law 673 = .ok (.aload_n 2, 1) := by decide +kernel
theorem dL_law_674 : decode cL_law 674 = .ok (.aload_n 0, 1) := by decide +kernel
theorem dL_law_675 : decode cL_law 675 = .ok (.iload_n 3, 1) := by decide +kernel
theorem dL_law_676 : decode cL_law 676 = .ok (.iconst 1, 1) := by decide +kernel
theorem dL_law_677 : decode cL_law 677 = .ok (.iadd, 1) := by decide +kernel
theorem dL_law_678 : decode cL_law 678 = .ok (.iaload, 1) := by decide +kernel
theorem dL_law_679 : decode cL_law 679 = .ok (.aload_n 0, 1) := by decide +kernel
theorem dL_law_680 : decode cL_law 680 = .ok (.iload_n 3, 1) := by decide +kernel
theorem dL_law_681 : decode cL_law 681 = .ok (.iconst 2, 1) := by decide +kernel
theorem dL_law_682 : decode cL_law 682 = .ok (.iadd, 1) := by decide +kernel
theorem dL_law_683 : decode cL_law 683 = .ok (.iaload, 1) := by decide +kernel
theorem dL_law_684 : decode cL_law 684 = .ok (.invokevirtual 88, 3) := by decide +kernel
theorem dL_law_687 : decode cL_law 687 = .ok (.if_icmp .eq 423, 3) := by decide +kernel
theorem dL_law_690 : decode cL_law 690 = .ok (.iconst 0, 1) := by decide +kernel
theorem dL_law_691 : decode cL_law 691 = .ok (.ireturn, 1) := by decide +kernel
theorem dL_law_692 : decode cL_law 692 = .ok (.aload_n 1, 1) := by decide +kernel
theorem dL_law_693 : decode cL_law 693 = .ok (.aload_n 0, 1) := by decide +kernel
theorem dL_law_694 : decode cL_law 694 = .ok (.iload_n 3, 1) := by decide +kernel
theorem dL_law_695 : decode cL_law 695 = .ok (.iconst 1, 1) := by decide +kernel
theorem dL_law_696 : decode cL_law 696 = .ok (.iadd, 1) := by decide +kernel
theorem dL_law_697 : decode cL_law 697 = .ok (.iaload, 1) := by decide +kernel
theorem dL_law_698 : decode cL_law 698 = .ok (.aload_n 0, 1) := by decide +kernel
theorem dL_law_699 : decode cL_law 699 = .ok (.iload_n 3, 1) := by decide +kernel
theorem dL_law_700 : decode cL_law 700 = .ok (.iconst 2, 1) := by decide +kernel
theorem dL_law_701 : decode cL_law 701 = .ok (.iadd, 1) := by decide +kernel
theorem dL_law_702 : decode cL_law 702 = .ok (.iaload, 1) := by decide +kernel
theorem dL_law_703 : decode cL_law 703 = .ok (.invokevirtual 89, 3) := by decide +kernel
theorem dL_law_706 : decode cL_law 706 = .ok (.aload_n 2, 1) := by decide +kernel
theorem dL_law_707 : decode cL_law 707 = .ok (.aload_n 0, 1) := by decide +kernel
theorem dL_law_708 : decode cL_law 708 = .ok (.iload_n 3, 1) := by decide +kernel
theorem dL_law_709 : decode cL_law 709 = .ok (.iconst 1, 1) := by decide +kernel
theorem dL_law_710 : decode cL_law 710 = .ok (.iadd, 1) := by decide +kernel
theorem dL_law_711 : decode cL_law 711 = .ok (.iaload, 1) := by decide +kernel
theorem dL_law_712 : decode cL_law 712 = .ok (.aload_n 0, 1) := by decide +kernel
theorem dL_law_713 : decode cL_law 713 = .ok (.iload_n 3, 1) := by decide +kernel
theorem dL_law_714 : decode cL_law 714 = .ok (.iconst 2, 1) := by decide +kernel
theorem dL_law_715 : decode cL_law 715 = .ok (.iadd, 1) := by decide +kernel
theorem dL_law_716 : decode cL_law 716 = .ok (.iaload, 1) := by decide +kernel
theorem dL_law_717 : decode cL_law 717 = .ok (.invokevirtual 93, 3) := by decide +kernel
theorem dL_law_720 : decode cL_law 720 = .ok (.lcmp, 1) := by decide +kernel
theorem dL_law_721 : decode cL_law 721 = .ok (.ifCond .eq 389, 3) := by decide +kernel
theorem dL_law_724 : decode cL_law 724 = .ok (.iconst 0, 1) := by decide +kernel
theorem dL_law_725 : decode cL_law 725 = .ok (.ireturn, 1) := by decide +kernel
theorem dL_law_726 : decode cL_law 726 = .ok (.aload_n 1, 1) := by decide +kernel
theorem dL_law_727 : decode cL_law 727 = .ok (.aload_n 0, 1) := by decide +kernel
theorem dL_law_728 : decode cL_law 728 = .ok (.iload_n 3, 1) := by decide +kernel
theorem dL_law_729 : decode cL_law 729 = .ok (.iconst 1, 1) := by decide +kernel
theorem dL_law_730 : decode cL_law 730 = .ok (.iadd, 1) := by decide +kernel
theorem dL_law_731 : decode cL_law 731 = .ok (.iaload, 1) := by decide +kernel
theorem dL_law_732 : decode cL_law 732 = .ok (.invokevirtual 94, 3) := by decide +kernel
theorem dL_law_735 : decode cL_law 735 = .ok (.aload_n 2, 1) := by decide +kernel
theorem dL_law_736 : decode cL_law 736 = .ok (.aload_n 0, 1) := by decide +kernel
theorem dL_law_737 : decode cL_law 737 = .ok (.iload_n 3, 1) := by decide +kernel
theorem dL_law_738 : decode cL_law 738 = .ok (.iconst 1, 1) := by decide +kernel
theorem dL_law_739 : decode cL_law 739 = .ok (.iadd, 1) := by decide +kernel
theorem dL_law_740 : decode cL_law 740 = .ok (.iaload, 1) := by decide +kernel
theorem dL_law_741 : decode cL_law 741 = .ok (.invokevirtual 97, 3) := by decide +kernel
theorem dL_law_744 : decode cL_law 744 = .ok (.if_icmp .eq 366, 3) := by decide +kernel
theorem dL_law_747 : decode cL_law 747 = .ok (.iconst 0, 1) := by decide +kernel
theorem dL_law_748 : decode cL_law 748 = .ok (.ireturn, 1) := by decide +kernel
theorem dL_law_749 : decode cL_law 749 = .ok (.aload_n 1, 1) := by decide +kernel
theorem dL_law_750 : decode cL_law 750 = .ok (.aload_n 0, 1) := by decide +kernel
theorem dL_law_751 : decode cL_law 751 = .ok (.iload_n 3, 1) := by decide +kernel
theorem dL_law_752 : decode cL_law 752 = .ok (.iconst 1, 1) := by decide +kernel
theorem dL_law_753 : decode cL_law 753 = .ok (.iadd, 1) := by decide +kernel
theorem dL_law_754 : decode cL_law 754 = .ok (.iaload, 1) := by decide +kernel
theorem dL_law_755 : decode cL_law 755 = .ok (.aload_n 0, 1) := by decide +kernel
theorem dL_law_756 : decode cL_law 756 = .ok (.iload_n 3, 1) := by decide +kernel
theorem dL_law_757 : decode cL_law 757 = .ok (.iconst 2, 1) := by decide +kernel
theorem dL_law_758 : decode cL_law 758 = .ok (.iadd, 1) := by decide +kernel
theorem dL_law_759 : decode cL_law 759 = .ok (.iaload, 1) := by decide +kernel
theorem dL_law_760 : decode cL_law 760 = .ok (.invokevirtual 98, 3) := by decide +kernel
theorem dL_law_763 : decode cL_law 763 = .ok (.aload_n 2, 1) := by decide +kernel
theorem dL_law_764 : decode cL_law 764 = .ok (.aload_n 0, 1) := by decide +kernel
theorem dL_law_765 : decode cL_law 765 = .ok (.iload_n 3, 1) := by decide +kernel
theorem dL_law_766 : decode cL_law 766 = .ok (.iconst 1, 1) := by decide +kernel
theorem dL_law_767 : decode cL_law 767 = .ok (.iadd, 1) := by decide +kernel
theorem dL_law_768 : decode cL_law 768 = .ok (.iaload, 1) := by decide +kernel
theorem dL_law_769 : decode cL_law 769 = .ok (.aload_n 0, 1) := by decide +kernel
theorem dL_law_770 : decode cL_law 770 = .ok (.iload_n 3, 1) := by decide +kernel
theorem dL_law_771 : decode cL_law 771 = .ok (.iconst 2, 1) := by decide +kernel
theorem dL_law_772 : decode cL_law 772 = .ok (.iadd, 1) := by decide +kernel
theorem dL_law_773 : decode cL_law 773 = .ok (.iaload, 1) := by decide +kernel
theorem dL_law_774 : decode cL_law 774 = .ok (.invokevirtual 101, 3) := by decide +kernel
theorem dL_law_777 : decode cL_law 777 = .ok (.if_icmp .eq 333, 3) := by decide +kernel
theorem dL_law_780 : decode cL_law 780 = .ok (.iconst 0, 1) := by decide +kernel
theorem dL_law_781 : decode cL_law 781 = .ok (.ireturn, 1) := by decide +kernel
theorem dL_law_782 : decode cL_law 782 = .ok (.aload_n 1, 1) := by decide +kernel
theorem dL_law_783 : decode cL_law 783 = .ok (.aload_n 0, 1) := by decide +kernel
theorem dL_law_784 : decode cL_law 784 = .ok (.iload_n 3, 1) := by decide +kernel
theorem dL_law_785 : decode cL_law 785 = .ok (.iconst 1, 1) := by decide +kernel
theorem dL_law_786 : decode cL_law 786 = .ok (.iadd, 1) := by decide +kernel
theorem dL_law_787 : decode cL_law 787 = .ok (.iaload, 1) := by decide +kernel
theorem dL_law_788 : decode cL_law 788 = .ok (.aload_n 0, 1) := by decide +kernel
theorem dL_law_789 : decode cL_law 789 = .ok (.iload_n 3, 1) := by decide +kernel
theorem dL_law_790 : decode cL_law 790 = .ok (.iconst 2, 1) := by decide +kernel
theorem dL_law_791 : decode cL_law 791 = .ok (.iadd, 1) := by decide +kernel
theorem dL_law_792 : decode cL_law 792 = .ok (.iaload, 1) := by decide +kernel
theorem dL_law_793 : decode cL_law 793 = .ok (.aload_n 0, 1) := by decide +kernel
theorem dL_law_794 : decode cL_law 794 = .ok (.iload_n 3, 1) := by decide +kernel
theorem dL_law_795 : decode cL_law 795 = .ok (.iconst 3, 1) := by decide +kernel
theorem dL_law_796 : decode cL_law 796 = .ok (.iadd, 1) := by decide +kernel
theorem dL_law_797 : decode cL_law 797 = .ok (.iaload, 1) := by decide +kernel
theorem dL_law_798 : decode cL_law 798 = .ok (.invokevirtual 102, 3) := by decide +kernel
theorem dL_law_801 : decode cL_law 801 = .ok (.aload_n 2, 1) := by decide +kernel
theorem dL_law_802 : decode cL_law 802 = .ok (.aload_n 0, 1) := by decide +kernel
theorem dL_law_803 : decode cL_law 803 = .ok (.iload_n 3, 1) := by decide +kernel
theorem dL_law_804 : decode cL_law 804 = .ok (.iconst 1, 1) := by decide +kernel
theorem dL_law_805 : decode cL_law 805 = .ok (.iadd, 1) := by decide +kernel
theorem dL_law_806 : decode cL_law 806 = .ok (.iaload, 1) := by decide +kernel
theorem dL_law_807 : decode cL_law 807 = .ok (.aload_n 0, 1) := by decide +kernel
theorem dL_law_808 : decode cL_law 808 = .ok (.iload_n 3, 1) := by decide +kernel
theorem dL_law_809 : decode cL_law 809 = .ok (.iconst 2, 1) := by decide +kernel
theorem dL_law_810 : decode cL_law 810 = .ok (.iadd, 1) := by decide +kernel
theorem dL_law_811 : decode cL_law 811 = .ok (.iaload, 1) := by decide +kernel
theorem dL_law_812 : decode cL_law 812 = .ok (.aload_n 0, 1) := by decide +kernel
theorem dL_law_813 : decode cL_law 813 = .ok (.iload_n 3, 1) := by decide +kernel
theorem dL_law_814 : decode cL_law 814 = .ok (.iconst 3, 1) := by decide +kernel
theorem dL_law_815 : decode cL_law 815 = .ok (.iadd, 1) := by decide +kernel
theorem dL_law_816 : decode cL_law 816 = .ok (.iaload, 1) := by decide +kernel
theorem dL_law_817 : decode cL_law 817 = .ok (.invokevirtual 106, 3) := by decide +kernel
theorem dL_law_820 : decode cL_law 820 = .ok (.lcmp, 1) := by decide +kernel
theorem dL_law_821 : decode cL_law 821 = .ok (.ifCond .eq 289, 3) := by decide +kernel
theorem dL_law_824 : decode cL_law 824 = .ok (.iconst 0, 1) := by decide +kernel
theorem dL_law_825 : decode cL_law 825 = .ok (.ireturn, 1) := by decide +kernel
theorem dL_law_826 : decode cL_law 826 = .ok (.aload_n 1, 1) := by decide +kernel
theorem dL_law_827 : decode cL_law 827 = .ok (.invokevirtual 107, 3) := by decide +kernel
theorem dL_law_830 : decode cL_law 830 = .ok (.aload_n 2, 1) := by decide +kernel
theorem dL_law_831 : decode cL_law 831 = .ok (.invokevirtual 110, 3) := by decide +kernel
theorem dL_law_834 : decode cL_law 834 = .ok (.if_icmp .eq 276, 3) := by decide +kernel
theorem dL_law_837 : decode cL_law 837 = .ok (.iconst 0, 1) := by decide +kernel
theorem dL_law_838 : decode cL_law 838 = .ok (.ireturn, 1) := by decide +kernel
theorem dL_law_839 : decode cL_law 839 = .ok (.aload_n 1, 1) := by decide +kernel
theorem dL_law_840 : decode cL_law 840 = .ok (.invokevirtual 111, 3) := by decide +kernel
theorem dL_law_843 : decode cL_law 843 = .ok (.aload_n 2, 1) := by decide +kernel
theorem dL_law_844 : decode cL_law 844 = .ok (.invokevirtual 114, 3) := by decide +kernel
theorem dL_law_847 : decode cL_law 847 = .ok (.if_icmp .eq 263, 3) := by decide +kernel
theorem dL_law_850 : decode cL_law 850 = .ok (.iconst 0, 1) := by decide +kernel
theorem dL_law_851 : decode cL_law 851 = .ok (.ireturn, 1) := by decide +kernel
theorem dL_law_852 : decode cL_law 852 = .ok (.aload_n 1, 1) := by decide +kernel
theorem dL_law_853 : decode cL_law 853 = .ok (.aload_n 0, 1) := by decide +kernel
theorem dL_law_854 : decode cL_law 854 = .ok (.iload_n 3, 1) := by decide +kernel
theorem dL_law_855 : decode cL_law 855 = .ok (.iconst 1, 1) := by decide +kernel
theorem dL_law_856 : decode cL_law 856 = .ok (.iadd, 1) := by decide +kernel
theorem dL_law_857 : decode cL_law 857 = .ok (.iaload, 1) := by decide +kernel
theorem dL_law_858 : decode cL_law 858 = .ok (.invokevirtual 115, 3) := by decide +kernel
theorem dL_law_861 : decode cL_law 861 = .ok (.aload_n 2, 1) := by decide +kernel
theorem dL_law_862 : decode cL_law 862 = .ok (.aload_n 0, 1) := by decide +kernel
theorem dL_law_863 : decode cL_law 863 = .ok (.iload_n 3, 1) := by decide +kernel
theorem dL_law_864 : decode cL_law 864 = .ok (.iconst 1, 1) := by decide +kernel
theorem dL_law_865 : decode cL_law 865 = .ok (.iadd, 1) := by decide +kernel
theorem dL_law_866 : decode cL_law 866 = .ok (.iaload, 1) := by decide +kernel
theorem dL_law_867 : decode cL_law 867 = .ok (.invokevirtual 118, 3) := by decide +kernel
theorem dL_law_870 : decode cL_law 870 = .ok (.if_icmp .eq 240, 3) := by decide +kernel
theorem dL_law_873 : decode cL_law 873 = .ok (.iconst 0, 1) := by decide +kernel
theorem dL_law_874 : decode cL_law 874 = .ok (.ireturn, 1) := by decide +kernel
theorem dL_law_875 : decode cL_law 875 = .ok (.aload_n 1, 1) := by decide +kernel
theorem dL_law_876 : decode cL_law 876 = .ok (.aload_n 0, 1) := by decide +kernel
theorem dL_law_877 : decode cL_law 877 = .ok (.iload_n 3, 1) := by decide +kernel
theorem dL_law_878 : decode cL_law 878 = .ok (.iconst 1, 1) := by decide +kernel
theorem dL_law_879 : decode cL_law 879 = .ok (.iadd, 1) := by decide +kernel
theorem dL_law_880 : decode cL_law 880 = .ok (.iaload, 1) := by decide +kernel
theorem dL_law_881 : decode cL_law 881 = .ok (.aload_n 0, 1) := by decide +kernel
theorem dL_law_882 : decode cL_law 882 = .ok (.iload_n 3, 1) := by decide +kernel
theorem dL_law_883 : decode cL_law 883 = .ok (.iconst 2, 1) := by decide +kernel
theorem dL_law_884 : decode cL_law 884 = .ok (.iadd, 1) := by decide +kernel
theorem dL_law_885 : decode cL_law 885 = .ok (.iaload, 1) := by decide +kernel
theorem dL_law_886 : decode cL_law 886 = .ok (.aload_n 0, 1) := by decide +kernel
theorem dL_law_887 : decode cL_law 887 = .ok (.iload_n 3, 1) := by decide +kernel
theorem dL_law_888 : decode cL_law 888 = .ok (.iconst 3, 1) := by decide +kernel
theorem dL_law_889 : decode cL_law 889 = .ok (.iadd, 1) := by decide +kernel
theorem dL_law_890 : decode cL_law 890 = .ok (.iaload, 1) := by decide +kernel
theorem dL_law_891 : decode cL_law 891 = .ok (.invokevirtual 119, 3) := by decide +kernel
theorem dL_law_894 : decode cL_law 894 = .ok (.aload_n 2, 1) := by decide +kernel
theorem dL_law_895 : decode cL_law 895 = .ok (.aload_n 0, 1) := by decide +kernel
theorem dL_law_896 : decode cL_law 896 = .ok (.iload_n 3, 1) := by decide +kernel
theorem dL_law_897 : decode cL_law 897 = .ok (.iconst 1, 1) := by decide +kernel
theorem dL_law_898 : decode cL_law 898 = .ok (.iadd, 1) := by decide +kernel
theorem dL_law_899 : decode cL_law 899 = .ok (.iaload, 1) := by decide +kernel
theorem dL_law_900 : decode cL_law 900 = .ok (.aload_n 0, 1) := by decide +kernel
theorem dL_law_901 : decode cL_law 901 = .ok (.iload_n 3, 1) := by decide +kernel
theorem dL_law_902 : decode cL_law 902 = .ok (.iconst 2, 1) := by decide +kernel
theorem dL_law_903 : decode cL_law 903 = .ok (.iadd, 1) := by decide +kernel
theorem dL_law_904 : decode cL_law 904 = .ok (.iaload, 1) := by decide +kernel
theorem dL_law_905 : decode cL_law 905 = .ok (.aload_n 0, 1) := by decide +kernel
theorem dL_law_906 : decode cL_law 906 = .ok (.iload_n 3, 1) := by decide +kernel
theorem dL_law_907 : decode cL_law 907 = .ok (.iconst 3, 1) := by decide +kernel
theorem dL_law_908 : decode cL_law 908 = .ok (.iadd, 1) := by decide +kernel
theorem dL_law_909 : decode cL_law 909 = .ok (.iaload, 1) := by decide +kernel
theorem dL_law_910 : decode cL_law 910 = .ok (.invokevirtual 122, 3) := by decide +kernel
theorem dL_law_913 : decode cL_law 913 = .ok (.if_icmp .eq 197, 3) := by decide +kernel
theorem dL_law_916 : decode cL_law 916 = .ok (.iconst 0, 1) := by decide +kernel
theorem dL_law_917 : decode cL_law 917 = .ok (.ireturn, 1) := by decide +kernel
theorem dL_law_918 : decode cL_law 918 = .ok (.aload_n 1, 1) := by decide +kernel
theorem dL_law_919 : decode cL_law 919 = .ok (.aload_n 0, 1) := by decide +kernel
theorem dL_law_920 : decode cL_law 920 = .ok (.iload_n 3, 1) := by decide +kernel
theorem dL_law_921 : decode cL_law 921 = .ok (.iconst 1, 1) := by decide +kernel
theorem dL_law_922 : decode cL_law 922 = .ok (.iadd, 1) := by decide +kernel
theorem dL_law_923 : decode cL_law 923 = .ok (.iaload, 1) := by decide +kernel
theorem dL_law_924 : decode cL_law 924 = .ok (.aload_n 0, 1) := by decide +kernel
theorem dL_law_925 : decode cL_law 925 = .ok (.iload_n 3, 1) := by decide +kernel
theorem dL_law_926 : decode cL_law 926 = .ok (.iconst 2, 1) := by decide +kernel
theorem dL_law_927 : decode cL_law 927 = .ok (.iadd, 1) := by decide +kernel
theorem dL_law_928 : decode cL_law 928 = .ok (.iaload, 1) := by decide +kernel
theorem dL_law_929 : decode cL_law 929 = .ok (.aload_n 0, 1) := by decide +kernel
theorem dL_law_930 : decode cL_law 930 = .ok (.iload_n 3, 1) := by decide +kernel
theorem dL_law_931 : decode cL_law 931 = .ok (.iconst 3, 1) := by decide +kernel
theorem dL_law_932 : decode cL_law 932 = .ok (.iadd, 1) := by decide +kernel
theorem dL_law_933 : decode cL_law 933 = .ok (.iaload, 1) := by decide +kernel
theorem dL_law_934 : decode cL_law 934 = .ok (.invokevirtual 123, 3) := by decide +kernel
theorem dL_law_937 : decode cL_law 937 = .ok (.aload_n 2, 1) := by decide +kernel
theorem dL_law_938 : decode cL_law 938 = .ok (.aload_n 0, 1) := by decide +kernel
theorem dL_law_939 : decode cL_law 939 = .ok (.iload_n 3, 1) := by decide +kernel
theorem dL_law_940 : decode cL_law 940 = .ok (.iconst 1, 1) := by decide +kernel
theorem dL_law_941 : decode cL_law 941 = .ok (.iadd, 1) := by decide +kernel
theorem dL_law_942 : decode cL_law 942 = .ok (.iaload, 1) := by decide +kernel
theorem dL_law_943 : decode cL_law 943 = .ok (.aload_n 0, 1) := by decide +kernel
theorem dL_law_944 : decode cL_law 944 = .ok (.iload_n 3, 1) := by decide +kernel
theorem dL_law_945 : decode cL_law 945 = .ok (.iconst 2, 1) := by decide +kernel
theorem dL_law_946 : decode cL_law 946 = .ok (.iadd, 1) := by decide +kernel
theorem dL_law_947 : decode cL_law 947 = .ok (.iaload, 1) := by decide +kernel
theorem dL_law_948 : decode cL_law 948 = .ok (.aload_n 0, 1) := by decide +kernel
theorem dL_law_949 : decode cL_law 949 = .ok (.iload_n 3, 1) := by decide +kernel
theorem dL_law_950 : decode cL_law 950 = .ok (.iconst 3, 1) := by decide +kernel
theorem dL_law_951 : decode cL_law 951 = .ok (.iadd, 1) := by decide +kernel
theorem dL_law_952 : decode cL_law 952 = .ok (.iaload, 1) := by decide +kernel
theorem dL_law_953 : decode cL_law 953 = .ok (.invokevirtual 126, 3) := by decide +kernel
theorem dL_law_956 : decode cL_law 956 = .ok (.if_icmp .eq 154, 3) := by decide +kernel
theorem dL_law_959 : decode cL_law 959 = .ok (.iconst 0, 1) := by decide +kernel
theorem dL_law_960 : decode cL_law 960 = .ok (.ireturn, 1) := by decide +kernel
theorem dL_law_961 : decode cL_law 961 = .ok (.aload_n 1, 1) := by decide +kernel
theorem dL_law_962 : decode cL_law 962 = .ok (.aload_n 0, 1) := by decide +kernel
theorem dL_law_963 : decode cL_law 963 = .ok (.iload_n 3, 1) := by decide +kernel
theorem dL_law_964 : decode cL_law 964 = .ok (.iconst 1, 1) := by decide +kernel
theorem dL_law_965 : decode cL_law 965 = .ok (.iadd, 1) := by decide +kernel
theorem dL_law_966 : decode cL_law 966 = .ok (.iaload, 1) := by decide +kernel
theorem dL_law_967 : decode cL_law 967 = .ok (.aload_n 0, 1) := by decide +kernel
theorem dL_law_968 : decode cL_law 968 = .ok (.iload_n 3, 1) := by decide +kernel
theorem dL_law_969 : decode cL_law 969 = .ok (.iconst 2, 1) := by decide +kernel
theorem dL_law_970 : decode cL_law 970 = .ok (.iadd, 1) := by decide +kernel
theorem dL_law_971 : decode cL_law 971 = .ok (.iaload, 1) := by decide +kernel
theorem dL_law_972 : decode cL_law 972 = .ok (.aload_n 0, 1) := by decide +kernel
theorem dL_law_973 : decode cL_law 973 = .ok (.iload_n 3, 1) := by decide +kernel
theorem dL_law_974 : decode cL_law 974 = .ok (.iconst 3, 1) := by decide +kernel
theorem dL_law_975 : decode cL_law 975 = .ok (.iadd, 1) := by decide +kernel
theorem dL_law_976 : decode cL_law 976 = .ok (.iaload, 1) := by decide +kernel
theorem dL_law_977 : decode cL_law 977 = .ok (.aload_n 0, 1) := by decide +kernel
theorem dL_law_978 : decode cL_law 978 = .ok (.iload_n 3, 1) := by decide +kernel
theorem dL_law_979 : decode cL_law 979 = .ok (.iconst 4, 1) := by decide +kernel
theorem dL_law_980 : decode cL_law 980 = .ok (.iadd, 1) := by decide +kernel
theorem dL_law_981 : decode cL_law 981 = .ok (.iaload, 1) := by decide +kernel
theorem dL_law_982 : decode cL_law 982 = .ok (.aload_n 0, 1) := by decide +kernel
theorem dL_law_983 : decode cL_law 983 = .ok (.iload_n 3, 1) := by decide +kernel
theorem dL_law_984 : decode cL_law 984 = .ok (.iconst 5, 1) := by decide +kernel
theorem dL_law_985 : decode cL_law 985 = .ok (.iadd, 1) := by decide +kernel
theorem dL_law_986 : decode cL_law 986 = .ok (.iaload, 1) := by decide +kernel
theorem dL_law_987 : decode cL_law 987 = .ok (.invokevirtual 127, 3) := by decide +kernel
theorem dL_law_990 : decode cL_law 990 = .ok (.aload_n 2, 1) := by decide +kernel
theorem dL_law_991 : decode cL_law 991 = .ok (.aload_n 0, 1) := by decide +kernel
theorem dL_law_992 : decode cL_law 992 = .ok (.iload_n 3, 1) := by decide +kernel
theorem dL_law_993 : decode cL_law 993 = .ok (.iconst 1, 1) := by decide +kernel
theorem dL_law_994 : decode cL_law 994 = .ok (.iadd, 1) := by decide +kernel
theorem dL_law_995 : decode cL_law 995 = .ok (.iaload, 1) := by decide +kernel
theorem dL_law_996 : decode cL_law 996 = .ok (.aload_n 0, 1) := by decide +kernel
theorem dL_law_997 : decode cL_law 997 = .ok (.iload_n 3, 1) := by decide +kernel
theorem dL_law_998 : decode cL_law 998 = .ok (.iconst 2, 1) := by decide +kernel
theorem dL_law_999 : decode cL_law 999 = .ok (.iadd, 1) := by decide +kernel
theorem dL_law_1000 : decode cL_law 1000 = .ok (.iaload, 1) := by decide +kernel
theorem dL_law_1001 : decode cL_law 1001 = .ok (.aload_n 0, 1) := by decide +kernel
theorem dL_law_1002 : decode cL_law 1002 = .ok (.iload_n 3, 1) := by decide +kernel
theorem dL_law_1003 : decode cL_law 1003 = .ok (.iconst 3, 1) := by decide +kernel
theorem dL_law_1004 : decode cL_law 1004 = .ok (.iadd, 1) := by decide +kernel
theorem dL_law_1005 : decode cL_law 1005 = .ok (.iaload, 1) := by decide +kernel
theorem dL_law_1006 : decode cL_law 1006 = .ok (.aload_n 0, 1) := by decide +kernel
theorem dL_law_1007 : decode cL_law 1007 = .ok (.iload_n 3, 1) := by decide +kernel
theorem dL_law_1008 : decode cL_law 1008 = .ok (.iconst 4, 1) := by decide +kernel
theorem dL_law_1009 : decode cL_law 1009 = .ok (.iadd, 1) := by decide +kernel
theorem dL_law_1010 : decode cL_law 1010 = .ok (.iaload, 1) := by decide +kernel
theorem dL_law_1011 : decode cL_law 1011 = .ok (.aload_n 0, 1) := by decide +kernel
theorem dL_law_1012 : decode cL_law 1012 = .ok (.iload_n 3, 1) := by decide +kernel
theorem dL_law_1013 : decode cL_law 1013 = .ok (.iconst 5, 1) := by decide +kernel
theorem dL_law_1014 : decode cL_law 1014 = .ok (.iadd, 1) := by decide +kernel
theorem dL_law_1015 : decode cL_law 1015 = .ok (.iaload, 1) := by decide +kernel
theorem dL_law_1016 : decode cL_law 1016 = .ok (.invokevirtual 131, 3) := by decide +kernel
theorem dL_law_1019 : decode cL_law 1019 = .ok (.if_icmp .eq 91, 3) := by decide +kernel
theorem dL_law_1022 : decode cL_law 1022 = .ok (.iconst 0, 1) := by decide +kernel
theorem dL_law_1023 : decode cL_law 1023 = .ok (.ireturn, 1) := by decide +kernel
theorem dL_law_1024 : decode cL_law 1024 = .ok (.aload_n 1, 1) := by decide +kernel
theorem dL_law_1025 : decode cL_law 1025 = .ok (.aload_n 0, 1) := by decide +kernel
theorem dL_law_1026 : decode cL_law 1026 = .ok (.iload_n 3, 1) := by decide +kernel
theorem dL_law_1027 : decode cL_law 1027 = .ok (.iconst 1, 1) := by decide +kernel
theorem dL_law_1028 : decode cL_law 1028 = .ok (.iadd, 1) := by decide +kernel
theorem dL_law_1029 : decode cL_law 1029 = .ok (.iaload, 1) := by decide +kernel
theorem dL_law_1030 : decode cL_law 1030 = .ok (.aload_n 0, 1) := by decide +kernel
theorem dL_law_1031 : decode cL_law 1031 = .ok (.iload_n 3, 1) := by decide +kernel
theorem dL_law_1032 : decode cL_law 1032 = .ok (.iconst 2, 1) := by decide +kernel
theorem dL_law_1033 : decode cL_law 1033 = .ok (.iadd, 1) := by decide +kernel
theorem dL_law_1034 : decode cL_law 1034 = .ok (.iaload, 1) := by decide +kernel
theorem dL_law_1035 : decode cL_law 1035 = .ok (.aload_n 0, 1) := by decide +kernel
theorem dL_law_1036 : decode cL_law 1036 = .ok (.iload_n 3, 1) := by decide +kernel
theorem dL_law_1037 : decode cL_law 1037 = .ok (.iconst 3, 1) := by decide +kernel
theorem dL_law_1038 : decode cL_law 1038 = .ok (.iadd, 1) := by decide +kernel
theorem dL_law_1039 : decode cL_law 1039 = .ok (.iaload, 1) := by decide +kernel
theorem dL_law_1040 : decode cL_law 1040 = .ok (.aload_n 0, 1) := by decide +kernel
theorem dL_law_1041 : decode cL_law 1041 = .ok (.iload_n 3, 1) := by decide +kernel
theorem dL_law_1042 : decode cL_law 1042 = .ok (.iconst 4, 1) := by decide +kernel
theorem dL_law_1043 : decode cL_law 1043 = .ok (.iadd, 1) := by decide +kernel
theorem dL_law_1044 : decode cL_law 1044 = .ok (.iaload, 1) := by decide +kernel
theorem dL_law_1045 : decode cL_law 1045 = .ok (.invokevirtual 132, 3) := by decide +kernel
theorem dL_law_1048 : decode cL_law 1048 = .ok (.aload_n 2, 1) := by decide +kernel
theorem dL_law_1049 : decode cL_law 1049 = .ok (.aload_n 0, 1) := by decide +kernel
theorem dL_law_1050 : decode cL_law 1050 = .ok (.iload_n 3, 1) := by decide +kernel
theorem dL_law_1051 : decode cL_law 1051 = .ok (.iconst 1, 1) := by decide +kernel
theorem dL_law_1052 : decode cL_law 1052 = .ok (.iadd, 1) := by decide +kernel
theorem dL_law_1053 : decode cL_law 1053 = .ok (.iaload, 1) := by decide +kernel
theorem dL_law_1054 : decode cL_law 1054 = .ok (.aload_n 0, 1) := by decide +kernel
theorem dL_law_1055 : decode cL_law 1055 = .ok (.iload_n 3, 1) := by decide +kernel
theorem dL_law_1056 : decode cL_law 1056 = .ok (.iconst 2, 1) := by decide +kernel
theorem dL_law_1057 : decode cL_law 1057 = .ok (.iadd, 1) := by decide +kernel
theorem dL_law_1058 : decode cL_law 1058 = .ok (.iaload, 1) := by decide +kernel
theorem dL_law_1059 : decode cL_law 1059 = .ok (.aload_n 0, 1) := by decide +kernel
theorem dL_law_1060 : decode cL_law 1060 = .ok (.iload_n 3, 1) := by decide +kernel
theorem dL_law_1061 : decode cL_law 1061 = .ok (.iconst 3, 1) := by decide +kernel
theorem dL_law_1062 : decode cL_law 1062 = .ok (.iadd, 1) := by decide +kernel
theorem dL_law_1063 : decode cL_law 1063 = .ok (.iaload, 1) := by decide +kernel
theorem dL_law_1064 : decode cL_law 1064 = .ok (.aload_n 0, 1) := by decide +kernel
theorem dL_law_1065 : decode cL_law 1065 = .ok (.iload_n 3, 1) := by decide +kernel
theorem dL_law_1066 : decode cL_law 1066 = .ok (.iconst 4, 1) := by decide +kernel
theorem dL_law_1067 : decode cL_law 1067 = .ok (.iadd, 1) := by decide +kernel
theorem dL_law_1068 : decode cL_law 1068 = .ok (.iaload, 1) := by decide +kernel
theorem dL_law_1069 : decode cL_law 1069 = .ok (.invokevirtual 136, 3) := by decide +kernel
theorem dL_law_1072 : decode cL_law 1072 = .ok (.if_icmp .eq 38, 3) := by decide +kernel
theorem dL_law_1075 : decode cL_law 1075 = .ok (.iconst 0, 1) := by decide +kernel
theorem dL_law_1076 : decode cL_law 1076 = .ok (.ireturn, 1) := by decide +kernel
theorem dL_law_1077 : decode cL_law 1077 = .ok (.aload_n 1, 1) := by decide +kernel
theorem dL_law_1078 : decode cL_law 1078 = .ok (.aload_n 0, 1) := by decide +kernel
theorem dL_law_1079 : decode cL_law 1079 = .ok (.iload_n 3, 1) := by decide +kernel
theorem dL_law_1080 : decode cL_law 1080 = .ok (.iconst 1, 1) := by decide +kernel
theorem dL_law_1081 : decode cL_law 1081 = .ok (.iadd, 1) := by decide +kernel
theorem dL_law_1082 : decode cL_law 1082 = .ok (.iaload, 1) := by decide +kernel
theorem dL_law_1083 : decode cL_law 1083 = .ok (.aload_n 0, 1) := by decide +kernel
theorem dL_law_1084 : decode cL_law 1084 = .ok (.iload_n 3, 1) := by decide +kernel
theorem dL_law_1085 : decode cL_law 1085 = .ok (.iconst 2, 1) := by decide +kernel
theorem dL_law_1086 : decode cL_law 1086 = .ok (.iadd, 1) := by decide +kernel
theorem dL_law_1087 : decode cL_law 1087 = .ok (.iaload, 1) := by decide +kernel
theorem dL_law_1088 : decode cL_law 1088 = .ok (.invokevirtual 137, 3) := by decide +kernel
theorem dL_law_1091 : decode cL_law 1091 = .ok (.aload_n 2, 1) := by decide +kernel
theorem dL_law_1092 : decode cL_law 1092 = .ok (.aload_n 0, 1) := by decide +kernel
theorem dL_law_1093 : decode cL_law 1093 = .ok (.iload_n 3, 1) := by decide +kernel
theorem dL_law_1094 : decode cL_law 1094 = .ok (.iconst 1, 1) := by decide +kernel
theorem dL_law_1095 : decode cL_law 1095 = .ok (.iadd, 1) := by decide +kernel
theorem dL_law_1096 : decode cL_law 1096 = .ok (.iaload, 1) := by decide +kernel
theorem dL_law_1097 : decode cL_law 1097 = .ok (.aload_n 0, 1) := by decide +kernel
theorem dL_law_1098 : decode cL_law 1098 = .ok (.iload_n 3, 1) := by decide +kernel
theorem dL_law_1099 : decode cL_law 1099 = .ok (.iconst 2, 1) := by decide +kernel
theorem dL_law_1100 : decode cL_law 1100 = .ok (.iadd, 1) := by decide +kernel
theorem dL_law_1101 : decode cL_law 1101 = .ok (.iaload, 1) := by decide +kernel
theorem dL_law_1102 : decode cL_law 1102 = .ok (.invokevirtual 140, 3) := by decide +kernel
theorem dL_law_1105 : decode cL_law 1105 = .ok (.if_icmp .eq 5, 3) := by decide +kernel
theorem dL_law_1108 : decode cL_law 1108 = .ok (.iconst 0, 1) := by decide +kernel
theorem dL_law_1109 : decode cL_law 1109 = .ok (.ireturn, 1) := by decide +kernel
theorem dL_law_1110 : decode cL_law 1110 = .ok (.iinc 3 6, 3) := by decide +kernel
theorem dL_law_1113 : decode cL_law 1113 = .ok (.goto (-1095), 3) := by decide +kernel
theorem dL_law_1116 : decode cL_law 1116 = .ok (.iconst 1, 1) := by decide +kernel
theorem dL_law_1117 : decode cL_law 1117 = .ok (.ireturn, 1) := by decide +kernel
