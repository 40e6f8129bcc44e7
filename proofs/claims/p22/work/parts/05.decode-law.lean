theorem dL_from_0 : decode cL_from 0 = .ok (.aload_n 0, 1) := by decide +kernel
theorem dL_from_1 : decode cL_from 1 = .ok (.arraylength, 1) := by decide +kernel
theorem dL_from_2 : decode cL_from 2 = .ok (.ifCond .ne 15, 3) := by decide +kernel
theorem dL_from_5 : decode cL_from 5 = .ok (.sipush 499, 3) := by decide +kernel
theorem dL_from_8 : decode cL_from 8 = .ok (.iload_n 1, 1) := by decide +kernel
theorem dL_from_9 : decode cL_from 9 = .ok (.imul, 1) := by decide +kernel
theorem dL_from_10 : decode cL_from 10 = .ok (.sipush 457, 3) := by decide +kernel
theorem dL_from_13 : decode cL_from 13 = .ok (.iadd, 1) := by decide +kernel
theorem dL_from_14 : decode cL_from 14 = .ok (.goto 14, 3) := by decide +kernel
theorem dL_from_17 : decode cL_from 17 = .ok (.aload_n 0, 1) := by decide +kernel
theorem dL_from_18 : decode cL_from 18 = .ok (.iload_n 1, 1) := by decide +kernel
theorem dL_from_19 : decode cL_from 19 = .ok (.aload_n 0, 1) := by decide +kernel
theorem dL_from_20 : decode cL_from 20 = .ok (.arraylength, 1) := by decide +kernel
theorem dL_from_21 : decode cL_from 21 = .ok (.irem, 1) := by decide +kernel
theorem dL_from_22 : decode cL_from 22 = .ok (.iaload, 1) := by decide +kernel
theorem dL_from_23 : decode cL_from 23 = .ok (.ldc 7, 2) := by decide +kernel
theorem dL_from_25 : decode cL_from 25 = .ok (.iload_n 1, 1) := by decide +kernel
theorem dL_from_26 : decode cL_from 26 = .ok (.imul, 1) := by decide +kernel
theorem dL_from_27 : decode cL_from 27 = .ok (.ixor, 1) := by decide +kernel
theorem dL_from_28 : decode cL_from 28 = .ok (.istore_n 3, 1) := by decide +kernel
theorem dL_from_29 : decode cL_from 29 = .ok (.iload_n 3, 1) := by decide +kernel
theorem dL_from_30 : decode cL_from 30 = .ok (.ldc 8, 2) := by decide +kernel
theorem dL_from_32 : decode cL_from 32 = .ok (.iand, 1) := by decide +kernel
theorem dL_from_33 : decode cL_from 33 = .ok (.iload_n 2, 1) := by decide +kernel
theorem dL_from_34 : decode cL_from 34 = .ok (.irem, 1) := by decide +kernel
theorem dL_from_35 : decode cL_from 35 = .ok (.ireturn, 1) := by decide +kernel
theorem dL_output_0 : decode cL_output 0 = .ok (.aload_n 0, 1) := by decide +kernel
theorem dL_output_1 : decode cL_output 1 = .ok (.iload_n 1, 1) := by decide +kernel
theorem dL_output_2 : decode cL_output 2 = .ok (.iaload, 1) := by decide +kernel
theorem dL_output_3 : decode cL_output 3 = .ok (.iload_n 2, 1) := by decide +kernel
theorem dL_output_4 : decode cL_output 4 = .ok (.imul, 1) := by decide +kernel
theorem dL_output_5 : decode cL_output 5 = .ok (.aload_n 0, 1) := by decide +kernel
theorem dL_output_6 : decode cL_output 6 = .ok (.iload_n 1, 1) := by decide +kernel
theorem dL_output_7 : decode cL_output 7 = .ok (.iconst 1, 1) := by decide +kernel
theorem dL_output_8 : decode cL_output 8 = .ok (.iadd, 1) := by decide +kernel
theorem dL_output_9 : decode cL_output 9 = .ok (.iaload, 1) := by decide +kernel
theorem dL_output_10 : decode cL_output 10 = .ok (.aload_n 0, 1) := by decide +kernel
theorem dL_output_11 : decode cL_output 11 = .ok (.iload_n 1, 1) := by decide +kernel
theorem dL_output_12 : decode cL_output 12 = .ok (.bipush 6, 2) := by decide +kernel
theorem dL_output_14 : decode cL_output 14 = .ok (.iadd, 1) := by decide +kernel
theorem dL_output_15 : decode cL_output 15 = .ok (.iaload, 1) := by decide +kernel
theorem dL_output_16 : decode cL_output 16 = .ok (.imul, 1) := by decide +kernel
theorem dL_output_17 : decode cL_output 17 = .ok (.iadd, 1) := by decide +kernel
theorem dL_output_18 : decode cL_output 18 = .ok (.aload_n 0, 1) := by decide +kernel
theorem dL_output_19 : decode cL_output 19 = .ok (.iload_n 1, 1) := by decide +kernel
theorem dL_output_20 : decode cL_output 20 = .ok (.iconst 2, 1) := by decide +kernel
theorem dL_output_21 : decode cL_output 21 = .ok (.iadd, 1) := by decide +kernel
theorem dL_output_22 : decode cL_output 22 = .ok (.iaload, 1) := by decide +kernel
theorem dL_output_23 : decode cL_output 23 = .ok (.aload_n 0, 1) := by decide +kernel
theorem dL_output_24 : decode cL_output 24 = .ok (.iload_n 1, 1) := by decide +kernel
theorem dL_output_25 : decode cL_output 25 = .ok (.bipush 7, 2) := by decide +kernel
theorem dL_output_27 : decode cL_output 27 = .ok (.iadd, 1) := by decide +kernel
theorem dL_output_28 : decode cL_output 28 = .ok (.iaload, 1) := by decide +kernel
theorem dL_output_29 : decode cL_output 29 = .ok (.imul, 1) := by decide +kernel
theorem dL_output_30 : decode cL_output 30 = .ok (.iadd, 1) := by decide +kernel
theorem dL_output_31 : decode cL_output 31 = .ok (.aload_n 0, 1) := by decide +kernel
theorem dL_output_32 : decode cL_output 32 = .ok (.iload_n 1, 1) := by decide +kernel
theorem dL_output_33 : decode cL_output 33 = .ok (.iconst 3, 1) := by decide +kernel
theorem dL_output_34 : decode cL_output 34 = .ok (.iadd, 1) := by decide +kernel
theorem dL_output_35 : decode cL_output 35 = .ok (.iaload, 1) := by decide +kernel
theorem dL_output_36 : decode cL_output 36 = .ok (.aload_n 0, 1) := by decide +kernel
theorem dL_output_37 : decode cL_output 37 = .ok (.iload_n 1, 1) := by decide +kernel
theorem dL_output_38 : decode cL_output 38 = .ok (.bipush 8, 2) := by decide +kernel
theorem dL_output_40 : decode cL_output 40 = .ok (.iadd, 1) := by decide +kernel
theorem dL_output_41 : decode cL_output 41 = .ok (.iaload, 1) := by decide +kernel
theorem dL_output_42 : decode cL_output 42 = .ok (.imul, 1) := by decide +kernel
theorem dL_output_43 : decode cL_output 43 = .ok (.isub, 1) := by decide +kernel
theorem dL_output_44 : decode cL_output 44 = .ok (.aload_n 0, 1) := by decide +kernel
theorem dL_output_45 : decode cL_output 45 = .ok (.iload_n 1, 1) := by decide +kernel
theorem dL_output_46 : decode cL_output 46 = .ok (.iconst 4, 1) := by decide +kernel
theorem dL_output_47 : decode cL_output 47 = .ok (.iadd, 1) := by decide +kernel
theorem dL_output_48 : decode cL_output 48 = .ok (.iaload, 1) := by decide +kernel
theorem dL_output_49 : decode cL_output 49 = .ok (.aload_n 0, 1) := by decide +kernel
theorem dL_output_50 : decode cL_output 50 = .ok (.iload_n 1, 1) := by decide +kernel
theorem dL_output_51 : decode cL_output 51 = .ok (.bipush 9, 2) := by decide +kernel
theorem dL_output_53 : decode cL_output 53 = .ok (.iadd, 1) := by decide +kernel
theorem dL_output_54 : decode cL_output 54 = .ok (.iaload, 1) := by decide +kernel
theorem dL_output_55 : decode cL_output 55 = .ok (.imul, 1) := by decide +kernel
theorem dL_output_56 : decode cL_output 56 = .ok (.isub, 1) := by decide +kernel
theorem dL_output_57 : decode cL_output 57 = .ok (.istore_n 3, 1) := by decide +kernel
theorem dL_output_58 : decode cL_output 58 = .ok (.aload_n 0, 1) := by decide +kernel
theorem dL_output_59 : decode cL_output 59 = .ok (.iload_n 1, 1) := by decide +kernel
theorem dL_output_60 : decode cL_output 60 = .ok (.iconst 5, 1) := by decide +kernel
theorem dL_output_61 : decode cL_output 61 = .ok (.iadd, 1) := by decide +kernel
theorem dL_output_62 : decode cL_output 62 = .ok (.iaload, 1) := by decide +kernel
theorem dL_output_63 : decode cL_output 63 = .ok (.iconst 2, 1) := by decide +kernel
theorem dL_output_64 : decode cL_output 64 = .ok (.if_icmp .ne 10, 3) := by decide +kernel
theorem dL_output_67 : decode cL_output 67 = .ok (.iload_n 3, 1) := by decide +kernel
theorem dL_output_68 : decode cL_output 68 = .ok (.bipush 32, 2) := by decide +kernel
theorem dL_output_70 : decode cL_output 70 = .ok (.iadd, 1) := by decide +kernel
theorem dL_output_71 : decode cL_output 71 = .ok (.goto 4, 3) := by decide +kernel
theorem dL_output_74 : decode cL_output 74 = .ok (.iload_n 3, 1) := by decide +kernel
theorem dL_output_75 : decode cL_output 75 = .ok (.istore 4, 2) := by decide +kernel
theorem dL_output_77 : decode cL_output 77 = .ok (.iload 4, 2) := by decide +kernel
theorem dL_output_79 : decode cL_output 79 = .ok (.bipush 64, 2) := by decide +kernel
theorem dL_output_81 : decode cL_output 81 = .ok (.idiv, 1) := by decide +kernel
theorem dL_output_82 : decode cL_output 82 = .ok (.istore 5, 2) := by decide +kernel
theorem dL_output_84 : decode cL_output 84 = .ok (.aload_n 0, 1) := by decide +kernel
theorem dL_output_85 : decode cL_output 85 = .ok (.iload_n 1, 1) := by decide +kernel
theorem dL_output_86 : decode cL_output 86 = .ok (.iconst 5, 1) := by decide +kernel
theorem dL_output_87 : decode cL_output 87 = .ok (.iadd, 1) := by decide +kernel
theorem dL_output_88 : decode cL_output 88 = .ok (.iaload, 1) := by decide +kernel
theorem dL_output_89 : decode cL_output 89 = .ok (.ifCond .le 18, 3) := by decide +kernel
theorem dL_output_92 : decode cL_output 92 = .ok (.iload 4, 2) := by decide +kernel
theorem dL_output_94 : decode cL_output 94 = .ok (.bipush 64, 2) := by decide +kernel
theorem dL_output_96 : decode cL_output 96 = .ok (.irem, 1) := by decide +kernel
theorem dL_output_97 : decode cL_output 97 = .ok (.ifCond .ge 10, 3) := by decide +kernel
theorem dL_output_100 : decode cL_output 100 = .ok (.iload 5, 2) := by decide +kernel
theorem dL_output_102 : decode cL_output 102 = .ok (.iconst 1, 1) := by decide +kernel
theorem dL_output_103 : decode cL_output 103 = .ok (.isub, 1) := by decide +kernel
theorem dL_output_104 : decode cL_output 104 = .ok (.goto 5, 3) := by decide +kernel
theorem dL_output_107 : decode cL_output 107 = .ok (.iload 5, 2) := by decide +kernel
theorem dL_output_109 : decode cL_output 109 = .ok (.istore 5, 2) := by decide +kernel
theorem dL_output_111 : decode cL_output 111 = .ok (.iload 5, 2) := by decide +kernel
theorem dL_output_113 : decode cL_output 113 = .ok (.sipush 32767, 3) := by decide +kernel
theorem dL_output_116 : decode cL_output 116 = .ok (.if_icmp .le 9, 3) := by decide +kernel
theorem dL_output_119 : decode cL_output 119 = .ok (.sipush 32767, 3) := by decide +kernel
theorem dL_output_122 : decode cL_output 122 = .ok (.goto 19, 3) := by decide +kernel
theorem dL_output_125 : decode cL_output 125 = .ok (.iload 5, 2) := by decide +kernel
theorem dL_output_127 : decode cL_output 127 = .ok (.sipush (-32767), 3) := by decide +kernel
theorem dL_output_130 : decode cL_output 130 = .ok (.if_icmp .ge 9, 3) := by decide +kernel
theorem dL_output_133 : decode cL_output 133 = .ok (.sipush (-32767), 3) := by decide +kernel
theorem dL_output_136 : decode cL_output 136 = .ok (.goto 5, 3) := by decide +kernel
theorem dL_output_139 : decode cL_output 139 = .ok (.iload 5, 2) := by decide +kernel
theorem dL_output_141 : decode cL_output 141 = .ok (.ireturn, 1) := by decide +kernel
theorem dL_run_0 : decode cL_run 0 = .ok (.iload 4, 2) := by decide +kernel
theorem dL_run_2 : decode cL_run 2 = .ok (.istore 5, 2) := by decide +kernel
theorem dL_run_4 : decode cL_run 4 = .ok (.iconst 0, 1) := by decide +kernel
theorem dL_run_5 : decode cL_run 5 = .ok (.istore 6, 2) := by decide +kernel
theorem dL_run_7 : decode cL_run 7 = .ok (.iload 6, 2) := by decide +kernel
theorem dL_run_9 : decode cL_run 9 = .ok (.aload_n 3, 1) := by decide +kernel
theorem dL_run_10 : decode cL_run 10 = .ok (.iconst 1, 1) := by decide +kernel
theorem dL_run_11 : decode cL_run 11 = .ok (.iaload, 1) := by decide +kernel
theorem dL_run_12 : decode cL_run 12 = .ok (.if_icmp .ge 78, 3) := by decide +kernel
theorem dL_run_15 : decode cL_run 15 = .ok (.bipush 10, 2) := by decide +kernel
theorem dL_run_17 : decode cL_run 17 = .ok (.aload_n 1, 1) := by decide +kernel
theorem dL_run_18 : decode cL_run 18 = .ok (.iload 6, 2) := by decide +kernel
theorem dL_run_20 : decode cL_run 20 = .ok (.iaload, 1) := by decide +kernel
theorem dL_run_21 : decode cL_run 21 = .ok (.imul, 1) := by decide +kernel
theorem dL_run_22 : decode cL_run 22 = .ok (.istore 7, 2) := by decide +kernel
theorem dL_run_24 : decode cL_run 24 = .ok (.aload_n 0, 1) := by decide +kernel
theorem dL_run_25 : decode cL_run 25 = .ok (.iload 7, 2) := by decide +kernel
theorem dL_run_27 : decode cL_run 27 = .ok (.iload 5, 2) := by decide +kernel
theorem dL_run_29 : decode cL_run 29 = .ok (.invokestatic 9, 3) := by decide +kernel
theorem dL_run_32 : decode cL_run 32 = .ok (.istore 8, 2) := by decide +kernel
theorem dL_run_34 : decode cL_run 34 = .ok (.aload_n 0, 1) := by decide +kernel
theorem dL_run_35 : decode cL_run 35 = .ok (.iload 7, 2) := by decide +kernel
theorem dL_run_37 : decode cL_run 37 = .ok (.bipush 7, 2) := by decide +kernel
theorem dL_run_39 : decode cL_run 39 = .ok (.iadd, 1) := by decide +kernel
theorem dL_run_40 : decode cL_run 40 = .ok (.aload_n 0, 1) := by decide +kernel
theorem dL_run_41 : decode cL_run 41 = .ok (.iload 7, 2) := by decide +kernel
theorem dL_run_43 : decode cL_run 43 = .ok (.bipush 6, 2) := by decide +kernel
theorem dL_run_45 : decode cL_run 45 = .ok (.iadd, 1) := by decide +kernel
theorem dL_run_46 : decode cL_run 46 = .ok (.iaload, 1) := by decide +kernel
theorem dL_run_47 : decode cL_run 47 = .ok (.iastore, 1) := by decide +kernel
theorem dL_run_48 : decode cL_run 48 = .ok (.aload_n 0, 1) := by decide +kernel
theorem dL_run_49 : decode cL_run 49 = .ok (.iload 7, 2) := by decide +kernel
theorem dL_run_51 : decode cL_run 51 = .ok (.bipush 6, 2) := by decide +kernel
theorem dL_run_53 : decode cL_run 53 = .ok (.iadd, 1) := by decide +kernel
theorem dL_run_54 : decode cL_run 54 = .ok (.iload 5, 2) := by decide +kernel
theorem dL_run_56 : decode cL_run 56 = .ok (.iastore, 1) := by decide +kernel
theorem dL_run_57 : decode cL_run 57 = .ok (.aload_n 0, 1) := by decide +kernel
theorem dL_run_58 : decode cL_run 58 = .ok (.iload 7, 2) := by decide +kernel
theorem dL_run_60 : decode cL_run 60 = .ok (.bipush 9, 2) := by decide +kernel
theorem dL_run_62 : decode cL_run 62 = .ok (.iadd, 1) := by decide +kernel
theorem dL_run_63 : decode cL_run 63 = .ok (.aload_n 0, 1) := by decide +kernel
theorem dL_run_64 : decode cL_run 64 = .ok (.iload 7, 2) := by decide +kernel
theorem dL_run_66 : decode cL_run 66 = .ok (.bipush 8, 2) := by decide +kernel
theorem dL_run_68 : decode cL_run 68 = .ok (.iadd, 1) := by decide +kernel
theorem dL_run_69 : decode cL_run 69 = .ok (.iaload, 1) := by decide +kernel
theorem dL_run_70 : decode cL_run 70 = .ok (.iastore, 1) := by decide +kernel
theorem dL_run_71 : decode cL_run 71 = .ok (.aload_n 0, 1) := by decide +kernel
theorem dL_run_72 : decode cL_run 72 = .ok (.iload 7, 2) := by decide +kernel
theorem dL_run_74 : decode cL_run 74 = .ok (.bipush 8, 2) := by decide +kernel
theorem dL_run_76 : decode cL_run 76 = .ok (.iadd, 1) := by decide +kernel
theorem dL_run_77 : decode cL_run 77 = .ok (.iload 8, 2) := by decide +kernel
theorem dL_run_79 : decode cL_run 79 = .ok (.iastore, 1) := by decide +kernel
theorem dL_run_80 : decode cL_run 80 = .ok (.iload 8, 2) := by decide +kernel
theorem dL_run_82 : decode cL_run 82 = .ok (.istore 5, 2) := by decide +kernel
theorem dL_run_84 : decode cL_run 84 = .ok (.iinc 6 1, 3) := by decide +kernel
theorem dL_run_87 : decode cL_run 87 = .ok (.goto (-80), 3) := by decide +kernel
theorem dL_run_90 : decode cL_run 90 = .ok (.bipush 15, 2) := by decide +kernel
theorem dL_run_92 : decode cL_run 92 = .ok (.istore 6, 2) := by decide +kernel
theorem dL_run_94 : decode cL_run 94 = .ok (.iload 6, 2) := by decide +kernel
theorem dL_run_96 : decode cL_run 96 = .ok (.ifCond .le 19, 3) := by decide +kernel
theorem dL_run_99 : decode cL_run 99 = .ok (.aload_n 2, 1) := by decide +kernel
theorem dL_run_100 : decode cL_run 100 = .ok (.iload 6, 2) := by decide +kernel
theorem dL_run_102 : decode cL_run 102 = .ok (.aload_n 2, 1) := by decide +kernel
theorem dL_run_103 : decode cL_run 103 = .ok (.iload 6, 2) := by decide +kernel
theorem dL_run_105 : decode cL_run 105 = .ok (.iconst 1, 1) := by decide +kernel
theorem dL_run_106 : decode cL_run 106 = .ok (.isub, 1) := by decide +kernel
theorem dL_run_107 : decode cL_run 107 = .ok (.iaload, 1) := by decide +kernel
theorem dL_run_108 : decode cL_run 108 = .ok (.iastore, 1) := by decide +kernel
theorem dL_run_109 : decode cL_run 109 = .ok (.iinc 6 (-1), 3) := by decide +kernel
theorem dL_run_112 : decode cL_run 112 = .ok (.goto (-18), 3) := by decide +kernel
theorem dL_run_115 : decode cL_run 115 = .ok (.aload_n 2, 1) := by decide +kernel
theorem dL_run_116 : decode cL_run 116 = .ok (.iconst 0, 1) := by decide +kernel
theorem dL_run_117 : decode cL_run 117 = .ok (.iload 5, 2) := by decide +kernel
theorem dL_run_119 : decode cL_run 119 = .ok (.iastore, 1) := by decide +kernel
theorem dL_run_120 : decode cL_run 120 = .ok (.aload_n 3, 1) := by decide +kernel
theorem dL_run_121 : decode cL_run 121 = .ok (.iconst 2, 1) := by decide +kernel
theorem dL_run_122 : decode cL_run 122 = .ok (.dup2, 1) := by decide +kernel
theorem dL_run_123 : decode cL_run 123 = .ok (.iaload, 1) := by decide +kernel
theorem dL_run_124 : decode cL_run 124 = .ok (.aload_n 3, 1) := by decide +kernel
theorem dL_run_125 : decode cL_run 125 = .ok (.iconst 2, 1) := by decide +kernel
theorem dL_run_126 : decode cL_run 126 = .ok (.iaload, 1) := by decide +kernel
theorem dL_run_127 : decode cL_run 127 = .ok (.bipush 16, 2) := by decide +kernel
theorem dL_run_129 : decode cL_run 129 = .ok (.if_icmp .ge 7, 3) := by decide +kernel
theorem dL_run_132 : decode cL_run 132 = .ok (.iconst 1, 1) := by decide +kernel
theorem dL_run_133 : decode cL_run 133 = .ok (.goto 4, 3) := by decide +kernel
theorem dL_run_136 : decode cL_run 136 = .ok (.iconst 0, 1) := by decide +kernel
theorem dL_run_137 : decode cL_run 137 = .ok (.iadd, 1) := by decide +kernel
theorem dL_run_138 : decode cL_run 138 = .ok (.iastore, 1) := by decide +kernel
theorem dL_run_139 : decode cL_run 139 = .ok (.iload 5, 2) := by decide +kernel
theorem dL_run_141 : decode cL_run 141 = .ok (.ireturn, 1) := by decide +kernel
theorem dL_abs_0 : decode cL_abs 0 = .ok (.iload_n 0, 1) := by decide +kernel
theorem dL_abs_1 : decode cL_abs 1 = .ok (.ifCond .le 7, 3) := by decide +kernel
theorem dL_abs_4 : decode cL_abs 4 = .ok (.iload_n 0, 1) := by decide +kernel
theorem dL_abs_5 : decode cL_abs 5 = .ok (.goto 5, 3) := by decide +kernel
theorem dL_abs_8 : decode cL_abs 8 = .ok (.iload_n 0, 1) := by decide +kernel
theorem dL_abs_9 : decode cL_abs 9 = .ok (.ineg, 1) := by decide +kernel
theorem dL_abs_10 : decode cL_abs 10 = .ok (.ireturn, 1) := by decide +kernel
theorem dL_isStable_0 : decode cL_isStable 0 = .ok (.aload_n 0, 1) := by decide +kernel
theorem dL_isStable_1 : decode cL_isStable 1 = .ok (.bipush 10, 2) := by decide +kernel
theorem dL_isStable_3 : decode cL_isStable 3 = .ok (.iload_n 1, 1) := by decide +kernel
theorem dL_isStable_4 : decode cL_isStable 4 = .ok (.imul, 1) := by decide +kernel
theorem dL_isStable_5 : decode cL_isStable 5 = .ok (.iconst 4, 1) := by decide +kernel
theorem dL_isStable_6 : decode cL_isStable 6 = .ok (.iadd, 1) := by decide +kernel
theorem dL_isStable_7 : decode cL_isStable 7 = .ok (.iaload, 1) := by decide +kernel
theorem dL_isStable_8 : decode cL_isStable 8 = .ok (.bipush (-63), 2) := by decide +kernel
theorem dL_isStable_10 : decode cL_isStable 10 = .ok (.if_icmp .lt 45, 3) := by decide +kernel
theorem dL_isStable_13 : decode cL_isStable 13 = .ok (.aload_n 0, 1) := by decide +kernel
theorem dL_isStable_14 : decode cL_isStable 14 = .ok (.bipush 10, 2) := by decide +kernel
theorem dL_isStable_16 : decode cL_isStable 16 = .ok (.iload_n 1, 1) := by decide +kernel
theorem dL_isStable_17 : decode cL_isStable 17 = .ok (.imul, 1) := by decide +kernel
theorem dL_isStable_18 : decode cL_isStable 18 = .ok (.iconst 4, 1) := by decide +kernel
theorem dL_isStable_19 : decode cL_isStable 19 = .ok (.iadd, 1) := by decide +kernel
theorem dL_isStable_20 : decode cL_isStable 20 = .ok (.iaload, 1) := by decide +kernel
theorem dL_isStable_21 : decode cL_isStable 21 = .ok (.bipush 63, 2) := by decide +kernel
theorem dL_isStable_23 : decode cL_isStable 23 = .ok (.if_icmp .gt 32, 3) := by decide +kernel
theorem dL_isStable_26 : decode cL_isStable 26 = .ok (.aload_n 0, 1) := by decide +kernel
theorem dL_isStable_27 : decode cL_isStable 27 = .ok (.bipush 10, 2) := by decide +kernel
theorem dL_isStable_29 : decode cL_isStable 29 = .ok (.iload_n 1, 1) := by decide +kernel
theorem dL_isStable_30 : decode cL_isStable 30 = .ok (.imul, 1) := by decide +kernel
theorem dL_isStable_31 : decode cL_isStable 31 = .ok (.iconst 3, 1) := by decide +kernel
theorem dL_isStable_32 : decode cL_isStable 32 = .ok (.iadd, 1) := by decide +kernel
theorem dL_isStable_33 : decode cL_isStable 33 = .ok (.iaload, 1) := by decide +kernel
theorem dL_isStable_34 : decode cL_isStable 34 = .ok (.invokestatic 15, 3) := by decide +kernel
theorem dL_isStable_37 : decode cL_isStable 37 = .ok (.aload_n 0, 1) := by decide +kernel
theorem dL_isStable_38 : decode cL_isStable 38 = .ok (.bipush 10, 2) := by decide +kernel
theorem dL_isStable_40 : decode cL_isStable 40 = .ok (.iload_n 1, 1) := by decide +kernel
theorem dL_isStable_41 : decode cL_isStable 41 = .ok (.imul, 1) := by decide +kernel
theorem dL_isStable_42 : decode cL_isStable 42 = .ok (.iconst 4, 1) := by decide +kernel
theorem dL_isStable_43 : decode cL_isStable 43 = .ok (.iadd, 1) := by decide +kernel
theorem dL_isStable_44 : decode cL_isStable 44 = .ok (.iaload, 1) := by decide +kernel
theorem dL_isStable_45 : decode cL_isStable 45 = .ok (.bipush 63, 2) := by decide +kernel
theorem dL_isStable_47 : decode cL_isStable 47 = .ok (.iadd, 1) := by decide +kernel
theorem dL_isStable_48 : decode cL_isStable 48 = .ok (.if_icmp .gt 7, 3) := by decide +kernel
theorem dL_isStable_51 : decode cL_isStable 51 = .ok (.iconst 1, 1) := by decide +kernel
theorem dL_isStable_52 : decode cL_isStable 52 = .ok (.goto 4, 3) := by decide +kernel
theorem dL_isStable_55 : decode cL_isStable 55 = .ok (.iconst 0, 1) := by decide +kernel
theorem dL_isStable_56 : decode cL_isStable 56 = .ok (.ireturn, 1) := by decide +kernel
theorem dL_common_0 : decode cL_common 0 = .ok (.lload_n 2, 1) := by decide +kernel
theorem dL_common_1 : decode cL_common 1 = .ok (.lconst 0, 1) := by decide +kernel
theorem dL_common_2 : decode cL_common 2 = .ok (.lcmp, 1) := by decide +kernel
theorem dL_common_3 : decode cL_common 3 = .ok (.ifCond .eq 16, 3) := by decide +kernel
theorem dL_common_6 : decode cL_common 6 = .ok (.lload_n 0, 1) := by decide +kernel
theorem dL_common_7 : decode cL_common 7 = .ok (.lload_n 2, 1) := by decide +kernel
theorem dL_common_8 : decode cL_common 8 = .ok (.lrem, 1) := by decide +kernel
theorem dL_common_9 : decode cL_common 9 = .ok (.lstore 4, 2) := by decide +kernel
theorem dL_common_11 : decode cL_common 11 = .ok (.lload_n 2, 1) := by decide +kernel
theorem dL_common_12 : decode cL_common 12 = .ok (.lstore_n 0, 1) := by decide +kernel
theorem dL_common_13 : decode cL_common 13 = .ok (.lload 4, 2) := by decide +kernel
theorem dL_common_15 : decode cL_common 15 = .ok (.lstore_n 2, 1) := by decide +kernel
theorem dL_common_16 : decode cL_common 16 = .ok (.goto (-16), 3) := by decide +kernel
theorem dL_common_19 : decode cL_common 19 = .ok (.lload_n 0, 1) := by decide +kernel
theorem dL_common_20 : decode cL_common 20 = .ok (.lconst 0, 1) := by decide +kernel
theorem dL_common_21 : decode cL_common 21 = .ok (.lcmp, 1) := by decide +kernel
theorem dL_common_22 : decode cL_common 22 = .ok (.ifCond .ge 8, 3) := by decide +kernel
theorem dL_common_25 : decode cL_common 25 = .ok (.lload_n 0, 1) := by decide +kernel
theorem dL_common_26 : decode cL_common 26 = .ok (.lneg, 1) := by decide +kernel
theorem dL_common_27 : decode cL_common 27 = .ok (.goto 4, 3) := by decide +kernel
theorem dL_common_30 : decode cL_common 30 = .ok (.lload_n 0, 1) := by decide +kernel
theorem dL_common_31 : decode cL_common 31 = .ok (.lreturn, 1) := by decide +kernel
theorem dL_gain_0 : decode cL_gain 0 = .ok (.lconst 1, 1) := by decide +kernel
theorem dL_gain_1 : decode cL_gain 1 = .ok (.lstore 5, 2) := by decide +kernel
theorem dL_gain_3 : decode cL_gain 3 = .ok (.iconst 0, 1) := by decide +kernel
theorem dL_gain_4 : decode cL_gain 4 = .ok (.istore 7, 2) := by decide +kernel
theorem dL_gain_6 : decode cL_gain 6 = .ok (.iload 7, 2) := by decide +kernel
theorem dL_gain_8 : decode cL_gain 8 = .ok (.aload_n 2, 1) := by decide +kernel
theorem dL_gain_9 : decode cL_gain 9 = .ok (.iconst 1, 1) := by decide +kernel
theorem dL_gain_10 : decode cL_gain 10 = .ok (.iaload, 1) := by decide +kernel
theorem dL_gain_11 : decode cL_gain 11 = .ok (.if_icmp .ge 137, 3) := by decide +kernel
theorem dL_gain_14 : decode cL_gain 14 = .ok (.bipush 10, 2) := by decide +kernel
theorem dL_gain_16 : decode cL_gain 16 = .ok (.aload_n 1, 1) := by decide +kernel
theorem dL_gain_17 : decode cL_gain 17 = .ok (.iload 7, 2) := by decide +kernel
theorem dL_gain_19 : decode cL_gain 19 = .ok (.iaload, 1) := by decide +kernel
theorem dL_gain_20 : decode cL_gain 20 = .ok (.imul, 1) := by decide +kernel
theorem dL_gain_21 : decode cL_gain 21 = .ok (.istore 8, 2) := by decide +kernel
theorem dL_gain_23 : decode cL_gain 23 = .ok (.iload 4, 2) := by decide +kernel
theorem dL_gain_25 : decode cL_gain 25 = .ok (.ifCond .eq 9, 3) := by decide +kernel
theorem dL_gain_28 : decode cL_gain 28 = .ok (.ldc2_w 19, 3) := by decide +kernel
theorem dL_gain_31 : decode cL_gain 31 = .ok (.goto 8, 3) := by decide +kernel
theorem dL_gain_34 : decode cL_gain 34 = .ok (.aload_n 0, 1) := by decide +kernel
theorem dL_gain_35 : decode cL_gain 35 = .ok (.iload 8, 2) := by decide +kernel
theorem dL_gain_37 : decode cL_gain 37 = .ok (.iaload, 1) := by decide +kernel
theorem dL_gain_38 : decode cL_gain 38 = .ok (.i2l, 1) := by decide +kernel
theorem dL_gain_39 : decode cL_gain 39 = .ok (.lstore 9, 2) := by decide +kernel
theorem dL_gain_41 : decode cL_gain 41 = .ok (.iload 4, 2) := by decide +kernel
theorem dL_gain_43 : decode cL_gain 43 = .ok (.ifCond .eq 13, 3) := by decide +kernel
theorem dL_gain_46 : decode cL_gain 46 = .ok (.aload_n 0, 1) := by decide +kernel
theorem dL_gain_47 : decode cL_gain 47 = .ok (.iload 8, 2) := by decide +kernel
theorem dL_gain_49 : decode cL_gain 49 = .ok (.iconst 3, 1) := by decide +kernel
theorem dL_gain_50 : decode cL_gain 50 = .ok (.iadd, 1) := by decide +kernel
theorem dL_gain_51 : decode cL_gain 51 = .ok (.iaload, 1) := by decide +kernel
theorem dL_gain_52 : decode cL_gain 52 = .ok (.i2l, 1) := by decide +kernel
theorem dL_gain_53 : decode cL_gain 53 = .ok (.goto 10, 3) := by decide +kernel
theorem dL_gain_56 : decode cL_gain 56 = .ok (.aload_n 0, 1) := by decide +kernel
theorem dL_gain_57 : decode cL_gain 57 = .ok (.iload 8, 2) := by decide +kernel
theorem dL_gain_59 : decode cL_gain 59 = .ok (.iconst 1, 1) := by decide +kernel
theorem dL_gain_60 : decode cL_gain 60 = .ok (.iadd, 1) := by decide +kernel
theorem dL_gain_61 : decode cL_gain 61 = .ok (.iaload, 1) := by decide +kernel
theorem dL_gain_62 : decode cL_gain 62 = .ok (.i2l, 1) := by decide +kernel
theorem dL_gain_63 : decode cL_gain 63 = .ok (.lstore 11, 2) := by decide +kernel
theorem dL_gain_65 : decode cL_gain 65 = .ok (.iload 4, 2) := by decide +kernel
theorem dL_gain_67 : decode cL_gain 67 = .ok (.ifCond .eq 13, 3) := by decide +kernel
theorem dL_gain_70 : decode cL_gain 70 = .ok (.aload_n 0, 1) := by decide +kernel
theorem dL_gain_71 : decode cL_gain 71 = .ok (.iload 8, 2) := by decide +kernel
theorem dL_gain_73 : decode cL_gain 73 = .ok (.iconst 4, 1) := by decide +kernel
theorem dL_gain_74 : decode cL_gain 74 = .ok (.iadd, 1) := by decide +kernel
theorem dL_gain_75 : decode cL_gain 75 = .ok (.iaload, 1) := by decide +kernel
theorem dL_gain_76 : decode cL_gain 76 = .ok (.i2l, 1) := by decide +kernel
theorem dL_gain_77 : decode cL_gain 77 = .ok (.goto 10, 3) := by decide +kernel
theorem dL_gain_80 : decode cL_gain 80 = .ok (.aload_n 0, 1) := by decide +kernel
theorem dL_gain_81 : decode cL_gain 81 = .ok (.iload 8, 2) := by decide +kernel
theorem dL_gain_83 : decode cL_gain 83 = .ok (.iconst 2, 1) := by decide +kernel
theorem dL_gain_84 : decode cL_gain 84 = .ok (.iadd, 1) := by decide +kernel
theorem dL_gain_85 : decode cL_gain 85 = .ok (.iaload, 1) := by decide +kernel
theorem dL_gain_86 : decode cL_gain 86 = .ok (.i2l, 1) := by decide +kernel
theorem dL_gain_87 : decode cL_gain 87 = .ok (.lstore 13, 2) := by decide +kernel
theorem dL_gain_89 : decode cL_gain 89 = .ok (.lload 5, 2) := by decide +kernel
theorem dL_gain_91 : decode cL_gain 91 = .ok (.iload_n 3, 1) := by decide +kernel
theorem dL_gain_92 : decode cL_gain 92 = .ok (.ifCond .ne 14, 3) := by decide +kernel
theorem dL_gain_95 : decode cL_gain 95 = .ok (.lload 9, 2) := by decide +kernel
theorem dL_gain_97 : decode cL_gain 97 = .ok (.lload 11, 2) := by decide +kernel
theorem dL_gain_99 : decode cL_gain 99 = .ok (.ladd, 1) := by decide +kernel
theorem dL_gain_100 : decode cL_gain 100 = .ok (.lload 13, 2) := by decide +kernel
theorem dL_gain_102 : decode cL_gain 102 = .ok (.ladd, 1) := by decide +kernel
theorem dL_gain_103 : decode cL_gain 103 = .ok (.goto 36, 3) := by decide +kernel
theorem dL_gain_106 : decode cL_gain 106 = .ok (.iload_n 3, 1) := by decide +kernel
theorem dL_gain_107 : decode cL_gain 107 = .ok (.iconst 1, 1) := by decide +kernel
theorem dL_gain_108 : decode cL_gain 108 = .ok (.if_icmp .ne 14, 3) := by decide +kernel
theorem dL_gain_111 : decode cL_gain 111 = .ok (.lload 9, 2) := by decide +kernel
theorem dL_gain_113 : decode cL_gain 113 = .ok (.lload 11, 2) := by decide +kernel
theorem dL_gain_115 : decode cL_gain 115 = .ok (.lsub, 1) := by decide +kernel
theorem dL_gain_116 : decode cL_gain 116 = .ok (.lload 13, 2) := by decide +kernel
theorem dL_gain_118 : decode cL_gain 118 = .ok (.ladd, 1) := by decide +kernel
theorem dL_gain_119 : decode cL_gain 119 = .ok (.goto 20, 3) := by decide +kernel
theorem dL_gain_122 : decode cL_gain 122 = .ok (.lload 9, 2) := by decide +kernel
theorem dL_gain_124 : decode cL_gain 124 = .ok (.lload 13, 2) := by decide +kernel
theorem dL_gain_126 : decode cL_gain 126 = .ok (.lsub, 1) := by decide +kernel
theorem dL_gain_127 : decode cL_gain 127 = .ok (.lload 9, 2) := by decide +kernel
theorem dL_gain_129 : decode cL_gain 129 = .ok (.lload 13, 2) := by decide +kernel
theorem dL_gain_131 : decode cL_gain 131 = .ok (.lsub, 1) := by decide +kernel
theorem dL_gain_132 : decode cL_gain 132 = .ok (.lmul, 1) := by decide +kernel
theorem dL_gain_133 : decode cL_gain 133 = .ok (.lload 11, 2) := by decide +kernel
theorem dL_gain_135 : decode cL_gain 135 = .ok (.lload 11, 2) := by decide +kernel
theorem dL_gain_137 : decode cL_gain 137 = .ok (.lmul, 1) := by decide +kernel
theorem dL_gain_138 : decode cL_gain 138 = .ok (.ladd, 1) := by decide +kernel
theorem dL_gain_139 : decode cL_gain 139 = .ok (.lmul, 1) := by decide +kernel
theorem dL_gain_140 : decode cL_gain 140 = .ok (.lstore 5, 2) := by decide +kernel
theorem dL_gain_142 : decode cL_gain 142 = .ok (.iinc 7 1, 3) := by decide +kernel
theorem dL_gain_145 : decode cL_gain 145 = .ok (.goto (-139), 3) := by decide +kernel
theorem dL_gain_148 : decode cL_gain 148 = .ok (.lload 5, 2) := by decide +kernel
theorem dL_gain_150 : decode cL_gain 150 = .ok (.lreturn, 1) := by decide +kernel
theorem dL_next_0 : decode cL_next 0 = .ok (.iload_n 2, 1) := by decide +kernel
theorem dL_next_1 : decode cL_next 1 = .ok (.sipush 1000, 3) := by decide +kernel
theorem dL_next_4 : decode cL_next 4 = .ok (.idiv, 1) := by decide +kernel
theorem dL_next_5 : decode cL_next 5 = .ok (.sipush 500, 3) := by decide +kernel
theorem dL_next_8 : decode cL_next 8 = .ok (.isub, 1) := by decide +kernel
theorem dL_next_9 : decode cL_next 9 = .ok (.istore_n 3, 1) := by decide +kernel
theorem dL_next_10 : decode cL_next 10 = .ok (.iload_n 2, 1) := by decide +kernel
theorem dL_next_11 : decode cL_next 11 = .ok (.sipush 1000, 3) := by decide +kernel
theorem dL_next_14 : decode cL_next 14 = .ok (.irem, 1) := by decide +kernel
theorem dL_next_15 : decode cL_next 15 = .ok (.sipush 500, 3) := by decide +kernel
theorem dL_next_18 : decode cL_next 18 = .ok (.isub, 1) := by decide +kernel
theorem dL_next_19 : decode cL_next 19 = .ok (.istore 4, 2) := by decide +kernel
theorem dL_next_21 : decode cL_next 21 = .ok (.aload_n 0, 1) := by decide +kernel
theorem dL_next_22 : decode cL_next 22 = .ok (.iload_n 1, 1) := by decide +kernel
theorem dL_next_23 : decode cL_next 23 = .ok (.iconst 3, 1) := by decide +kernel
theorem dL_next_24 : decode cL_next 24 = .ok (.iadd, 1) := by decide +kernel
theorem dL_next_25 : decode cL_next 25 = .ok (.iaload, 1) := by decide +kernel
theorem dL_next_26 : decode cL_next 26 = .ok (.ineg, 1) := by decide +kernel
theorem dL_next_27 : decode cL_next 27 = .ok (.iload_n 3, 1) := by decide +kernel
theorem dL_next_28 : decode cL_next 28 = .ok (.imul, 1) := by decide +kernel
theorem dL_next_29 : decode cL_next 29 = .ok (.aload_n 0, 1) := by decide +kernel
theorem dL_next_30 : decode cL_next 30 = .ok (.iload_n 1, 1) := by decide +kernel
theorem dL_next_31 : decode cL_next 31 = .ok (.iconst 4, 1) := by decide +kernel
theorem dL_next_32 : decode cL_next 32 = .ok (.iadd, 1) := by decide +kernel
theorem dL_next_33 : decode cL_next 33 = .ok (.iaload, 1) := by decide +kernel
theorem dL_next_34 : decode cL_next 34 = .ok (.iload 4, 2) := by decide +kernel
theorem dL_next_36 : decode cL_next 36 = .ok (.imul, 1) := by decide +kernel
theorem dL_next_37 : decode cL_next 37 = .ok (.isub, 1) := by decide +kernel
theorem dL_next_38 : decode cL_next 38 = .ok (.aload_n 0, 1) := by decide +kernel
theorem dL_next_39 : decode cL_next 39 = .ok (.iload_n 1, 1) := by decide +kernel
theorem dL_next_40 : decode cL_next 40 = .ok (.iconst 5, 1) := by decide +kernel
theorem dL_next_41 : decode cL_next 41 = .ok (.iadd, 1) := by decide +kernel
theorem dL_next_42 : decode cL_next 42 = .ok (.iaload, 1) := by decide +kernel
theorem dL_next_43 : decode cL_next 43 = .ok (.iconst 2, 1) := by decide +kernel
theorem dL_next_44 : decode cL_next 44 = .ok (.if_icmp .ne 8, 3) := by decide +kernel
theorem dL_next_47 : decode cL_next 47 = .ok (.bipush 32, 2) := by decide +kernel
theorem dL_next_49 : decode cL_next 49 = .ok (.goto 4, 3) := by decide +kernel
theorem dL_next_52 : decode cL_next 52 = .ok (.iconst 0, 1) := by decide +kernel
theorem dL_next_53 : decode cL_next 53 = .ok (.iadd, 1) := by decide +kernel
theorem dL_next_54 : decode cL_next 54 = .ok (.istore 5, 2) := by decide +kernel
theorem dL_next_56 : decode cL_next 56 = .ok (.iload 5, 2) := by decide +kernel
theorem dL_next_58 : decode cL_next 58 = .ok (.bipush 64, 2) := by decide +kernel
theorem dL_next_60 : decode cL_next 60 = .ok (.idiv, 1) := by decide +kernel
theorem dL_next_61 : decode cL_next 61 = .ok (.istore 6, 2) := by decide +kernel
theorem dL_next_63 : decode cL_next 63 = .ok (.aload_n 0, 1) := by decide +kernel
theorem dL_next_64 : decode cL_next 64 = .ok (.iload_n 1, 1) := by decide +kernel
theorem dL_next_65 : decode cL_next 65 = .ok (.iconst 5, 1) := by decide +kernel
theorem dL_next_66 : decode cL_next 66 = .ok (.iadd, 1) := by decide +kernel
theorem dL_next_67 : decode cL_next 67 = .ok (.iaload, 1) := by decide +kernel
theorem dL_next_68 : decode cL_next 68 = .ok (.ifCond .le 18, 3) := by decide +kernel
theorem dL_next_71 : decode cL_next 71 = .ok (.iload 5, 2) := by decide +kernel
theorem dL_next_73 : decode cL_next 73 = .ok (.bipush 64, 2) := by decide +kernel
theorem dL_next_75 : decode cL_next 75 = .ok (.irem, 1) := by decide +kernel
theorem dL_next_76 : decode cL_next 76 = .ok (.ifCond .ge 10, 3) := by decide +kernel
theorem dL_next_79 : decode cL_next 79 = .ok (.iload 6, 2) := by decide +kernel
theorem dL_next_81 : decode cL_next 81 = .ok (.iconst 1, 1) := by decide +kernel
theorem dL_next_82 : decode cL_next 82 = .ok (.isub, 1) := by decide +kernel
theorem dL_next_83 : decode cL_next 83 = .ok (.goto 5, 3) := by decide +kernel
theorem dL_next_86 : decode cL_next 86 = .ok (.iload 6, 2) := by decide +kernel
theorem dL_next_88 : decode cL_next 88 = .ok (.istore 6, 2) := by decide +kernel
theorem dL_next_90 : decode cL_next 90 = .ok (.iload 6, 2) := by decide +kernel
theorem dL_next_92 : decode cL_next 92 = .ok (.bipush 100, 2) := by decide +kernel
theorem dL_next_94 : decode cL_next 94 = .ok (.if_icmp .gt 10, 3) := by decide +kernel
theorem dL_next_97 : decode cL_next 97 = .ok (.iload 6, 2) := by decide +kernel
theorem dL_next_99 : decode cL_next 99 = .ok (.bipush (-100), 2) := by decide +kernel
theorem dL_next_101 : decode cL_next 101 = .ok (.if_icmp .ge 7, 3) := by decide +kernel
theorem dL_next_104 : decode cL_next 104 = .ok (.iconst (-1), 1) := by decide +kernel
theorem dL_next_105 : decode cL_next 105 = .ok (.goto 19, 3) := by decide +kernel
theorem dL_next_108 : decode cL_next 108 = .ok (.sipush 1000, 3) := by decide +kernel
theorem dL_next_111 : decode cL_next 111 = .ok (.iload 6, 2) := by decide +kernel
theorem dL_next_113 : decode cL_next 113 = .ok (.sipush 500, 3) := by decide +kernel
theorem dL_next_116 : decode cL_next 116 = .ok (.iadd, 1) := by decide +kernel
theorem dL_next_117 : decode cL_next 117 = .ok (.imul, 1) := by decide +kernel
theorem dL_next_118 : decode cL_next 118 = .ok (.iload_n 3, 1) := by decide +kernel
theorem dL_next_119 : decode cL_next 119 = .ok (.iadd, 1) := by decide +kernel
theorem dL_next_120 : decode cL_next 120 = .ok (.sipush 500, 3) := by decide +kernel
theorem dL_next_123 : decode cL_next 123 = .ok (.iadd, 1) := by decide +kernel
theorem dL_next_124 : decode cL_next 124 = .ok (.ireturn, 1) := by decide +kernel
theorem dL_cycle_0 : decode cL_cycle 0 = .ok (.iload_n 2, 1) := by decide +kernel
theorem dL_cycle_1 : decode cL_cycle 1 = .ok (.istore_n 3, 1) := by decide +kernel
theorem dL_cycle_2 : decode cL_cycle 2 = .ok (.iload_n 2, 1) := by decide +kernel
theorem dL_cycle_3 : decode cL_cycle 3 = .ok (.istore 4, 2) := by decide +kernel
theorem dL_cycle_5 : decode cL_cycle 5 = .ok (.iconst 0, 1) := by decide +kernel
theorem dL_cycle_6 : decode cL_cycle 6 = .ok (.istore 5, 2) := by decide +kernel
theorem dL_cycle_8 : decode cL_cycle 8 = .ok (.iload 5, 2) := by decide +kernel
theorem dL_cycle_10 : decode cL_cycle 10 = .ok (.ifCond .ne 60, 3) := by decide +kernel
theorem dL_cycle_13 : decode cL_cycle 13 = .ok (.aload_n 0, 1) := by decide +kernel
theorem dL_cycle_14 : decode cL_cycle 14 = .ok (.iload_n 1, 1) := by decide +kernel
theorem dL_cycle_15 : decode cL_cycle 15 = .ok (.iload 4, 2) := by decide +kernel
theorem dL_cycle_17 : decode cL_cycle 17 = .ok (.invokestatic 46, 3) := by decide +kernel
theorem dL_cycle_20 : decode cL_cycle 20 = .ok (.istore 4, 2) := by decide +kernel
theorem dL_cycle_22 : decode cL_cycle 22 = .ok (.iload 4, 2) := by decide +kernel
theorem dL_cycle_24 : decode cL_cycle 24 = .ok (.ifCond .ge 7, 3) := by decide +kernel
theorem dL_cycle_27 : decode cL_cycle 27 = .ok (.iconst (-1), 1) := by decide +kernel
theorem dL_cycle_28 : decode cL_cycle 28 = .ok (.goto 10, 3) := by decide +kernel
theorem dL_cycle_31 : decode cL_cycle 31 = .ok (.aload_n 0, 1) := by decide +kernel
theorem dL_cycle_32 : decode cL_cycle 32 = .ok (.iload_n 1, 1) := by decide +kernel
theorem dL_cycle_33 : decode cL_cycle 33 = .ok (.iload 4, 2) := by decide +kernel
theorem dL_cycle_35 : decode cL_cycle 35 = .ok (.invokestatic 46, 3) := by decide +kernel
theorem dL_cycle_38 : decode cL_cycle 38 = .ok (.istore 4, 2) := by decide +kernel
theorem dL_cycle_40 : decode cL_cycle 40 = .ok (.iload 4, 2) := by decide +kernel
theorem dL_cycle_42 : decode cL_cycle 42 = .ok (.ifCond .ge 5, 3) := by decide +kernel
theorem dL_cycle_45 : decode cL_cycle 45 = .ok (.iconst (-1), 1) := by decide +kernel
theorem dL_cycle_46 : decode cL_cycle 46 = .ok (.ireturn, 1) := by decide +kernel
theorem dL_cycle_47 : decode cL_cycle 47 = .ok (.aload_n 0, 1) := by decide +kernel
theorem dL_cycle_48 : decode cL_cycle 48 = .ok (.iload_n 1, 1) := by decide +kernel
theorem dL_cycle_49 : decode cL_cycle 49 = .ok (.iload_n 3, 1) := by decide +kernel
theorem dL_cycle_50 : decode cL_cycle 50 = .ok (.invokestatic 46, 3) := by decide +kernel
theorem dL_cycle_53 : decode cL_cycle 53 = .ok (.istore_n 3, 1) := by decide +kernel
theorem dL_cycle_54 : decode cL_cycle 54 = .ok (.iload_n 3, 1) := by decide +kernel
theorem dL_cycle_55 : decode cL_cycle 55 = .ok (.iload 4, 2) := by decide +kernel
theorem dL_cycle_57 : decode cL_cycle 57 = .ok (.if_icmp .ne 7, 3) := by decide +kernel
theorem dL_cycle_60 : decode cL_cycle 60 = .ok (.iconst 1, 1) := by decide +kernel
theorem dL_cycle_61 : decode cL_cycle 61 = .ok (.goto 4, 3) := by decide +kernel
theorem dL_cycle_64 : decode cL_cycle 64 = .ok (.iconst 0, 1) := by decide +kernel
theorem dL_cycle_65 : decode cL_cycle 65 = .ok (.istore 5, 2) := by decide +kernel
theorem dL_cycle_67 : decode cL_cycle 67 = .ok (.goto (-59), 3) := by decide +kernel
theorem dL_cycle_70 : decode cL_cycle 70 = .ok (.iload_n 3, 1) := by decide +kernel
theorem dL_cycle_71 : decode cL_cycle 71 = .ok (.istore 6, 2) := by decide +kernel
theorem dL_cycle_73 : decode cL_cycle 73 = .ok (.aload_n 0, 1) := by decide +kernel
theorem dL_cycle_74 : decode cL_cycle 74 = .ok (.iload_n 1, 1) := by decide +kernel
theorem dL_cycle_75 : decode cL_cycle 75 = .ok (.iload_n 3, 1) := by decide +kernel
theorem dL_cycle_76 : decode cL_cycle 76 = .ok (.invokestatic 46, 3) := by decide +kernel
theorem dL_cycle_79 : decode cL_cycle 79 = .ok (.istore 7, 2) := by decide +kernel
theorem dL_cycle_81 : decode cL_cycle 81 = .ok (.iload 7, 2) := by decide +kernel
theorem dL_cycle_83 : decode cL_cycle 83 = .ok (.iload_n 3, 1) := by decide +kernel
theorem dL_cycle_84 : decode cL_cycle 84 = .ok (.if_icmp .eq 31, 3) := by decide +kernel
theorem dL_cycle_87 : decode cL_cycle 87 = .ok (.iload 7, 2) := by decide +kernel
theorem dL_cycle_89 : decode cL_cycle 89 = .ok (.iload 6, 2) := by decide +kernel
theorem dL_cycle_91 : decode cL_cycle 91 = .ok (.if_icmp .ge 8, 3) := by decide +kernel
theorem dL_cycle_94 : decode cL_cycle 94 = .ok (.iload 7, 2) := by decide +kernel
theorem dL_cycle_96 : decode cL_cycle 96 = .ok (.goto 5, 3) := by decide +kernel
theorem dL_cycle_99 : decode cL_cycle 99 = .ok (.iload 6, 2) := by decide +kernel
theorem dL_cycle_101 : decode cL_cycle 101 = .ok (.istore 6, 2) := by decide +kernel
theorem dL_cycle_103 : decode cL_cycle 103 = .ok (.aload_n 0, 1) := by decide +kernel
theorem dL_cycle_104 : decode cL_cycle 104 = .ok (.iload_n 1, 1) := by decide +kernel
theorem dL_cycle_105 : decode cL_cycle 105 = .ok (.iload 7, 2) := by decide +kernel
theorem dL_cycle_107 : decode cL_cycle 107 = .ok (.invokestatic 46, 3) := by decide +kernel
theorem dL_cycle_110 : decode cL_cycle 110 = .ok (.istore 7, 2) := by decide +kernel
theorem dL_cycle_112 : decode cL_cycle 112 = .ok (.goto (-31), 3) := by decide +kernel
theorem dL_cycle_115 : decode cL_cycle 115 = .ok (.iload 6, 2) := by decide +kernel
theorem dL_cycle_117 : decode cL_cycle 117 = .ok (.ireturn, 1) := by decide +kernel
theorem dL_power_0 : decode cL_power 0 = .ok (.iconst 1, 1) := by decide +kernel
theorem dL_power_1 : decode cL_power 1 = .ok (.istore_n 1, 1) := by decide +kernel
theorem dL_power_2 : decode cL_power 2 = .ok (.iload_n 0, 1) := by decide +kernel
theorem dL_power_3 : decode cL_power 3 = .ok (.bipush 32, 2) := by decide +kernel
theorem dL_power_5 : decode cL_power 5 = .ok (.irem, 1) := by decide +kernel
theorem dL_power_6 : decode cL_power 6 = .ok (.istore_n 2, 1) := by decide +kernel
theorem dL_power_7 : decode cL_power 7 = .ok (.iload_n 2, 1) := by decide +kernel
theorem dL_power_8 : decode cL_power 8 = .ok (.ifCond .le 17, 3) := by decide +kernel
theorem dL_power_11 : decode cL_power 11 = .ok (.bipush 28, 2) := by decide +kernel
theorem dL_power_13 : decode cL_power 13 = .ok (.iload_n 1, 1) := by decide +kernel
theorem dL_power_14 : decode cL_power 14 = .ok (.imul, 1) := by decide +kernel
theorem dL_power_15 : decode cL_power 15 = .ok (.bipush 97, 2) := by decide +kernel
theorem dL_power_17 : decode cL_power 17 = .ok (.irem, 1) := by decide +kernel
theorem dL_power_18 : decode cL_power 18 = .ok (.istore_n 1, 1) := by decide +kernel
theorem dL_power_19 : decode cL_power 19 = .ok (.iinc 2 (-1), 3) := by decide +kernel
theorem dL_power_22 : decode cL_power 22 = .ok (.goto (-15), 3) := by decide +kernel
theorem dL_power_25 : decode cL_power 25 = .ok (.iload_n 1, 1) := by decide +kernel
theorem dL_power_26 : decode cL_power 26 = .ok (.ireturn, 1) := by decide +kernel
theorem dL_answer_0 : decode cL_answer 0 = .ok (.iconst 0, 1) := by decide +kernel
theorem dL_answer_1 : decode cL_answer 1 = .ok (.istore_n 2, 1) := by decide +kernel
theorem dL_answer_2 : decode cL_answer 2 = .ok (.iload_n 1, 1) := by decide +kernel
theorem dL_answer_3 : decode cL_answer 3 = .ok (.invokestatic 57, 3) := by decide +kernel
theorem dL_answer_6 : decode cL_answer 6 = .ok (.istore_n 3, 1) := by decide +kernel
theorem dL_answer_7 : decode cL_answer 7 = .ok (.bipush 31, 2) := by decide +kernel
theorem dL_answer_9 : decode cL_answer 9 = .ok (.istore 4, 2) := by decide +kernel
theorem dL_answer_11 : decode cL_answer 11 = .ok (.iload 4, 2) := by decide +kernel
theorem dL_answer_13 : decode cL_answer 13 = .ok (.ifCond .lt 21, 3) := by decide +kernel
theorem dL_answer_16 : decode cL_answer 16 = .ok (.iload_n 2, 1) := by decide +kernel
theorem dL_answer_17 : decode cL_answer 17 = .ok (.iload_n 3, 1) := by decide +kernel
theorem dL_answer_18 : decode cL_answer 18 = .ok (.imul, 1) := by decide +kernel
theorem dL_answer_19 : decode cL_answer 19 = .ok (.aload_n 0, 1) := by decide +kernel
theorem dL_answer_20 : decode cL_answer 20 = .ok (.iload 4, 2) := by decide +kernel
theorem dL_answer_22 : decode cL_answer 22 = .ok (.iaload, 1) := by decide +kernel
theorem dL_answer_23 : decode cL_answer 23 = .ok (.iadd, 1) := by decide +kernel
theorem dL_answer_24 : decode cL_answer 24 = .ok (.bipush 97, 2) := by decide +kernel
theorem dL_answer_26 : decode cL_answer 26 = .ok (.irem, 1) := by decide +kernel
theorem dL_answer_27 : decode cL_answer 27 = .ok (.istore_n 2, 1) := by decide +kernel
theorem dL_answer_28 : decode cL_answer 28 = .ok (.iinc 4 (-1), 3) := by decide +kernel
theorem dL_answer_31 : decode cL_answer 31 = .ok (.goto (-20), 3) := by decide +kernel
theorem dL_answer_34 : decode cL_answer 34 = .ok (.iload_n 2, 1) := by decide +kernel
theorem dL_answer_35 : decode cL_answer 35 = .ok (.ireturn, 1) := by decide +kernel
theorem dL_isDesigned_0 : decode cL_isDesigned 0 = .ok (.iconst 0, 1) := by decide +kernel
theorem dL_isDesigned_1 : decode cL_isDesigned 1 = .ok (.istore_n 3, 1) := by decide +kernel
theorem dL_isDesigned_2 : decode cL_isDesigned 2 = .ok (.iconst 0, 1) := by decide +kernel
theorem dL_isDesigned_3 : decode cL_isDesigned 3 = .ok (.istore 4, 2) := by decide +kernel
theorem dL_isDesigned_5 : decode cL_isDesigned 5 = .ok (.iload 4, 2) := by decide +kernel
theorem dL_isDesigned_7 : decode cL_isDesigned 7 = .ok (.bipush 32, 2) := by decide +kernel
theorem dL_isDesigned_9 : decode cL_isDesigned 9 = .ok (.if_icmp .ge 104, 3) := by decide +kernel
theorem dL_isDesigned_12 : decode cL_isDesigned 12 = .ok (.iconst 0, 1) := by decide +kernel
theorem dL_isDesigned_13 : decode cL_isDesigned 13 = .ok (.istore 5, 2) := by decide +kernel
theorem dL_isDesigned_15 : decode cL_isDesigned 15 = .ok (.iconst 1, 1) := by decide +kernel
theorem dL_isDesigned_16 : decode cL_isDesigned 16 = .ok (.istore 6, 2) := by decide +kernel
theorem dL_isDesigned_18 : decode cL_isDesigned 18 = .ok (.iconst 0, 1) := by decide +kernel
theorem dL_isDesigned_19 : decode cL_isDesigned 19 = .ok (.istore 7, 2) := by decide +kernel
theorem dL_isDesigned_21 : decode cL_isDesigned 21 = .ok (.iload 7, 2) := by decide +kernel
theorem dL_isDesigned_23 : decode cL_isDesigned 23 = .ok (.iload 4, 2) := by decide +kernel
theorem dL_isDesigned_25 : decode cL_isDesigned 25 = .ok (.if_icmp .ge 19, 3) := by decide +kernel
theorem dL_isDesigned_28 : decode cL_isDesigned 28 = .ok (.iload 6, 2) := by decide +kernel
theorem dL_isDesigned_30 : decode cL_isDesigned 30 = .ok (.bipush 52, 2) := by decide +kernel
theorem dL_isDesigned_32 : decode cL_isDesigned 32 = .ok (.imul, 1) := by decide +kernel
theorem dL_isDesigned_33 : decode cL_isDesigned 33 = .ok (.bipush 97, 2) := by decide +kernel
theorem dL_isDesigned_35 : decode cL_isDesigned 35 = .ok (.irem, 1) := by decide +kernel
theorem dL_isDesigned_36 : decode cL_isDesigned 36 = .ok (.istore 6, 2) := by decide +kernel
theorem dL_isDesigned_38 : decode cL_isDesigned 38 = .ok (.iinc 7 1, 3) := by decide +kernel
theorem dL_isDesigned_41 : decode cL_isDesigned 41 = .ok (.goto (-20), 3) := by decide +kernel
theorem dL_isDesigned_44 : decode cL_isDesigned 44 = .ok (.bipush 31, 2) := by decide +kernel
theorem dL_isDesigned_46 : decode cL_isDesigned 46 = .ok (.istore 7, 2) := by decide +kernel
theorem dL_isDesigned_48 : decode cL_isDesigned 48 = .ok (.iload 7, 2) := by decide +kernel
theorem dL_isDesigned_50 : decode cL_isDesigned 50 = .ok (.ifCond .lt 24, 3) := by decide +kernel
theorem dL_isDesigned_53 : decode cL_isDesigned 53 = .ok (.iload 5, 2) := by decide +kernel
theorem dL_isDesigned_55 : decode cL_isDesigned 55 = .ok (.iload 6, 2) := by decide +kernel
theorem dL_isDesigned_57 : decode cL_isDesigned 57 = .ok (.imul, 1) := by decide +kernel
theorem dL_isDesigned_58 : decode cL_isDesigned 58 = .ok (.aload_n 2, 1) := by decide +kernel
theorem dL_isDesigned_59 : decode cL_isDesigned 59 = .ok (.iload 7, 2) := by decide +kernel
theorem dL_isDesigned_61 : decode cL_isDesigned 61 = .ok (.iaload, 1) := by decide +kernel
theorem dL_isDesigned_62 : decode cL_isDesigned 62 = .ok (.iadd, 1) := by decide +kernel
theorem dL_isDesigned_63 : decode cL_isDesigned 63 = .ok (.bipush 97, 2) := by decide +kernel
theorem dL_isDesigned_65 : decode cL_isDesigned 65 = .ok (.irem, 1) := by decide +kernel
theorem dL_isDesigned_66 : decode cL_isDesigned 66 = .ok (.istore 5, 2) := by decide +kernel
theorem dL_isDesigned_68 : decode cL_isDesigned 68 = .ok (.iinc 7 (-1), 3) := by decide +kernel
theorem dL_isDesigned_71 : decode cL_isDesigned 71 = .ok (.goto (-23), 3) := by decide +kernel
theorem dL_isDesigned_74 : decode cL_isDesigned 74 = .ok (.iload 5, 2) := by decide +kernel
theorem dL_isDesigned_76 : decode cL_isDesigned 76 = .ok (.bipush 94, 2) := by decide +kernel
theorem dL_isDesigned_78 : decode cL_isDesigned 78 = .ok (.imul, 1) := by decide +kernel
theorem dL_isDesigned_79 : decode cL_isDesigned 79 = .ok (.bipush 97, 2) := by decide +kernel
theorem dL_isDesigned_81 : decode cL_isDesigned 81 = .ok (.irem, 1) := by decide +kernel
theorem dL_isDesigned_82 : decode cL_isDesigned 82 = .ok (.istore 7, 2) := by decide +kernel
theorem dL_isDesigned_84 : decode cL_isDesigned 84 = .ok (.iload_n 3, 1) := by decide +kernel
theorem dL_isDesigned_85 : decode cL_isDesigned 85 = .ok (.iload 7, 2) := by decide +kernel
theorem dL_isDesigned_87 : decode cL_isDesigned 87 = .ok (.aload_n 1, 1) := by decide +kernel
theorem dL_isDesigned_88 : decode cL_isDesigned 88 = .ok (.iload 4, 2) := by decide +kernel
theorem dL_isDesigned_90 : decode cL_isDesigned 90 = .ok (.iaload, 1) := by decide +kernel
theorem dL_isDesigned_91 : decode cL_isDesigned 91 = .ok (.if_icmp .ne 7, 3) := by decide +kernel
theorem dL_isDesigned_94 : decode cL_isDesigned 94 = .ok (.iconst 0, 1) := by decide +kernel
theorem dL_isDesigned_95 : decode cL_isDesigned 95 = .ok (.goto 4, 3) := by decide +kernel
theorem dL_isDesigned_98 : decode cL_isDesigned 98 = .ok (.iconst 1, 1) := by decide +kernel
theorem dL_isDesigned_99 : decode cL_isDesigned 99 = .ok (.iadd, 1) := by decide +kernel
theorem dL_isDesigned_100 : decode cL_isDesigned 100 = .ok (.istore_n 3, 1) := by decide +kernel
theorem dL_isDesigned_101 : decode cL_isDesigned 101 = .ok (.aload_n 1, 1) := by decide +kernel
theorem dL_isDesigned_102 : decode cL_isDesigned 102 = .ok (.iload 4, 2) := by decide +kernel
theorem dL_isDesigned_104 : decode cL_isDesigned 104 = .ok (.iload 7, 2) := by decide +kernel
theorem dL_isDesigned_106 : decode cL_isDesigned 106 = .ok (.iastore, 1) := by decide +kernel
theorem dL_isDesigned_107 : decode cL_isDesigned 107 = .ok (.iinc 4 1, 3) := by decide +kernel
theorem dL_isDesigned_110 : decode cL_isDesigned 110 = .ok (.goto (-105), 3) := by decide +kernel
theorem dL_isDesigned_113 : decode cL_isDesigned 113 = .ok (.aload_n 0, 1) := by decide +kernel
theorem dL_isDesigned_114 : decode cL_isDesigned 114 = .ok (.invokevirtual 60, 3) := by decide +kernel
theorem dL_isDesigned_117 : decode cL_isDesigned 117 = .ok (.iload_n 3, 1) := by decide +kernel
theorem dL_isDesigned_118 : decode cL_isDesigned 118 = .ok (.if_icmp .ne 7, 3) := by decide +kernel
theorem dL_isDesigned_121 : decode cL_isDesigned 121 = .ok (.iconst 1, 1) := by decide +kernel
theorem dL_isDesigned_122 : decode cL_isDesigned 122 = .ok (.goto 4, 3) := by decide +kernel
theorem dL_isDesigned_125 : decode cL_isDesigned 125 = .ok (.iconst 0, 1) := by decide +kernel
theorem dL_isDesigned_126 : decode cL_isDesigned 126 = .ok (.istore 4, 2) := by decide +kernel
theorem dL_isDesigned_128 : decode cL_isDesigned 128 = .ok (.iconst 0, 1) := by decide +kernel
theorem dL_isDesigned_129 : decode cL_isDesigned 129 = .ok (.istore 5, 2) := by decide +kernel
theorem dL_isDesigned_131 : decode cL_isDesigned 131 = .ok (.iload 5, 2) := by decide +kernel
theorem dL_isDesigned_133 : decode cL_isDesigned 133 = .ok (.bipush 32, 2) := by decide +kernel
theorem dL_isDesigned_135 : decode cL_isDesigned 135 = .ok (.if_icmp .ge 34, 3) := by decide +kernel
theorem dL_isDesigned_138 : decode cL_isDesigned 138 = .ok (.iload 4, 2) := by decide +kernel
theorem dL_isDesigned_140 : decode cL_isDesigned 140 = .ok (.ifCond .eq 29, 3) := by decide +kernel
theorem dL_isDesigned_143 : decode cL_isDesigned 143 = .ok (.aload_n 1, 1) := by decide +kernel
theorem dL_isDesigned_144 : decode cL_isDesigned 144 = .ok (.iload 5, 2) := by decide +kernel
theorem dL_isDesigned_146 : decode cL_isDesigned 146 = .ok (.invokestatic 64, 3) := by decide +kernel
theorem dL_isDesigned_149 : decode cL_isDesigned 149 = .ok (.aload_n 2, 1) := by decide +kernel
theorem dL_isDesigned_150 : decode cL_isDesigned 150 = .ok (.iload 5, 2) := by decide +kernel
theorem dL_isDesigned_152 : decode cL_isDesigned 152 = .ok (.iaload, 1) := by decide +kernel
theorem dL_isDesigned_153 : decode cL_isDesigned 153 = .ok (.if_icmp .ne 7, 3) := by decide +kernel
theorem dL_isDesigned_156 : decode cL_isDesigned 156 = .ok (.iconst 1, 1) := by decide +kernel
theorem dL_isDesigned_157 : decode cL_isDesigned 157 = .ok (.goto 4, 3) := by decide +kernel
theorem dL_isDesigned_160 : decode cL_isDesigned 160 = .ok (.iconst 0, 1) := by decide +kernel
theorem dL_isDesigned_161 : decode cL_isDesigned 161 = .ok (.istore 4, 2) := by decide +kernel
theorem dL_isDesigned_163 : decode cL_isDesigned 163 = .ok (.iinc 5 1, 3) := by decide +kernel
theorem dL_isDesigned_166 : decode cL_isDesigned 166 = .ok (.goto (-35), 3) := by decide +kernel
theorem dL_isDesigned_169 : decode cL_isDesigned 169 = .ok (.iload 4, 2) := by decide +kernel
theorem dL_isDesigned_171 : decode cL_isDesigned 171 = .ok (.ireturn, 1) := by decide +kernel
theorem dL_rest_0 : decode cL_rest 0 = .ok (.iload_n 0, 1) := by decide +kernel
theorem dL_rest_1 : decode cL_rest 1 = .ok (.bipush 97, 2) := by decide +kernel
theorem dL_rest_3 : decode cL_rest 3 = .ok (.irem, 1) := by decide +kernel
theorem dL_rest_4 : decode cL_rest 4 = .ok (.ifCond .ge 13, 3) := by decide +kernel
theorem dL_rest_7 : decode cL_rest 7 = .ok (.iload_n 0, 1) := by decide +kernel
theorem dL_rest_8 : decode cL_rest 8 = .ok (.bipush 97, 2) := by decide +kernel
theorem dL_rest_10 : decode cL_rest 10 = .ok (.irem, 1) := by decide +kernel
theorem dL_rest_11 : decode cL_rest 11 = .ok (.bipush 97, 2) := by decide +kernel
theorem dL_rest_13 : decode cL_rest 13 = .ok (.iadd, 1) := by decide +kernel
theorem dL_rest_14 : decode cL_rest 14 = .ok (.goto 7, 3) := by decide +kernel
theorem dL_rest_17 : decode cL_rest 17 = .ok (.iload_n 0, 1) := by decide +kernel
theorem dL_rest_18 : decode cL_rest 18 = .ok (.bipush 97, 2) := by decide +kernel
theorem dL_rest_20 : decode cL_rest 20 = .ok (.irem, 1) := by decide +kernel
theorem dL_rest_21 : decode cL_rest 21 = .ok (.ireturn, 1) := by decide +kernel
theorem dL_sifted_0 : decode cL_sifted 0 = .ok (.iconst 0, 1) := by decide +kernel
theorem dL_sifted_1 : decode cL_sifted 1 = .ok (.istore 4, 2) := by decide +kernel
theorem dL_sifted_3 : decode cL_sifted 3 = .ok (.iload_n 3, 1) := by decide +kernel
theorem dL_sifted_4 : decode cL_sifted 4 = .ok (.istore 5, 2) := by decide +kernel
theorem dL_sifted_6 : decode cL_sifted 6 = .ok (.iload 5, 2) := by decide +kernel
theorem dL_sifted_8 : decode cL_sifted 8 = .ok (.aload_n 2, 1) := by decide +kernel
theorem dL_sifted_9 : decode cL_sifted 9 = .ok (.iconst 3, 1) := by decide +kernel
theorem dL_sifted_10 : decode cL_sifted 10 = .ok (.iaload, 1) := by decide +kernel
theorem dL_sifted_11 : decode cL_sifted 11 = .ok (.if_icmp .ge 34, 3) := by decide +kernel
theorem dL_sifted_14 : decode cL_sifted 14 = .ok (.iload 5, 2) := by decide +kernel
theorem dL_sifted_16 : decode cL_sifted 16 = .ok (.iload_n 3, 1) := by decide +kernel
theorem dL_sifted_17 : decode cL_sifted 17 = .ok (.bipush 32, 2) := by decide +kernel
theorem dL_sifted_19 : decode cL_sifted 19 = .ok (.iadd, 1) := by decide +kernel
theorem dL_sifted_20 : decode cL_sifted 20 = .ok (.if_icmp .ge 25, 3) := by decide +kernel
theorem dL_sifted_23 : decode cL_sifted 23 = .ok (.iload 4, 2) := by decide +kernel
theorem dL_sifted_25 : decode cL_sifted 25 = .ok (.aload_n 0, 1) := by decide +kernel
theorem dL_sifted_26 : decode cL_sifted 26 = .ok (.iload 5, 2) := by decide +kernel
theorem dL_sifted_28 : decode cL_sifted 28 = .ok (.iload_n 3, 1) := by decide +kernel
theorem dL_sifted_29 : decode cL_sifted 29 = .ok (.isub, 1) := by decide +kernel
theorem dL_sifted_30 : decode cL_sifted 30 = .ok (.iaload, 1) := by decide +kernel
theorem dL_sifted_31 : decode cL_sifted 31 = .ok (.aload_n 1, 1) := by decide +kernel
theorem dL_sifted_32 : decode cL_sifted 32 = .ok (.iload 5, 2) := by decide +kernel
theorem dL_sifted_34 : decode cL_sifted 34 = .ok (.iaload, 1) := by decide +kernel
theorem dL_sifted_35 : decode cL_sifted 35 = .ok (.imul, 1) := by decide +kernel
theorem dL_sifted_36 : decode cL_sifted 36 = .ok (.iadd, 1) := by decide +kernel
theorem dL_sifted_37 : decode cL_sifted 37 = .ok (.istore 4, 2) := by decide +kernel
theorem dL_sifted_39 : decode cL_sifted 39 = .ok (.iinc 5 1, 3) := by decide +kernel
theorem dL_sifted_42 : decode cL_sifted 42 = .ok (.goto (-36), 3) := by decide +kernel
theorem dL_sifted_45 : decode cL_sifted 45 = .ok (.iload_n 3, 1) := by decide +kernel
theorem dL_sifted_46 : decode cL_sifted 46 = .ok (.aload_n 2, 1) := by decide +kernel
theorem dL_sifted_47 : decode cL_sifted 47 = .ok (.iconst 3, 1) := by decide +kernel
theorem dL_sifted_48 : decode cL_sifted 48 = .ok (.iaload, 1) := by decide +kernel
theorem dL_sifted_49 : decode cL_sifted 49 = .ok (.if_icmp .ge 11, 3) := by decide +kernel
theorem dL_sifted_52 : decode cL_sifted 52 = .ok (.iload 4, 2) := by decide +kernel
theorem dL_sifted_54 : decode cL_sifted 54 = .ok (.bipush 97, 2) := by decide +kernel
theorem dL_sifted_56 : decode cL_sifted 56 = .ok (.irem, 1) := by decide +kernel
theorem dL_sifted_57 : decode cL_sifted 57 = .ok (.goto 4, 3) := by decide +kernel
theorem dL_sifted_60 : decode cL_sifted 60 = .ok (.iconst (-1), 1) := by decide +kernel
theorem dL_sifted_61 : decode cL_sifted 61 = .ok (.ireturn, 1) := by decide +kernel
theorem dL_isChained_0 : decode cL_isChained 0 = .ok (.iconst 0, 1) := by decide +kernel
theorem dL_isChained_1 : decode cL_isChained 1 = .ok (.istore 4, 2) := by decide +kernel
theorem dL_isChained_3 : decode cL_isChained 3 = .ok (.iload 4, 2) := by decide +kernel
theorem dL_isChained_5 : decode cL_isChained 5 = .ok (.aload_n 2, 1) := by decide +kernel
theorem dL_isChained_6 : decode cL_isChained 6 = .ok (.iconst 1, 1) := by decide +kernel
theorem dL_isChained_7 : decode cL_isChained 7 = .ok (.iaload, 1) := by decide +kernel
theorem dL_isChained_8 : decode cL_isChained 8 = .ok (.if_icmp .ge 17, 3) := by decide +kernel
theorem dL_isChained_11 : decode cL_isChained 11 = .ok (.aload_n 1, 1) := by decide +kernel
theorem dL_isChained_12 : decode cL_isChained 12 = .ok (.iload 4, 2) := by decide +kernel
theorem dL_isChained_14 : decode cL_isChained 14 = .ok (.iaload, 1) := by decide +kernel
theorem dL_isChained_15 : decode cL_isChained 15 = .ok (.iload_n 3, 1) := by decide +kernel
theorem dL_isChained_16 : decode cL_isChained 16 = .ok (.if_icmp .eq 9, 3) := by decide +kernel
theorem dL_isChained_19 : decode cL_isChained 19 = .ok (.iinc 4 1, 3) := by decide +kernel
theorem dL_isChained_22 : decode cL_isChained 22 = .ok (.goto (-19), 3) := by decide +kernel
theorem dL_isChained_25 : decode cL_isChained 25 = .ok (.iload 4, 2) := by decide +kernel
theorem dL_isChained_27 : decode cL_isChained 27 = .ok (.aload_n 2, 1) := by decide +kernel
theorem dL_isChained_28 : decode cL_isChained 28 = .ok (.iconst 1, 1) := by decide +kernel
theorem dL_isChained_29 : decode cL_isChained 29 = .ok (.iaload, 1) := by decide +kernel
theorem dL_isChained_30 : decode cL_isChained 30 = .ok (.if_icmp .ne 18, 3) := by decide +kernel
theorem dL_isChained_33 : decode cL_isChained 33 = .ok (.aload_n 1, 1) := by decide +kernel
theorem dL_isChained_34 : decode cL_isChained 34 = .ok (.iload 4, 2) := by decide +kernel
theorem dL_isChained_36 : decode cL_isChained 36 = .ok (.iload_n 3, 1) := by decide +kernel
theorem dL_isChained_37 : decode cL_isChained 37 = .ok (.iastore, 1) := by decide +kernel
theorem dL_isChained_38 : decode cL_isChained 38 = .ok (.aload_n 2, 1) := by decide +kernel
theorem dL_isChained_39 : decode cL_isChained 39 = .ok (.iconst 1, 1) := by decide +kernel
theorem dL_isChained_40 : decode cL_isChained 40 = .ok (.dup2, 1) := by decide +kernel
theorem dL_isChained_41 : decode cL_isChained 41 = .ok (.iaload, 1) := by decide +kernel
theorem dL_isChained_42 : decode cL_isChained 42 = .ok (.iconst 1, 1) := by decide +kernel
theorem dL_isChained_43 : decode cL_isChained 43 = .ok (.iadd, 1) := by decide +kernel
theorem dL_isChained_44 : decode cL_isChained 44 = .ok (.iastore, 1) := by decide +kernel
theorem dL_isChained_45 : decode cL_isChained 45 = .ok (.goto 38, 3) := by decide +kernel
theorem dL_isChained_48 : decode cL_isChained 48 = .ok (.aload_n 2, 1) := by decide +kernel
theorem dL_isChained_49 : decode cL_isChained 49 = .ok (.iconst 1, 1) := by decide +kernel
theorem dL_isChained_50 : decode cL_isChained 50 = .ok (.dup2, 1) := by decide +kernel
theorem dL_isChained_51 : decode cL_isChained 51 = .ok (.iaload, 1) := by decide +kernel
theorem dL_isChained_52 : decode cL_isChained 52 = .ok (.iconst 1, 1) := by decide +kernel
theorem dL_isChained_53 : decode cL_isChained 53 = .ok (.isub, 1) := by decide +kernel
theorem dL_isChained_54 : decode cL_isChained 54 = .ok (.iastore, 1) := by decide +kernel
theorem dL_isChained_55 : decode cL_isChained 55 = .ok (.iload 4, 2) := by decide +kernel
theorem dL_isChained_57 : decode cL_isChained 57 = .ok (.istore 5, 2) := by decide +kernel
theorem dL_isChained_59 : decode cL_isChained 59 = .ok (.iload 5, 2) := by decide +kernel
theorem dL_isChained_61 : decode cL_isChained 61 = .ok (.aload_n 2, 1) := by decide +kernel
theorem dL_isChained_62 : decode cL_isChained 62 = .ok (.iconst 1, 1) := by decide +kernel
theorem dL_isChained_63 : decode cL_isChained 63 = .ok (.iaload, 1) := by decide +kernel
theorem dL_isChained_64 : decode cL_isChained 64 = .ok (.if_icmp .ge 19, 3) := by decide +kernel
theorem dL_isChained_67 : decode cL_isChained 67 = .ok (.aload_n 1, 1) := by decide +kernel
theorem dL_isChained_68 : decode cL_isChained 68 = .ok (.iload 5, 2) := by decide +kernel
theorem dL_isChained_70 : decode cL_isChained 70 = .ok (.aload_n 1, 1) := by decide +kernel
theorem dL_isChained_71 : decode cL_isChained 71 = .ok (.iload 5, 2) := by decide +kernel
theorem dL_isChained_73 : decode cL_isChained 73 = .ok (.iconst 1, 1) := by decide +kernel
theorem dL_isChained_74 : decode cL_isChained 74 = .ok (.iadd, 1) := by decide +kernel
theorem dL_isChained_75 : decode cL_isChained 75 = .ok (.iaload, 1) := by decide +kernel
theorem dL_isChained_76 : decode cL_isChained 76 = .ok (.iastore, 1) := by decide +kernel
theorem dL_isChained_77 : decode cL_isChained 77 = .ok (.iinc 5 1, 3) := by decide +kernel
theorem dL_isChained_80 : decode cL_isChained 80 = .ok (.goto (-21), 3) := by decide +kernel
theorem dL_isChained_83 : decode cL_isChained 83 = .ok (.aload_n 0, 1) := by decide +kernel
theorem dL_isChained_84 : decode cL_isChained 84 = .ok (.iload_n 3, 1) := by decide +kernel
theorem dL_isChained_85 : decode cL_isChained 85 = .ok (.invokevirtual 88, 3) := by decide +kernel
theorem dL_isChained_88 : decode cL_isChained 88 = .ok (.aload_n 2, 1) := by decide +kernel
theorem dL_isChained_89 : decode cL_isChained 89 = .ok (.iconst 1, 1) := by decide +kernel
theorem dL_isChained_90 : decode cL_isChained 90 = .ok (.iaload, 1) := by decide +kernel
theorem dL_isChained_91 : decode cL_isChained 91 = .ok (.if_icmp .ne 7, 3) := by decide +kernel
theorem dL_isChained_94 : decode cL_isChained 94 = .ok (.iconst 1, 1) := by decide +kernel
theorem dL_isChained_95 : decode cL_isChained 95 = .ok (.goto 4, 3) := by decide +kernel
theorem dL_isChained_98 : decode cL_isChained 98 = .ok (.iconst 0, 1) := by decide +kernel
theorem dL_isChained_99 : decode cL_isChained 99 = .ok (.ireturn, 1) := by decide +kernel
theorem dL_isArranged_0 : decode cL_isArranged 0 = .ok (.iconst 4, 1) := by decide +kernel
theorem dL_isArranged_1 : decode cL_isArranged 1 = .ok (.newarray .int, 2) := by decide +kernel
theorem dL_isArranged_3 : decode cL_isArranged 3 = .ok (.astore 4, 2) := by decide +kernel
theorem dL_isArranged_5 : decode cL_isArranged 5 = .ok (.iconst 0, 1) := by decide +kernel
theorem dL_isArranged_6 : decode cL_isArranged 6 = .ok (.istore 5, 2) := by decide +kernel
theorem dL_isArranged_8 : decode cL_isArranged 8 = .ok (.iload 5, 2) := by decide +kernel
theorem dL_isArranged_10 : decode cL_isArranged 10 = .ok (.aload_n 3, 1) := by decide +kernel
theorem dL_isArranged_11 : decode cL_isArranged 11 = .ok (.iconst 1, 1) := by decide +kernel
theorem dL_isArranged_12 : decode cL_isArranged 12 = .ok (.iaload, 1) := by decide +kernel
theorem dL_isArranged_13 : decode cL_isArranged 13 = .ok (.if_icmp .ge 18, 3) := by decide +kernel
theorem dL_isArranged_16 : decode cL_isArranged 16 = .ok (.aload 4, 2) := by decide +kernel
theorem dL_isArranged_18 : decode cL_isArranged 18 = .ok (.iload 5, 2) := by decide +kernel
theorem dL_isArranged_20 : decode cL_isArranged 20 = .ok (.aload_n 2, 1) := by decide +kernel
theorem dL_isArranged_21 : decode cL_isArranged 21 = .ok (.iload 5, 2) := by decide +kernel
theorem dL_isArranged_23 : decode cL_isArranged 23 = .ok (.iaload, 1) := by decide +kernel
theorem dL_isArranged_24 : decode cL_isArranged 24 = .ok (.iastore, 1) := by decide +kernel
theorem dL_isArranged_25 : decode cL_isArranged 25 = .ok (.iinc 5 1, 3) := by decide +kernel
theorem dL_isArranged_28 : decode cL_isArranged 28 = .ok (.goto (-20), 3) := by decide +kernel
theorem dL_isArranged_31 : decode cL_isArranged 31 = .ok (.iconst 1, 1) := by decide +kernel
theorem dL_isArranged_32 : decode cL_isArranged 32 = .ok (.istore 5, 2) := by decide +kernel
theorem dL_isArranged_34 : decode cL_isArranged 34 = .ok (.iload 5, 2) := by decide +kernel
theorem dL_isArranged_36 : decode cL_isArranged 36 = .ok (.aload_n 3, 1) := by decide +kernel
theorem dL_isArranged_37 : decode cL_isArranged 37 = .ok (.iconst 1, 1) := by decide +kernel
theorem dL_isArranged_38 : decode cL_isArranged 38 = .ok (.iaload, 1) := by decide +kernel
theorem dL_isArranged_39 : decode cL_isArranged 39 = .ok (.if_icmp .ge 137, 3) := by decide +kernel
theorem dL_isArranged_42 : decode cL_isArranged 42 = .ok (.aload_n 2, 1) := by decide +kernel
theorem dL_isArranged_43 : decode cL_isArranged 43 = .ok (.iload 5, 2) := by decide +kernel
theorem dL_isArranged_45 : decode cL_isArranged 45 = .ok (.iaload, 1) := by decide +kernel
theorem dL_isArranged_46 : decode cL_isArranged 46 = .ok (.istore 6, 2) := by decide +kernel
theorem dL_isArranged_48 : decode cL_isArranged 48 = .ok (.iload 5, 2) := by decide +kernel
theorem dL_isArranged_50 : decode cL_isArranged 50 = .ok (.istore 7, 2) := by decide +kernel
theorem dL_isArranged_52 : decode cL_isArranged 52 = .ok (.aload_n 1, 1) := by decide +kernel
theorem dL_isArranged_53 : decode cL_isArranged 53 = .ok (.bipush 10, 2) := by decide +kernel
theorem dL_isArranged_55 : decode cL_isArranged 55 = .ok (.iload 6, 2) := by decide +kernel
theorem dL_isArranged_57 : decode cL_isArranged 57 = .ok (.imul, 1) := by decide +kernel
theorem dL_isArranged_58 : decode cL_isArranged 58 = .ok (.iconst 4, 1) := by decide +kernel
theorem dL_isArranged_59 : decode cL_isArranged 59 = .ok (.iadd, 1) := by decide +kernel
theorem dL_isArranged_60 : decode cL_isArranged 60 = .ok (.iaload, 1) := by decide +kernel
theorem dL_isArranged_61 : decode cL_isArranged 61 = .ok (.sipush 200, 3) := by decide +kernel
theorem dL_isArranged_64 : decode cL_isArranged 64 = .ok (.iadd, 1) := by decide +kernel
theorem dL_isArranged_65 : decode cL_isArranged 65 = .ok (.sipush 10000, 3) := by decide +kernel
theorem dL_isArranged_68 : decode cL_isArranged 68 = .ok (.imul, 1) := by decide +kernel
theorem dL_isArranged_69 : decode cL_isArranged 69 = .ok (.aload_n 1, 1) := by decide +kernel
theorem dL_isArranged_70 : decode cL_isArranged 70 = .ok (.bipush 10, 2) := by decide +kernel
theorem dL_isArranged_72 : decode cL_isArranged 72 = .ok (.iload 6, 2) := by decide +kernel
theorem dL_isArranged_74 : decode cL_isArranged 74 = .ok (.imul, 1) := by decide +kernel
theorem dL_isArranged_75 : decode cL_isArranged 75 = .ok (.iconst 3, 1) := by decide +kernel
theorem dL_isArranged_76 : decode cL_isArranged 76 = .ok (.iadd, 1) := by decide +kernel
theorem dL_isArranged_77 : decode cL_isArranged 77 = .ok (.iaload, 1) := by decide +kernel
theorem dL_isArranged_78 : decode cL_isArranged 78 = .ok (.invokestatic 15, 3) := by decide +kernel
theorem dL_isArranged_81 : decode cL_isArranged 81 = .ok (.bipush 10, 2) := by decide +kernel
theorem dL_isArranged_83 : decode cL_isArranged 83 = .ok (.imul, 1) := by decide +kernel
theorem dL_isArranged_84 : decode cL_isArranged 84 = .ok (.iadd, 1) := by decide +kernel
theorem dL_isArranged_85 : decode cL_isArranged 85 = .ok (.iload 6, 2) := by decide +kernel
theorem dL_isArranged_87 : decode cL_isArranged 87 = .ok (.iadd, 1) := by decide +kernel
theorem dL_isArranged_88 : decode cL_isArranged 88 = .ok (.istore 8, 2) := by decide +kernel
theorem dL_isArranged_90 : decode cL_isArranged 90 = .ok (.iload 7, 2) := by decide +kernel
theorem dL_isArranged_92 : decode cL_isArranged 92 = .ok (.ifCond .le 72, 3) := by decide +kernel
theorem dL_isArranged_95 : decode cL_isArranged 95 = .ok (.aload_n 1, 1) := by decide +kernel
theorem dL_isArranged_96 : decode cL_isArranged 96 = .ok (.bipush 10, 2) := by decide +kernel
theorem dL_isArranged_98 : decode cL_isArranged 98 = .ok (.aload_n 2, 1) := by decide +kernel
theorem dL_isArranged_99 : decode cL_isArranged 99 = .ok (.iload 7, 2) := by decide +kernel
theorem dL_isArranged_101 : decode cL_isArranged 101 = .ok (.iconst 1, 1) := by decide +kernel
theorem dL_isArranged_102 : decode cL_isArranged 102 = .ok (.isub, 1) := by decide +kernel
theorem dL_isArranged_103 : decode cL_isArranged 103 = .ok (.iaload, 1) := by decide +kernel
theorem dL_isArranged_104 : decode cL_isArranged 104 = .ok (.imul, 1) := by decide +kernel
theorem dL_isArranged_105 : decode cL_isArranged 105 = .ok (.iconst 4, 1) := by decide +kernel
theorem dL_isArranged_106 : decode cL_isArranged 106 = .ok (.iadd, 1) := by decide +kernel
theorem dL_isArranged_107 : decode cL_isArranged 107 = .ok (.iaload, 1) := by decide +kernel
theorem dL_isArranged_108 : decode cL_isArranged 108 = .ok (.sipush 200, 3) := by decide +kernel
theorem dL_isArranged_111 : decode cL_isArranged 111 = .ok (.iadd, 1) := by decide +kernel
theorem dL_isArranged_112 : decode cL_isArranged 112 = .ok (.sipush 10000, 3) := by decide +kernel
theorem dL_isArranged_115 : decode cL_isArranged 115 = .ok (.imul, 1) := by decide +kernel
theorem dL_isArranged_116 : decode cL_isArranged 116 = .ok (.aload_n 1, 1) := by decide +kernel
theorem dL_isArranged_117 : decode cL_isArranged 117 = .ok (.bipush 10, 2) := by decide +kernel
theorem dL_isArranged_119 : decode cL_isArranged 119 = .ok (.aload_n 2, 1) := by decide +kernel
theorem dL_isArranged_120 : decode cL_isArranged 120 = .ok (.iload 7, 2) := by decide +kernel
theorem dL_isArranged_122 : decode cL_isArranged 122 = .ok (.iconst 1, 1) := by decide +kernel
theorem dL_isArranged_123 : decode cL_isArranged 123 = .ok (.isub, 1) := by decide +kernel
theorem dL_isArranged_124 : decode cL_isArranged 124 = .ok (.iaload, 1) := by decide +kernel
theorem dL_isArranged_125 : decode cL_isArranged 125 = .ok (.imul, 1) := by decide +kernel
theorem dL_isArranged_126 : decode cL_isArranged 126 = .ok (.iconst 3, 1) := by decide +kernel
theorem dL_isArranged_127 : decode cL_isArranged 127 = .ok (.iadd, 1) := by decide +kernel
theorem dL_isArranged_128 : decode cL_isArranged 128 = .ok (.iaload, 1) := by decide +kernel
theorem dL_isArranged_129 : decode cL_isArranged 129 = .ok (.invokestatic 15, 3) := by decide +kernel
theorem dL_isArranged_132 : decode cL_isArranged 132 = .ok (.bipush 10, 2) := by decide +kernel
theorem dL_isArranged_134 : decode cL_isArranged 134 = .ok (.imul, 1) := by decide +kernel
theorem dL_isArranged_135 : decode cL_isArranged 135 = .ok (.iadd, 1) := by decide +kernel
theorem dL_isArranged_136 : decode cL_isArranged 136 = .ok (.aload_n 2, 1) := by decide +kernel
theorem dL_isArranged_137 : decode cL_isArranged 137 = .ok (.iload 7, 2) := by decide +kernel
theorem dL_isArranged_139 : decode cL_isArranged 139 = .ok (.iconst 1, 1) := by decide +kernel
theorem dL_isArranged_140 : decode cL_isArranged 140 = .ok (.isub, 1) := by decide +kernel
theorem dL_isArranged_141 : decode cL_isArranged 141 = .ok (.iaload, 1) := by decide +kernel
theorem dL_isArranged_142 : decode cL_isArranged 142 = .ok (.iadd, 1) := by decide +kernel
theorem dL_isArranged_143 : decode cL_isArranged 143 = .ok (.iload 8, 2) := by decide +kernel
theorem dL_isArranged_145 : decode cL_isArranged 145 = .ok (.if_icmp .le 19, 3) := by decide +kernel
theorem dL_isArranged_148 : decode cL_isArranged 148 = .ok (.aload_n 2, 1) := by decide +kernel
theorem dL_isArranged_149 : decode cL_isArranged 149 = .ok (.iload 7, 2) := by decide +kernel
theorem dL_isArranged_151 : decode cL_isArranged 151 = .ok (.aload_n 2, 1) := by decide +kernel
theorem dL_isArranged_152 : decode cL_isArranged 152 = .ok (.iload 7, 2) := by decide +kernel
theorem dL_isArranged_154 : decode cL_isArranged 154 = .ok (.iconst 1, 1) := by decide +kernel
theorem dL_isArranged_155 : decode cL_isArranged 155 = .ok (.isub, 1) := by decide +kernel
theorem dL_isArranged_156 : decode cL_isArranged 156 = .ok (.iaload, 1) := by decide +kernel
theorem dL_isArranged_157 : decode cL_isArranged 157 = .ok (.iastore, 1) := by decide +kernel
theorem dL_isArranged_158 : decode cL_isArranged 158 = .ok (.iinc 7 (-1), 3) := by decide +kernel
theorem dL_isArranged_161 : decode cL_isArranged 161 = .ok (.goto (-71), 3) := by decide +kernel
theorem dL_isArranged_164 : decode cL_isArranged 164 = .ok (.aload_n 2, 1) := by decide +kernel
theorem dL_isArranged_165 : decode cL_isArranged 165 = .ok (.iload 7, 2) := by decide +kernel
theorem dL_isArranged_167 : decode cL_isArranged 167 = .ok (.iload 6, 2) := by decide +kernel
theorem dL_isArranged_169 : decode cL_isArranged 169 = .ok (.iastore, 1) := by decide +kernel
theorem dL_isArranged_170 : decode cL_isArranged 170 = .ok (.iinc 5 1, 3) := by decide +kernel
theorem dL_isArranged_173 : decode cL_isArranged 173 = .ok (.goto (-139), 3) := by decide +kernel
theorem dL_isArranged_176 : decode cL_isArranged 176 = .ok (.iconst 0, 1) := by decide +kernel
theorem dL_isArranged_177 : decode cL_isArranged 177 = .ok (.istore 5, 2) := by decide +kernel
theorem dL_isArranged_179 : decode cL_isArranged 179 = .ok (.iconst 0, 1) := by decide +kernel
theorem dL_isArranged_180 : decode cL_isArranged 180 = .ok (.istore 6, 2) := by decide +kernel
theorem dL_isArranged_182 : decode cL_isArranged 182 = .ok (.iload 6, 2) := by decide +kernel
theorem dL_isArranged_184 : decode cL_isArranged 184 = .ok (.aload_n 3, 1) := by decide +kernel
theorem dL_isArranged_185 : decode cL_isArranged 185 = .ok (.iconst 1, 1) := by decide +kernel
theorem dL_isArranged_186 : decode cL_isArranged 186 = .ok (.iaload, 1) := by decide +kernel
theorem dL_isArranged_187 : decode cL_isArranged 187 = .ok (.if_icmp .ge 31, 3) := by decide +kernel
theorem dL_isArranged_190 : decode cL_isArranged 190 = .ok (.iload 5, 2) := by decide +kernel
theorem dL_isArranged_192 : decode cL_isArranged 192 = .ok (.aload 4, 2) := by decide +kernel
theorem dL_isArranged_194 : decode cL_isArranged 194 = .ok (.iload 6, 2) := by decide +kernel
theorem dL_isArranged_196 : decode cL_isArranged 196 = .ok (.iaload, 1) := by decide +kernel
theorem dL_isArranged_197 : decode cL_isArranged 197 = .ok (.aload_n 2, 1) := by decide +kernel
theorem dL_isArranged_198 : decode cL_isArranged 198 = .ok (.iload 6, 2) := by decide +kernel
theorem dL_isArranged_200 : decode cL_isArranged 200 = .ok (.iaload, 1) := by decide +kernel
theorem dL_isArranged_201 : decode cL_isArranged 201 = .ok (.if_icmp .ne 7, 3) := by decide +kernel
theorem dL_isArranged_204 : decode cL_isArranged 204 = .ok (.iconst 0, 1) := by decide +kernel
theorem dL_isArranged_205 : decode cL_isArranged 205 = .ok (.goto 4, 3) := by decide +kernel
theorem dL_isArranged_208 : decode cL_isArranged 208 = .ok (.iconst 1, 1) := by decide +kernel
theorem dL_isArranged_209 : decode cL_isArranged 209 = .ok (.iadd, 1) := by decide +kernel
theorem dL_isArranged_210 : decode cL_isArranged 210 = .ok (.istore 5, 2) := by decide +kernel
theorem dL_isArranged_212 : decode cL_isArranged 212 = .ok (.iinc 6 1, 3) := by decide +kernel
theorem dL_isArranged_215 : decode cL_isArranged 215 = .ok (.goto (-33), 3) := by decide +kernel
theorem dL_isArranged_218 : decode cL_isArranged 218 = .ok (.aload_n 0, 1) := by decide +kernel
theorem dL_isArranged_219 : decode cL_isArranged 219 = .ok (.invokevirtual 91, 3) := by decide +kernel
theorem dL_isArranged_222 : decode cL_isArranged 222 = .ok (.iload 5, 2) := by decide +kernel
theorem dL_isArranged_224 : decode cL_isArranged 224 = .ok (.if_icmp .ne 7, 3) := by decide +kernel
theorem dL_isArranged_227 : decode cL_isArranged 227 = .ok (.iconst 1, 1) := by decide +kernel
theorem dL_isArranged_228 : decode cL_isArranged 228 = .ok (.goto 4, 3) := by decide +kernel
theorem dL_isArranged_231 : decode cL_isArranged 231 = .ok (.iconst 0, 1) := by decide +kernel
theorem dL_isArranged_232 : decode cL_isArranged 232 = .ok (.ireturn, 1) := by decide +kernel
theorem dL_holds_0 : decode cL_holds 0 = .ok (.new 34, 3) := by decide +kernel
theorem dL_holds_3 : decode cL_holds 3 = .ok (.dup, 1) := by decide +kernel
theorem dL_holds_4 : decode cL_holds 4 = .ok (.invokespecial 133, 3) := by decide +kernel
theorem dL_holds_7 : decode cL_holds 7 = .ok (.astore_n 1, 1) := by decide +kernel
theorem dL_holds_8 : decode cL_holds 8 = .ok (.bipush 40, 2) := by decide +kernel
theorem dL_holds_10 : decode cL_holds 10 = .ok (.newarray .int, 2) := by decide +kernel
theorem dL_holds_12 : decode cL_holds 12 = .ok (.astore_n 2, 1) := by decide +kernel
theorem dL_holds_13 : decode cL_holds 13 = .ok (.iconst 4, 1) := by decide +kernel
theorem dL_holds_14 : decode cL_holds 14 = .ok (.newarray .int, 2) := by decide +kernel
theorem dL_holds_16 : decode cL_holds 16 = .ok (.astore_n 3, 1) := by decide +kernel
theorem dL_holds_17 : decode cL_holds 17 = .ok (.bipush 16, 2) := by decide +kernel
theorem dL_holds_19 : decode cL_holds 19 = .ok (.newarray .int, 2) := by decide +kernel
theorem dL_holds_21 : decode cL_holds 21 = .ok (.astore 4, 2) := by decide +kernel
theorem dL_holds_23 : decode cL_holds 23 = .ok (.bipush 32, 2) := by decide +kernel
theorem dL_holds_25 : decode cL_holds 25 = .ok (.newarray .int, 2) := by decide +kernel
theorem dL_holds_27 : decode cL_holds 27 = .ok (.astore 5, 2) := by decide +kernel
theorem dL_holds_29 : decode cL_holds 29 = .ok (.bipush 32, 2) := by decide +kernel
theorem dL_holds_31 : decode cL_holds 31 = .ok (.newarray .int, 2) := by decide +kernel
theorem dL_holds_33 : decode cL_holds 33 = .ok (.astore 6, 2) := by decide +kernel
theorem dL_holds_35 : decode cL_holds 35 = .ok (.bipush 64, 2) := by decide +kernel
theorem dL_holds_37 : decode cL_holds 37 = .ok (.newarray .int, 2) := by decide +kernel
theorem dL_holds_39 : decode cL_holds 39 = .ok (.astore 7, 2) := by decide +kernel
theorem dL_holds_41 : decode cL_holds 41 = .ok (.iconst 4, 1) := by decide +kernel
theorem dL_holds_42 : decode cL_holds 42 = .ok (.newarray .int, 2) := by decide +kernel
theorem dL_holds_44 : decode cL_holds 44 = .ok (.astore 8, 2) := by decide +kernel
theorem dL_holds_46 : decode cL_holds 46 = .ok (.iconst 1, 1) := by decide +kernel
theorem dL_holds_47 : decode cL_holds 47 = .ok (.istore 9, 2) := by decide +kernel
theorem dL_holds_49 : decode cL_holds 49 = .ok (.iconst 0, 1) := by decide +kernel
theorem dL_holds_50 : decode cL_holds 50 = .ok (.istore 10, 2) := by decide +kernel
theorem dL_holds_52 : decode cL_holds 52 = .ok (.iload 10, 2) := by decide +kernel
theorem dL_holds_54 : decode cL_holds 54 = .ok (.bipush 90, 2) := by decide +kernel
theorem dL_holds_56 : decode cL_holds 56 = .ok (.if_icmp .ge 165, 3) := by decide +kernel
theorem dL_holds_59 : decode cL_holds 59 = .ok (.iload 9, 2) := by decide +kernel
theorem dL_holds_61 : decode cL_holds 61 = .ok (.ifCond .eq 160, 3) := by decide +kernel
theorem dL_holds_64 : decode cL_holds 64 = .ok (.aload_n 0, 1) := by decide +kernel
theorem dL_holds_65 : decode cL_holds 65 = .ok (.iconst 2, 1) := by decide +kernel
theorem dL_holds_66 : decode cL_holds 66 = .ok (.iload 10, 2) := by decide +kernel
theorem dL_holds_68 : decode cL_holds 68 = .ok (.imul, 1) := by decide +kernel
theorem dL_holds_69 : decode cL_holds 69 = .ok (.ldc 134, 2) := by decide +kernel
theorem dL_holds_71 : decode cL_holds 71 = .ok (.invokestatic 135, 3) := by decide +kernel
theorem dL_holds_74 : decode cL_holds 74 = .ok (.istore 11, 2) := by decide +kernel
theorem dL_holds_76 : decode cL_holds 76 = .ok (.aload_n 1, 1) := by decide +kernel
theorem dL_holds_77 : decode cL_holds 77 = .ok (.aload_n 2, 1) := by decide +kernel
theorem dL_holds_78 : decode cL_holds 78 = .ok (.aload_n 3, 1) := by decide +kernel
theorem dL_holds_79 : decode cL_holds 79 = .ok (.aload 4, 2) := by decide +kernel
theorem dL_holds_81 : decode cL_holds 81 = .ok (.aload 5, 2) := by decide +kernel
theorem dL_holds_83 : decode cL_holds 83 = .ok (.aload 6, 2) := by decide +kernel
theorem dL_holds_85 : decode cL_holds 85 = .ok (.aload 7, 2) := by decide +kernel
theorem dL_holds_87 : decode cL_holds 87 = .ok (.aload 8, 2) := by decide +kernel
theorem dL_holds_89 : decode cL_holds 89 = .ok (.aload_n 0, 1) := by decide +kernel
theorem dL_holds_90 : decode cL_holds 90 = .ok (.iconst 2, 1) := by decide +kernel
theorem dL_holds_91 : decode cL_holds 91 = .ok (.iload 10, 2) := by decide +kernel
theorem dL_holds_93 : decode cL_holds 93 = .ok (.imul, 1) := by decide +kernel
theorem dL_holds_94 : decode cL_holds 94 = .ok (.iconst 1, 1) := by decide +kernel
theorem dL_holds_95 : decode cL_holds 95 = .ok (.iadd, 1) := by decide +kernel
theorem dL_holds_96 : decode cL_holds 96 = .ok (.bipush 27, 2) := by decide +kernel
theorem dL_holds_98 : decode cL_holds 98 = .ok (.invokestatic 135, 3) := by decide +kernel
theorem dL_holds_101 : decode cL_holds 101 = .ok (.iload 11, 2) := by decide +kernel
theorem dL_holds_103 : decode cL_holds 103 = .ok (.invokestatic 138, 3) := by decide +kernel
theorem dL_holds_106 : decode cL_holds 106 = .ok (.ifCond .eq 59, 3) := by decide +kernel
theorem dL_holds_109 : decode cL_holds 109 = .ok (.aload_n 1, 1) := by decide +kernel
theorem dL_holds_110 : decode cL_holds 110 = .ok (.aload_n 2, 1) := by decide +kernel
theorem dL_holds_111 : decode cL_holds 111 = .ok (.aload_n 3, 1) := by decide +kernel
theorem dL_holds_112 : decode cL_holds 112 = .ok (.aload 4, 2) := by decide +kernel
theorem dL_holds_114 : decode cL_holds 114 = .ok (.aload 5, 2) := by decide +kernel
theorem dL_holds_116 : decode cL_holds 116 = .ok (.aload 7, 2) := by decide +kernel
theorem dL_holds_118 : decode cL_holds 118 = .ok (.aload 8, 2) := by decide +kernel
theorem dL_holds_120 : decode cL_holds 120 = .ok (.aload_n 0, 1) := by decide +kernel
theorem dL_holds_121 : decode cL_holds 121 = .ok (.sipush 401, 3) := by decide +kernel
theorem dL_holds_124 : decode cL_holds 124 = .ok (.iload 10, 2) := by decide +kernel
theorem dL_holds_126 : decode cL_holds 126 = .ok (.iadd, 1) := by decide +kernel
theorem dL_holds_127 : decode cL_holds 127 = .ok (.ldc 134, 2) := by decide +kernel
theorem dL_holds_129 : decode cL_holds 129 = .ok (.invokestatic 135, 3) := by decide +kernel
theorem dL_holds_132 : decode cL_holds 132 = .ok (.invokestatic 142, 3) := by decide +kernel
theorem dL_holds_135 : decode cL_holds 135 = .ok (.ifCond .eq 30, 3) := by decide +kernel
theorem dL_holds_138 : decode cL_holds 138 = .ok (.aload_n 1, 1) := by decide +kernel
theorem dL_holds_139 : decode cL_holds 139 = .ok (.aload_n 2, 1) := by decide +kernel
theorem dL_holds_140 : decode cL_holds 140 = .ok (.aload_n 3, 1) := by decide +kernel
theorem dL_holds_141 : decode cL_holds 141 = .ok (.aload 8, 2) := by decide +kernel
theorem dL_holds_143 : decode cL_holds 143 = .ok (.aload_n 0, 1) := by decide +kernel
theorem dL_holds_144 : decode cL_holds 144 = .ok (.sipush 601, 3) := by decide +kernel
theorem dL_holds_147 : decode cL_holds 147 = .ok (.iload 10, 2) := by decide +kernel
theorem dL_holds_149 : decode cL_holds 149 = .ok (.iadd, 1) := by decide +kernel
theorem dL_holds_150 : decode cL_holds 150 = .ok (.ldc 134, 2) := by decide +kernel
theorem dL_holds_152 : decode cL_holds 152 = .ok (.invokestatic 135, 3) := by decide +kernel
theorem dL_holds_155 : decode cL_holds 155 = .ok (.invokestatic 146, 3) := by decide +kernel
theorem dL_holds_158 : decode cL_holds 158 = .ok (.ifCond .eq 7, 3) := by decide +kernel
theorem dL_holds_161 : decode cL_holds 161 = .ok (.iconst 1, 1) := by decide +kernel
theorem dL_holds_162 : decode cL_holds 162 = .ok (.goto 4, 3) := by decide +kernel
theorem dL_holds_165 : decode cL_holds 165 = .ok (.iconst 0, 1) := by decide +kernel
theorem dL_holds_166 : decode cL_holds 166 = .ok (.istore 9, 2) := by decide +kernel
theorem dL_holds_168 : decode cL_holds 168 = .ok (.iload 10, 2) := by decide +kernel
theorem dL_holds_170 : decode cL_holds 170 = .ok (.bipush 8, 2) := by decide +kernel
theorem dL_holds_172 : decode cL_holds 172 = .ok (.irem, 1) := by decide +kernel
theorem dL_holds_173 : decode cL_holds 173 = .ok (.bipush 7, 2) := by decide +kernel
theorem dL_holds_175 : decode cL_holds 175 = .ok (.if_icmp .ne 40, 3) := by decide +kernel
theorem dL_holds_178 : decode cL_holds 178 = .ok (.iload 9, 2) := by decide +kernel
theorem dL_holds_180 : decode cL_holds 180 = .ok (.ifCond .eq 35, 3) := by decide +kernel
theorem dL_holds_183 : decode cL_holds 183 = .ok (.aload_n 1, 1) := by decide +kernel
theorem dL_holds_184 : decode cL_holds 184 = .ok (.aload_n 2, 1) := by decide +kernel
theorem dL_holds_185 : decode cL_holds 185 = .ok (.iload 11, 2) := by decide +kernel
theorem dL_holds_187 : decode cL_holds 187 = .ok (.iconst 5, 1) := by decide +kernel
theorem dL_holds_188 : decode cL_holds 188 = .ok (.idiv, 1) := by decide +kernel
theorem dL_holds_189 : decode cL_holds 189 = .ok (.aload 8, 2) := by decide +kernel
theorem dL_holds_191 : decode cL_holds 191 = .ok (.iconst 0, 1) := by decide +kernel
theorem dL_holds_192 : decode cL_holds 192 = .ok (.iaload, 1) := by decide +kernel
theorem dL_holds_193 : decode cL_holds 193 = .ok (.irem, 1) := by decide +kernel
theorem dL_holds_194 : decode cL_holds 194 = .ok (.iconst 1, 1) := by decide +kernel
theorem dL_holds_195 : decode cL_holds 195 = .ok (.iload 11, 2) := by decide +kernel
theorem dL_holds_197 : decode cL_holds 197 = .ok (.bipush 40, 2) := by decide +kernel
theorem dL_holds_199 : decode cL_holds 199 = .ok (.idiv, 1) := by decide +kernel
theorem dL_holds_200 : decode cL_holds 200 = .ok (.iconst 2, 1) := by decide +kernel
theorem dL_holds_201 : decode cL_holds 201 = .ok (.irem, 1) := by decide +kernel
theorem dL_holds_202 : decode cL_holds 202 = .ok (.iadd, 1) := by decide +kernel
theorem dL_holds_203 : decode cL_holds 203 = .ok (.iload 11, 2) := by decide +kernel
theorem dL_holds_205 : decode cL_holds 205 = .ok (.bipush 80, 2) := by decide +kernel
theorem dL_holds_207 : decode cL_holds 207 = .ok (.idiv, 1) := by decide +kernel
theorem dL_holds_208 : decode cL_holds 208 = .ok (.iconst 4, 1) := by decide +kernel
theorem dL_holds_209 : decode cL_holds 209 = .ok (.irem, 1) := by decide +kernel
theorem dL_holds_210 : decode cL_holds 210 = .ok (.invokestatic 150, 3) := by decide +kernel
theorem dL_holds_213 : decode cL_holds 213 = .ok (.istore 9, 2) := by decide +kernel
theorem dL_holds_215 : decode cL_holds 215 = .ok (.iinc 10 1, 3) := by decide +kernel
theorem dL_holds_218 : decode cL_holds 218 = .ok (.goto (-166), 3) := by decide +kernel
theorem dL_holds_221 : decode cL_holds 221 = .ok (.iload 9, 2) := by decide +kernel
theorem dL_holds_223 : decode cL_holds 223 = .ok (.ireturn, 1) := by decide +kernel
theorem dL_isHeld_0 : decode cL_isHeld 0 = .ok (.aload_n 0, 1) := by decide +kernel
theorem dL_isHeld_1 : decode cL_isHeld 1 = .ok (.invokestatic 154, 3) := by decide +kernel
theorem dL_isHeld_4 : decode cL_isHeld 4 = .ok (.ireturn, 1) := by decide +kernel
theorem dL_isHeld_5 : decode cL_isHeld 5 = .ok (.astore_n 1, 1) := by decide +kernel
theorem dL_isHeld_6 : decode cL_isHeld 6 = .ok (.iconst 0, 1) := by decide +kernel
theorem dL_isHeld_7 : decode cL_isHeld 7 = .ok (.ireturn, 1) := by decide +kernel
theorem dL_isHeld_8 : decode cL_isHeld 8 = .ok (.astore_n 1, 1) := by decide +kernel
theorem dL_isHeld_9 : decode cL_isHeld 9 = .ok (.iconst 0, 1) := by decide +kernel
theorem dL_isHeld_10 : decode cL_isHeld 10 = .ok (.ireturn, 1) := by decide +kernel
theorem dL_isHeld_11 : decode cL_isHeld 11 = .ok (.astore_n 1, 1) := by decide +kernel
theorem dL_isHeld_12 : decode cL_isHeld 12 = .ok (.iconst 0, 1) := by decide +kernel
theorem dL_isHeld_13 : decode cL_isHeld 13 = .ok (.ireturn, 1) := by decide +kernel
theorem dL_law_0 : decode cL_law 0 = .ok (.aload_n 0, 1) := by decide +kernel
theorem dL_law_1 : decode cL_law 1 = .ok (.invokestatic 164, 3) := by decide +kernel
theorem dL_law_4 : decode cL_law 4 = .ok (.ireturn, 1) := by decide +kernel
