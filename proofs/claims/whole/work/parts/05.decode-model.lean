theorem dX7_init_0 : decode cX7_init 0 = .ok (.aload_n 0, 1) := by decide +kernel
theorem dX7_init_1 : decode cX7_init 1 = .ok (.invokespecial 1, 3) := by decide +kernel
theorem dX7_init_4 : decode cX7_init 4 = .ok (.aload_n 0, 1) := by decide +kernel
theorem dX7_init_5 : decode cX7_init 5 = .ok (.bipush 40, 2) := by decide +kernel
theorem dX7_init_7 : decode cX7_init 7 = .ok (.newarray .int, 2) := by decide +kernel
theorem dX7_init_9 : decode cX7_init 9 = .ok (.putfield 7, 3) := by decide +kernel
theorem dX7_init_12 : decode cX7_init 12 = .ok (.aload_n 0, 1) := by decide +kernel
theorem dX7_init_13 : decode cX7_init 13 = .ok (.bipush 32, 2) := by decide +kernel
theorem dX7_init_15 : decode cX7_init 15 = .ok (.newarray .int, 2) := by decide +kernel
theorem dX7_init_17 : decode cX7_init 17 = .ok (.putfield 13, 3) := by decide +kernel
theorem dX7_init_20 : decode cX7_init 20 = .ok (.aload_n 0, 1) := by decide +kernel
theorem dX7_init_21 : decode cX7_init 21 = .ok (.bipush 8, 2) := by decide +kernel
theorem dX7_init_23 : decode cX7_init 23 = .ok (.newarray .int, 2) := by decide +kernel
theorem dX7_init_25 : decode cX7_init 25 = .ok (.putfield 16, 3) := by decide +kernel
theorem dX7_init_28 : decode cX7_init 28 = .ok (.aload_n 0, 1) := by decide +kernel
theorem dX7_init_29 : decode cX7_init 29 = .ok (.bipush 8, 2) := by decide +kernel
theorem dX7_init_31 : decode cX7_init 31 = .ok (.newarray .int, 2) := by decide +kernel
theorem dX7_init_33 : decode cX7_init 33 = .ok (.putfield 19, 3) := by decide +kernel
theorem dX7_init_36 : decode cX7_init 36 = .ok (.aload_n 0, 1) := by decide +kernel
theorem dX7_init_37 : decode cX7_init 37 = .ok (.bipush 16, 2) := by decide +kernel
theorem dX7_init_39 : decode cX7_init 39 = .ok (.newarray .int, 2) := by decide +kernel
theorem dX7_init_41 : decode cX7_init 41 = .ok (.putfield 22, 3) := by decide +kernel
theorem dX7_init_44 : decode cX7_init 44 = .ok (.aload_n 0, 1) := by decide +kernel
theorem dX7_init_45 : decode cX7_init 45 = .ok (.bipush 32, 2) := by decide +kernel
theorem dX7_init_47 : decode cX7_init 47 = .ok (.newarray .int, 2) := by decide +kernel
theorem dX7_init_49 : decode cX7_init 49 = .ok (.putfield 25, 3) := by decide +kernel
theorem dX7_init_52 : decode cX7_init 52 = .ok (.aload_n 0, 1) := by decide +kernel
theorem dX7_init_53 : decode cX7_init 53 = .ok (.bipush 32, 2) := by decide +kernel
theorem dX7_init_55 : decode cX7_init 55 = .ok (.newarray .int, 2) := by decide +kernel
theorem dX7_init_57 : decode cX7_init 57 = .ok (.putfield 28, 3) := by decide +kernel
theorem dX7_init_60 : decode cX7_init 60 = .ok (.aload_n 0, 1) := by decide +kernel
theorem dX7_init_61 : decode cX7_init 61 = .ok (.bipush 64, 2) := by decide +kernel
theorem dX7_init_63 : decode cX7_init 63 = .ok (.newarray .int, 2) := by decide +kernel
theorem dX7_init_65 : decode cX7_init 65 = .ok (.putfield 31, 3) := by decide +kernel
theorem dX7_init_68 : decode cX7_init 68 = .ok (.aload_n 0, 1) := by decide +kernel
theorem dX7_init_69 : decode cX7_init 69 = .ok (.ldc 34, 2) := by decide +kernel
theorem dX7_init_71 : decode cX7_init 71 = .ok (.newarray .int, 2) := by decide +kernel
theorem dX7_init_73 : decode cX7_init 73 = .ok (.putfield 35, 3) := by decide +kernel
theorem dX7_init_76 : decode cX7_init 76 = .ok (.aload_n 0, 1) := by decide +kernel
theorem dX7_init_77 : decode cX7_init 77 = .ok (.ldc 34, 2) := by decide +kernel
theorem dX7_init_79 : decode cX7_init 79 = .ok (.newarray .int, 2) := by decide +kernel
theorem dX7_init_81 : decode cX7_init 81 = .ok (.putfield 38, 3) := by decide +kernel
theorem dX7_init_84 : decode cX7_init 84 = .ok (.return_, 1) := by decide +kernel
theorem dX7_thrown_0 : decode cX7_thrown 0 = .ok (.aload_n 0, 1) := by decide +kernel
theorem dX7_thrown_1 : decode cX7_thrown 1 = .ok (.getfield 41, 3) := by decide +kernel
theorem dX7_thrown_4 : decode cX7_thrown 4 = .ok (.ireturn, 1) := by decide +kernel
theorem dX7_in_0 : decode cX7_in 0 = .ok (.iload_n 0, 1) := by decide +kernel
theorem dX7_in_1 : decode cX7_in 1 = .ok (.iload_n 1, 1) := by decide +kernel
theorem dX7_in_2 : decode cX7_in 2 = .ok (.if_icmp .lt 12, 3) := by decide +kernel
theorem dX7_in_5 : decode cX7_in 5 = .ok (.iload_n 0, 1) := by decide +kernel
theorem dX7_in_6 : decode cX7_in 6 = .ok (.iload_n 2, 1) := by decide +kernel
theorem dX7_in_7 : decode cX7_in 7 = .ok (.if_icmp .gt 7, 3) := by decide +kernel
theorem dX7_in_10 : decode cX7_in 10 = .ok (.iconst 1, 1) := by decide +kernel
theorem dX7_in_11 : decode cX7_in 11 = .ok (.goto 4, 3) := by decide +kernel
theorem dX7_in_14 : decode cX7_in 14 = .ok (.iconst 0, 1) := by decide +kernel
theorem dX7_in_15 : decode cX7_in 15 = .ok (.ireturn, 1) := by decide +kernel
theorem dX7_goes_0 : decode cX7_goes 0 = .ok (.aload_n 0, 1) := by decide +kernel
theorem dX7_goes_1 : decode cX7_goes 1 = .ok (.iload_n 1, 1) := by decide +kernel
theorem dX7_goes_2 : decode cX7_goes 2 = .ok (.ifCond .ne 7, 3) := by decide +kernel
theorem dX7_goes_5 : decode cX7_goes 5 = .ok (.iconst 1, 1) := by decide +kernel
theorem dX7_goes_6 : decode cX7_goes 6 = .ok (.goto 20, 3) := by decide +kernel
theorem dX7_goes_9 : decode cX7_goes 9 = .ok (.iload_n 2, 1) := by decide +kernel
theorem dX7_goes_10 : decode cX7_goes 10 = .ok (.ifCond .ne 7, 3) := by decide +kernel
theorem dX7_goes_13 : decode cX7_goes 13 = .ok (.iconst 2, 1) := by decide +kernel
theorem dX7_goes_14 : decode cX7_goes 14 = .ok (.goto 12, 3) := by decide +kernel
theorem dX7_goes_17 : decode cX7_goes 17 = .ok (.iload_n 3, 1) := by decide +kernel
theorem dX7_goes_18 : decode cX7_goes 18 = .ok (.ifCond .eq 7, 3) := by decide +kernel
theorem dX7_goes_21 : decode cX7_goes 21 = .ok (.iconst 0, 1) := by decide +kernel
theorem dX7_goes_22 : decode cX7_goes 22 = .ok (.goto 4, 3) := by decide +kernel
theorem dX7_goes_25 : decode cX7_goes 25 = .ok (.iconst 3, 1) := by decide +kernel
theorem dX7_goes_26 : decode cX7_goes 26 = .ok (.putfield 41, 3) := by decide +kernel
theorem dX7_goes_29 : decode cX7_goes 29 = .ok (.aload_n 0, 1) := by decide +kernel
theorem dX7_goes_30 : decode cX7_goes 30 = .ok (.getfield 41, 3) := by decide +kernel
theorem dX7_goes_33 : decode cX7_goes 33 = .ok (.ifCond .ne 7, 3) := by decide +kernel
theorem dX7_goes_36 : decode cX7_goes 36 = .ok (.iconst 1, 1) := by decide +kernel
theorem dX7_goes_37 : decode cX7_goes 37 = .ok (.goto 4, 3) := by decide +kernel
theorem dX7_goes_40 : decode cX7_goes 40 = .ok (.iconst 0, 1) := by decide +kernel
theorem dX7_goes_41 : decode cX7_goes 41 = .ok (.ireturn, 1) := by decide +kernel
theorem dX7_isSection_0 : decode cX7_isSection 0 = .ok (.iload_n 1, 1) := by decide +kernel
theorem dX7_isSection_1 : decode cX7_isSection 1 = .ok (.iconst 0, 1) := by decide +kernel
theorem dX7_isSection_2 : decode cX7_isSection 2 = .ok (.aload_n 0, 1) := by decide +kernel
theorem dX7_isSection_3 : decode cX7_isSection 3 = .ok (.getfield 45, 3) := by decide +kernel
theorem dX7_isSection_6 : decode cX7_isSection 6 = .ok (.iconst 1, 1) := by decide +kernel
theorem dX7_isSection_7 : decode cX7_isSection 7 = .ok (.isub, 1) := by decide +kernel
theorem dX7_isSection_8 : decode cX7_isSection 8 = .ok (.invokestatic 48, 3) := by decide +kernel
theorem dX7_isSection_11 : decode cX7_isSection 11 = .ok (.ireturn, 1) := by decide +kernel
theorem dX7_down_0 : decode cX7_down 0 = .ok (.iload_n 0, 1) := by decide +kernel
theorem dX7_down_1 : decode cX7_down 1 = .ok (.ifCond .lt 9, 3) := by decide +kernel
theorem dX7_down_4 : decode cX7_down 4 = .ok (.iload_n 0, 1) := by decide +kernel
theorem dX7_down_5 : decode cX7_down 5 = .ok (.iload_n 1, 1) := by decide +kernel
theorem dX7_down_6 : decode cX7_down 6 = .ok (.idiv, 1) := by decide +kernel
theorem dX7_down_7 : decode cX7_down 7 = .ok (.goto 11, 3) := by decide +kernel
theorem dX7_down_10 : decode cX7_down 10 = .ok (.iload_n 1, 1) := by decide +kernel
theorem dX7_down_11 : decode cX7_down 11 = .ok (.iconst 1, 1) := by decide +kernel
theorem dX7_down_12 : decode cX7_down 12 = .ok (.isub, 1) := by decide +kernel
theorem dX7_down_13 : decode cX7_down 13 = .ok (.iload_n 0, 1) := by decide +kernel
theorem dX7_down_14 : decode cX7_down 14 = .ok (.isub, 1) := by decide +kernel
theorem dX7_down_15 : decode cX7_down 15 = .ok (.iload_n 1, 1) := by decide +kernel
theorem dX7_down_16 : decode cX7_down 16 = .ok (.idiv, 1) := by decide +kernel
theorem dX7_down_17 : decode cX7_down 17 = .ok (.ineg, 1) := by decide +kernel
theorem dX7_down_18 : decode cX7_down 18 = .ok (.ireturn, 1) := by decide +kernel
theorem dX7_rest_0 : decode cX7_rest 0 = .ok (.iload_n 0, 1) := by decide +kernel
theorem dX7_rest_1 : decode cX7_rest 1 = .ok (.bipush 97, 2) := by decide +kernel
theorem dX7_rest_3 : decode cX7_rest 3 = .ok (.irem, 1) := by decide +kernel
theorem dX7_rest_4 : decode cX7_rest 4 = .ok (.bipush 97, 2) := by decide +kernel
theorem dX7_rest_6 : decode cX7_rest 6 = .ok (.iadd, 1) := by decide +kernel
theorem dX7_rest_7 : decode cX7_rest 7 = .ok (.bipush 97, 2) := by decide +kernel
theorem dX7_rest_9 : decode cX7_rest 9 = .ok (.irem, 1) := by decide +kernel
theorem dX7_rest_10 : decode cX7_rest 10 = .ok (.ireturn, 1) := by decide +kernel
theorem dX7_size_0 : decode cX7_size 0 = .ok (.iload_n 0, 1) := by decide +kernel
theorem dX7_size_1 : decode cX7_size 1 = .ok (.ifCond .ge 8, 3) := by decide +kernel
theorem dX7_size_4 : decode cX7_size 4 = .ok (.iload_n 0, 1) := by decide +kernel
theorem dX7_size_5 : decode cX7_size 5 = .ok (.ineg, 1) := by decide +kernel
theorem dX7_size_6 : decode cX7_size 6 = .ok (.goto 4, 3) := by decide +kernel
theorem dX7_size_9 : decode cX7_size 9 = .ok (.iload_n 0, 1) := by decide +kernel
theorem dX7_size_10 : decode cX7_size 10 = .ok (.ireturn, 1) := by decide +kernel
theorem dX7_section_0 : decode cX7_section 0 = .ok (.aload_n 0, 1) := by decide +kernel
theorem dX7_section_1 : decode cX7_section 1 = .ok (.iload_n 1, 1) := by decide +kernel
theorem dX7_section_2 : decode cX7_section 2 = .ok (.iconst 0, 1) := by decide +kernel
theorem dX7_section_3 : decode cX7_section 3 = .ok (.iconst 2, 1) := by decide +kernel
theorem dX7_section_4 : decode cX7_section 4 = .ok (.invokestatic 48, 3) := by decide +kernel
theorem dX7_section_7 : decode cX7_section 7 = .ok (.aload_n 0, 1) := by decide +kernel
theorem dX7_section_8 : decode cX7_section 8 = .ok (.getfield 45, 3) := by decide +kernel
theorem dX7_section_11 : decode cX7_section 11 = .ok (.bipush 8, 2) := by decide +kernel
theorem dX7_section_13 : decode cX7_section 13 = .ok (.if_icmp .ge 7, 3) := by decide +kernel
theorem dX7_section_16 : decode cX7_section 16 = .ok (.iconst 1, 1) := by decide +kernel
theorem dX7_section_17 : decode cX7_section 17 = .ok (.goto 4, 3) := by decide +kernel
theorem dX7_section_20 : decode cX7_section 20 = .ok (.iconst 0, 1) := by decide +kernel
theorem dX7_section_21 : decode cX7_section 21 = .ok (.iconst 1, 1) := by decide +kernel
theorem dX7_section_22 : decode cX7_section 22 = .ok (.invokevirtual 52, 3) := by decide +kernel
theorem dX7_section_25 : decode cX7_section 25 = .ok (.ifCond .ne 5, 3) := by decide +kernel
theorem dX7_section_28 : decode cX7_section 28 = .ok (.iconst 0, 1) := by decide +kernel
theorem dX7_section_29 : decode cX7_section 29 = .ok (.ireturn, 1) := by decide +kernel
theorem dX7_section_30 : decode cX7_section 30 = .ok (.aload_n 0, 1) := by decide +kernel
theorem dX7_section_31 : decode cX7_section 31 = .ok (.getfield 7, 3) := by decide +kernel
theorem dX7_section_34 : decode cX7_section 34 = .ok (.iconst 5, 1) := by decide +kernel
theorem dX7_section_35 : decode cX7_section 35 = .ok (.aload_n 0, 1) := by decide +kernel
theorem dX7_section_36 : decode cX7_section 36 = .ok (.getfield 45, 3) := by decide +kernel
theorem dX7_section_39 : decode cX7_section 39 = .ok (.imul, 1) := by decide +kernel
theorem dX7_section_40 : decode cX7_section 40 = .ok (.bipush 64, 2) := by decide +kernel
theorem dX7_section_42 : decode cX7_section 42 = .ok (.iastore, 1) := by decide +kernel
theorem dX7_section_43 : decode cX7_section 43 = .ok (.aload_n 0, 1) := by decide +kernel
theorem dX7_section_44 : decode cX7_section 44 = .ok (.getfield 16, 3) := by decide +kernel
theorem dX7_section_47 : decode cX7_section 47 = .ok (.aload_n 0, 1) := by decide +kernel
theorem dX7_section_48 : decode cX7_section 48 = .ok (.getfield 45, 3) := by decide +kernel
theorem dX7_section_51 : decode cX7_section 51 = .ok (.iload_n 1, 1) := by decide +kernel
theorem dX7_section_52 : decode cX7_section 52 = .ok (.iastore, 1) := by decide +kernel
theorem dX7_section_53 : decode cX7_section 53 = .ok (.aload_n 0, 1) := by decide +kernel
theorem dX7_section_54 : decode cX7_section 54 = .ok (.dup, 1) := by decide +kernel
theorem dX7_section_55 : decode cX7_section 55 = .ok (.getfield 45, 3) := by decide +kernel
theorem dX7_section_58 : decode cX7_section 58 = .ok (.iconst 1, 1) := by decide +kernel
theorem dX7_section_59 : decode cX7_section 59 = .ok (.iadd, 1) := by decide +kernel
theorem dX7_section_60 : decode cX7_section 60 = .ok (.putfield 45, 3) := by decide +kernel
theorem dX7_section_63 : decode cX7_section 63 = .ok (.aload_n 0, 1) := by decide +kernel
theorem dX7_section_64 : decode cX7_section 64 = .ok (.getfield 45, 3) := by decide +kernel
theorem dX7_section_67 : decode cX7_section 67 = .ok (.iconst 1, 1) := by decide +kernel
theorem dX7_section_68 : decode cX7_section 68 = .ok (.isub, 1) := by decide +kernel
theorem dX7_section_69 : decode cX7_section 69 = .ok (.ireturn, 1) := by decide +kernel
theorem dX7_set_0 : decode cX7_set 0 = .ok (.aload_n 0, 1) := by decide +kernel
theorem dX7_set_1 : decode cX7_set 1 = .ok (.aload_n 0, 1) := by decide +kernel
theorem dX7_set_2 : decode cX7_set 2 = .ok (.iload_n 1, 1) := by decide +kernel
theorem dX7_set_3 : decode cX7_set 3 = .ok (.invokevirtual 56, 3) := by decide +kernel
theorem dX7_set_6 : decode cX7_set 6 = .ok (.iload_n 2, 1) := by decide +kernel
theorem dX7_set_7 : decode cX7_set 7 = .ok (.iconst 0, 1) := by decide +kernel
theorem dX7_set_8 : decode cX7_set 8 = .ok (.iconst 4, 1) := by decide +kernel
theorem dX7_set_9 : decode cX7_set 9 = .ok (.invokestatic 48, 3) := by decide +kernel
theorem dX7_set_12 : decode cX7_set 12 = .ok (.ifCond .eq 18, 3) := by decide +kernel
theorem dX7_set_15 : decode cX7_set 15 = .ok (.iload_n 3, 1) := by decide +kernel
theorem dX7_set_16 : decode cX7_set 16 = .ok (.bipush (-127), 2) := by decide +kernel
theorem dX7_set_18 : decode cX7_set 18 = .ok (.bipush 127, 2) := by decide +kernel
theorem dX7_set_20 : decode cX7_set 20 = .ok (.invokestatic 48, 3) := by decide +kernel
theorem dX7_set_23 : decode cX7_set 23 = .ok (.ifCond .eq 7, 3) := by decide +kernel
theorem dX7_set_26 : decode cX7_set 26 = .ok (.iconst 1, 1) := by decide +kernel
theorem dX7_set_27 : decode cX7_set 27 = .ok (.goto 4, 3) := by decide +kernel
theorem dX7_set_30 : decode cX7_set 30 = .ok (.iconst 0, 1) := by decide +kernel
theorem dX7_set_31 : decode cX7_set 31 = .ok (.iconst 1, 1) := by decide +kernel
theorem dX7_set_32 : decode cX7_set 32 = .ok (.invokevirtual 52, 3) := by decide +kernel
theorem dX7_set_35 : decode cX7_set 35 = .ok (.ifCond .ne 5, 3) := by decide +kernel
theorem dX7_set_38 : decode cX7_set 38 = .ok (.iconst 0, 1) := by decide +kernel
theorem dX7_set_39 : decode cX7_set 39 = .ok (.ireturn, 1) := by decide +kernel
theorem dX7_set_40 : decode cX7_set 40 = .ok (.aload_n 0, 1) := by decide +kernel
theorem dX7_set_41 : decode cX7_set 41 = .ok (.getfield 7, 3) := by decide +kernel
theorem dX7_set_44 : decode cX7_set 44 = .ok (.iconst 5, 1) := by decide +kernel
theorem dX7_set_45 : decode cX7_set 45 = .ok (.iload_n 1, 1) := by decide +kernel
theorem dX7_set_46 : decode cX7_set 46 = .ok (.imul, 1) := by decide +kernel
theorem dX7_set_47 : decode cX7_set 47 = .ok (.iload_n 2, 1) := by decide +kernel
theorem dX7_set_48 : decode cX7_set 48 = .ok (.iadd, 1) := by decide +kernel
theorem dX7_set_49 : decode cX7_set 49 = .ok (.iaload, 1) := by decide +kernel
theorem dX7_set_50 : decode cX7_set 50 = .ok (.istore 4, 2) := by decide +kernel
theorem dX7_set_52 : decode cX7_set 52 = .ok (.aload_n 0, 1) := by decide +kernel
theorem dX7_set_53 : decode cX7_set 53 = .ok (.getfield 7, 3) := by decide +kernel
theorem dX7_set_56 : decode cX7_set 56 = .ok (.iconst 5, 1) := by decide +kernel
theorem dX7_set_57 : decode cX7_set 57 = .ok (.iload_n 1, 1) := by decide +kernel
theorem dX7_set_58 : decode cX7_set 58 = .ok (.imul, 1) := by decide +kernel
theorem dX7_set_59 : decode cX7_set 59 = .ok (.iload_n 2, 1) := by decide +kernel
theorem dX7_set_60 : decode cX7_set 60 = .ok (.iadd, 1) := by decide +kernel
theorem dX7_set_61 : decode cX7_set 61 = .ok (.iload_n 3, 1) := by decide +kernel
theorem dX7_set_62 : decode cX7_set 62 = .ok (.iastore, 1) := by decide +kernel
theorem dX7_set_63 : decode cX7_set 63 = .ok (.iload 4, 2) := by decide +kernel
theorem dX7_set_65 : decode cX7_set 65 = .ok (.ireturn, 1) := by decide +kernel
theorem dX7_placeOf_0 : decode cX7_placeOf 0 = .ok (.iconst (-1), 1) := by decide +kernel
theorem dX7_placeOf_1 : decode cX7_placeOf 1 = .ok (.istore_n 2, 1) := by decide +kernel
theorem dX7_placeOf_2 : decode cX7_placeOf 2 = .ok (.iconst 0, 1) := by decide +kernel
theorem dX7_placeOf_3 : decode cX7_placeOf 3 = .ok (.istore_n 3, 1) := by decide +kernel
theorem dX7_placeOf_4 : decode cX7_placeOf 4 = .ok (.iload_n 3, 1) := by decide +kernel
theorem dX7_placeOf_5 : decode cX7_placeOf 5 = .ok (.aload_n 0, 1) := by decide +kernel
theorem dX7_placeOf_6 : decode cX7_placeOf 6 = .ok (.getfield 60, 3) := by decide +kernel
theorem dX7_placeOf_9 : decode cX7_placeOf 9 = .ok (.if_icmp .ge 25, 3) := by decide +kernel
theorem dX7_placeOf_12 : decode cX7_placeOf 12 = .ok (.aload_n 0, 1) := by decide +kernel
theorem dX7_placeOf_13 : decode cX7_placeOf 13 = .ok (.getfield 19, 3) := by decide +kernel
theorem dX7_placeOf_16 : decode cX7_placeOf 16 = .ok (.iload_n 3, 1) := by decide +kernel
theorem dX7_placeOf_17 : decode cX7_placeOf 17 = .ok (.iaload, 1) := by decide +kernel
theorem dX7_placeOf_18 : decode cX7_placeOf 18 = .ok (.iload_n 1, 1) := by decide +kernel
theorem dX7_placeOf_19 : decode cX7_placeOf 19 = .ok (.if_icmp .ne 7, 3) := by decide +kernel
theorem dX7_placeOf_22 : decode cX7_placeOf 22 = .ok (.iload_n 3, 1) := by decide +kernel
theorem dX7_placeOf_23 : decode cX7_placeOf 23 = .ok (.goto 4, 3) := by decide +kernel
theorem dX7_placeOf_26 : decode cX7_placeOf 26 = .ok (.iload_n 2, 1) := by decide +kernel
theorem dX7_placeOf_27 : decode cX7_placeOf 27 = .ok (.istore_n 2, 1) := by decide +kernel
theorem dX7_placeOf_28 : decode cX7_placeOf 28 = .ok (.iinc 3 1, 3) := by decide +kernel
theorem dX7_placeOf_31 : decode cX7_placeOf 31 = .ok (.goto (-27), 3) := by decide +kernel
theorem dX7_placeOf_34 : decode cX7_placeOf 34 = .ok (.iload_n 2, 1) := by decide +kernel
theorem dX7_placeOf_35 : decode cX7_placeOf 35 = .ok (.ireturn, 1) := by decide +kernel
theorem dX7_chain_0 : decode cX7_chain 0 = .ok (.aload_n 0, 1) := by decide +kernel
theorem dX7_chain_1 : decode cX7_chain 1 = .ok (.aload_n 0, 1) := by decide +kernel
theorem dX7_chain_2 : decode cX7_chain 2 = .ok (.iload_n 1, 1) := by decide +kernel
theorem dX7_chain_3 : decode cX7_chain 3 = .ok (.invokevirtual 56, 3) := by decide +kernel
theorem dX7_chain_6 : decode cX7_chain 6 = .ok (.iconst 1, 1) := by decide +kernel
theorem dX7_chain_7 : decode cX7_chain 7 = .ok (.iconst 1, 1) := by decide +kernel
theorem dX7_chain_8 : decode cX7_chain 8 = .ok (.invokevirtual 52, 3) := by decide +kernel
theorem dX7_chain_11 : decode cX7_chain 11 = .ok (.ifCond .ne 5, 3) := by decide +kernel
theorem dX7_chain_14 : decode cX7_chain 14 = .ok (.iconst 0, 1) := by decide +kernel
theorem dX7_chain_15 : decode cX7_chain 15 = .ok (.ireturn, 1) := by decide +kernel
theorem dX7_chain_16 : decode cX7_chain 16 = .ok (.aload_n 0, 1) := by decide +kernel
theorem dX7_chain_17 : decode cX7_chain 17 = .ok (.iload_n 1, 1) := by decide +kernel
theorem dX7_chain_18 : decode cX7_chain 18 = .ok (.invokevirtual 63, 3) := by decide +kernel
theorem dX7_chain_21 : decode cX7_chain 21 = .ok (.istore_n 2, 1) := by decide +kernel
theorem dX7_chain_22 : decode cX7_chain 22 = .ok (.iload_n 2, 1) := by decide +kernel
theorem dX7_chain_23 : decode cX7_chain 23 = .ok (.iconst (-1), 1) := by decide +kernel
theorem dX7_chain_24 : decode cX7_chain 24 = .ok (.if_icmp .ne 28, 3) := by decide +kernel
theorem dX7_chain_27 : decode cX7_chain 27 = .ok (.aload_n 0, 1) := by decide +kernel
theorem dX7_chain_28 : decode cX7_chain 28 = .ok (.getfield 19, 3) := by decide +kernel
theorem dX7_chain_31 : decode cX7_chain 31 = .ok (.aload_n 0, 1) := by decide +kernel
theorem dX7_chain_32 : decode cX7_chain 32 = .ok (.getfield 60, 3) := by decide +kernel
theorem dX7_chain_35 : decode cX7_chain 35 = .ok (.iload_n 1, 1) := by decide +kernel
theorem dX7_chain_36 : decode cX7_chain 36 = .ok (.iastore, 1) := by decide +kernel
theorem dX7_chain_37 : decode cX7_chain 37 = .ok (.aload_n 0, 1) := by decide +kernel
theorem dX7_chain_38 : decode cX7_chain 38 = .ok (.dup, 1) := by decide +kernel
theorem dX7_chain_39 : decode cX7_chain 39 = .ok (.getfield 60, 3) := by decide +kernel
theorem dX7_chain_42 : decode cX7_chain 42 = .ok (.iconst 1, 1) := by decide +kernel
theorem dX7_chain_43 : decode cX7_chain 43 = .ok (.iadd, 1) := by decide +kernel
theorem dX7_chain_44 : decode cX7_chain 44 = .ok (.putfield 60, 3) := by decide +kernel
theorem dX7_chain_47 : decode cX7_chain 47 = .ok (.aload_n 0, 1) := by decide +kernel
theorem dX7_chain_48 : decode cX7_chain 48 = .ok (.getfield 60, 3) := by decide +kernel
theorem dX7_chain_51 : decode cX7_chain 51 = .ok (.ireturn, 1) := by decide +kernel
theorem dX7_chain_52 : decode cX7_chain 52 = .ok (.aload_n 0, 1) := by decide +kernel
theorem dX7_chain_53 : decode cX7_chain 53 = .ok (.dup, 1) := by decide +kernel
theorem dX7_chain_54 : decode cX7_chain 54 = .ok (.getfield 60, 3) := by decide +kernel
theorem dX7_chain_57 : decode cX7_chain 57 = .ok (.iconst 1, 1) := by decide +kernel
theorem dX7_chain_58 : decode cX7_chain 58 = .ok (.isub, 1) := by decide +kernel
theorem dX7_chain_59 : decode cX7_chain 59 = .ok (.putfield 60, 3) := by decide +kernel
theorem dX7_chain_62 : decode cX7_chain 62 = .ok (.iload_n 2, 1) := by decide +kernel
theorem dX7_chain_63 : decode cX7_chain 63 = .ok (.istore_n 3, 1) := by decide +kernel
theorem dX7_chain_64 : decode cX7_chain 64 = .ok (.iload_n 3, 1) := by decide +kernel
theorem dX7_chain_65 : decode cX7_chain 65 = .ok (.aload_n 0, 1) := by decide +kernel
theorem dX7_chain_66 : decode cX7_chain 66 = .ok (.getfield 60, 3) := by decide +kernel
theorem dX7_chain_69 : decode cX7_chain 69 = .ok (.if_icmp .ge 23, 3) := by decide +kernel
theorem dX7_chain_72 : decode cX7_chain 72 = .ok (.aload_n 0, 1) := by decide +kernel
theorem dX7_chain_73 : decode cX7_chain 73 = .ok (.getfield 19, 3) := by decide +kernel
theorem dX7_chain_76 : decode cX7_chain 76 = .ok (.iload_n 3, 1) := by decide +kernel
theorem dX7_chain_77 : decode cX7_chain 77 = .ok (.aload_n 0, 1) := by decide +kernel
theorem dX7_chain_78 : decode cX7_chain 78 = .ok (.getfield 19, 3) := by decide +kernel
theorem dX7_chain_81 : decode cX7_chain 81 = .ok (.iload_n 3, 1) := by decide +kernel
theorem dX7_chain_82 : decode cX7_chain 82 = .ok (.iconst 1, 1) := by decide +kernel
theorem dX7_chain_83 : decode cX7_chain 83 = .ok (.iadd, 1) := by decide +kernel
theorem dX7_chain_84 : decode cX7_chain 84 = .ok (.iaload, 1) := by decide +kernel
theorem dX7_chain_85 : decode cX7_chain 85 = .ok (.iastore, 1) := by decide +kernel
theorem dX7_chain_86 : decode cX7_chain 86 = .ok (.iinc 3 1, 3) := by decide +kernel
theorem dX7_chain_89 : decode cX7_chain 89 = .ok (.goto (-25), 3) := by decide +kernel
theorem dX7_chain_92 : decode cX7_chain 92 = .ok (.aload_n 0, 1) := by decide +kernel
theorem dX7_chain_93 : decode cX7_chain 93 = .ok (.getfield 60, 3) := by decide +kernel
theorem dX7_chain_96 : decode cX7_chain 96 = .ok (.ireturn, 1) := by decide +kernel
theorem dX7_isAhead_0 : decode cX7_isAhead 0 = .ok (.aload_n 0, 1) := by decide +kernel
theorem dX7_isAhead_1 : decode cX7_isAhead 1 = .ok (.getfield 7, 3) := by decide +kernel
theorem dX7_isAhead_4 : decode cX7_isAhead 4 = .ok (.iconst 5, 1) := by decide +kernel
theorem dX7_isAhead_5 : decode cX7_isAhead 5 = .ok (.iload_n 1, 1) := by decide +kernel
theorem dX7_isAhead_6 : decode cX7_isAhead 6 = .ok (.imul, 1) := by decide +kernel
theorem dX7_isAhead_7 : decode cX7_isAhead 7 = .ok (.iconst 4, 1) := by decide +kernel
theorem dX7_isAhead_8 : decode cX7_isAhead 8 = .ok (.iadd, 1) := by decide +kernel
theorem dX7_isAhead_9 : decode cX7_isAhead 9 = .ok (.iaload, 1) := by decide +kernel
theorem dX7_isAhead_10 : decode cX7_isAhead 10 = .ok (.aload_n 0, 1) := by decide +kernel
theorem dX7_isAhead_11 : decode cX7_isAhead 11 = .ok (.getfield 7, 3) := by decide +kernel
theorem dX7_isAhead_14 : decode cX7_isAhead 14 = .ok (.iconst 5, 1) := by decide +kernel
theorem dX7_isAhead_15 : decode cX7_isAhead 15 = .ok (.iload_n 2, 1) := by decide +kernel
theorem dX7_isAhead_16 : decode cX7_isAhead 16 = .ok (.imul, 1) := by decide +kernel
theorem dX7_isAhead_17 : decode cX7_isAhead 17 = .ok (.iconst 4, 1) := by decide +kernel
theorem dX7_isAhead_18 : decode cX7_isAhead 18 = .ok (.iadd, 1) := by decide +kernel
theorem dX7_isAhead_19 : decode cX7_isAhead 19 = .ok (.iaload, 1) := by decide +kernel
theorem dX7_isAhead_20 : decode cX7_isAhead 20 = .ok (.isub, 1) := by decide +kernel
theorem dX7_isAhead_21 : decode cX7_isAhead 21 = .ok (.istore_n 3, 1) := by decide +kernel
theorem dX7_isAhead_22 : decode cX7_isAhead 22 = .ok (.iload_n 3, 1) := by decide +kernel
theorem dX7_isAhead_23 : decode cX7_isAhead 23 = .ok (.ifCond .ne 33, 3) := by decide +kernel
theorem dX7_isAhead_26 : decode cX7_isAhead 26 = .ok (.aload_n 0, 1) := by decide +kernel
theorem dX7_isAhead_27 : decode cX7_isAhead 27 = .ok (.getfield 7, 3) := by decide +kernel
theorem dX7_isAhead_30 : decode cX7_isAhead 30 = .ok (.iconst 5, 1) := by decide +kernel
theorem dX7_isAhead_31 : decode cX7_isAhead 31 = .ok (.iload_n 1, 1) := by decide +kernel
theorem dX7_isAhead_32 : decode cX7_isAhead 32 = .ok (.imul, 1) := by decide +kernel
theorem dX7_isAhead_33 : decode cX7_isAhead 33 = .ok (.iconst 3, 1) := by decide +kernel
theorem dX7_isAhead_34 : decode cX7_isAhead 34 = .ok (.iadd, 1) := by decide +kernel
theorem dX7_isAhead_35 : decode cX7_isAhead 35 = .ok (.iaload, 1) := by decide +kernel
theorem dX7_isAhead_36 : decode cX7_isAhead 36 = .ok (.invokestatic 67, 3) := by decide +kernel
theorem dX7_isAhead_39 : decode cX7_isAhead 39 = .ok (.aload_n 0, 1) := by decide +kernel
theorem dX7_isAhead_40 : decode cX7_isAhead 40 = .ok (.getfield 7, 3) := by decide +kernel
theorem dX7_isAhead_43 : decode cX7_isAhead 43 = .ok (.iconst 5, 1) := by decide +kernel
theorem dX7_isAhead_44 : decode cX7_isAhead 44 = .ok (.iload_n 2, 1) := by decide +kernel
theorem dX7_isAhead_45 : decode cX7_isAhead 45 = .ok (.imul, 1) := by decide +kernel
theorem dX7_isAhead_46 : decode cX7_isAhead 46 = .ok (.iconst 3, 1) := by decide +kernel
theorem dX7_isAhead_47 : decode cX7_isAhead 47 = .ok (.iadd, 1) := by decide +kernel
theorem dX7_isAhead_48 : decode cX7_isAhead 48 = .ok (.iaload, 1) := by decide +kernel
theorem dX7_isAhead_49 : decode cX7_isAhead 49 = .ok (.invokestatic 67, 3) := by decide +kernel
theorem dX7_isAhead_52 : decode cX7_isAhead 52 = .ok (.isub, 1) := by decide +kernel
theorem dX7_isAhead_53 : decode cX7_isAhead 53 = .ok (.goto 4, 3) := by decide +kernel
theorem dX7_isAhead_56 : decode cX7_isAhead 56 = .ok (.iload_n 3, 1) := by decide +kernel
theorem dX7_isAhead_57 : decode cX7_isAhead 57 = .ok (.istore_n 3, 1) := by decide +kernel
theorem dX7_isAhead_58 : decode cX7_isAhead 58 = .ok (.iload_n 3, 1) := by decide +kernel
theorem dX7_isAhead_59 : decode cX7_isAhead 59 = .ok (.ifCond .lt 12, 3) := by decide +kernel
theorem dX7_isAhead_62 : decode cX7_isAhead 62 = .ok (.iload_n 3, 1) := by decide +kernel
theorem dX7_isAhead_63 : decode cX7_isAhead 63 = .ok (.ifCond .ne 12, 3) := by decide +kernel
theorem dX7_isAhead_66 : decode cX7_isAhead 66 = .ok (.iload_n 1, 1) := by decide +kernel
theorem dX7_isAhead_67 : decode cX7_isAhead 67 = .ok (.iload_n 2, 1) := by decide +kernel
theorem dX7_isAhead_68 : decode cX7_isAhead 68 = .ok (.if_icmp .ge 7, 3) := by decide +kernel
theorem dX7_isAhead_71 : decode cX7_isAhead 71 = .ok (.iconst 1, 1) := by decide +kernel
theorem dX7_isAhead_72 : decode cX7_isAhead 72 = .ok (.goto 4, 3) := by decide +kernel
theorem dX7_isAhead_75 : decode cX7_isAhead 75 = .ok (.iconst 0, 1) := by decide +kernel
theorem dX7_isAhead_76 : decode cX7_isAhead 76 = .ok (.ireturn, 1) := by decide +kernel
theorem dX7_arrange_0 : decode cX7_arrange 0 = .ok (.aload_n 0, 1) := by decide +kernel
theorem dX7_arrange_1 : decode cX7_arrange 1 = .ok (.iconst 0, 1) := by decide +kernel
theorem dX7_arrange_2 : decode cX7_arrange 2 = .ok (.putfield 41, 3) := by decide +kernel
theorem dX7_arrange_5 : decode cX7_arrange 5 = .ok (.iconst 0, 1) := by decide +kernel
theorem dX7_arrange_6 : decode cX7_arrange 6 = .ok (.istore_n 1, 1) := by decide +kernel
theorem dX7_arrange_7 : decode cX7_arrange 7 = .ok (.iconst 0, 1) := by decide +kernel
theorem dX7_arrange_8 : decode cX7_arrange 8 = .ok (.istore_n 2, 1) := by decide +kernel
theorem dX7_arrange_9 : decode cX7_arrange 9 = .ok (.iload_n 2, 1) := by decide +kernel
theorem dX7_arrange_10 : decode cX7_arrange 10 = .ok (.aload_n 0, 1) := by decide +kernel
theorem dX7_arrange_11 : decode cX7_arrange 11 = .ok (.getfield 60, 3) := by decide +kernel
theorem dX7_arrange_14 : decode cX7_arrange 14 = .ok (.if_icmp .ge 21, 3) := by decide +kernel
theorem dX7_arrange_17 : decode cX7_arrange 17 = .ok (.aload_n 0, 1) := by decide +kernel
theorem dX7_arrange_18 : decode cX7_arrange 18 = .ok (.getfield 38, 3) := by decide +kernel
theorem dX7_arrange_21 : decode cX7_arrange 21 = .ok (.iload_n 2, 1) := by decide +kernel
theorem dX7_arrange_22 : decode cX7_arrange 22 = .ok (.aload_n 0, 1) := by decide +kernel
theorem dX7_arrange_23 : decode cX7_arrange 23 = .ok (.getfield 19, 3) := by decide +kernel
theorem dX7_arrange_26 : decode cX7_arrange 26 = .ok (.iload_n 2, 1) := by decide +kernel
theorem dX7_arrange_27 : decode cX7_arrange 27 = .ok (.iaload, 1) := by decide +kernel
theorem dX7_arrange_28 : decode cX7_arrange 28 = .ok (.iastore, 1) := by decide +kernel
theorem dX7_arrange_29 : decode cX7_arrange 29 = .ok (.iinc 2 1, 3) := by decide +kernel
theorem dX7_arrange_32 : decode cX7_arrange 32 = .ok (.goto (-23), 3) := by decide +kernel
theorem dX7_arrange_35 : decode cX7_arrange 35 = .ok (.iconst 0, 1) := by decide +kernel
theorem dX7_arrange_36 : decode cX7_arrange 36 = .ok (.istore_n 2, 1) := by decide +kernel
theorem dX7_arrange_37 : decode cX7_arrange 37 = .ok (.iload_n 2, 1) := by decide +kernel
theorem dX7_arrange_38 : decode cX7_arrange 38 = .ok (.aload_n 0, 1) := by decide +kernel
theorem dX7_arrange_39 : decode cX7_arrange 39 = .ok (.getfield 60, 3) := by decide +kernel
theorem dX7_arrange_42 : decode cX7_arrange 42 = .ok (.if_icmp .ge 82, 3) := by decide +kernel
theorem dX7_arrange_45 : decode cX7_arrange 45 = .ok (.iconst 0, 1) := by decide +kernel
theorem dX7_arrange_46 : decode cX7_arrange 46 = .ok (.istore_n 3, 1) := by decide +kernel
theorem dX7_arrange_47 : decode cX7_arrange 47 = .ok (.iconst 0, 1) := by decide +kernel
theorem dX7_arrange_48 : decode cX7_arrange 48 = .ok (.istore 4, 2) := by decide +kernel
theorem dX7_arrange_50 : decode cX7_arrange 50 = .ok (.iload 4, 2) := by decide +kernel
theorem dX7_arrange_52 : decode cX7_arrange 52 = .ok (.aload_n 0, 1) := by decide +kernel
theorem dX7_arrange_53 : decode cX7_arrange 53 = .ok (.getfield 60, 3) := by decide +kernel
theorem dX7_arrange_56 : decode cX7_arrange 56 = .ok (.if_icmp .ge 37, 3) := by decide +kernel
theorem dX7_arrange_59 : decode cX7_arrange 59 = .ok (.iload_n 3, 1) := by decide +kernel
theorem dX7_arrange_60 : decode cX7_arrange 60 = .ok (.aload_n 0, 1) := by decide +kernel
theorem dX7_arrange_61 : decode cX7_arrange 61 = .ok (.aload_n 0, 1) := by decide +kernel
theorem dX7_arrange_62 : decode cX7_arrange 62 = .ok (.getfield 38, 3) := by decide +kernel
theorem dX7_arrange_65 : decode cX7_arrange 65 = .ok (.iload 4, 2) := by decide +kernel
theorem dX7_arrange_67 : decode cX7_arrange 67 = .ok (.iaload, 1) := by decide +kernel
theorem dX7_arrange_68 : decode cX7_arrange 68 = .ok (.aload_n 0, 1) := by decide +kernel
theorem dX7_arrange_69 : decode cX7_arrange 69 = .ok (.getfield 38, 3) := by decide +kernel
theorem dX7_arrange_72 : decode cX7_arrange 72 = .ok (.iload_n 2, 1) := by decide +kernel
theorem dX7_arrange_73 : decode cX7_arrange 73 = .ok (.iaload, 1) := by decide +kernel
theorem dX7_arrange_74 : decode cX7_arrange 74 = .ok (.invokevirtual 70, 3) := by decide +kernel
theorem dX7_arrange_77 : decode cX7_arrange 77 = .ok (.ifCond .eq 7, 3) := by decide +kernel
theorem dX7_arrange_80 : decode cX7_arrange 80 = .ok (.iconst 1, 1) := by decide +kernel
theorem dX7_arrange_81 : decode cX7_arrange 81 = .ok (.goto 4, 3) := by decide +kernel
theorem dX7_arrange_84 : decode cX7_arrange 84 = .ok (.iconst 0, 1) := by decide +kernel
theorem dX7_arrange_85 : decode cX7_arrange 85 = .ok (.iadd, 1) := by decide +kernel
theorem dX7_arrange_86 : decode cX7_arrange 86 = .ok (.istore_n 3, 1) := by decide +kernel
theorem dX7_arrange_87 : decode cX7_arrange 87 = .ok (.iinc 4 1, 3) := by decide +kernel
theorem dX7_arrange_90 : decode cX7_arrange 90 = .ok (.goto (-40), 3) := by decide +kernel
theorem dX7_arrange_93 : decode cX7_arrange 93 = .ok (.aload_n 0, 1) := by decide +kernel
theorem dX7_arrange_94 : decode cX7_arrange 94 = .ok (.getfield 19, 3) := by decide +kernel
theorem dX7_arrange_97 : decode cX7_arrange 97 = .ok (.iload_n 3, 1) := by decide +kernel
theorem dX7_arrange_98 : decode cX7_arrange 98 = .ok (.aload_n 0, 1) := by decide +kernel
theorem dX7_arrange_99 : decode cX7_arrange 99 = .ok (.getfield 38, 3) := by decide +kernel
theorem dX7_arrange_102 : decode cX7_arrange 102 = .ok (.iload_n 2, 1) := by decide +kernel
theorem dX7_arrange_103 : decode cX7_arrange 103 = .ok (.iaload, 1) := by decide +kernel
theorem dX7_arrange_104 : decode cX7_arrange 104 = .ok (.iastore, 1) := by decide +kernel
theorem dX7_arrange_105 : decode cX7_arrange 105 = .ok (.iload_n 1, 1) := by decide +kernel
theorem dX7_arrange_106 : decode cX7_arrange 106 = .ok (.iload_n 3, 1) := by decide +kernel
theorem dX7_arrange_107 : decode cX7_arrange 107 = .ok (.iload_n 2, 1) := by decide +kernel
theorem dX7_arrange_108 : decode cX7_arrange 108 = .ok (.if_icmp .ne 7, 3) := by decide +kernel
theorem dX7_arrange_111 : decode cX7_arrange 111 = .ok (.iconst 0, 1) := by decide +kernel
theorem dX7_arrange_112 : decode cX7_arrange 112 = .ok (.goto 4, 3) := by decide +kernel
theorem dX7_arrange_115 : decode cX7_arrange 115 = .ok (.iconst 1, 1) := by decide +kernel
theorem dX7_arrange_116 : decode cX7_arrange 116 = .ok (.iadd, 1) := by decide +kernel
theorem dX7_arrange_117 : decode cX7_arrange 117 = .ok (.istore_n 1, 1) := by decide +kernel
theorem dX7_arrange_118 : decode cX7_arrange 118 = .ok (.iinc 2 1, 3) := by decide +kernel
theorem dX7_arrange_121 : decode cX7_arrange 121 = .ok (.goto (-84), 3) := by decide +kernel
theorem dX7_arrange_124 : decode cX7_arrange 124 = .ok (.iload_n 1, 1) := by decide +kernel
theorem dX7_arrange_125 : decode cX7_arrange 125 = .ok (.ireturn, 1) := by decide +kernel
theorem dX7_rounded_0 : decode cX7_rounded 0 = .ok (.iload_n 2, 1) := by decide +kernel
theorem dX7_rounded_1 : decode cX7_rounded 1 = .ok (.ifCond .ne 10, 3) := by decide +kernel
theorem dX7_rounded_4 : decode cX7_rounded 4 = .ok (.iload_n 1, 1) := by decide +kernel
theorem dX7_rounded_5 : decode cX7_rounded 5 = .ok (.bipush 64, 2) := by decide +kernel
theorem dX7_rounded_7 : decode cX7_rounded 7 = .ok (.idiv, 1) := by decide +kernel
theorem dX7_rounded_8 : decode cX7_rounded 8 = .ok (.goto 26, 3) := by decide +kernel
theorem dX7_rounded_11 : decode cX7_rounded 11 = .ok (.iload_n 2, 1) := by decide +kernel
theorem dX7_rounded_12 : decode cX7_rounded 12 = .ok (.iconst 1, 1) := by decide +kernel
theorem dX7_rounded_13 : decode cX7_rounded 13 = .ok (.if_icmp .ne 12, 3) := by decide +kernel
theorem dX7_rounded_16 : decode cX7_rounded 16 = .ok (.iload_n 1, 1) := by decide +kernel
theorem dX7_rounded_17 : decode cX7_rounded 17 = .ok (.bipush 64, 2) := by decide +kernel
theorem dX7_rounded_19 : decode cX7_rounded 19 = .ok (.invokestatic 74, 3) := by decide +kernel
theorem dX7_rounded_22 : decode cX7_rounded 22 = .ok (.goto 12, 3) := by decide +kernel
theorem dX7_rounded_25 : decode cX7_rounded 25 = .ok (.iload_n 1, 1) := by decide +kernel
theorem dX7_rounded_26 : decode cX7_rounded 26 = .ok (.bipush 32, 2) := by decide +kernel
theorem dX7_rounded_28 : decode cX7_rounded 28 = .ok (.iadd, 1) := by decide +kernel
theorem dX7_rounded_29 : decode cX7_rounded 29 = .ok (.bipush 64, 2) := by decide +kernel
theorem dX7_rounded_31 : decode cX7_rounded 31 = .ok (.invokestatic 74, 3) := by decide +kernel
theorem dX7_rounded_34 : decode cX7_rounded 34 = .ok (.istore_n 3, 1) := by decide +kernel
theorem dX7_rounded_35 : decode cX7_rounded 35 = .ok (.iload_n 3, 1) := by decide +kernel
theorem dX7_rounded_36 : decode cX7_rounded 36 = .ok (.sipush (-32767), 3) := by decide +kernel
theorem dX7_rounded_39 : decode cX7_rounded 39 = .ok (.if_icmp .ge 9, 3) := by decide +kernel
theorem dX7_rounded_42 : decode cX7_rounded 42 = .ok (.sipush (-32767), 3) := by decide +kernel
theorem dX7_rounded_45 : decode cX7_rounded 45 = .ok (.goto 17, 3) := by decide +kernel
theorem dX7_rounded_48 : decode cX7_rounded 48 = .ok (.iload_n 3, 1) := by decide +kernel
theorem dX7_rounded_49 : decode cX7_rounded 49 = .ok (.sipush 32767, 3) := by decide +kernel
theorem dX7_rounded_52 : decode cX7_rounded 52 = .ok (.if_icmp .le 9, 3) := by decide +kernel
theorem dX7_rounded_55 : decode cX7_rounded 55 = .ok (.sipush 32767, 3) := by decide +kernel
theorem dX7_rounded_58 : decode cX7_rounded 58 = .ok (.goto 4, 3) := by decide +kernel
theorem dX7_rounded_61 : decode cX7_rounded 61 = .ok (.iload_n 3, 1) := by decide +kernel
theorem dX7_rounded_62 : decode cX7_rounded 62 = .ok (.ireturn, 1) := by decide +kernel
theorem dX7_goesOn_0 : decode cX7_goesOn 0 = .ok (.iconst 5, 1) := by decide +kernel
theorem dX7_goesOn_1 : decode cX7_goesOn 1 = .ok (.iload_n 1, 1) := by decide +kernel
theorem dX7_goesOn_2 : decode cX7_goesOn 2 = .ok (.imul, 1) := by decide +kernel
theorem dX7_goesOn_3 : decode cX7_goesOn 3 = .ok (.istore_n 3, 1) := by decide +kernel
theorem dX7_goesOn_4 : decode cX7_goesOn 4 = .ok (.iconst 4, 1) := by decide +kernel
theorem dX7_goesOn_5 : decode cX7_goesOn 5 = .ok (.iload_n 1, 1) := by decide +kernel
theorem dX7_goesOn_6 : decode cX7_goesOn 6 = .ok (.imul, 1) := by decide +kernel
theorem dX7_goesOn_7 : decode cX7_goesOn 7 = .ok (.istore 4, 2) := by decide +kernel
theorem dX7_goesOn_9 : decode cX7_goesOn 9 = .ok (.aload_n 0, 1) := by decide +kernel
theorem dX7_goesOn_10 : decode cX7_goesOn 10 = .ok (.getfield 7, 3) := by decide +kernel
theorem dX7_goesOn_13 : decode cX7_goesOn 13 = .ok (.iload_n 3, 1) := by decide +kernel
theorem dX7_goesOn_14 : decode cX7_goesOn 14 = .ok (.iaload, 1) := by decide +kernel
theorem dX7_goesOn_15 : decode cX7_goesOn 15 = .ok (.iload_n 2, 1) := by decide +kernel
theorem dX7_goesOn_16 : decode cX7_goesOn 16 = .ok (.imul, 1) := by decide +kernel
theorem dX7_goesOn_17 : decode cX7_goesOn 17 = .ok (.aload_n 0, 1) := by decide +kernel
theorem dX7_goesOn_18 : decode cX7_goesOn 18 = .ok (.getfield 7, 3) := by decide +kernel
theorem dX7_goesOn_21 : decode cX7_goesOn 21 = .ok (.iload_n 3, 1) := by decide +kernel
theorem dX7_goesOn_22 : decode cX7_goesOn 22 = .ok (.iconst 1, 1) := by decide +kernel
theorem dX7_goesOn_23 : decode cX7_goesOn 23 = .ok (.iadd, 1) := by decide +kernel
theorem dX7_goesOn_24 : decode cX7_goesOn 24 = .ok (.iaload, 1) := by decide +kernel
theorem dX7_goesOn_25 : decode cX7_goesOn 25 = .ok (.aload_n 0, 1) := by decide +kernel
theorem dX7_goesOn_26 : decode cX7_goesOn 26 = .ok (.getfield 13, 3) := by decide +kernel
theorem dX7_goesOn_29 : decode cX7_goesOn 29 = .ok (.iload 4, 2) := by decide +kernel
theorem dX7_goesOn_31 : decode cX7_goesOn 31 = .ok (.iaload, 1) := by decide +kernel
theorem dX7_goesOn_32 : decode cX7_goesOn 32 = .ok (.imul, 1) := by decide +kernel
theorem dX7_goesOn_33 : decode cX7_goesOn 33 = .ok (.iadd, 1) := by decide +kernel
theorem dX7_goesOn_34 : decode cX7_goesOn 34 = .ok (.aload_n 0, 1) := by decide +kernel
theorem dX7_goesOn_35 : decode cX7_goesOn 35 = .ok (.getfield 7, 3) := by decide +kernel
theorem dX7_goesOn_38 : decode cX7_goesOn 38 = .ok (.iload_n 3, 1) := by decide +kernel
theorem dX7_goesOn_39 : decode cX7_goesOn 39 = .ok (.iconst 2, 1) := by decide +kernel
theorem dX7_goesOn_40 : decode cX7_goesOn 40 = .ok (.iadd, 1) := by decide +kernel
theorem dX7_goesOn_41 : decode cX7_goesOn 41 = .ok (.iaload, 1) := by decide +kernel
theorem dX7_goesOn_42 : decode cX7_goesOn 42 = .ok (.aload_n 0, 1) := by decide +kernel
theorem dX7_goesOn_43 : decode cX7_goesOn 43 = .ok (.getfield 13, 3) := by decide +kernel
theorem dX7_goesOn_46 : decode cX7_goesOn 46 = .ok (.iload 4, 2) := by decide +kernel
theorem dX7_goesOn_48 : decode cX7_goesOn 48 = .ok (.iconst 1, 1) := by decide +kernel
theorem dX7_goesOn_49 : decode cX7_goesOn 49 = .ok (.iadd, 1) := by decide +kernel
theorem dX7_goesOn_50 : decode cX7_goesOn 50 = .ok (.iaload, 1) := by decide +kernel
theorem dX7_goesOn_51 : decode cX7_goesOn 51 = .ok (.imul, 1) := by decide +kernel
theorem dX7_goesOn_52 : decode cX7_goesOn 52 = .ok (.iadd, 1) := by decide +kernel
theorem dX7_goesOn_53 : decode cX7_goesOn 53 = .ok (.aload_n 0, 1) := by decide +kernel
theorem dX7_goesOn_54 : decode cX7_goesOn 54 = .ok (.getfield 7, 3) := by decide +kernel
theorem dX7_goesOn_57 : decode cX7_goesOn 57 = .ok (.iload_n 3, 1) := by decide +kernel
theorem dX7_goesOn_58 : decode cX7_goesOn 58 = .ok (.iconst 3, 1) := by decide +kernel
theorem dX7_goesOn_59 : decode cX7_goesOn 59 = .ok (.iadd, 1) := by decide +kernel
theorem dX7_goesOn_60 : decode cX7_goesOn 60 = .ok (.iaload, 1) := by decide +kernel
theorem dX7_goesOn_61 : decode cX7_goesOn 61 = .ok (.aload_n 0, 1) := by decide +kernel
theorem dX7_goesOn_62 : decode cX7_goesOn 62 = .ok (.getfield 13, 3) := by decide +kernel
theorem dX7_goesOn_65 : decode cX7_goesOn 65 = .ok (.iload 4, 2) := by decide +kernel
theorem dX7_goesOn_67 : decode cX7_goesOn 67 = .ok (.iconst 2, 1) := by decide +kernel
theorem dX7_goesOn_68 : decode cX7_goesOn 68 = .ok (.iadd, 1) := by decide +kernel
theorem dX7_goesOn_69 : decode cX7_goesOn 69 = .ok (.iaload, 1) := by decide +kernel
theorem dX7_goesOn_70 : decode cX7_goesOn 70 = .ok (.imul, 1) := by decide +kernel
theorem dX7_goesOn_71 : decode cX7_goesOn 71 = .ok (.isub, 1) := by decide +kernel
theorem dX7_goesOn_72 : decode cX7_goesOn 72 = .ok (.aload_n 0, 1) := by decide +kernel
theorem dX7_goesOn_73 : decode cX7_goesOn 73 = .ok (.getfield 7, 3) := by decide +kernel
theorem dX7_goesOn_76 : decode cX7_goesOn 76 = .ok (.iload_n 3, 1) := by decide +kernel
theorem dX7_goesOn_77 : decode cX7_goesOn 77 = .ok (.iconst 4, 1) := by decide +kernel
theorem dX7_goesOn_78 : decode cX7_goesOn 78 = .ok (.iadd, 1) := by decide +kernel
theorem dX7_goesOn_79 : decode cX7_goesOn 79 = .ok (.iaload, 1) := by decide +kernel
theorem dX7_goesOn_80 : decode cX7_goesOn 80 = .ok (.aload_n 0, 1) := by decide +kernel
theorem dX7_goesOn_81 : decode cX7_goesOn 81 = .ok (.getfield 13, 3) := by decide +kernel
theorem dX7_goesOn_84 : decode cX7_goesOn 84 = .ok (.iload 4, 2) := by decide +kernel
theorem dX7_goesOn_86 : decode cX7_goesOn 86 = .ok (.iconst 3, 1) := by decide +kernel
theorem dX7_goesOn_87 : decode cX7_goesOn 87 = .ok (.iadd, 1) := by decide +kernel
theorem dX7_goesOn_88 : decode cX7_goesOn 88 = .ok (.iaload, 1) := by decide +kernel
theorem dX7_goesOn_89 : decode cX7_goesOn 89 = .ok (.imul, 1) := by decide +kernel
theorem dX7_goesOn_90 : decode cX7_goesOn 90 = .ok (.isub, 1) := by decide +kernel
theorem dX7_goesOn_91 : decode cX7_goesOn 91 = .ok (.istore 5, 2) := by decide +kernel
theorem dX7_goesOn_93 : decode cX7_goesOn 93 = .ok (.aload_n 0, 1) := by decide +kernel
theorem dX7_goesOn_94 : decode cX7_goesOn 94 = .ok (.iload 5, 2) := by decide +kernel
theorem dX7_goesOn_96 : decode cX7_goesOn 96 = .ok (.aload_n 0, 1) := by decide +kernel
theorem dX7_goesOn_97 : decode cX7_goesOn 97 = .ok (.getfield 16, 3) := by decide +kernel
theorem dX7_goesOn_100 : decode cX7_goesOn 100 = .ok (.iload_n 1, 1) := by decide +kernel
theorem dX7_goesOn_101 : decode cX7_goesOn 101 = .ok (.iaload, 1) := by decide +kernel
theorem dX7_goesOn_102 : decode cX7_goesOn 102 = .ok (.invokevirtual 78, 3) := by decide +kernel
theorem dX7_goesOn_105 : decode cX7_goesOn 105 = .ok (.istore 6, 2) := by decide +kernel
theorem dX7_goesOn_107 : decode cX7_goesOn 107 = .ok (.aload_n 0, 1) := by decide +kernel
theorem dX7_goesOn_108 : decode cX7_goesOn 108 = .ok (.getfield 13, 3) := by decide +kernel
theorem dX7_goesOn_111 : decode cX7_goesOn 111 = .ok (.iload 4, 2) := by decide +kernel
theorem dX7_goesOn_113 : decode cX7_goesOn 113 = .ok (.iconst 1, 1) := by decide +kernel
theorem dX7_goesOn_114 : decode cX7_goesOn 114 = .ok (.iadd, 1) := by decide +kernel
theorem dX7_goesOn_115 : decode cX7_goesOn 115 = .ok (.aload_n 0, 1) := by decide +kernel
theorem dX7_goesOn_116 : decode cX7_goesOn 116 = .ok (.getfield 13, 3) := by decide +kernel
theorem dX7_goesOn_119 : decode cX7_goesOn 119 = .ok (.iload 4, 2) := by decide +kernel
theorem dX7_goesOn_121 : decode cX7_goesOn 121 = .ok (.iaload, 1) := by decide +kernel
theorem dX7_goesOn_122 : decode cX7_goesOn 122 = .ok (.iastore, 1) := by decide +kernel
theorem dX7_goesOn_123 : decode cX7_goesOn 123 = .ok (.aload_n 0, 1) := by decide +kernel
theorem dX7_goesOn_124 : decode cX7_goesOn 124 = .ok (.getfield 13, 3) := by decide +kernel
theorem dX7_goesOn_127 : decode cX7_goesOn 127 = .ok (.iload 4, 2) := by decide +kernel
theorem dX7_goesOn_129 : decode cX7_goesOn 129 = .ok (.iload_n 2, 1) := by decide +kernel
theorem dX7_goesOn_130 : decode cX7_goesOn 130 = .ok (.iastore, 1) := by decide +kernel
theorem dX7_goesOn_131 : decode cX7_goesOn 131 = .ok (.aload_n 0, 1) := by decide +kernel
theorem dX7_goesOn_132 : decode cX7_goesOn 132 = .ok (.getfield 13, 3) := by decide +kernel
theorem dX7_goesOn_135 : decode cX7_goesOn 135 = .ok (.iload 4, 2) := by decide +kernel
theorem dX7_goesOn_137 : decode cX7_goesOn 137 = .ok (.iconst 3, 1) := by decide +kernel
theorem dX7_goesOn_138 : decode cX7_goesOn 138 = .ok (.iadd, 1) := by decide +kernel
theorem dX7_goesOn_139 : decode cX7_goesOn 139 = .ok (.aload_n 0, 1) := by decide +kernel
theorem dX7_goesOn_140 : decode cX7_goesOn 140 = .ok (.getfield 13, 3) := by decide +kernel
theorem dX7_goesOn_143 : decode cX7_goesOn 143 = .ok (.iload 4, 2) := by decide +kernel
theorem dX7_goesOn_145 : decode cX7_goesOn 145 = .ok (.iconst 2, 1) := by decide +kernel
theorem dX7_goesOn_146 : decode cX7_goesOn 146 = .ok (.iadd, 1) := by decide +kernel
theorem dX7_goesOn_147 : decode cX7_goesOn 147 = .ok (.iaload, 1) := by decide +kernel
theorem dX7_goesOn_148 : decode cX7_goesOn 148 = .ok (.iastore, 1) := by decide +kernel
theorem dX7_goesOn_149 : decode cX7_goesOn 149 = .ok (.aload_n 0, 1) := by decide +kernel
theorem dX7_goesOn_150 : decode cX7_goesOn 150 = .ok (.getfield 13, 3) := by decide +kernel
theorem dX7_goesOn_153 : decode cX7_goesOn 153 = .ok (.iload 4, 2) := by decide +kernel
theorem dX7_goesOn_155 : decode cX7_goesOn 155 = .ok (.iconst 2, 1) := by decide +kernel
theorem dX7_goesOn_156 : decode cX7_goesOn 156 = .ok (.iadd, 1) := by decide +kernel
theorem dX7_goesOn_157 : decode cX7_goesOn 157 = .ok (.iload 6, 2) := by decide +kernel
theorem dX7_goesOn_159 : decode cX7_goesOn 159 = .ok (.iastore, 1) := by decide +kernel
theorem dX7_goesOn_160 : decode cX7_goesOn 160 = .ok (.iload 6, 2) := by decide +kernel
theorem dX7_goesOn_162 : decode cX7_goesOn 162 = .ok (.ireturn, 1) := by decide +kernel
theorem dX7_run_0 : decode cX7_run 0 = .ok (.aload_n 0, 1) := by decide +kernel
theorem dX7_run_1 : decode cX7_run 1 = .ok (.iload_n 1, 1) := by decide +kernel
theorem dX7_run_2 : decode cX7_run 2 = .ok (.sipush (-32767), 3) := by decide +kernel
theorem dX7_run_5 : decode cX7_run 5 = .ok (.sipush 32767, 3) := by decide +kernel
theorem dX7_run_8 : decode cX7_run 8 = .ok (.invokestatic 48, 3) := by decide +kernel
theorem dX7_run_11 : decode cX7_run 11 = .ok (.iconst 1, 1) := by decide +kernel
theorem dX7_run_12 : decode cX7_run 12 = .ok (.iconst 1, 1) := by decide +kernel
theorem dX7_run_13 : decode cX7_run 13 = .ok (.invokevirtual 52, 3) := by decide +kernel
theorem dX7_run_16 : decode cX7_run 16 = .ok (.ifCond .ne 5, 3) := by decide +kernel
theorem dX7_run_19 : decode cX7_run 19 = .ok (.iconst 0, 1) := by decide +kernel
theorem dX7_run_20 : decode cX7_run 20 = .ok (.ireturn, 1) := by decide +kernel
theorem dX7_run_21 : decode cX7_run 21 = .ok (.iload_n 1, 1) := by decide +kernel
theorem dX7_run_22 : decode cX7_run 22 = .ok (.istore_n 2, 1) := by decide +kernel
theorem dX7_run_23 : decode cX7_run 23 = .ok (.iconst 0, 1) := by decide +kernel
theorem dX7_run_24 : decode cX7_run 24 = .ok (.istore_n 3, 1) := by decide +kernel
theorem dX7_run_25 : decode cX7_run 25 = .ok (.iload_n 3, 1) := by decide +kernel
theorem dX7_run_26 : decode cX7_run 26 = .ok (.aload_n 0, 1) := by decide +kernel
theorem dX7_run_27 : decode cX7_run 27 = .ok (.getfield 60, 3) := by decide +kernel
theorem dX7_run_30 : decode cX7_run 30 = .ok (.if_icmp .ge 21, 3) := by decide +kernel
theorem dX7_run_33 : decode cX7_run 33 = .ok (.aload_n 0, 1) := by decide +kernel
theorem dX7_run_34 : decode cX7_run 34 = .ok (.aload_n 0, 1) := by decide +kernel
theorem dX7_run_35 : decode cX7_run 35 = .ok (.getfield 19, 3) := by decide +kernel
theorem dX7_run_38 : decode cX7_run 38 = .ok (.iload_n 3, 1) := by decide +kernel
theorem dX7_run_39 : decode cX7_run 39 = .ok (.iaload, 1) := by decide +kernel
theorem dX7_run_40 : decode cX7_run 40 = .ok (.iload_n 2, 1) := by decide +kernel
theorem dX7_run_41 : decode cX7_run 41 = .ok (.invokevirtual 81, 3) := by decide +kernel
theorem dX7_run_44 : decode cX7_run 44 = .ok (.istore_n 2, 1) := by decide +kernel
theorem dX7_run_45 : decode cX7_run 45 = .ok (.iinc 3 1, 3) := by decide +kernel
theorem dX7_run_48 : decode cX7_run 48 = .ok (.goto (-23), 3) := by decide +kernel
theorem dX7_run_51 : decode cX7_run 51 = .ok (.bipush 15, 2) := by decide +kernel
theorem dX7_run_53 : decode cX7_run 53 = .ok (.istore_n 3, 1) := by decide +kernel
theorem dX7_run_54 : decode cX7_run 54 = .ok (.iload_n 3, 1) := by decide +kernel
theorem dX7_run_55 : decode cX7_run 55 = .ok (.ifCond .le 23, 3) := by decide +kernel
theorem dX7_run_58 : decode cX7_run 58 = .ok (.aload_n 0, 1) := by decide +kernel
theorem dX7_run_59 : decode cX7_run 59 = .ok (.getfield 22, 3) := by decide +kernel
theorem dX7_run_62 : decode cX7_run 62 = .ok (.iload_n 3, 1) := by decide +kernel
theorem dX7_run_63 : decode cX7_run 63 = .ok (.aload_n 0, 1) := by decide +kernel
theorem dX7_run_64 : decode cX7_run 64 = .ok (.getfield 22, 3) := by decide +kernel
theorem dX7_run_67 : decode cX7_run 67 = .ok (.iload_n 3, 1) := by decide +kernel
theorem dX7_run_68 : decode cX7_run 68 = .ok (.iconst 1, 1) := by decide +kernel
theorem dX7_run_69 : decode cX7_run 69 = .ok (.isub, 1) := by decide +kernel
theorem dX7_run_70 : decode cX7_run 70 = .ok (.iaload, 1) := by decide +kernel
theorem dX7_run_71 : decode cX7_run 71 = .ok (.iastore, 1) := by decide +kernel
theorem dX7_run_72 : decode cX7_run 72 = .ok (.iinc 3 (-1), 3) := by decide +kernel
theorem dX7_run_75 : decode cX7_run 75 = .ok (.goto (-21), 3) := by decide +kernel
theorem dX7_run_78 : decode cX7_run 78 = .ok (.aload_n 0, 1) := by decide +kernel
theorem dX7_run_79 : decode cX7_run 79 = .ok (.getfield 22, 3) := by decide +kernel
theorem dX7_run_82 : decode cX7_run 82 = .ok (.iconst 0, 1) := by decide +kernel
theorem dX7_run_83 : decode cX7_run 83 = .ok (.iload_n 2, 1) := by decide +kernel
theorem dX7_run_84 : decode cX7_run 84 = .ok (.iastore, 1) := by decide +kernel
theorem dX7_run_85 : decode cX7_run 85 = .ok (.aload_n 0, 1) := by decide +kernel
theorem dX7_run_86 : decode cX7_run 86 = .ok (.dup, 1) := by decide +kernel
theorem dX7_run_87 : decode cX7_run 87 = .ok (.getfield 84, 3) := by decide +kernel
theorem dX7_run_90 : decode cX7_run 90 = .ok (.aload_n 0, 1) := by decide +kernel
theorem dX7_run_91 : decode cX7_run 91 = .ok (.getfield 84, 3) := by decide +kernel
theorem dX7_run_94 : decode cX7_run 94 = .ok (.bipush 16, 2) := by decide +kernel
theorem dX7_run_96 : decode cX7_run 96 = .ok (.if_icmp .ge 7, 3) := by decide +kernel
theorem dX7_run_99 : decode cX7_run 99 = .ok (.iconst 1, 1) := by decide +kernel
theorem dX7_run_100 : decode cX7_run 100 = .ok (.goto 4, 3) := by decide +kernel
theorem dX7_run_103 : decode cX7_run 103 = .ok (.iconst 0, 1) := by decide +kernel
theorem dX7_run_104 : decode cX7_run 104 = .ok (.iadd, 1) := by decide +kernel
theorem dX7_run_105 : decode cX7_run 105 = .ok (.putfield 84, 3) := by decide +kernel
theorem dX7_run_108 : decode cX7_run 108 = .ok (.iload_n 2, 1) := by decide +kernel
theorem dX7_run_109 : decode cX7_run 109 = .ok (.ireturn, 1) := by decide +kernel
theorem dX7_rest__0 : decode cX7_rest_ 0 = .ok (.aload_n 0, 1) := by decide +kernel
theorem dX7_rest__1 : decode cX7_rest_ 1 = .ok (.iconst 0, 1) := by decide +kernel
theorem dX7_rest__2 : decode cX7_rest_ 2 = .ok (.putfield 41, 3) := by decide +kernel
theorem dX7_rest__5 : decode cX7_rest_ 5 = .ok (.aload_n 0, 1) := by decide +kernel
theorem dX7_rest__6 : decode cX7_rest_ 6 = .ok (.getfield 84, 3) := by decide +kernel
theorem dX7_rest__9 : decode cX7_rest_ 9 = .ok (.istore_n 1, 1) := by decide +kernel
theorem dX7_rest__10 : decode cX7_rest_ 10 = .ok (.iconst 0, 1) := by decide +kernel
theorem dX7_rest__11 : decode cX7_rest_ 11 = .ok (.istore_n 2, 1) := by decide +kernel
theorem dX7_rest__12 : decode cX7_rest_ 12 = .ok (.iload_n 2, 1) := by decide +kernel
theorem dX7_rest__13 : decode cX7_rest_ 13 = .ok (.bipush 32, 2) := by decide +kernel
theorem dX7_rest__15 : decode cX7_rest_ 15 = .ok (.if_icmp .ge 16, 3) := by decide +kernel
theorem dX7_rest__18 : decode cX7_rest_ 18 = .ok (.aload_n 0, 1) := by decide +kernel
theorem dX7_rest__19 : decode cX7_rest_ 19 = .ok (.getfield 13, 3) := by decide +kernel
theorem dX7_rest__22 : decode cX7_rest_ 22 = .ok (.iload_n 2, 1) := by decide +kernel
theorem dX7_rest__23 : decode cX7_rest_ 23 = .ok (.iconst 0, 1) := by decide +kernel
theorem dX7_rest__24 : decode cX7_rest_ 24 = .ok (.iastore, 1) := by decide +kernel
theorem dX7_rest__25 : decode cX7_rest_ 25 = .ok (.iinc 2 1, 3) := by decide +kernel
theorem dX7_rest__28 : decode cX7_rest_ 28 = .ok (.goto (-16), 3) := by decide +kernel
theorem dX7_rest__31 : decode cX7_rest_ 31 = .ok (.aload_n 0, 1) := by decide +kernel
theorem dX7_rest__32 : decode cX7_rest_ 32 = .ok (.iconst 0, 1) := by decide +kernel
theorem dX7_rest__33 : decode cX7_rest_ 33 = .ok (.putfield 84, 3) := by decide +kernel
theorem dX7_rest__36 : decode cX7_rest_ 36 = .ok (.iload_n 1, 1) := by decide +kernel
theorem dX7_rest__37 : decode cX7_rest_ 37 = .ok (.ireturn, 1) := by decide +kernel
theorem dX7_tap_0 : decode cX7_tap 0 = .ok (.aload_n 0, 1) := by decide +kernel
theorem dX7_tap_1 : decode cX7_tap 1 = .ok (.iload_n 1, 1) := by decide +kernel
theorem dX7_tap_2 : decode cX7_tap 2 = .ok (.iconst 0, 1) := by decide +kernel
theorem dX7_tap_3 : decode cX7_tap 3 = .ok (.bipush 31, 2) := by decide +kernel
theorem dX7_tap_5 : decode cX7_tap 5 = .ok (.invokestatic 48, 3) := by decide +kernel
theorem dX7_tap_8 : decode cX7_tap 8 = .ok (.iload_n 2, 1) := by decide +kernel
theorem dX7_tap_9 : decode cX7_tap 9 = .ok (.bipush (-96), 2) := by decide +kernel
theorem dX7_tap_11 : decode cX7_tap 11 = .ok (.bipush 96, 2) := by decide +kernel
theorem dX7_tap_13 : decode cX7_tap 13 = .ok (.invokestatic 48, 3) := by decide +kernel
theorem dX7_tap_16 : decode cX7_tap 16 = .ok (.iconst 1, 1) := by decide +kernel
theorem dX7_tap_17 : decode cX7_tap 17 = .ok (.invokevirtual 52, 3) := by decide +kernel
theorem dX7_tap_20 : decode cX7_tap 20 = .ok (.ifCond .ne 5, 3) := by decide +kernel
theorem dX7_tap_23 : decode cX7_tap 23 = .ok (.iconst 0, 1) := by decide +kernel
theorem dX7_tap_24 : decode cX7_tap 24 = .ok (.ireturn, 1) := by decide +kernel
theorem dX7_tap_25 : decode cX7_tap 25 = .ok (.aload_n 0, 1) := by decide +kernel
theorem dX7_tap_26 : decode cX7_tap 26 = .ok (.getfield 25, 3) := by decide +kernel
theorem dX7_tap_29 : decode cX7_tap 29 = .ok (.iload_n 1, 1) := by decide +kernel
theorem dX7_tap_30 : decode cX7_tap 30 = .ok (.iaload, 1) := by decide +kernel
theorem dX7_tap_31 : decode cX7_tap 31 = .ok (.istore_n 3, 1) := by decide +kernel
theorem dX7_tap_32 : decode cX7_tap 32 = .ok (.aload_n 0, 1) := by decide +kernel
theorem dX7_tap_33 : decode cX7_tap 33 = .ok (.getfield 25, 3) := by decide +kernel
theorem dX7_tap_36 : decode cX7_tap 36 = .ok (.iload_n 1, 1) := by decide +kernel
theorem dX7_tap_37 : decode cX7_tap 37 = .ok (.iload_n 2, 1) := by decide +kernel
theorem dX7_tap_38 : decode cX7_tap 38 = .ok (.invokestatic 87, 3) := by decide +kernel
theorem dX7_tap_41 : decode cX7_tap 41 = .ok (.iastore, 1) := by decide +kernel
theorem dX7_tap_42 : decode cX7_tap 42 = .ok (.iload_n 3, 1) := by decide +kernel
theorem dX7_tap_43 : decode cX7_tap 43 = .ok (.ireturn, 1) := by decide +kernel
theorem dX7_ask_0 : decode cX7_ask 0 = .ok (.aload_n 0, 1) := by decide +kernel
theorem dX7_ask_1 : decode cX7_ask 1 = .ok (.iload_n 1, 1) := by decide +kernel
theorem dX7_ask_2 : decode cX7_ask 2 = .ok (.iconst 0, 1) := by decide +kernel
theorem dX7_ask_3 : decode cX7_ask 3 = .ok (.bipush 31, 2) := by decide +kernel
theorem dX7_ask_5 : decode cX7_ask 5 = .ok (.invokestatic 48, 3) := by decide +kernel
theorem dX7_ask_8 : decode cX7_ask 8 = .ok (.iload_n 2, 1) := by decide +kernel
theorem dX7_ask_9 : decode cX7_ask 9 = .ok (.bipush (-96), 2) := by decide +kernel
theorem dX7_ask_11 : decode cX7_ask 11 = .ok (.bipush 96, 2) := by decide +kernel
theorem dX7_ask_13 : decode cX7_ask 13 = .ok (.invokestatic 48, 3) := by decide +kernel
theorem dX7_ask_16 : decode cX7_ask 16 = .ok (.iconst 1, 1) := by decide +kernel
theorem dX7_ask_17 : decode cX7_ask 17 = .ok (.invokevirtual 52, 3) := by decide +kernel
theorem dX7_ask_20 : decode cX7_ask 20 = .ok (.ifCond .ne 5, 3) := by decide +kernel
theorem dX7_ask_23 : decode cX7_ask 23 = .ok (.iconst 0, 1) := by decide +kernel
theorem dX7_ask_24 : decode cX7_ask 24 = .ok (.ireturn, 1) := by decide +kernel
theorem dX7_ask_25 : decode cX7_ask 25 = .ok (.aload_n 0, 1) := by decide +kernel
theorem dX7_ask_26 : decode cX7_ask 26 = .ok (.getfield 28, 3) := by decide +kernel
theorem dX7_ask_29 : decode cX7_ask 29 = .ok (.iload_n 1, 1) := by decide +kernel
theorem dX7_ask_30 : decode cX7_ask 30 = .ok (.iaload, 1) := by decide +kernel
theorem dX7_ask_31 : decode cX7_ask 31 = .ok (.istore_n 3, 1) := by decide +kernel
theorem dX7_ask_32 : decode cX7_ask 32 = .ok (.aload_n 0, 1) := by decide +kernel
theorem dX7_ask_33 : decode cX7_ask 33 = .ok (.getfield 28, 3) := by decide +kernel
theorem dX7_ask_36 : decode cX7_ask 36 = .ok (.iload_n 1, 1) := by decide +kernel
theorem dX7_ask_37 : decode cX7_ask 37 = .ok (.iload_n 2, 1) := by decide +kernel
theorem dX7_ask_38 : decode cX7_ask 38 = .ok (.invokestatic 87, 3) := by decide +kernel
theorem dX7_ask_41 : decode cX7_ask 41 = .ok (.iastore, 1) := by decide +kernel
theorem dX7_ask_42 : decode cX7_ask 42 = .ok (.iload_n 3, 1) := by decide +kernel
theorem dX7_ask_43 : decode cX7_ask 43 = .ok (.ireturn, 1) := by decide +kernel
theorem dX7_root_0 : decode cX7_root 0 = .ok (.iconst 1, 1) := by decide +kernel
theorem dX7_root_1 : decode cX7_root 1 = .ok (.istore_n 1, 1) := by decide +kernel
theorem dX7_root_2 : decode cX7_root 2 = .ok (.iconst 0, 1) := by decide +kernel
theorem dX7_root_3 : decode cX7_root 3 = .ok (.istore_n 2, 1) := by decide +kernel
theorem dX7_root_4 : decode cX7_root 4 = .ok (.iload_n 2, 1) := by decide +kernel
theorem dX7_root_5 : decode cX7_root 5 = .ok (.iload_n 0, 1) := by decide +kernel
theorem dX7_root_6 : decode cX7_root 6 = .ok (.bipush 32, 2) := by decide +kernel
theorem dX7_root_8 : decode cX7_root 8 = .ok (.irem, 1) := by decide +kernel
theorem dX7_root_9 : decode cX7_root 9 = .ok (.if_icmp .ge 17, 3) := by decide +kernel
theorem dX7_root_12 : decode cX7_root 12 = .ok (.iload_n 1, 1) := by decide +kernel
theorem dX7_root_13 : decode cX7_root 13 = .ok (.bipush 28, 2) := by decide +kernel
theorem dX7_root_15 : decode cX7_root 15 = .ok (.imul, 1) := by decide +kernel
theorem dX7_root_16 : decode cX7_root 16 = .ok (.bipush 97, 2) := by decide +kernel
theorem dX7_root_18 : decode cX7_root 18 = .ok (.irem, 1) := by decide +kernel
theorem dX7_root_19 : decode cX7_root 19 = .ok (.istore_n 1, 1) := by decide +kernel
theorem dX7_root_20 : decode cX7_root 20 = .ok (.iinc 2 1, 3) := by decide +kernel
theorem dX7_root_23 : decode cX7_root 23 = .ok (.goto (-19), 3) := by decide +kernel
theorem dX7_root_26 : decode cX7_root 26 = .ok (.iload_n 1, 1) := by decide +kernel
theorem dX7_root_27 : decode cX7_root 27 = .ok (.ireturn, 1) := by decide +kernel
theorem dX7_design_0 : decode cX7_design 0 = .ok (.aload_n 0, 1) := by decide +kernel
theorem dX7_design_1 : decode cX7_design 1 = .ok (.iconst 0, 1) := by decide +kernel
theorem dX7_design_2 : decode cX7_design 2 = .ok (.putfield 41, 3) := by decide +kernel
theorem dX7_design_5 : decode cX7_design 5 = .ok (.iconst 0, 1) := by decide +kernel
theorem dX7_design_6 : decode cX7_design 6 = .ok (.istore_n 1, 1) := by decide +kernel
theorem dX7_design_7 : decode cX7_design 7 = .ok (.iconst 0, 1) := by decide +kernel
theorem dX7_design_8 : decode cX7_design 8 = .ok (.istore_n 2, 1) := by decide +kernel
theorem dX7_design_9 : decode cX7_design 9 = .ok (.iload_n 2, 1) := by decide +kernel
theorem dX7_design_10 : decode cX7_design 10 = .ok (.bipush 32, 2) := by decide +kernel
theorem dX7_design_12 : decode cX7_design 12 = .ok (.if_icmp .ge 87, 3) := by decide +kernel
theorem dX7_design_15 : decode cX7_design 15 = .ok (.iconst 0, 1) := by decide +kernel
theorem dX7_design_16 : decode cX7_design 16 = .ok (.istore_n 3, 1) := by decide +kernel
theorem dX7_design_17 : decode cX7_design 17 = .ok (.iconst 0, 1) := by decide +kernel
theorem dX7_design_18 : decode cX7_design 18 = .ok (.istore 4, 2) := by decide +kernel
theorem dX7_design_20 : decode cX7_design 20 = .ok (.iload 4, 2) := by decide +kernel
theorem dX7_design_22 : decode cX7_design 22 = .ok (.bipush 32, 2) := by decide +kernel
theorem dX7_design_24 : decode cX7_design 24 = .ok (.if_icmp .ge 33, 3) := by decide +kernel
theorem dX7_design_27 : decode cX7_design 27 = .ok (.iload_n 3, 1) := by decide +kernel
theorem dX7_design_28 : decode cX7_design 28 = .ok (.aload_n 0, 1) := by decide +kernel
theorem dX7_design_29 : decode cX7_design 29 = .ok (.getfield 28, 3) := by decide +kernel
theorem dX7_design_32 : decode cX7_design 32 = .ok (.iload 4, 2) := by decide +kernel
theorem dX7_design_34 : decode cX7_design 34 = .ok (.iaload, 1) := by decide +kernel
theorem dX7_design_35 : decode cX7_design 35 = .ok (.iload 4, 2) := by decide +kernel
theorem dX7_design_37 : decode cX7_design 37 = .ok (.bipush 32, 2) := by decide +kernel
theorem dX7_design_39 : decode cX7_design 39 = .ok (.iload_n 2, 1) := by decide +kernel
theorem dX7_design_40 : decode cX7_design 40 = .ok (.isub, 1) := by decide +kernel
theorem dX7_design_41 : decode cX7_design 41 = .ok (.imul, 1) := by decide +kernel
theorem dX7_design_42 : decode cX7_design 42 = .ok (.invokestatic 90, 3) := by decide +kernel
theorem dX7_design_45 : decode cX7_design 45 = .ok (.imul, 1) := by decide +kernel
theorem dX7_design_46 : decode cX7_design 46 = .ok (.iadd, 1) := by decide +kernel
theorem dX7_design_47 : decode cX7_design 47 = .ok (.bipush 97, 2) := by decide +kernel
theorem dX7_design_49 : decode cX7_design 49 = .ok (.irem, 1) := by decide +kernel
theorem dX7_design_50 : decode cX7_design 50 = .ok (.istore_n 3, 1) := by decide +kernel
theorem dX7_design_51 : decode cX7_design 51 = .ok (.iinc 4 1, 3) := by decide +kernel
theorem dX7_design_54 : decode cX7_design 54 = .ok (.goto (-34), 3) := by decide +kernel
theorem dX7_design_57 : decode cX7_design 57 = .ok (.iload_n 3, 1) := by decide +kernel
theorem dX7_design_58 : decode cX7_design 58 = .ok (.bipush 94, 2) := by decide +kernel
theorem dX7_design_60 : decode cX7_design 60 = .ok (.imul, 1) := by decide +kernel
theorem dX7_design_61 : decode cX7_design 61 = .ok (.bipush 97, 2) := by decide +kernel
theorem dX7_design_63 : decode cX7_design 63 = .ok (.irem, 1) := by decide +kernel
theorem dX7_design_64 : decode cX7_design 64 = .ok (.istore 4, 2) := by decide +kernel
theorem dX7_design_66 : decode cX7_design 66 = .ok (.iload_n 1, 1) := by decide +kernel
theorem dX7_design_67 : decode cX7_design 67 = .ok (.aload_n 0, 1) := by decide +kernel
theorem dX7_design_68 : decode cX7_design 68 = .ok (.getfield 25, 3) := by decide +kernel
theorem dX7_design_71 : decode cX7_design 71 = .ok (.iload_n 2, 1) := by decide +kernel
theorem dX7_design_72 : decode cX7_design 72 = .ok (.iaload, 1) := by decide +kernel
theorem dX7_design_73 : decode cX7_design 73 = .ok (.iload 4, 2) := by decide +kernel
theorem dX7_design_75 : decode cX7_design 75 = .ok (.if_icmp .ne 7, 3) := by decide +kernel
theorem dX7_design_78 : decode cX7_design 78 = .ok (.iconst 0, 1) := by decide +kernel
theorem dX7_design_79 : decode cX7_design 79 = .ok (.goto 4, 3) := by decide +kernel
theorem dX7_design_82 : decode cX7_design 82 = .ok (.iconst 1, 1) := by decide +kernel
theorem dX7_design_83 : decode cX7_design 83 = .ok (.iadd, 1) := by decide +kernel
theorem dX7_design_84 : decode cX7_design 84 = .ok (.istore_n 1, 1) := by decide +kernel
theorem dX7_design_85 : decode cX7_design 85 = .ok (.aload_n 0, 1) := by decide +kernel
theorem dX7_design_86 : decode cX7_design 86 = .ok (.getfield 25, 3) := by decide +kernel
theorem dX7_design_89 : decode cX7_design 89 = .ok (.iload_n 2, 1) := by decide +kernel
theorem dX7_design_90 : decode cX7_design 90 = .ok (.iload 4, 2) := by decide +kernel
theorem dX7_design_92 : decode cX7_design 92 = .ok (.iastore, 1) := by decide +kernel
theorem dX7_design_93 : decode cX7_design 93 = .ok (.iinc 2 1, 3) := by decide +kernel
theorem dX7_design_96 : decode cX7_design 96 = .ok (.goto (-87), 3) := by decide +kernel
theorem dX7_design_99 : decode cX7_design 99 = .ok (.iload_n 1, 1) := by decide +kernel
theorem dX7_design_100 : decode cX7_design 100 = .ok (.ireturn, 1) := by decide +kernel
theorem dX7_sample_0 : decode cX7_sample 0 = .ok (.aload_n 0, 1) := by decide +kernel
theorem dX7_sample_1 : decode cX7_sample 1 = .ok (.iload_n 1, 1) := by decide +kernel
theorem dX7_sample_2 : decode cX7_sample 2 = .ok (.bipush (-96), 2) := by decide +kernel
theorem dX7_sample_4 : decode cX7_sample 4 = .ok (.bipush 96, 2) := by decide +kernel
theorem dX7_sample_6 : decode cX7_sample 6 = .ok (.invokestatic 48, 3) := by decide +kernel
theorem dX7_sample_9 : decode cX7_sample 9 = .ok (.iconst 1, 1) := by decide +kernel
theorem dX7_sample_10 : decode cX7_sample 10 = .ok (.iconst 1, 1) := by decide +kernel
theorem dX7_sample_11 : decode cX7_sample 11 = .ok (.invokevirtual 52, 3) := by decide +kernel
theorem dX7_sample_14 : decode cX7_sample 14 = .ok (.ifCond .ne 5, 3) := by decide +kernel
theorem dX7_sample_17 : decode cX7_sample 17 = .ok (.iconst 0, 1) := by decide +kernel
theorem dX7_sample_18 : decode cX7_sample 18 = .ok (.ireturn, 1) := by decide +kernel
theorem dX7_sample_19 : decode cX7_sample 19 = .ok (.bipush 63, 2) := by decide +kernel
theorem dX7_sample_21 : decode cX7_sample 21 = .ok (.istore_n 2, 1) := by decide +kernel
theorem dX7_sample_22 : decode cX7_sample 22 = .ok (.iload_n 2, 1) := by decide +kernel
theorem dX7_sample_23 : decode cX7_sample 23 = .ok (.ifCond .le 23, 3) := by decide +kernel
theorem dX7_sample_26 : decode cX7_sample 26 = .ok (.aload_n 0, 1) := by decide +kernel
theorem dX7_sample_27 : decode cX7_sample 27 = .ok (.getfield 31, 3) := by decide +kernel
theorem dX7_sample_30 : decode cX7_sample 30 = .ok (.iload_n 2, 1) := by decide +kernel
theorem dX7_sample_31 : decode cX7_sample 31 = .ok (.aload_n 0, 1) := by decide +kernel
theorem dX7_sample_32 : decode cX7_sample 32 = .ok (.getfield 31, 3) := by decide +kernel
theorem dX7_sample_35 : decode cX7_sample 35 = .ok (.iload_n 2, 1) := by decide +kernel
theorem dX7_sample_36 : decode cX7_sample 36 = .ok (.iconst 1, 1) := by decide +kernel
theorem dX7_sample_37 : decode cX7_sample 37 = .ok (.isub, 1) := by decide +kernel
theorem dX7_sample_38 : decode cX7_sample 38 = .ok (.iaload, 1) := by decide +kernel
theorem dX7_sample_39 : decode cX7_sample 39 = .ok (.iastore, 1) := by decide +kernel
theorem dX7_sample_40 : decode cX7_sample 40 = .ok (.iinc 2 (-1), 3) := by decide +kernel
theorem dX7_sample_43 : decode cX7_sample 43 = .ok (.goto (-21), 3) := by decide +kernel
theorem dX7_sample_46 : decode cX7_sample 46 = .ok (.aload_n 0, 1) := by decide +kernel
theorem dX7_sample_47 : decode cX7_sample 47 = .ok (.getfield 31, 3) := by decide +kernel
theorem dX7_sample_50 : decode cX7_sample 50 = .ok (.iconst 0, 1) := by decide +kernel
theorem dX7_sample_51 : decode cX7_sample 51 = .ok (.iload_n 1, 1) := by decide +kernel
theorem dX7_sample_52 : decode cX7_sample 52 = .ok (.invokestatic 87, 3) := by decide +kernel
theorem dX7_sample_55 : decode cX7_sample 55 = .ok (.iastore, 1) := by decide +kernel
theorem dX7_sample_56 : decode cX7_sample 56 = .ok (.aload_n 0, 1) := by decide +kernel
theorem dX7_sample_57 : decode cX7_sample 57 = .ok (.dup, 1) := by decide +kernel
theorem dX7_sample_58 : decode cX7_sample 58 = .ok (.getfield 93, 3) := by decide +kernel
theorem dX7_sample_61 : decode cX7_sample 61 = .ok (.aload_n 0, 1) := by decide +kernel
theorem dX7_sample_62 : decode cX7_sample 62 = .ok (.getfield 93, 3) := by decide +kernel
theorem dX7_sample_65 : decode cX7_sample 65 = .ok (.bipush 64, 2) := by decide +kernel
theorem dX7_sample_67 : decode cX7_sample 67 = .ok (.if_icmp .ge 7, 3) := by decide +kernel
theorem dX7_sample_70 : decode cX7_sample 70 = .ok (.iconst 1, 1) := by decide +kernel
theorem dX7_sample_71 : decode cX7_sample 71 = .ok (.goto 4, 3) := by decide +kernel
theorem dX7_sample_74 : decode cX7_sample 74 = .ok (.iconst 0, 1) := by decide +kernel
theorem dX7_sample_75 : decode cX7_sample 75 = .ok (.iadd, 1) := by decide +kernel
theorem dX7_sample_76 : decode cX7_sample 76 = .ok (.putfield 93, 3) := by decide +kernel
theorem dX7_sample_79 : decode cX7_sample 79 = .ok (.aload_n 0, 1) := by decide +kernel
theorem dX7_sample_80 : decode cX7_sample 80 = .ok (.getfield 93, 3) := by decide +kernel
theorem dX7_sample_83 : decode cX7_sample 83 = .ok (.ireturn, 1) := by decide +kernel
theorem dX7_isStable_0 : decode cX7_isStable 0 = .ok (.aload_n 0, 1) := by decide +kernel
theorem dX7_isStable_1 : decode cX7_isStable 1 = .ok (.getfield 7, 3) := by decide +kernel
theorem dX7_isStable_4 : decode cX7_isStable 4 = .ok (.iconst 5, 1) := by decide +kernel
theorem dX7_isStable_5 : decode cX7_isStable 5 = .ok (.iload_n 1, 1) := by decide +kernel
theorem dX7_isStable_6 : decode cX7_isStable 6 = .ok (.imul, 1) := by decide +kernel
theorem dX7_isStable_7 : decode cX7_isStable 7 = .ok (.iconst 3, 1) := by decide +kernel
theorem dX7_isStable_8 : decode cX7_isStable 8 = .ok (.iadd, 1) := by decide +kernel
theorem dX7_isStable_9 : decode cX7_isStable 9 = .ok (.iaload, 1) := by decide +kernel
theorem dX7_isStable_10 : decode cX7_isStable 10 = .ok (.invokestatic 67, 3) := by decide +kernel
theorem dX7_isStable_13 : decode cX7_isStable 13 = .ok (.istore_n 2, 1) := by decide +kernel
theorem dX7_isStable_14 : decode cX7_isStable 14 = .ok (.aload_n 0, 1) := by decide +kernel
theorem dX7_isStable_15 : decode cX7_isStable 15 = .ok (.getfield 7, 3) := by decide +kernel
theorem dX7_isStable_18 : decode cX7_isStable 18 = .ok (.iconst 5, 1) := by decide +kernel
theorem dX7_isStable_19 : decode cX7_isStable 19 = .ok (.iload_n 1, 1) := by decide +kernel
theorem dX7_isStable_20 : decode cX7_isStable 20 = .ok (.imul, 1) := by decide +kernel
theorem dX7_isStable_21 : decode cX7_isStable 21 = .ok (.iconst 4, 1) := by decide +kernel
theorem dX7_isStable_22 : decode cX7_isStable 22 = .ok (.iadd, 1) := by decide +kernel
theorem dX7_isStable_23 : decode cX7_isStable 23 = .ok (.iaload, 1) := by decide +kernel
theorem dX7_isStable_24 : decode cX7_isStable 24 = .ok (.istore_n 3, 1) := by decide +kernel
theorem dX7_isStable_25 : decode cX7_isStable 25 = .ok (.iload_n 3, 1) := by decide +kernel
theorem dX7_isStable_26 : decode cX7_isStable 26 = .ok (.bipush (-64), 2) := by decide +kernel
theorem dX7_isStable_28 : decode cX7_isStable 28 = .ok (.if_icmp .le 21, 3) := by decide +kernel
theorem dX7_isStable_31 : decode cX7_isStable 31 = .ok (.iload_n 3, 1) := by decide +kernel
theorem dX7_isStable_32 : decode cX7_isStable 32 = .ok (.bipush 64, 2) := by decide +kernel
theorem dX7_isStable_34 : decode cX7_isStable 34 = .ok (.if_icmp .ge 15, 3) := by decide +kernel
theorem dX7_isStable_37 : decode cX7_isStable 37 = .ok (.iload_n 2, 1) := by decide +kernel
theorem dX7_isStable_38 : decode cX7_isStable 38 = .ok (.iload_n 3, 1) := by decide +kernel
theorem dX7_isStable_39 : decode cX7_isStable 39 = .ok (.bipush 64, 2) := by decide +kernel
theorem dX7_isStable_41 : decode cX7_isStable 41 = .ok (.iadd, 1) := by decide +kernel
theorem dX7_isStable_42 : decode cX7_isStable 42 = .ok (.if_icmp .ge 7, 3) := by decide +kernel
theorem dX7_isStable_45 : decode cX7_isStable 45 = .ok (.iconst 1, 1) := by decide +kernel
theorem dX7_isStable_46 : decode cX7_isStable 46 = .ok (.goto 4, 3) := by decide +kernel
theorem dX7_isStable_49 : decode cX7_isStable 49 = .ok (.iconst 0, 1) := by decide +kernel
theorem dX7_isStable_50 : decode cX7_isStable 50 = .ok (.ireturn, 1) := by decide +kernel
theorem dX7_of_0 : decode cX7_of 0 = .ok (.aload_n 0, 1) := by decide +kernel
theorem dX7_of_1 : decode cX7_of 1 = .ok (.aload_n 0, 1) := by decide +kernel
theorem dX7_of_2 : decode cX7_of 2 = .ok (.iload_n 1, 1) := by decide +kernel
theorem dX7_of_3 : decode cX7_of 3 = .ok (.invokevirtual 56, 3) := by decide +kernel
theorem dX7_of_6 : decode cX7_of 6 = .ok (.iload_n 2, 1) := by decide +kernel
theorem dX7_of_7 : decode cX7_of 7 = .ok (.iconst 0, 1) := by decide +kernel
theorem dX7_of_8 : decode cX7_of 8 = .ok (.bipush 9, 2) := by decide +kernel
theorem dX7_of_10 : decode cX7_of 10 = .ok (.invokestatic 48, 3) := by decide +kernel
theorem dX7_of_13 : decode cX7_of 13 = .ok (.iconst 1, 1) := by decide +kernel
theorem dX7_of_14 : decode cX7_of 14 = .ok (.invokevirtual 52, 3) := by decide +kernel
theorem dX7_of_17 : decode cX7_of 17 = .ok (.ifCond .ne 5, 3) := by decide +kernel
theorem dX7_of_20 : decode cX7_of 20 = .ok (.iconst 0, 1) := by decide +kernel
theorem dX7_of_21 : decode cX7_of 21 = .ok (.ireturn, 1) := by decide +kernel
theorem dX7_of_22 : decode cX7_of 22 = .ok (.iload_n 2, 1) := by decide +kernel
theorem dX7_of_23 : decode cX7_of 23 = .ok (.iconst 5, 1) := by decide +kernel
theorem dX7_of_24 : decode cX7_of 24 = .ok (.if_icmp .ge 16, 3) := by decide +kernel
theorem dX7_of_27 : decode cX7_of 27 = .ok (.aload_n 0, 1) := by decide +kernel
theorem dX7_of_28 : decode cX7_of 28 = .ok (.getfield 7, 3) := by decide +kernel
theorem dX7_of_31 : decode cX7_of 31 = .ok (.iconst 5, 1) := by decide +kernel
theorem dX7_of_32 : decode cX7_of 32 = .ok (.iload_n 1, 1) := by decide +kernel
theorem dX7_of_33 : decode cX7_of 33 = .ok (.imul, 1) := by decide +kernel
theorem dX7_of_34 : decode cX7_of 34 = .ok (.iload_n 2, 1) := by decide +kernel
theorem dX7_of_35 : decode cX7_of 35 = .ok (.iadd, 1) := by decide +kernel
theorem dX7_of_36 : decode cX7_of 36 = .ok (.iaload, 1) := by decide +kernel
theorem dX7_of_37 : decode cX7_of 37 = .ok (.goto 65, 3) := by decide +kernel
theorem dX7_of_40 : decode cX7_of 40 = .ok (.iload_n 2, 1) := by decide +kernel
theorem dX7_of_41 : decode cX7_of 41 = .ok (.iconst 5, 1) := by decide +kernel
theorem dX7_of_42 : decode cX7_of 42 = .ok (.if_icmp .ne 19, 3) := by decide +kernel
theorem dX7_of_45 : decode cX7_of 45 = .ok (.aload_n 0, 1) := by decide +kernel
theorem dX7_of_46 : decode cX7_of 46 = .ok (.iload_n 1, 1) := by decide +kernel
theorem dX7_of_47 : decode cX7_of 47 = .ok (.invokevirtual 96, 3) := by decide +kernel
theorem dX7_of_50 : decode cX7_of 50 = .ok (.ifCond .eq 7, 3) := by decide +kernel
theorem dX7_of_53 : decode cX7_of 53 = .ok (.iconst 1, 1) := by decide +kernel
theorem dX7_of_54 : decode cX7_of 54 = .ok (.goto 48, 3) := by decide +kernel
theorem dX7_of_57 : decode cX7_of 57 = .ok (.iconst 0, 1) := by decide +kernel
theorem dX7_of_58 : decode cX7_of 58 = .ok (.goto 44, 3) := by decide +kernel
theorem dX7_of_61 : decode cX7_of 61 = .ok (.iload_n 2, 1) := by decide +kernel
theorem dX7_of_62 : decode cX7_of 62 = .ok (.bipush 6, 2) := by decide +kernel
theorem dX7_of_64 : decode cX7_of 64 = .ok (.if_icmp .ne 11, 3) := by decide +kernel
theorem dX7_of_67 : decode cX7_of 67 = .ok (.aload_n 0, 1) := by decide +kernel
theorem dX7_of_68 : decode cX7_of 68 = .ok (.iload_n 1, 1) := by decide +kernel
theorem dX7_of_69 : decode cX7_of 69 = .ok (.invokevirtual 63, 3) := by decide +kernel
theorem dX7_of_72 : decode cX7_of 72 = .ok (.goto 30, 3) := by decide +kernel
theorem dX7_of_75 : decode cX7_of 75 = .ok (.iload_n 2, 1) := by decide +kernel
theorem dX7_of_76 : decode cX7_of 76 = .ok (.bipush 9, 2) := by decide +kernel
theorem dX7_of_78 : decode cX7_of 78 = .ok (.if_icmp .ge 18, 3) := by decide +kernel
theorem dX7_of_81 : decode cX7_of 81 = .ok (.aload_n 0, 1) := by decide +kernel
theorem dX7_of_82 : decode cX7_of 82 = .ok (.getfield 13, 3) := by decide +kernel
theorem dX7_of_85 : decode cX7_of 85 = .ok (.iconst 4, 1) := by decide +kernel
theorem dX7_of_86 : decode cX7_of 86 = .ok (.iload_n 1, 1) := by decide +kernel
theorem dX7_of_87 : decode cX7_of 87 = .ok (.imul, 1) := by decide +kernel
theorem dX7_of_88 : decode cX7_of 88 = .ok (.iload_n 2, 1) := by decide +kernel
theorem dX7_of_89 : decode cX7_of 89 = .ok (.iadd, 1) := by decide +kernel
theorem dX7_of_90 : decode cX7_of 90 = .ok (.iconst 5, 1) := by decide +kernel
theorem dX7_of_91 : decode cX7_of 91 = .ok (.isub, 1) := by decide +kernel
theorem dX7_of_92 : decode cX7_of 92 = .ok (.iaload, 1) := by decide +kernel
theorem dX7_of_93 : decode cX7_of 93 = .ok (.goto 9, 3) := by decide +kernel
theorem dX7_of_96 : decode cX7_of 96 = .ok (.aload_n 0, 1) := by decide +kernel
theorem dX7_of_97 : decode cX7_of 97 = .ok (.getfield 16, 3) := by decide +kernel
theorem dX7_of_100 : decode cX7_of 100 = .ok (.iload_n 1, 1) := by decide +kernel
theorem dX7_of_101 : decode cX7_of 101 = .ok (.iaload, 1) := by decide +kernel
theorem dX7_of_102 : decode cX7_of 102 = .ok (.ireturn, 1) := by decide +kernel
theorem dX7_output_0 : decode cX7_output 0 = .ok (.aload_n 0, 1) := by decide +kernel
theorem dX7_output_1 : decode cX7_output 1 = .ok (.iload_n 1, 1) := by decide +kernel
theorem dX7_output_2 : decode cX7_output 2 = .ok (.ifCond .lt 7, 3) := by decide +kernel
theorem dX7_output_5 : decode cX7_output 5 = .ok (.iconst 1, 1) := by decide +kernel
theorem dX7_output_6 : decode cX7_output 6 = .ok (.goto 4, 3) := by decide +kernel
theorem dX7_output_9 : decode cX7_output 9 = .ok (.iconst 0, 1) := by decide +kernel
theorem dX7_output_10 : decode cX7_output 10 = .ok (.iconst 1, 1) := by decide +kernel
theorem dX7_output_11 : decode cX7_output 11 = .ok (.iconst 1, 1) := by decide +kernel
theorem dX7_output_12 : decode cX7_output 12 = .ok (.invokevirtual 52, 3) := by decide +kernel
theorem dX7_output_15 : decode cX7_output 15 = .ok (.ifCond .eq 20, 3) := by decide +kernel
theorem dX7_output_18 : decode cX7_output 18 = .ok (.iload_n 1, 1) := by decide +kernel
theorem dX7_output_19 : decode cX7_output 19 = .ok (.aload_n 0, 1) := by decide +kernel
theorem dX7_output_20 : decode cX7_output 20 = .ok (.getfield 84, 3) := by decide +kernel
theorem dX7_output_23 : decode cX7_output 23 = .ok (.if_icmp .ge 12, 3) := by decide +kernel
theorem dX7_output_26 : decode cX7_output 26 = .ok (.aload_n 0, 1) := by decide +kernel
theorem dX7_output_27 : decode cX7_output 27 = .ok (.getfield 22, 3) := by decide +kernel
theorem dX7_output_30 : decode cX7_output 30 = .ok (.iload_n 1, 1) := by decide +kernel
theorem dX7_output_31 : decode cX7_output 31 = .ok (.iaload, 1) := by decide +kernel
theorem dX7_output_32 : decode cX7_output 32 = .ok (.goto 4, 3) := by decide +kernel
theorem dX7_output_35 : decode cX7_output 35 = .ok (.iconst 0, 1) := by decide +kernel
theorem dX7_output_36 : decode cX7_output 36 = .ok (.ireturn, 1) := by decide +kernel
theorem dX7_isShort_0 : decode cX7_isShort 0 = .ok (.aload_n 0, 1) := by decide +kernel
theorem dX7_isShort_1 : decode cX7_isShort 1 = .ok (.getfield 60, 3) := by decide +kernel
theorem dX7_isShort_4 : decode cX7_isShort 4 = .ok (.iload_n 1, 1) := by decide +kernel
theorem dX7_isShort_5 : decode cX7_isShort 5 = .ok (.iconst 2, 1) := by decide +kernel
theorem dX7_isShort_6 : decode cX7_isShort 6 = .ok (.if_icmp .ne 7, 3) := by decide +kernel
theorem dX7_isShort_9 : decode cX7_isShort 9 = .ok (.iconst 2, 1) := by decide +kernel
theorem dX7_isShort_10 : decode cX7_isShort 10 = .ok (.goto 4, 3) := by decide +kernel
theorem dX7_isShort_13 : decode cX7_isShort 13 = .ok (.iconst 4, 1) := by decide +kernel
theorem dX7_isShort_14 : decode cX7_isShort 14 = .ok (.if_icmp .gt 7, 3) := by decide +kernel
theorem dX7_isShort_17 : decode cX7_isShort 17 = .ok (.iconst 1, 1) := by decide +kernel
theorem dX7_isShort_18 : decode cX7_isShort 18 = .ok (.goto 4, 3) := by decide +kernel
theorem dX7_isShort_21 : decode cX7_isShort 21 = .ok (.iconst 0, 1) := by decide +kernel
theorem dX7_isShort_22 : decode cX7_isShort 22 = .ok (.ireturn, 1) := by decide +kernel
theorem dX7_gains_0 : decode cX7_gains 0 = .ok (.aload_n 0, 1) := by decide +kernel
theorem dX7_gains_1 : decode cX7_gains 1 = .ok (.lconst 1, 1) := by decide +kernel
theorem dX7_gains_2 : decode cX7_gains 2 = .ok (.putfield 99, 3) := by decide +kernel
theorem dX7_gains_5 : decode cX7_gains 5 = .ok (.aload_n 0, 1) := by decide +kernel
theorem dX7_gains_6 : decode cX7_gains 6 = .ok (.lconst 1, 1) := by decide +kernel
theorem dX7_gains_7 : decode cX7_gains 7 = .ok (.putfield 103, 3) := by decide +kernel
theorem dX7_gains_10 : decode cX7_gains 10 = .ok (.iconst 0, 1) := by decide +kernel
theorem dX7_gains_11 : decode cX7_gains 11 = .ok (.istore_n 2, 1) := by decide +kernel
theorem dX7_gains_12 : decode cX7_gains 12 = .ok (.iload_n 2, 1) := by decide +kernel
theorem dX7_gains_13 : decode cX7_gains 13 = .ok (.aload_n 0, 1) := by decide +kernel
theorem dX7_gains_14 : decode cX7_gains 14 = .ok (.getfield 60, 3) := by decide +kernel
theorem dX7_gains_17 : decode cX7_gains 17 = .ok (.if_icmp .ge 182, 3) := by decide +kernel
theorem dX7_gains_20 : decode cX7_gains 20 = .ok (.iconst 5, 1) := by decide +kernel
theorem dX7_gains_21 : decode cX7_gains 21 = .ok (.aload_n 0, 1) := by decide +kernel
theorem dX7_gains_22 : decode cX7_gains 22 = .ok (.getfield 19, 3) := by decide +kernel
theorem dX7_gains_25 : decode cX7_gains 25 = .ok (.iload_n 2, 1) := by decide +kernel
theorem dX7_gains_26 : decode cX7_gains 26 = .ok (.iaload, 1) := by decide +kernel
theorem dX7_gains_27 : decode cX7_gains 27 = .ok (.imul, 1) := by decide +kernel
theorem dX7_gains_28 : decode cX7_gains 28 = .ok (.istore_n 3, 1) := by decide +kernel
theorem dX7_gains_29 : decode cX7_gains 29 = .ok (.iload_n 1, 1) := by decide +kernel
theorem dX7_gains_30 : decode cX7_gains 30 = .ok (.iconst 1, 1) := by decide +kernel
theorem dX7_gains_31 : decode cX7_gains 31 = .ok (.if_icmp .ne 7, 3) := by decide +kernel
theorem dX7_gains_34 : decode cX7_gains 34 = .ok (.iconst (-1), 1) := by decide +kernel
theorem dX7_gains_35 : decode cX7_gains 35 = .ok (.goto 4, 3) := by decide +kernel
theorem dX7_gains_38 : decode cX7_gains 38 = .ok (.iconst 1, 1) := by decide +kernel
theorem dX7_gains_39 : decode cX7_gains 39 = .ok (.istore 4, 2) := by decide +kernel
theorem dX7_gains_41 : decode cX7_gains 41 = .ok (.aload_n 0, 1) := by decide +kernel
theorem dX7_gains_42 : decode cX7_gains 42 = .ok (.getfield 7, 3) := by decide +kernel
theorem dX7_gains_45 : decode cX7_gains 45 = .ok (.iload_n 3, 1) := by decide +kernel
theorem dX7_gains_46 : decode cX7_gains 46 = .ok (.iconst 1, 1) := by decide +kernel
theorem dX7_gains_47 : decode cX7_gains 47 = .ok (.iadd, 1) := by decide +kernel
theorem dX7_gains_48 : decode cX7_gains 48 = .ok (.iaload, 1) := by decide +kernel
theorem dX7_gains_49 : decode cX7_gains 49 = .ok (.i2l, 1) := by decide +kernel
theorem dX7_gains_50 : decode cX7_gains 50 = .ok (.lstore 5, 2) := by decide +kernel
theorem dX7_gains_52 : decode cX7_gains 52 = .ok (.aload_n 0, 1) := by decide +kernel
theorem dX7_gains_53 : decode cX7_gains 53 = .ok (.getfield 7, 3) := by decide +kernel
theorem dX7_gains_56 : decode cX7_gains 56 = .ok (.iload_n 3, 1) := by decide +kernel
theorem dX7_gains_57 : decode cX7_gains 57 = .ok (.iconst 3, 1) := by decide +kernel
theorem dX7_gains_58 : decode cX7_gains 58 = .ok (.iadd, 1) := by decide +kernel
theorem dX7_gains_59 : decode cX7_gains 59 = .ok (.iaload, 1) := by decide +kernel
theorem dX7_gains_60 : decode cX7_gains 60 = .ok (.i2l, 1) := by decide +kernel
theorem dX7_gains_61 : decode cX7_gains 61 = .ok (.lstore 7, 2) := by decide +kernel
theorem dX7_gains_63 : decode cX7_gains 63 = .ok (.aload_n 0, 1) := by decide +kernel
theorem dX7_gains_64 : decode cX7_gains 64 = .ok (.getfield 7, 3) := by decide +kernel
theorem dX7_gains_67 : decode cX7_gains 67 = .ok (.iload_n 3, 1) := by decide +kernel
theorem dX7_gains_68 : decode cX7_gains 68 = .ok (.iaload, 1) := by decide +kernel
theorem dX7_gains_69 : decode cX7_gains 69 = .ok (.aload_n 0, 1) := by decide +kernel
theorem dX7_gains_70 : decode cX7_gains 70 = .ok (.getfield 7, 3) := by decide +kernel
theorem dX7_gains_73 : decode cX7_gains 73 = .ok (.iload_n 3, 1) := by decide +kernel
theorem dX7_gains_74 : decode cX7_gains 74 = .ok (.iconst 2, 1) := by decide +kernel
theorem dX7_gains_75 : decode cX7_gains 75 = .ok (.iadd, 1) := by decide +kernel
theorem dX7_gains_76 : decode cX7_gains 76 = .ok (.iaload, 1) := by decide +kernel
theorem dX7_gains_77 : decode cX7_gains 77 = .ok (.isub, 1) := by decide +kernel
theorem dX7_gains_78 : decode cX7_gains 78 = .ok (.i2l, 1) := by decide +kernel
theorem dX7_gains_79 : decode cX7_gains 79 = .ok (.lstore 9, 2) := by decide +kernel
theorem dX7_gains_81 : decode cX7_gains 81 = .ok (.bipush 64, 2) := by decide +kernel
theorem dX7_gains_83 : decode cX7_gains 83 = .ok (.aload_n 0, 1) := by decide +kernel
theorem dX7_gains_84 : decode cX7_gains 84 = .ok (.getfield 7, 3) := by decide +kernel
theorem dX7_gains_87 : decode cX7_gains 87 = .ok (.iload_n 3, 1) := by decide +kernel
theorem dX7_gains_88 : decode cX7_gains 88 = .ok (.iconst 4, 1) := by decide +kernel
theorem dX7_gains_89 : decode cX7_gains 89 = .ok (.iadd, 1) := by decide +kernel
theorem dX7_gains_90 : decode cX7_gains 90 = .ok (.iaload, 1) := by decide +kernel
theorem dX7_gains_91 : decode cX7_gains 91 = .ok (.isub, 1) := by decide +kernel
theorem dX7_gains_92 : decode cX7_gains 92 = .ok (.i2l, 1) := by decide +kernel
theorem dX7_gains_93 : decode cX7_gains 93 = .ok (.lstore 11, 2) := by decide +kernel
theorem dX7_gains_95 : decode cX7_gains 95 = .ok (.aload_n 0, 1) := by decide +kernel
theorem dX7_gains_96 : decode cX7_gains 96 = .ok (.dup, 1) := by decide +kernel
theorem dX7_gains_97 : decode cX7_gains 97 = .ok (.getfield 99, 3) := by decide +kernel
theorem dX7_gains_100 : decode cX7_gains 100 = .ok (.iload_n 1, 1) := by decide +kernel
theorem dX7_gains_101 : decode cX7_gains 101 = .ok (.iconst 2, 1) := by decide +kernel
theorem dX7_gains_102 : decode cX7_gains 102 = .ok (.if_icmp .ne 17, 3) := by decide +kernel
theorem dX7_gains_105 : decode cX7_gains 105 = .ok (.lload 9, 2) := by decide +kernel
theorem dX7_gains_107 : decode cX7_gains 107 = .ok (.lload 9, 2) := by decide +kernel
theorem dX7_gains_109 : decode cX7_gains 109 = .ok (.lmul, 1) := by decide +kernel
theorem dX7_gains_110 : decode cX7_gains 110 = .ok (.lload 5, 2) := by decide +kernel
theorem dX7_gains_112 : decode cX7_gains 112 = .ok (.lload 5, 2) := by decide +kernel
theorem dX7_gains_114 : decode cX7_gains 114 = .ok (.lmul, 1) := by decide +kernel
theorem dX7_gains_115 : decode cX7_gains 115 = .ok (.ladd, 1) := by decide +kernel
theorem dX7_gains_116 : decode cX7_gains 116 = .ok (.goto 26, 3) := by decide +kernel
theorem dX7_gains_119 : decode cX7_gains 119 = .ok (.aload_n 0, 1) := by decide +kernel
theorem dX7_gains_120 : decode cX7_gains 120 = .ok (.getfield 7, 3) := by decide +kernel
theorem dX7_gains_123 : decode cX7_gains 123 = .ok (.iload_n 3, 1) := by decide +kernel
theorem dX7_gains_124 : decode cX7_gains 124 = .ok (.iaload, 1) := by decide +kernel
theorem dX7_gains_125 : decode cX7_gains 125 = .ok (.aload_n 0, 1) := by decide +kernel
theorem dX7_gains_126 : decode cX7_gains 126 = .ok (.getfield 7, 3) := by decide +kernel
theorem dX7_gains_129 : decode cX7_gains 129 = .ok (.iload_n 3, 1) := by decide +kernel
theorem dX7_gains_130 : decode cX7_gains 130 = .ok (.iconst 2, 1) := by decide +kernel
theorem dX7_gains_131 : decode cX7_gains 131 = .ok (.iadd, 1) := by decide +kernel
theorem dX7_gains_132 : decode cX7_gains 132 = .ok (.iaload, 1) := by decide +kernel
theorem dX7_gains_133 : decode cX7_gains 133 = .ok (.iadd, 1) := by decide +kernel
theorem dX7_gains_134 : decode cX7_gains 134 = .ok (.i2l, 1) := by decide +kernel
theorem dX7_gains_135 : decode cX7_gains 135 = .ok (.iload 4, 2) := by decide +kernel
theorem dX7_gains_137 : decode cX7_gains 137 = .ok (.i2l, 1) := by decide +kernel
theorem dX7_gains_138 : decode cX7_gains 138 = .ok (.lload 5, 2) := by decide +kernel
theorem dX7_gains_140 : decode cX7_gains 140 = .ok (.lmul, 1) := by decide +kernel
theorem dX7_gains_141 : decode cX7_gains 141 = .ok (.ladd, 1) := by decide +kernel
theorem dX7_gains_142 : decode cX7_gains 142 = .ok (.lmul, 1) := by decide +kernel
theorem dX7_gains_143 : decode cX7_gains 143 = .ok (.putfield 99, 3) := by decide +kernel
theorem dX7_gains_146 : decode cX7_gains 146 = .ok (.aload_n 0, 1) := by decide +kernel
theorem dX7_gains_147 : decode cX7_gains 147 = .ok (.dup, 1) := by decide +kernel
theorem dX7_gains_148 : decode cX7_gains 148 = .ok (.getfield 103, 3) := by decide +kernel
theorem dX7_gains_151 : decode cX7_gains 151 = .ok (.iload_n 1, 1) := by decide +kernel
theorem dX7_gains_152 : decode cX7_gains 152 = .ok (.iconst 2, 1) := by decide +kernel
theorem dX7_gains_153 : decode cX7_gains 153 = .ok (.if_icmp .ne 17, 3) := by decide +kernel
theorem dX7_gains_156 : decode cX7_gains 156 = .ok (.lload 11, 2) := by decide +kernel
theorem dX7_gains_158 : decode cX7_gains 158 = .ok (.lload 11, 2) := by decide +kernel
theorem dX7_gains_160 : decode cX7_gains 160 = .ok (.lmul, 1) := by decide +kernel
theorem dX7_gains_161 : decode cX7_gains 161 = .ok (.lload 7, 2) := by decide +kernel
theorem dX7_gains_163 : decode cX7_gains 163 = .ok (.lload 7, 2) := by decide +kernel
theorem dX7_gains_165 : decode cX7_gains 165 = .ok (.lmul, 1) := by decide +kernel
theorem dX7_gains_166 : decode cX7_gains 166 = .ok (.ladd, 1) := by decide +kernel
theorem dX7_gains_167 : decode cX7_gains 167 = .ok (.goto 22, 3) := by decide +kernel
theorem dX7_gains_170 : decode cX7_gains 170 = .ok (.bipush 64, 2) := by decide +kernel
theorem dX7_gains_172 : decode cX7_gains 172 = .ok (.aload_n 0, 1) := by decide +kernel
theorem dX7_gains_173 : decode cX7_gains 173 = .ok (.getfield 7, 3) := by decide +kernel
theorem dX7_gains_176 : decode cX7_gains 176 = .ok (.iload_n 3, 1) := by decide +kernel
theorem dX7_gains_177 : decode cX7_gains 177 = .ok (.iconst 4, 1) := by decide +kernel
theorem dX7_gains_178 : decode cX7_gains 178 = .ok (.iadd, 1) := by decide +kernel
theorem dX7_gains_179 : decode cX7_gains 179 = .ok (.iaload, 1) := by decide +kernel
theorem dX7_gains_180 : decode cX7_gains 180 = .ok (.iadd, 1) := by decide +kernel
theorem dX7_gains_181 : decode cX7_gains 181 = .ok (.i2l, 1) := by decide +kernel
theorem dX7_gains_182 : decode cX7_gains 182 = .ok (.iload 4, 2) := by decide +kernel
theorem dX7_gains_184 : decode cX7_gains 184 = .ok (.i2l, 1) := by decide +kernel
theorem dX7_gains_185 : decode cX7_gains 185 = .ok (.lload 7, 2) := by decide +kernel
theorem dX7_gains_187 : decode cX7_gains 187 = .ok (.lmul, 1) := by decide +kernel
theorem dX7_gains_188 : decode cX7_gains 188 = .ok (.ladd, 1) := by decide +kernel
theorem dX7_gains_189 : decode cX7_gains 189 = .ok (.lmul, 1) := by decide +kernel
theorem dX7_gains_190 : decode cX7_gains 190 = .ok (.putfield 103, 3) := by decide +kernel
theorem dX7_gains_193 : decode cX7_gains 193 = .ok (.iinc 2 1, 3) := by decide +kernel
theorem dX7_gains_196 : decode cX7_gains 196 = .ok (.goto (-184), 3) := by decide +kernel
theorem dX7_gains_199 : decode cX7_gains 199 = .ok (.return_, 1) := by decide +kernel
theorem dX7_common_0 : decode cX7_common 0 = .ok (.lload_n 0, 1) := by decide +kernel
theorem dX7_common_1 : decode cX7_common 1 = .ok (.lconst 0, 1) := by decide +kernel
theorem dX7_common_2 : decode cX7_common 2 = .ok (.lcmp, 1) := by decide +kernel
theorem dX7_common_3 : decode cX7_common 3 = .ok (.ifCond .ge 8, 3) := by decide +kernel
theorem dX7_common_6 : decode cX7_common 6 = .ok (.lload_n 0, 1) := by decide +kernel
theorem dX7_common_7 : decode cX7_common 7 = .ok (.lneg, 1) := by decide +kernel
theorem dX7_common_8 : decode cX7_common 8 = .ok (.goto 4, 3) := by decide +kernel
theorem dX7_common_11 : decode cX7_common 11 = .ok (.lload_n 0, 1) := by decide +kernel
theorem dX7_common_12 : decode cX7_common 12 = .ok (.lstore 4, 2) := by decide +kernel
theorem dX7_common_14 : decode cX7_common 14 = .ok (.lload_n 2, 1) := by decide +kernel
theorem dX7_common_15 : decode cX7_common 15 = .ok (.lconst 0, 1) := by decide +kernel
theorem dX7_common_16 : decode cX7_common 16 = .ok (.lcmp, 1) := by decide +kernel
theorem dX7_common_17 : decode cX7_common 17 = .ok (.ifCond .ge 8, 3) := by decide +kernel
theorem dX7_common_20 : decode cX7_common 20 = .ok (.lload_n 2, 1) := by decide +kernel
theorem dX7_common_21 : decode cX7_common 21 = .ok (.lneg, 1) := by decide +kernel
theorem dX7_common_22 : decode cX7_common 22 = .ok (.goto 4, 3) := by decide +kernel
theorem dX7_common_25 : decode cX7_common 25 = .ok (.lload_n 2, 1) := by decide +kernel
theorem dX7_common_26 : decode cX7_common 26 = .ok (.lstore 6, 2) := by decide +kernel
theorem dX7_common_28 : decode cX7_common 28 = .ok (.lload 6, 2) := by decide +kernel
theorem dX7_common_30 : decode cX7_common 30 = .ok (.lconst 0, 1) := by decide +kernel
theorem dX7_common_31 : decode cX7_common 31 = .ok (.lcmp, 1) := by decide +kernel
theorem dX7_common_32 : decode cX7_common 32 = .ok (.ifCond .le 21, 3) := by decide +kernel
theorem dX7_common_35 : decode cX7_common 35 = .ok (.lload 4, 2) := by decide +kernel
theorem dX7_common_37 : decode cX7_common 37 = .ok (.lload 6, 2) := by decide +kernel
theorem dX7_common_39 : decode cX7_common 39 = .ok (.lrem, 1) := by decide +kernel
theorem dX7_common_40 : decode cX7_common 40 = .ok (.lstore 8, 2) := by decide +kernel
theorem dX7_common_42 : decode cX7_common 42 = .ok (.lload 6, 2) := by decide +kernel
theorem dX7_common_44 : decode cX7_common 44 = .ok (.lstore 4, 2) := by decide +kernel
theorem dX7_common_46 : decode cX7_common 46 = .ok (.lload 8, 2) := by decide +kernel
theorem dX7_common_48 : decode cX7_common 48 = .ok (.lstore 6, 2) := by decide +kernel
theorem dX7_common_50 : decode cX7_common 50 = .ok (.goto (-22), 3) := by decide +kernel
theorem dX7_common_53 : decode cX7_common 53 = .ok (.lload 4, 2) := by decide +kernel
theorem dX7_common_55 : decode cX7_common 55 = .ok (.lreturn, 1) := by decide +kernel
theorem dX7_gain_0 : decode cX7_gain 0 = .ok (.aload_n 0, 1) := by decide +kernel
theorem dX7_gain_1 : decode cX7_gain 1 = .ok (.iload_n 1, 1) := by decide +kernel
theorem dX7_gain_2 : decode cX7_gain 2 = .ok (.iconst 0, 1) := by decide +kernel
theorem dX7_gain_3 : decode cX7_gain 3 = .ok (.iconst 2, 1) := by decide +kernel
theorem dX7_gain_4 : decode cX7_gain 4 = .ok (.invokestatic 48, 3) := by decide +kernel
theorem dX7_gain_7 : decode cX7_gain 7 = .ok (.aload_n 0, 1) := by decide +kernel
theorem dX7_gain_8 : decode cX7_gain 8 = .ok (.iload_n 1, 1) := by decide +kernel
theorem dX7_gain_9 : decode cX7_gain 9 = .ok (.invokevirtual 106, 3) := by decide +kernel
theorem dX7_gain_12 : decode cX7_gain 12 = .ok (.iconst 1, 1) := by decide +kernel
theorem dX7_gain_13 : decode cX7_gain 13 = .ok (.invokevirtual 52, 3) := by decide +kernel
theorem dX7_gain_16 : decode cX7_gain 16 = .ok (.ifCond .ne 5, 3) := by decide +kernel
theorem dX7_gain_19 : decode cX7_gain 19 = .ok (.lconst 0, 1) := by decide +kernel
theorem dX7_gain_20 : decode cX7_gain 20 = .ok (.lreturn, 1) := by decide +kernel
theorem dX7_gain_21 : decode cX7_gain 21 = .ok (.aload_n 0, 1) := by decide +kernel
theorem dX7_gain_22 : decode cX7_gain 22 = .ok (.iload_n 1, 1) := by decide +kernel
theorem dX7_gain_23 : decode cX7_gain 23 = .ok (.invokevirtual 109, 3) := by decide +kernel
theorem dX7_gain_26 : decode cX7_gain 26 = .ok (.aload_n 0, 1) := by decide +kernel
theorem dX7_gain_27 : decode cX7_gain 27 = .ok (.getfield 103, 3) := by decide +kernel
theorem dX7_gain_30 : decode cX7_gain 30 = .ok (.lconst 0, 1) := by decide +kernel
theorem dX7_gain_31 : decode cX7_gain 31 = .ok (.lcmp, 1) := by decide +kernel
theorem dX7_gain_32 : decode cX7_gain 32 = .ok (.ifCond .ne 13, 3) := by decide +kernel
theorem dX7_gain_35 : decode cX7_gain 35 = .ok (.iload_n 2, 1) := by decide +kernel
theorem dX7_gain_36 : decode cX7_gain 36 = .ok (.ifCond .eq 7, 3) := by decide +kernel
theorem dX7_gain_39 : decode cX7_gain 39 = .ok (.lconst 0, 1) := by decide +kernel
theorem dX7_gain_40 : decode cX7_gain 40 = .ok (.goto 4, 3) := by decide +kernel
theorem dX7_gain_43 : decode cX7_gain 43 = .ok (.lconst 1, 1) := by decide +kernel
theorem dX7_gain_44 : decode cX7_gain 44 = .ok (.lreturn, 1) := by decide +kernel
theorem dX7_gain_45 : decode cX7_gain 45 = .ok (.aload_n 0, 1) := by decide +kernel
theorem dX7_gain_46 : decode cX7_gain 46 = .ok (.getfield 99, 3) := by decide +kernel
theorem dX7_gain_49 : decode cX7_gain 49 = .ok (.aload_n 0, 1) := by decide +kernel
theorem dX7_gain_50 : decode cX7_gain 50 = .ok (.getfield 103, 3) := by decide +kernel
theorem dX7_gain_53 : decode cX7_gain 53 = .ok (.invokestatic 113, 3) := by decide +kernel
theorem dX7_gain_56 : decode cX7_gain 56 = .ok (.lstore_n 3, 1) := by decide +kernel
theorem dX7_gain_57 : decode cX7_gain 57 = .ok (.aload_n 0, 1) := by decide +kernel
theorem dX7_gain_58 : decode cX7_gain 58 = .ok (.getfield 103, 3) := by decide +kernel
theorem dX7_gain_61 : decode cX7_gain 61 = .ok (.lconst 0, 1) := by decide +kernel
theorem dX7_gain_62 : decode cX7_gain 62 = .ok (.lcmp, 1) := by decide +kernel
theorem dX7_gain_63 : decode cX7_gain 63 = .ok (.ifCond .ge 8, 3) := by decide +kernel
theorem dX7_gain_66 : decode cX7_gain 66 = .ok (.lload_n 3, 1) := by decide +kernel
theorem dX7_gain_67 : decode cX7_gain 67 = .ok (.lneg, 1) := by decide +kernel
theorem dX7_gain_68 : decode cX7_gain 68 = .ok (.goto 4, 3) := by decide +kernel
theorem dX7_gain_71 : decode cX7_gain 71 = .ok (.lload_n 3, 1) := by decide +kernel
theorem dX7_gain_72 : decode cX7_gain 72 = .ok (.lstore_n 3, 1) := by decide +kernel
theorem dX7_gain_73 : decode cX7_gain 73 = .ok (.iload_n 2, 1) := by decide +kernel
theorem dX7_gain_74 : decode cX7_gain 74 = .ok (.ifCond .eq 12, 3) := by decide +kernel
theorem dX7_gain_77 : decode cX7_gain 77 = .ok (.aload_n 0, 1) := by decide +kernel
theorem dX7_gain_78 : decode cX7_gain 78 = .ok (.getfield 103, 3) := by decide +kernel
theorem dX7_gain_81 : decode cX7_gain 81 = .ok (.lload_n 3, 1) := by decide +kernel
theorem dX7_gain_82 : decode cX7_gain 82 = .ok (.ldiv, 1) := by decide +kernel
theorem dX7_gain_83 : decode cX7_gain 83 = .ok (.goto 9, 3) := by decide +kernel
theorem dX7_gain_86 : decode cX7_gain 86 = .ok (.aload_n 0, 1) := by decide +kernel
theorem dX7_gain_87 : decode cX7_gain 87 = .ok (.getfield 99, 3) := by decide +kernel
theorem dX7_gain_90 : decode cX7_gain 90 = .ok (.lload_n 3, 1) := by decide +kernel
theorem dX7_gain_91 : decode cX7_gain 91 = .ok (.ldiv, 1) := by decide +kernel
theorem dX7_gain_92 : decode cX7_gain 92 = .ok (.lreturn, 1) := by decide +kernel
theorem dX7_meets_0 : decode cX7_meets 0 = .ok (.aload_n 0, 1) := by decide +kernel
theorem dX7_meets_1 : decode cX7_meets 1 = .ok (.iload_n 1, 1) := by decide +kernel
theorem dX7_meets_2 : decode cX7_meets 2 = .ok (.iconst 0, 1) := by decide +kernel
theorem dX7_meets_3 : decode cX7_meets 3 = .ok (.iconst 2, 1) := by decide +kernel
theorem dX7_meets_4 : decode cX7_meets 4 = .ok (.invokestatic 48, 3) := by decide +kernel
theorem dX7_meets_7 : decode cX7_meets 7 = .ok (.ifCond .eq 29, 3) := by decide +kernel
theorem dX7_meets_10 : decode cX7_meets 10 = .ok (.iload_n 2, 1) := by decide +kernel
theorem dX7_meets_11 : decode cX7_meets 11 = .ok (.iconst 0, 1) := by decide +kernel
theorem dX7_meets_12 : decode cX7_meets 12 = .ok (.sipush 10000, 3) := by decide +kernel
theorem dX7_meets_15 : decode cX7_meets 15 = .ok (.invokestatic 48, 3) := by decide +kernel
theorem dX7_meets_18 : decode cX7_meets 18 = .ok (.ifCond .eq 18, 3) := by decide +kernel
theorem dX7_meets_21 : decode cX7_meets 21 = .ok (.iload_n 3, 1) := by decide +kernel
theorem dX7_meets_22 : decode cX7_meets 22 = .ok (.iload_n 2, 1) := by decide +kernel
theorem dX7_meets_23 : decode cX7_meets 23 = .ok (.sipush 10000, 3) := by decide +kernel
theorem dX7_meets_26 : decode cX7_meets 26 = .ok (.invokestatic 48, 3) := by decide +kernel
theorem dX7_meets_29 : decode cX7_meets 29 = .ok (.ifCond .eq 7, 3) := by decide +kernel
theorem dX7_meets_32 : decode cX7_meets 32 = .ok (.iconst 1, 1) := by decide +kernel
theorem dX7_meets_33 : decode cX7_meets 33 = .ok (.goto 4, 3) := by decide +kernel
theorem dX7_meets_36 : decode cX7_meets 36 = .ok (.iconst 0, 1) := by decide +kernel
theorem dX7_meets_37 : decode cX7_meets 37 = .ok (.aload_n 0, 1) := by decide +kernel
theorem dX7_meets_38 : decode cX7_meets 38 = .ok (.iload_n 1, 1) := by decide +kernel
theorem dX7_meets_39 : decode cX7_meets 39 = .ok (.invokevirtual 106, 3) := by decide +kernel
theorem dX7_meets_42 : decode cX7_meets 42 = .ok (.iconst 1, 1) := by decide +kernel
theorem dX7_meets_43 : decode cX7_meets 43 = .ok (.invokevirtual 52, 3) := by decide +kernel
theorem dX7_meets_46 : decode cX7_meets 46 = .ok (.ifCond .ne 5, 3) := by decide +kernel
theorem dX7_meets_49 : decode cX7_meets 49 = .ok (.iconst 0, 1) := by decide +kernel
theorem dX7_meets_50 : decode cX7_meets 50 = .ok (.ireturn, 1) := by decide +kernel
theorem dX7_meets_51 : decode cX7_meets 51 = .ok (.iconst 1, 1) := by decide +kernel
theorem dX7_meets_52 : decode cX7_meets 52 = .ok (.istore 4, 2) := by decide +kernel
theorem dX7_meets_54 : decode cX7_meets 54 = .ok (.iconst 0, 1) := by decide +kernel
theorem dX7_meets_55 : decode cX7_meets 55 = .ok (.istore 5, 2) := by decide +kernel
theorem dX7_meets_57 : decode cX7_meets 57 = .ok (.iload 5, 2) := by decide +kernel
theorem dX7_meets_59 : decode cX7_meets 59 = .ok (.aload_n 0, 1) := by decide +kernel
theorem dX7_meets_60 : decode cX7_meets 60 = .ok (.getfield 60, 3) := by decide +kernel
theorem dX7_meets_63 : decode cX7_meets 63 = .ok (.if_icmp .ge 35, 3) := by decide +kernel
theorem dX7_meets_66 : decode cX7_meets 66 = .ok (.iload 4, 2) := by decide +kernel
theorem dX7_meets_68 : decode cX7_meets 68 = .ok (.ifCond .eq 21, 3) := by decide +kernel
theorem dX7_meets_71 : decode cX7_meets 71 = .ok (.aload_n 0, 1) := by decide +kernel
theorem dX7_meets_72 : decode cX7_meets 72 = .ok (.aload_n 0, 1) := by decide +kernel
theorem dX7_meets_73 : decode cX7_meets 73 = .ok (.getfield 19, 3) := by decide +kernel
theorem dX7_meets_76 : decode cX7_meets 76 = .ok (.iload 5, 2) := by decide +kernel
theorem dX7_meets_78 : decode cX7_meets 78 = .ok (.iaload, 1) := by decide +kernel
theorem dX7_meets_79 : decode cX7_meets 79 = .ok (.invokevirtual 96, 3) := by decide +kernel
theorem dX7_meets_82 : decode cX7_meets 82 = .ok (.ifCond .eq 7, 3) := by decide +kernel
theorem dX7_meets_85 : decode cX7_meets 85 = .ok (.iconst 1, 1) := by decide +kernel
theorem dX7_meets_86 : decode cX7_meets 86 = .ok (.goto 4, 3) := by decide +kernel
theorem dX7_meets_89 : decode cX7_meets 89 = .ok (.iconst 0, 1) := by decide +kernel
theorem dX7_meets_90 : decode cX7_meets 90 = .ok (.istore 4, 2) := by decide +kernel
theorem dX7_meets_92 : decode cX7_meets 92 = .ok (.iinc 5 1, 3) := by decide +kernel
theorem dX7_meets_95 : decode cX7_meets 95 = .ok (.goto (-38), 3) := by decide +kernel
theorem dX7_meets_98 : decode cX7_meets 98 = .ok (.aload_n 0, 1) := by decide +kernel
theorem dX7_meets_99 : decode cX7_meets 99 = .ok (.iload_n 1, 1) := by decide +kernel
theorem dX7_meets_100 : decode cX7_meets 100 = .ok (.invokevirtual 109, 3) := by decide +kernel
theorem dX7_meets_103 : decode cX7_meets 103 = .ok (.aload_n 0, 1) := by decide +kernel
theorem dX7_meets_104 : decode cX7_meets 104 = .ok (.getfield 99, 3) := by decide +kernel
theorem dX7_meets_107 : decode cX7_meets 107 = .ok (.lconst 0, 1) := by decide +kernel
theorem dX7_meets_108 : decode cX7_meets 108 = .ok (.lcmp, 1) := by decide +kernel
theorem dX7_meets_109 : decode cX7_meets 109 = .ok (.ifCond .ge 11, 3) := by decide +kernel
theorem dX7_meets_112 : decode cX7_meets 112 = .ok (.aload_n 0, 1) := by decide +kernel
theorem dX7_meets_113 : decode cX7_meets 113 = .ok (.getfield 99, 3) := by decide +kernel
theorem dX7_meets_116 : decode cX7_meets 116 = .ok (.lneg, 1) := by decide +kernel
theorem dX7_meets_117 : decode cX7_meets 117 = .ok (.goto 7, 3) := by decide +kernel
theorem dX7_meets_120 : decode cX7_meets 120 = .ok (.aload_n 0, 1) := by decide +kernel
theorem dX7_meets_121 : decode cX7_meets 121 = .ok (.getfield 99, 3) := by decide +kernel
theorem dX7_meets_124 : decode cX7_meets 124 = .ok (.lstore 5, 2) := by decide +kernel
theorem dX7_meets_126 : decode cX7_meets 126 = .ok (.aload_n 0, 1) := by decide +kernel
theorem dX7_meets_127 : decode cX7_meets 127 = .ok (.getfield 103, 3) := by decide +kernel
theorem dX7_meets_130 : decode cX7_meets 130 = .ok (.lconst 0, 1) := by decide +kernel
theorem dX7_meets_131 : decode cX7_meets 131 = .ok (.lcmp, 1) := by decide +kernel
theorem dX7_meets_132 : decode cX7_meets 132 = .ok (.ifCond .ge 11, 3) := by decide +kernel
theorem dX7_meets_135 : decode cX7_meets 135 = .ok (.aload_n 0, 1) := by decide +kernel
theorem dX7_meets_136 : decode cX7_meets 136 = .ok (.getfield 103, 3) := by decide +kernel
theorem dX7_meets_139 : decode cX7_meets 139 = .ok (.lneg, 1) := by decide +kernel
theorem dX7_meets_140 : decode cX7_meets 140 = .ok (.goto 7, 3) := by decide +kernel
theorem dX7_meets_143 : decode cX7_meets 143 = .ok (.aload_n 0, 1) := by decide +kernel
theorem dX7_meets_144 : decode cX7_meets 144 = .ok (.getfield 103, 3) := by decide +kernel
theorem dX7_meets_147 : decode cX7_meets 147 = .ok (.lstore 7, 2) := by decide +kernel
theorem dX7_meets_149 : decode cX7_meets 149 = .ok (.iload_n 1, 1) := by decide +kernel
theorem dX7_meets_150 : decode cX7_meets 150 = .ok (.iconst 2, 1) := by decide +kernel
theorem dX7_meets_151 : decode cX7_meets 151 = .ok (.if_icmp .ne 11, 3) := by decide +kernel
theorem dX7_meets_154 : decode cX7_meets 154 = .ok (.iload_n 2, 1) := by decide +kernel
theorem dX7_meets_155 : decode cX7_meets 155 = .ok (.i2l, 1) := by decide +kernel
theorem dX7_meets_156 : decode cX7_meets 156 = .ok (.iload_n 2, 1) := by decide +kernel
theorem dX7_meets_157 : decode cX7_meets 157 = .ok (.i2l, 1) := by decide +kernel
theorem dX7_meets_158 : decode cX7_meets 158 = .ok (.lmul, 1) := by decide +kernel
theorem dX7_meets_159 : decode cX7_meets 159 = .ok (.goto 5, 3) := by decide +kernel
theorem dX7_meets_162 : decode cX7_meets 162 = .ok (.iload_n 2, 1) := by decide +kernel
theorem dX7_meets_163 : decode cX7_meets 163 = .ok (.i2l, 1) := by decide +kernel
theorem dX7_meets_164 : decode cX7_meets 164 = .ok (.lstore 9, 2) := by decide +kernel
theorem dX7_meets_166 : decode cX7_meets 166 = .ok (.iload_n 1, 1) := by decide +kernel
theorem dX7_meets_167 : decode cX7_meets 167 = .ok (.iconst 2, 1) := by decide +kernel
theorem dX7_meets_168 : decode cX7_meets 168 = .ok (.if_icmp .ne 11, 3) := by decide +kernel
theorem dX7_meets_171 : decode cX7_meets 171 = .ok (.iload_n 3, 1) := by decide +kernel
theorem dX7_meets_172 : decode cX7_meets 172 = .ok (.i2l, 1) := by decide +kernel
theorem dX7_meets_173 : decode cX7_meets 173 = .ok (.iload_n 3, 1) := by decide +kernel
theorem dX7_meets_174 : decode cX7_meets 174 = .ok (.i2l, 1) := by decide +kernel
theorem dX7_meets_175 : decode cX7_meets 175 = .ok (.lmul, 1) := by decide +kernel
theorem dX7_meets_176 : decode cX7_meets 176 = .ok (.goto 5, 3) := by decide +kernel
theorem dX7_meets_179 : decode cX7_meets 179 = .ok (.iload_n 3, 1) := by decide +kernel
theorem dX7_meets_180 : decode cX7_meets 180 = .ok (.i2l, 1) := by decide +kernel
theorem dX7_meets_181 : decode cX7_meets 181 = .ok (.lstore 11, 2) := by decide +kernel
theorem dX7_meets_183 : decode cX7_meets 183 = .ok (.lload 5, 2) := by decide +kernel
theorem dX7_meets_185 : decode cX7_meets 185 = .ok (.iload_n 1, 1) := by decide +kernel
theorem dX7_meets_186 : decode cX7_meets 186 = .ok (.iconst 2, 1) := by decide +kernel
theorem dX7_meets_187 : decode cX7_meets 187 = .ok (.if_icmp .ne 9, 3) := by decide +kernel
theorem dX7_meets_190 : decode cX7_meets 190 = .ok (.ldc2_w 117, 3) := by decide +kernel
theorem dX7_meets_193 : decode cX7_meets 193 = .ok (.goto 6, 3) := by decide +kernel
theorem dX7_meets_196 : decode cX7_meets 196 = .ok (.ldc2_w 119, 3) := by decide +kernel
theorem dX7_meets_199 : decode cX7_meets 199 = .ok (.lmul, 1) := by decide +kernel
theorem dX7_meets_200 : decode cX7_meets 200 = .ok (.lstore 5, 2) := by decide +kernel
theorem dX7_meets_202 : decode cX7_meets 202 = .ok (.iload 4, 2) := by decide +kernel
theorem dX7_meets_204 : decode cX7_meets 204 = .ok (.ifCond .eq 29, 3) := by decide +kernel
theorem dX7_meets_207 : decode cX7_meets 207 = .ok (.lload 5, 2) := by decide +kernel
theorem dX7_meets_209 : decode cX7_meets 209 = .ok (.lload 9, 2) := by decide +kernel
theorem dX7_meets_211 : decode cX7_meets 211 = .ok (.lload 7, 2) := by decide +kernel
theorem dX7_meets_213 : decode cX7_meets 213 = .ok (.lmul, 1) := by decide +kernel
theorem dX7_meets_214 : decode cX7_meets 214 = .ok (.lcmp, 1) := by decide +kernel
theorem dX7_meets_215 : decode cX7_meets 215 = .ok (.ifCond .lt 18, 3) := by decide +kernel
theorem dX7_meets_218 : decode cX7_meets 218 = .ok (.lload 5, 2) := by decide +kernel
theorem dX7_meets_220 : decode cX7_meets 220 = .ok (.lload 11, 2) := by decide +kernel
theorem dX7_meets_222 : decode cX7_meets 222 = .ok (.lload 7, 2) := by decide +kernel
theorem dX7_meets_224 : decode cX7_meets 224 = .ok (.lmul, 1) := by decide +kernel
theorem dX7_meets_225 : decode cX7_meets 225 = .ok (.lcmp, 1) := by decide +kernel
theorem dX7_meets_226 : decode cX7_meets 226 = .ok (.ifCond .gt 7, 3) := by decide +kernel
theorem dX7_meets_229 : decode cX7_meets 229 = .ok (.iconst 1, 1) := by decide +kernel
theorem dX7_meets_230 : decode cX7_meets 230 = .ok (.goto 4, 3) := by decide +kernel
theorem dX7_meets_233 : decode cX7_meets 233 = .ok (.iconst 0, 1) := by decide +kernel
theorem dX7_meets_234 : decode cX7_meets 234 = .ok (.ireturn, 1) := by decide +kernel
theorem dX7_next_0 : decode cX7_next 0 = .ok (.iload_n 2, 1) := by decide +kernel
theorem dX7_next_1 : decode cX7_next 1 = .ok (.sipush 201, 3) := by decide +kernel
theorem dX7_next_4 : decode cX7_next 4 = .ok (.idiv, 1) := by decide +kernel
theorem dX7_next_5 : decode cX7_next 5 = .ok (.bipush 100, 2) := by decide +kernel
theorem dX7_next_7 : decode cX7_next 7 = .ok (.isub, 1) := by decide +kernel
theorem dX7_next_8 : decode cX7_next 8 = .ok (.istore_n 3, 1) := by decide +kernel
theorem dX7_next_9 : decode cX7_next 9 = .ok (.iload_n 2, 1) := by decide +kernel
theorem dX7_next_10 : decode cX7_next 10 = .ok (.sipush 201, 3) := by decide +kernel
theorem dX7_next_13 : decode cX7_next 13 = .ok (.irem, 1) := by decide +kernel
theorem dX7_next_14 : decode cX7_next 14 = .ok (.bipush 100, 2) := by decide +kernel
theorem dX7_next_16 : decode cX7_next 16 = .ok (.isub, 1) := by decide +kernel
theorem dX7_next_17 : decode cX7_next 17 = .ok (.istore 4, 2) := by decide +kernel
theorem dX7_next_19 : decode cX7_next 19 = .ok (.aload_n 0, 1) := by decide +kernel
theorem dX7_next_20 : decode cX7_next 20 = .ok (.aload_n 0, 1) := by decide +kernel
theorem dX7_next_21 : decode cX7_next 21 = .ok (.getfield 7, 3) := by decide +kernel
theorem dX7_next_24 : decode cX7_next 24 = .ok (.iconst 5, 1) := by decide +kernel
theorem dX7_next_25 : decode cX7_next 25 = .ok (.iload_n 1, 1) := by decide +kernel
theorem dX7_next_26 : decode cX7_next 26 = .ok (.imul, 1) := by decide +kernel
theorem dX7_next_27 : decode cX7_next 27 = .ok (.iconst 3, 1) := by decide +kernel
theorem dX7_next_28 : decode cX7_next 28 = .ok (.iadd, 1) := by decide +kernel
theorem dX7_next_29 : decode cX7_next 29 = .ok (.iaload, 1) := by decide +kernel
theorem dX7_next_30 : decode cX7_next 30 = .ok (.ineg, 1) := by decide +kernel
theorem dX7_next_31 : decode cX7_next 31 = .ok (.iload_n 3, 1) := by decide +kernel
theorem dX7_next_32 : decode cX7_next 32 = .ok (.imul, 1) := by decide +kernel
theorem dX7_next_33 : decode cX7_next 33 = .ok (.aload_n 0, 1) := by decide +kernel
theorem dX7_next_34 : decode cX7_next 34 = .ok (.getfield 7, 3) := by decide +kernel
theorem dX7_next_37 : decode cX7_next 37 = .ok (.iconst 5, 1) := by decide +kernel
theorem dX7_next_38 : decode cX7_next 38 = .ok (.iload_n 1, 1) := by decide +kernel
theorem dX7_next_39 : decode cX7_next 39 = .ok (.imul, 1) := by decide +kernel
theorem dX7_next_40 : decode cX7_next 40 = .ok (.iconst 4, 1) := by decide +kernel
theorem dX7_next_41 : decode cX7_next 41 = .ok (.iadd, 1) := by decide +kernel
theorem dX7_next_42 : decode cX7_next 42 = .ok (.iaload, 1) := by decide +kernel
theorem dX7_next_43 : decode cX7_next 43 = .ok (.iload 4, 2) := by decide +kernel
theorem dX7_next_45 : decode cX7_next 45 = .ok (.imul, 1) := by decide +kernel
theorem dX7_next_46 : decode cX7_next 46 = .ok (.isub, 1) := by decide +kernel
theorem dX7_next_47 : decode cX7_next 47 = .ok (.aload_n 0, 1) := by decide +kernel
theorem dX7_next_48 : decode cX7_next 48 = .ok (.getfield 16, 3) := by decide +kernel
theorem dX7_next_51 : decode cX7_next 51 = .ok (.iload_n 1, 1) := by decide +kernel
theorem dX7_next_52 : decode cX7_next 52 = .ok (.iaload, 1) := by decide +kernel
theorem dX7_next_53 : decode cX7_next 53 = .ok (.invokevirtual 78, 3) := by decide +kernel
theorem dX7_next_56 : decode cX7_next 56 = .ok (.istore 5, 2) := by decide +kernel
theorem dX7_next_58 : decode cX7_next 58 = .ok (.iload 5, 2) := by decide +kernel
theorem dX7_next_60 : decode cX7_next 60 = .ok (.bipush (-100), 2) := by decide +kernel
theorem dX7_next_62 : decode cX7_next 62 = .ok (.bipush 100, 2) := by decide +kernel
theorem dX7_next_64 : decode cX7_next 64 = .ok (.invokestatic 48, 3) := by decide +kernel
theorem dX7_next_67 : decode cX7_next 67 = .ok (.ifCond .eq 20, 3) := by decide +kernel
theorem dX7_next_70 : decode cX7_next 70 = .ok (.sipush 201, 3) := by decide +kernel
theorem dX7_next_73 : decode cX7_next 73 = .ok (.iload 5, 2) := by decide +kernel
theorem dX7_next_75 : decode cX7_next 75 = .ok (.bipush 100, 2) := by decide +kernel
theorem dX7_next_77 : decode cX7_next 77 = .ok (.iadd, 1) := by decide +kernel
theorem dX7_next_78 : decode cX7_next 78 = .ok (.imul, 1) := by decide +kernel
theorem dX7_next_79 : decode cX7_next 79 = .ok (.iload_n 3, 1) := by decide +kernel
theorem dX7_next_80 : decode cX7_next 80 = .ok (.iadd, 1) := by decide +kernel
theorem dX7_next_81 : decode cX7_next 81 = .ok (.bipush 100, 2) := by decide +kernel
theorem dX7_next_83 : decode cX7_next 83 = .ok (.iadd, 1) := by decide +kernel
theorem dX7_next_84 : decode cX7_next 84 = .ok (.goto 4, 3) := by decide +kernel
theorem dX7_next_87 : decode cX7_next 87 = .ok (.iconst (-1), 1) := by decide +kernel
theorem dX7_next_88 : decode cX7_next 88 = .ok (.ireturn, 1) := by decide +kernel
theorem dX7_walks_0 : decode cX7_walks 0 = .ok (.iconst 0, 1) := by decide +kernel
theorem dX7_walks_1 : decode cX7_walks 1 = .ok (.istore_n 3, 1) := by decide +kernel
theorem dX7_walks_2 : decode cX7_walks 2 = .ok (.iload_n 2, 1) := by decide +kernel
theorem dX7_walks_3 : decode cX7_walks 3 = .ok (.istore 4, 2) := by decide +kernel
theorem dX7_walks_5 : decode cX7_walks 5 = .ok (.iload 4, 2) := by decide +kernel
theorem dX7_walks_7 : decode cX7_walks 7 = .ok (.ifCond .lt 47, 3) := by decide +kernel
theorem dX7_walks_10 : decode cX7_walks 10 = .ok (.aload_n 0, 1) := by decide +kernel
theorem dX7_walks_11 : decode cX7_walks 11 = .ok (.getfield 35, 3) := by decide +kernel
theorem dX7_walks_14 : decode cX7_walks 14 = .ok (.iload 4, 2) := by decide +kernel
theorem dX7_walks_16 : decode cX7_walks 16 = .ok (.iaload, 1) := by decide +kernel
theorem dX7_walks_17 : decode cX7_walks 17 = .ok (.ifCond .ne 37, 3) := by decide +kernel
theorem dX7_walks_20 : decode cX7_walks 20 = .ok (.aload_n 0, 1) := by decide +kernel
theorem dX7_walks_21 : decode cX7_walks 21 = .ok (.getfield 35, 3) := by decide +kernel
theorem dX7_walks_24 : decode cX7_walks 24 = .ok (.iload 4, 2) := by decide +kernel
theorem dX7_walks_26 : decode cX7_walks 26 = .ok (.ldc 34, 2) := by decide +kernel
theorem dX7_walks_28 : decode cX7_walks 28 = .ok (.iload_n 3, 1) := by decide +kernel
theorem dX7_walks_29 : decode cX7_walks 29 = .ok (.iadd, 1) := by decide +kernel
theorem dX7_walks_30 : decode cX7_walks 30 = .ok (.iastore, 1) := by decide +kernel
theorem dX7_walks_31 : decode cX7_walks 31 = .ok (.aload_n 0, 1) := by decide +kernel
theorem dX7_walks_32 : decode cX7_walks 32 = .ok (.getfield 38, 3) := by decide +kernel
theorem dX7_walks_35 : decode cX7_walks 35 = .ok (.iload_n 3, 1) := by decide +kernel
theorem dX7_walks_36 : decode cX7_walks 36 = .ok (.iload 4, 2) := by decide +kernel
theorem dX7_walks_38 : decode cX7_walks 38 = .ok (.iastore, 1) := by decide +kernel
theorem dX7_walks_39 : decode cX7_walks 39 = .ok (.iinc 3 1, 3) := by decide +kernel
theorem dX7_walks_42 : decode cX7_walks 42 = .ok (.aload_n 0, 1) := by decide +kernel
theorem dX7_walks_43 : decode cX7_walks 43 = .ok (.iload_n 1, 1) := by decide +kernel
theorem dX7_walks_44 : decode cX7_walks 44 = .ok (.iload 4, 2) := by decide +kernel
theorem dX7_walks_46 : decode cX7_walks 46 = .ok (.invokevirtual 121, 3) := by decide +kernel
theorem dX7_walks_49 : decode cX7_walks 49 = .ok (.istore 4, 2) := by decide +kernel
theorem dX7_walks_51 : decode cX7_walks 51 = .ok (.goto (-46), 3) := by decide +kernel
theorem dX7_walks_54 : decode cX7_walks 54 = .ok (.iload 4, 2) := by decide +kernel
theorem dX7_walks_56 : decode cX7_walks 56 = .ok (.ifCond .ge 7, 3) := by decide +kernel
theorem dX7_walks_59 : decode cX7_walks 59 = .ok (.iconst (-1), 1) := by decide +kernel
theorem dX7_walks_60 : decode cX7_walks 60 = .ok (.goto 10, 3) := by decide +kernel
theorem dX7_walks_63 : decode cX7_walks 63 = .ok (.aload_n 0, 1) := by decide +kernel
theorem dX7_walks_64 : decode cX7_walks 64 = .ok (.getfield 35, 3) := by decide +kernel
theorem dX7_walks_67 : decode cX7_walks 67 = .ok (.iload 4, 2) := by decide +kernel
theorem dX7_walks_69 : decode cX7_walks 69 = .ok (.iaload, 1) := by decide +kernel
theorem dX7_walks_70 : decode cX7_walks 70 = .ok (.istore 5, 2) := by decide +kernel
theorem dX7_walks_72 : decode cX7_walks 72 = .ok (.iload 5, 2) := by decide +kernel
theorem dX7_walks_74 : decode cX7_walks 74 = .ok (.ldc 34, 2) := by decide +kernel
theorem dX7_walks_76 : decode cX7_walks 76 = .ok (.if_icmp .lt 150, 3) := by decide +kernel
theorem dX7_walks_79 : decode cX7_walks 79 = .ok (.iload 5, 2) := by decide +kernel
theorem dX7_walks_81 : decode cX7_walks 81 = .ok (.ldc 34, 2) := by decide +kernel
theorem dX7_walks_83 : decode cX7_walks 83 = .ok (.isub, 1) := by decide +kernel
theorem dX7_walks_84 : decode cX7_walks 84 = .ok (.istore 6, 2) := by decide +kernel
theorem dX7_walks_86 : decode cX7_walks 86 = .ok (.iload_n 3, 1) := by decide +kernel
theorem dX7_walks_87 : decode cX7_walks 87 = .ok (.iload 6, 2) := by decide +kernel
theorem dX7_walks_89 : decode cX7_walks 89 = .ok (.isub, 1) := by decide +kernel
theorem dX7_walks_90 : decode cX7_walks 90 = .ok (.iconst 1, 1) := by decide +kernel
theorem dX7_walks_91 : decode cX7_walks 91 = .ok (.if_icmp .ne 16, 3) := by decide +kernel
theorem dX7_walks_94 : decode cX7_walks 94 = .ok (.iload 4, 2) := by decide +kernel
theorem dX7_walks_96 : decode cX7_walks 96 = .ok (.sipush 20200, 3) := by decide +kernel
theorem dX7_walks_99 : decode cX7_walks 99 = .ok (.if_icmp .ne 8, 3) := by decide +kernel
theorem dX7_walks_102 : decode cX7_walks 102 = .ok (.bipush (-2), 2) := by decide +kernel
theorem dX7_walks_104 : decode cX7_walks 104 = .ok (.goto 9, 3) := by decide +kernel
theorem dX7_walks_107 : decode cX7_walks 107 = .ok (.aload_n 0, 1) := by decide +kernel
theorem dX7_walks_108 : decode cX7_walks 108 = .ok (.getfield 124, 3) := by decide +kernel
theorem dX7_walks_111 : decode cX7_walks 111 = .ok (.iconst 1, 1) := by decide +kernel
theorem dX7_walks_112 : decode cX7_walks 112 = .ok (.iadd, 1) := by decide +kernel
theorem dX7_walks_113 : decode cX7_walks 113 = .ok (.istore 5, 2) := by decide +kernel
theorem dX7_walks_115 : decode cX7_walks 115 = .ok (.aload_n 0, 1) := by decide +kernel
theorem dX7_walks_116 : decode cX7_walks 116 = .ok (.dup, 1) := by decide +kernel
theorem dX7_walks_117 : decode cX7_walks 117 = .ok (.getfield 124, 3) := by decide +kernel
theorem dX7_walks_120 : decode cX7_walks 120 = .ok (.iload 5, 2) := by decide +kernel
theorem dX7_walks_122 : decode cX7_walks 122 = .ok (.bipush (-2), 2) := by decide +kernel
theorem dX7_walks_124 : decode cX7_walks 124 = .ok (.if_icmp .ne 7, 3) := by decide +kernel
theorem dX7_walks_127 : decode cX7_walks 127 = .ok (.iconst 0, 1) := by decide +kernel
theorem dX7_walks_128 : decode cX7_walks 128 = .ok (.goto 4, 3) := by decide +kernel
theorem dX7_walks_131 : decode cX7_walks 131 = .ok (.iconst 1, 1) := by decide +kernel
theorem dX7_walks_132 : decode cX7_walks 132 = .ok (.iadd, 1) := by decide +kernel
theorem dX7_walks_133 : decode cX7_walks 133 = .ok (.putfield 124, 3) := by decide +kernel
theorem dX7_walks_136 : decode cX7_walks 136 = .ok (.aload_n 0, 1) := by decide +kernel
theorem dX7_walks_137 : decode cX7_walks 137 = .ok (.iload 5, 2) := by decide +kernel
theorem dX7_walks_139 : decode cX7_walks 139 = .ok (.bipush (-2), 2) := by decide +kernel
theorem dX7_walks_141 : decode cX7_walks 141 = .ok (.if_icmp .eq 21, 3) := by decide +kernel
theorem dX7_walks_144 : decode cX7_walks 144 = .ok (.iload_n 3, 1) := by decide +kernel
theorem dX7_walks_145 : decode cX7_walks 145 = .ok (.iload 6, 2) := by decide +kernel
theorem dX7_walks_147 : decode cX7_walks 147 = .ok (.isub, 1) := by decide +kernel
theorem dX7_walks_148 : decode cX7_walks 148 = .ok (.aload_n 0, 1) := by decide +kernel
theorem dX7_walks_149 : decode cX7_walks 149 = .ok (.getfield 127, 3) := by decide +kernel
theorem dX7_walks_152 : decode cX7_walks 152 = .ok (.if_icmp .le 10, 3) := by decide +kernel
theorem dX7_walks_155 : decode cX7_walks 155 = .ok (.iload_n 3, 1) := by decide +kernel
theorem dX7_walks_156 : decode cX7_walks 156 = .ok (.iload 6, 2) := by decide +kernel
theorem dX7_walks_158 : decode cX7_walks 158 = .ok (.isub, 1) := by decide +kernel
theorem dX7_walks_159 : decode cX7_walks 159 = .ok (.goto 7, 3) := by decide +kernel
theorem dX7_walks_162 : decode cX7_walks 162 = .ok (.aload_n 0, 1) := by decide +kernel
theorem dX7_walks_163 : decode cX7_walks 163 = .ok (.getfield 127, 3) := by decide +kernel
theorem dX7_walks_166 : decode cX7_walks 166 = .ok (.putfield 127, 3) := by decide +kernel
theorem dX7_walks_169 : decode cX7_walks 169 = .ok (.iload 6, 2) := by decide +kernel
theorem dX7_walks_171 : decode cX7_walks 171 = .ok (.istore 7, 2) := by decide +kernel
theorem dX7_walks_173 : decode cX7_walks 173 = .ok (.iload 7, 2) := by decide +kernel
theorem dX7_walks_175 : decode cX7_walks 175 = .ok (.iload_n 3, 1) := by decide +kernel
theorem dX7_walks_176 : decode cX7_walks 176 = .ok (.if_icmp .ge 50, 3) := by decide +kernel
theorem dX7_walks_179 : decode cX7_walks 179 = .ok (.aload_n 0, 1) := by decide +kernel
theorem dX7_walks_180 : decode cX7_walks 180 = .ok (.getfield 38, 3) := by decide +kernel
theorem dX7_walks_183 : decode cX7_walks 183 = .ok (.iload 7, 2) := by decide +kernel
theorem dX7_walks_185 : decode cX7_walks 185 = .ok (.iaload, 1) := by decide +kernel
theorem dX7_walks_186 : decode cX7_walks 186 = .ok (.sipush 201, 3) := by decide +kernel
theorem dX7_walks_189 : decode cX7_walks 189 = .ok (.idiv, 1) := by decide +kernel
theorem dX7_walks_190 : decode cX7_walks 190 = .ok (.bipush 100, 2) := by decide +kernel
theorem dX7_walks_192 : decode cX7_walks 192 = .ok (.isub, 1) := by decide +kernel
theorem dX7_walks_193 : decode cX7_walks 193 = .ok (.invokestatic 67, 3) := by decide +kernel
theorem dX7_walks_196 : decode cX7_walks 196 = .ok (.istore 8, 2) := by decide +kernel
theorem dX7_walks_198 : decode cX7_walks 198 = .ok (.aload_n 0, 1) := by decide +kernel
theorem dX7_walks_199 : decode cX7_walks 199 = .ok (.iload 8, 2) := by decide +kernel
theorem dX7_walks_201 : decode cX7_walks 201 = .ok (.aload_n 0, 1) := by decide +kernel
theorem dX7_walks_202 : decode cX7_walks 202 = .ok (.getfield 130, 3) := by decide +kernel
theorem dX7_walks_205 : decode cX7_walks 205 = .ok (.if_icmp .le 8, 3) := by decide +kernel
theorem dX7_walks_208 : decode cX7_walks 208 = .ok (.iload 8, 2) := by decide +kernel
theorem dX7_walks_210 : decode cX7_walks 210 = .ok (.goto 7, 3) := by decide +kernel
theorem dX7_walks_213 : decode cX7_walks 213 = .ok (.aload_n 0, 1) := by decide +kernel
theorem dX7_walks_214 : decode cX7_walks 214 = .ok (.getfield 130, 3) := by decide +kernel
theorem dX7_walks_217 : decode cX7_walks 217 = .ok (.putfield 130, 3) := by decide +kernel
theorem dX7_walks_220 : decode cX7_walks 220 = .ok (.iinc 7 1, 3) := by decide +kernel
theorem dX7_walks_223 : decode cX7_walks 223 = .ok (.goto (-50), 3) := by decide +kernel
theorem dX7_walks_226 : decode cX7_walks 226 = .ok (.iconst 0, 1) := by decide +kernel
theorem dX7_walks_227 : decode cX7_walks 227 = .ok (.istore 6, 2) := by decide +kernel
theorem dX7_walks_229 : decode cX7_walks 229 = .ok (.iload 6, 2) := by decide +kernel
theorem dX7_walks_231 : decode cX7_walks 231 = .ok (.iload_n 3, 1) := by decide +kernel
theorem dX7_walks_232 : decode cX7_walks 232 = .ok (.if_icmp .ge 23, 3) := by decide +kernel
theorem dX7_walks_235 : decode cX7_walks 235 = .ok (.aload_n 0, 1) := by decide +kernel
theorem dX7_walks_236 : decode cX7_walks 236 = .ok (.getfield 35, 3) := by decide +kernel
theorem dX7_walks_239 : decode cX7_walks 239 = .ok (.aload_n 0, 1) := by decide +kernel
theorem dX7_walks_240 : decode cX7_walks 240 = .ok (.getfield 38, 3) := by decide +kernel
theorem dX7_walks_243 : decode cX7_walks 243 = .ok (.iload 6, 2) := by decide +kernel
theorem dX7_walks_245 : decode cX7_walks 245 = .ok (.iaload, 1) := by decide +kernel
theorem dX7_walks_246 : decode cX7_walks 246 = .ok (.iload 5, 2) := by decide +kernel
theorem dX7_walks_248 : decode cX7_walks 248 = .ok (.iastore, 1) := by decide +kernel
theorem dX7_walks_249 : decode cX7_walks 249 = .ok (.iinc 6 1, 3) := by decide +kernel
theorem dX7_walks_252 : decode cX7_walks 252 = .ok (.goto (-23), 3) := by decide +kernel
theorem dX7_walks_255 : decode cX7_walks 255 = .ok (.return_, 1) := by decide +kernel
theorem dX7_cycles_0 : decode cX7_cycles 0 = .ok (.aload_n 0, 1) := by decide +kernel
theorem dX7_cycles_1 : decode cX7_cycles 1 = .ok (.aload_n 0, 1) := by decide +kernel
theorem dX7_cycles_2 : decode cX7_cycles 2 = .ok (.iload_n 1, 1) := by decide +kernel
theorem dX7_cycles_3 : decode cX7_cycles 3 = .ok (.invokevirtual 56, 3) := by decide +kernel
theorem dX7_cycles_6 : decode cX7_cycles 6 = .ok (.iload_n 2, 1) := by decide +kernel
theorem dX7_cycles_7 : decode cX7_cycles 7 = .ok (.iconst 1, 1) := by decide +kernel
theorem dX7_cycles_8 : decode cX7_cycles 8 = .ok (.bipush 12, 2) := by decide +kernel
theorem dX7_cycles_10 : decode cX7_cycles 10 = .ok (.invokestatic 48, 3) := by decide +kernel
theorem dX7_cycles_13 : decode cX7_cycles 13 = .ok (.ifCond .eq 16, 3) := by decide +kernel
theorem dX7_cycles_16 : decode cX7_cycles 16 = .ok (.iload_n 3, 1) := by decide +kernel
theorem dX7_cycles_17 : decode cX7_cycles 17 = .ok (.iconst 0, 1) := by decide +kernel
theorem dX7_cycles_18 : decode cX7_cycles 18 = .ok (.iconst 3, 1) := by decide +kernel
theorem dX7_cycles_19 : decode cX7_cycles 19 = .ok (.invokestatic 48, 3) := by decide +kernel
theorem dX7_cycles_22 : decode cX7_cycles 22 = .ok (.ifCond .eq 7, 3) := by decide +kernel
theorem dX7_cycles_25 : decode cX7_cycles 25 = .ok (.iconst 1, 1) := by decide +kernel
theorem dX7_cycles_26 : decode cX7_cycles 26 = .ok (.goto 4, 3) := by decide +kernel
theorem dX7_cycles_29 : decode cX7_cycles 29 = .ok (.iconst 0, 1) := by decide +kernel
theorem dX7_cycles_30 : decode cX7_cycles 30 = .ok (.iconst 1, 1) := by decide +kernel
theorem dX7_cycles_31 : decode cX7_cycles 31 = .ok (.invokevirtual 52, 3) := by decide +kernel
theorem dX7_cycles_34 : decode cX7_cycles 34 = .ok (.ifCond .ne 5, 3) := by decide +kernel
theorem dX7_cycles_37 : decode cX7_cycles 37 = .ok (.iconst 0, 1) := by decide +kernel
theorem dX7_cycles_38 : decode cX7_cycles 38 = .ok (.ireturn, 1) := by decide +kernel
theorem dX7_cycles_39 : decode cX7_cycles 39 = .ok (.iconst 0, 1) := by decide +kernel
theorem dX7_cycles_40 : decode cX7_cycles 40 = .ok (.istore 4, 2) := by decide +kernel
theorem dX7_cycles_42 : decode cX7_cycles 42 = .ok (.aload_n 0, 1) := by decide +kernel
theorem dX7_cycles_43 : decode cX7_cycles 43 = .ok (.iconst 0, 1) := by decide +kernel
theorem dX7_cycles_44 : decode cX7_cycles 44 = .ok (.putfield 124, 3) := by decide +kernel
theorem dX7_cycles_47 : decode cX7_cycles 47 = .ok (.aload_n 0, 1) := by decide +kernel
theorem dX7_cycles_48 : decode cX7_cycles 48 = .ok (.iconst 0, 1) := by decide +kernel
theorem dX7_cycles_49 : decode cX7_cycles 49 = .ok (.putfield 127, 3) := by decide +kernel
theorem dX7_cycles_52 : decode cX7_cycles 52 = .ok (.aload_n 0, 1) := by decide +kernel
theorem dX7_cycles_53 : decode cX7_cycles 53 = .ok (.iconst 0, 1) := by decide +kernel
theorem dX7_cycles_54 : decode cX7_cycles 54 = .ok (.putfield 130, 3) := by decide +kernel
theorem dX7_cycles_57 : decode cX7_cycles 57 = .ok (.iconst 0, 1) := by decide +kernel
theorem dX7_cycles_58 : decode cX7_cycles 58 = .ok (.istore 5, 2) := by decide +kernel
theorem dX7_cycles_60 : decode cX7_cycles 60 = .ok (.iload 5, 2) := by decide +kernel
theorem dX7_cycles_62 : decode cX7_cycles 62 = .ok (.ldc 34, 2) := by decide +kernel
theorem dX7_cycles_64 : decode cX7_cycles 64 = .ok (.if_icmp .ge 17, 3) := by decide +kernel
theorem dX7_cycles_67 : decode cX7_cycles 67 = .ok (.aload_n 0, 1) := by decide +kernel
theorem dX7_cycles_68 : decode cX7_cycles 68 = .ok (.getfield 35, 3) := by decide +kernel
theorem dX7_cycles_71 : decode cX7_cycles 71 = .ok (.iload 5, 2) := by decide +kernel
theorem dX7_cycles_73 : decode cX7_cycles 73 = .ok (.iconst 0, 1) := by decide +kernel
theorem dX7_cycles_74 : decode cX7_cycles 74 = .ok (.iastore, 1) := by decide +kernel
theorem dX7_cycles_75 : decode cX7_cycles 75 = .ok (.iinc 5 1, 3) := by decide +kernel
theorem dX7_cycles_78 : decode cX7_cycles 78 = .ok (.goto (-18), 3) := by decide +kernel
theorem dX7_cycles_81 : decode cX7_cycles 81 = .ok (.iload_n 2, 1) := by decide +kernel
theorem dX7_cycles_82 : decode cX7_cycles 82 = .ok (.ineg, 1) := by decide +kernel
theorem dX7_cycles_83 : decode cX7_cycles 83 = .ok (.istore 5, 2) := by decide +kernel
theorem dX7_cycles_85 : decode cX7_cycles 85 = .ok (.iload 5, 2) := by decide +kernel
theorem dX7_cycles_87 : decode cX7_cycles 87 = .ok (.iload_n 2, 1) := by decide +kernel
theorem dX7_cycles_88 : decode cX7_cycles 88 = .ok (.if_icmp .gt 80, 3) := by decide +kernel
theorem dX7_cycles_91 : decode cX7_cycles 91 = .ok (.iload_n 2, 1) := by decide +kernel
theorem dX7_cycles_92 : decode cX7_cycles 92 = .ok (.ineg, 1) := by decide +kernel
theorem dX7_cycles_93 : decode cX7_cycles 93 = .ok (.istore 6, 2) := by decide +kernel
theorem dX7_cycles_95 : decode cX7_cycles 95 = .ok (.iload 6, 2) := by decide +kernel
theorem dX7_cycles_97 : decode cX7_cycles 97 = .ok (.iload_n 2, 1) := by decide +kernel
theorem dX7_cycles_98 : decode cX7_cycles 98 = .ok (.if_icmp .gt 64, 3) := by decide +kernel
theorem dX7_cycles_101 : decode cX7_cycles 101 = .ok (.sipush 201, 3) := by decide +kernel
theorem dX7_cycles_104 : decode cX7_cycles 104 = .ok (.iload 5, 2) := by decide +kernel
theorem dX7_cycles_106 : decode cX7_cycles 106 = .ok (.bipush 100, 2) := by decide +kernel
theorem dX7_cycles_108 : decode cX7_cycles 108 = .ok (.iadd, 1) := by decide +kernel
theorem dX7_cycles_109 : decode cX7_cycles 109 = .ok (.imul, 1) := by decide +kernel
theorem dX7_cycles_110 : decode cX7_cycles 110 = .ok (.iload 6, 2) := by decide +kernel
theorem dX7_cycles_112 : decode cX7_cycles 112 = .ok (.iadd, 1) := by decide +kernel
theorem dX7_cycles_113 : decode cX7_cycles 113 = .ok (.bipush 100, 2) := by decide +kernel
theorem dX7_cycles_115 : decode cX7_cycles 115 = .ok (.iadd, 1) := by decide +kernel
theorem dX7_cycles_116 : decode cX7_cycles 116 = .ok (.istore 7, 2) := by decide +kernel
theorem dX7_cycles_118 : decode cX7_cycles 118 = .ok (.aload_n 0, 1) := by decide +kernel
theorem dX7_cycles_119 : decode cX7_cycles 119 = .ok (.getfield 35, 3) := by decide +kernel
theorem dX7_cycles_122 : decode cX7_cycles 122 = .ok (.iload 7, 2) := by decide +kernel
theorem dX7_cycles_124 : decode cX7_cycles 124 = .ok (.iaload, 1) := by decide +kernel
theorem dX7_cycles_125 : decode cX7_cycles 125 = .ok (.ifCond .ne 10, 3) := by decide +kernel
theorem dX7_cycles_128 : decode cX7_cycles 128 = .ok (.aload_n 0, 1) := by decide +kernel
theorem dX7_cycles_129 : decode cX7_cycles 129 = .ok (.iload_n 1, 1) := by decide +kernel
theorem dX7_cycles_130 : decode cX7_cycles 130 = .ok (.iload 7, 2) := by decide +kernel
theorem dX7_cycles_132 : decode cX7_cycles 132 = .ok (.invokevirtual 133, 3) := by decide +kernel
theorem dX7_cycles_135 : decode cX7_cycles 135 = .ok (.iload 4, 2) := by decide +kernel
theorem dX7_cycles_137 : decode cX7_cycles 137 = .ok (.aload_n 0, 1) := by decide +kernel
theorem dX7_cycles_138 : decode cX7_cycles 138 = .ok (.getfield 35, 3) := by decide +kernel
theorem dX7_cycles_141 : decode cX7_cycles 141 = .ok (.iload 7, 2) := by decide +kernel
theorem dX7_cycles_143 : decode cX7_cycles 143 = .ok (.iaload, 1) := by decide +kernel
theorem dX7_cycles_144 : decode cX7_cycles 144 = .ok (.iconst (-1), 1) := by decide +kernel
theorem dX7_cycles_145 : decode cX7_cycles 145 = .ok (.if_icmp .ne 7, 3) := by decide +kernel
theorem dX7_cycles_148 : decode cX7_cycles 148 = .ok (.iconst 1, 1) := by decide +kernel
theorem dX7_cycles_149 : decode cX7_cycles 149 = .ok (.goto 4, 3) := by decide +kernel
theorem dX7_cycles_152 : decode cX7_cycles 152 = .ok (.iconst 0, 1) := by decide +kernel
theorem dX7_cycles_153 : decode cX7_cycles 153 = .ok (.iadd, 1) := by decide +kernel
theorem dX7_cycles_154 : decode cX7_cycles 154 = .ok (.istore 4, 2) := by decide +kernel
theorem dX7_cycles_156 : decode cX7_cycles 156 = .ok (.iinc 6 1, 3) := by decide +kernel
theorem dX7_cycles_159 : decode cX7_cycles 159 = .ok (.goto (-64), 3) := by decide +kernel
theorem dX7_cycles_162 : decode cX7_cycles 162 = .ok (.iinc 5 1, 3) := by decide +kernel
theorem dX7_cycles_165 : decode cX7_cycles 165 = .ok (.goto (-80), 3) := by decide +kernel
theorem dX7_cycles_168 : decode cX7_cycles 168 = .ok (.iload_n 3, 1) := by decide +kernel
theorem dX7_cycles_169 : decode cX7_cycles 169 = .ok (.ifCond .ne 10, 3) := by decide +kernel
theorem dX7_cycles_172 : decode cX7_cycles 172 = .ok (.aload_n 0, 1) := by decide +kernel
theorem dX7_cycles_173 : decode cX7_cycles 173 = .ok (.getfield 124, 3) := by decide +kernel
theorem dX7_cycles_176 : decode cX7_cycles 176 = .ok (.goto 29, 3) := by decide +kernel
theorem dX7_cycles_179 : decode cX7_cycles 179 = .ok (.iload_n 3, 1) := by decide +kernel
theorem dX7_cycles_180 : decode cX7_cycles 180 = .ok (.iconst 1, 1) := by decide +kernel
theorem dX7_cycles_181 : decode cX7_cycles 181 = .ok (.if_icmp .ne 10, 3) := by decide +kernel
theorem dX7_cycles_184 : decode cX7_cycles 184 = .ok (.aload_n 0, 1) := by decide +kernel
theorem dX7_cycles_185 : decode cX7_cycles 185 = .ok (.getfield 127, 3) := by decide +kernel
theorem dX7_cycles_188 : decode cX7_cycles 188 = .ok (.goto 17, 3) := by decide +kernel
theorem dX7_cycles_191 : decode cX7_cycles 191 = .ok (.iload_n 3, 1) := by decide +kernel
theorem dX7_cycles_192 : decode cX7_cycles 192 = .ok (.iconst 2, 1) := by decide +kernel
theorem dX7_cycles_193 : decode cX7_cycles 193 = .ok (.if_icmp .ne 10, 3) := by decide +kernel
theorem dX7_cycles_196 : decode cX7_cycles 196 = .ok (.aload_n 0, 1) := by decide +kernel
theorem dX7_cycles_197 : decode cX7_cycles 197 = .ok (.getfield 130, 3) := by decide +kernel
theorem dX7_cycles_200 : decode cX7_cycles 200 = .ok (.goto 5, 3) := by decide +kernel
theorem dX7_cycles_203 : decode cX7_cycles 203 = .ok (.iload 4, 2) := by decide +kernel
theorem dX7_cycles_205 : decode cX7_cycles 205 = .ok (.ireturn, 1) := by decide +kernel
theorem dX7_tapOf_0 : decode cX7_tapOf 0 = .ok (.aload_n 0, 1) := by decide +kernel
theorem dX7_tapOf_1 : decode cX7_tapOf 1 = .ok (.iload_n 1, 1) := by decide +kernel
theorem dX7_tapOf_2 : decode cX7_tapOf 2 = .ok (.iconst 0, 1) := by decide +kernel
theorem dX7_tapOf_3 : decode cX7_tapOf 3 = .ok (.bipush 31, 2) := by decide +kernel
theorem dX7_tapOf_5 : decode cX7_tapOf 5 = .ok (.invokestatic 48, 3) := by decide +kernel
theorem dX7_tapOf_8 : decode cX7_tapOf 8 = .ok (.iconst 1, 1) := by decide +kernel
theorem dX7_tapOf_9 : decode cX7_tapOf 9 = .ok (.iconst 1, 1) := by decide +kernel
theorem dX7_tapOf_10 : decode cX7_tapOf 10 = .ok (.invokevirtual 52, 3) := by decide +kernel
theorem dX7_tapOf_13 : decode cX7_tapOf 13 = .ok (.ifCond .eq 12, 3) := by decide +kernel
theorem dX7_tapOf_16 : decode cX7_tapOf 16 = .ok (.aload_n 0, 1) := by decide +kernel
theorem dX7_tapOf_17 : decode cX7_tapOf 17 = .ok (.getfield 25, 3) := by decide +kernel
theorem dX7_tapOf_20 : decode cX7_tapOf 20 = .ok (.iload_n 1, 1) := by decide +kernel
theorem dX7_tapOf_21 : decode cX7_tapOf 21 = .ok (.iaload, 1) := by decide +kernel
theorem dX7_tapOf_22 : decode cX7_tapOf 22 = .ok (.goto 4, 3) := by decide +kernel
theorem dX7_tapOf_25 : decode cX7_tapOf 25 = .ok (.iconst 0, 1) := by decide +kernel
theorem dX7_tapOf_26 : decode cX7_tapOf 26 = .ok (.ireturn, 1) := by decide +kernel
theorem dX7_answer_0 : decode cX7_answer 0 = .ok (.iconst 0, 1) := by decide +kernel
theorem dX7_answer_1 : decode cX7_answer 1 = .ok (.istore_n 2, 1) := by decide +kernel
theorem dX7_answer_2 : decode cX7_answer 2 = .ok (.aload_n 0, 1) := by decide +kernel
theorem dX7_answer_3 : decode cX7_answer 3 = .ok (.iload_n 1, 1) := by decide +kernel
theorem dX7_answer_4 : decode cX7_answer 4 = .ok (.iconst 0, 1) := by decide +kernel
theorem dX7_answer_5 : decode cX7_answer 5 = .ok (.bipush 31, 2) := by decide +kernel
theorem dX7_answer_7 : decode cX7_answer 7 = .ok (.invokestatic 48, 3) := by decide +kernel
theorem dX7_answer_10 : decode cX7_answer 10 = .ok (.iconst 1, 1) := by decide +kernel
theorem dX7_answer_11 : decode cX7_answer 11 = .ok (.iconst 1, 1) := by decide +kernel
theorem dX7_answer_12 : decode cX7_answer 12 = .ok (.invokevirtual 52, 3) := by decide +kernel
theorem dX7_answer_15 : decode cX7_answer 15 = .ok (.istore_n 3, 1) := by decide +kernel
theorem dX7_answer_16 : decode cX7_answer 16 = .ok (.iconst 0, 1) := by decide +kernel
theorem dX7_answer_17 : decode cX7_answer 17 = .ok (.istore 4, 2) := by decide +kernel
theorem dX7_answer_19 : decode cX7_answer 19 = .ok (.iload 4, 2) := by decide +kernel
theorem dX7_answer_21 : decode cX7_answer 21 = .ok (.bipush 32, 2) := by decide +kernel
theorem dX7_answer_23 : decode cX7_answer 23 = .ok (.if_icmp .ge 34, 3) := by decide +kernel
theorem dX7_answer_26 : decode cX7_answer 26 = .ok (.iload_n 3, 1) := by decide +kernel
theorem dX7_answer_27 : decode cX7_answer 27 = .ok (.ifCond .eq 30, 3) := by decide +kernel
theorem dX7_answer_30 : decode cX7_answer 30 = .ok (.iload_n 2, 1) := by decide +kernel
theorem dX7_answer_31 : decode cX7_answer 31 = .ok (.aload_n 0, 1) := by decide +kernel
theorem dX7_answer_32 : decode cX7_answer 32 = .ok (.getfield 25, 3) := by decide +kernel
theorem dX7_answer_35 : decode cX7_answer 35 = .ok (.iload 4, 2) := by decide +kernel
theorem dX7_answer_37 : decode cX7_answer 37 = .ok (.iaload, 1) := by decide +kernel
theorem dX7_answer_38 : decode cX7_answer 38 = .ok (.iload_n 1, 1) := by decide +kernel
theorem dX7_answer_39 : decode cX7_answer 39 = .ok (.iload 4, 2) := by decide +kernel
theorem dX7_answer_41 : decode cX7_answer 41 = .ok (.imul, 1) := by decide +kernel
theorem dX7_answer_42 : decode cX7_answer 42 = .ok (.invokestatic 90, 3) := by decide +kernel
theorem dX7_answer_45 : decode cX7_answer 45 = .ok (.imul, 1) := by decide +kernel
theorem dX7_answer_46 : decode cX7_answer 46 = .ok (.iadd, 1) := by decide +kernel
theorem dX7_answer_47 : decode cX7_answer 47 = .ok (.bipush 97, 2) := by decide +kernel
theorem dX7_answer_49 : decode cX7_answer 49 = .ok (.irem, 1) := by decide +kernel
theorem dX7_answer_50 : decode cX7_answer 50 = .ok (.istore_n 2, 1) := by decide +kernel
theorem dX7_answer_51 : decode cX7_answer 51 = .ok (.iinc 4 1, 3) := by decide +kernel
theorem dX7_answer_54 : decode cX7_answer 54 = .ok (.goto (-35), 3) := by decide +kernel
theorem dX7_answer_57 : decode cX7_answer 57 = .ok (.iload_n 2, 1) := by decide +kernel
theorem dX7_answer_58 : decode cX7_answer 58 = .ok (.ireturn, 1) := by decide +kernel
theorem dX7_answerAnew_0 : decode cX7_answerAnew 0 = .ok (.aload_n 0, 1) := by decide +kernel
theorem dX7_answerAnew_1 : decode cX7_answerAnew 1 = .ok (.iload_n 1, 1) := by decide +kernel
theorem dX7_answerAnew_2 : decode cX7_answerAnew 2 = .ok (.invokevirtual 137, 3) := by decide +kernel
theorem dX7_answerAnew_5 : decode cX7_answerAnew 5 = .ok (.ireturn, 1) := by decide +kernel
theorem dX7_sifted_0 : decode cX7_sifted 0 = .ok (.aload_n 0, 1) := by decide +kernel
theorem dX7_sifted_1 : decode cX7_sifted 1 = .ok (.iload_n 1, 1) := by decide +kernel
theorem dX7_sifted_2 : decode cX7_sifted 2 = .ok (.ifCond .lt 7, 3) := by decide +kernel
theorem dX7_sifted_5 : decode cX7_sifted 5 = .ok (.iconst 1, 1) := by decide +kernel
theorem dX7_sifted_6 : decode cX7_sifted 6 = .ok (.goto 4, 3) := by decide +kernel
theorem dX7_sifted_9 : decode cX7_sifted 9 = .ok (.iconst 0, 1) := by decide +kernel
theorem dX7_sifted_10 : decode cX7_sifted 10 = .ok (.iconst 1, 1) := by decide +kernel
theorem dX7_sifted_11 : decode cX7_sifted 11 = .ok (.iconst 1, 1) := by decide +kernel
theorem dX7_sifted_12 : decode cX7_sifted 12 = .ok (.invokevirtual 52, 3) := by decide +kernel
theorem dX7_sifted_15 : decode cX7_sifted 15 = .ok (.ifCond .ne 5, 3) := by decide +kernel
theorem dX7_sifted_18 : decode cX7_sifted 18 = .ok (.iconst 0, 1) := by decide +kernel
theorem dX7_sifted_19 : decode cX7_sifted 19 = .ok (.ireturn, 1) := by decide +kernel
theorem dX7_sifted_20 : decode cX7_sifted 20 = .ok (.iconst 0, 1) := by decide +kernel
theorem dX7_sifted_21 : decode cX7_sifted 21 = .ok (.istore_n 2, 1) := by decide +kernel
theorem dX7_sifted_22 : decode cX7_sifted 22 = .ok (.iconst 0, 1) := by decide +kernel
theorem dX7_sifted_23 : decode cX7_sifted 23 = .ok (.istore_n 3, 1) := by decide +kernel
theorem dX7_sifted_24 : decode cX7_sifted 24 = .ok (.iload_n 3, 1) := by decide +kernel
theorem dX7_sifted_25 : decode cX7_sifted 25 = .ok (.bipush 32, 2) := by decide +kernel
theorem dX7_sifted_27 : decode cX7_sifted 27 = .ok (.if_icmp .ge 48, 3) := by decide +kernel
theorem dX7_sifted_30 : decode cX7_sifted 30 = .ok (.iload_n 1, 1) := by decide +kernel
theorem dX7_sifted_31 : decode cX7_sifted 31 = .ok (.aload_n 0, 1) := by decide +kernel
theorem dX7_sifted_32 : decode cX7_sifted 32 = .ok (.getfield 93, 3) := by decide +kernel
theorem dX7_sifted_35 : decode cX7_sifted 35 = .ok (.if_icmp .ge 40, 3) := by decide +kernel
theorem dX7_sifted_38 : decode cX7_sifted 38 = .ok (.iload_n 1, 1) := by decide +kernel
theorem dX7_sifted_39 : decode cX7_sifted 39 = .ok (.iload_n 3, 1) := by decide +kernel
theorem dX7_sifted_40 : decode cX7_sifted 40 = .ok (.iadd, 1) := by decide +kernel
theorem dX7_sifted_41 : decode cX7_sifted 41 = .ok (.aload_n 0, 1) := by decide +kernel
theorem dX7_sifted_42 : decode cX7_sifted 42 = .ok (.getfield 93, 3) := by decide +kernel
theorem dX7_sifted_45 : decode cX7_sifted 45 = .ok (.if_icmp .ge 30, 3) := by decide +kernel
theorem dX7_sifted_48 : decode cX7_sifted 48 = .ok (.iload_n 2, 1) := by decide +kernel
theorem dX7_sifted_49 : decode cX7_sifted 49 = .ok (.aload_n 0, 1) := by decide +kernel
theorem dX7_sifted_50 : decode cX7_sifted 50 = .ok (.getfield 25, 3) := by decide +kernel
theorem dX7_sifted_53 : decode cX7_sifted 53 = .ok (.iload_n 3, 1) := by decide +kernel
theorem dX7_sifted_54 : decode cX7_sifted 54 = .ok (.iaload, 1) := by decide +kernel
theorem dX7_sifted_55 : decode cX7_sifted 55 = .ok (.aload_n 0, 1) := by decide +kernel
theorem dX7_sifted_56 : decode cX7_sifted 56 = .ok (.getfield 31, 3) := by decide +kernel
theorem dX7_sifted_59 : decode cX7_sifted 59 = .ok (.iload_n 1, 1) := by decide +kernel
theorem dX7_sifted_60 : decode cX7_sifted 60 = .ok (.iload_n 3, 1) := by decide +kernel
theorem dX7_sifted_61 : decode cX7_sifted 61 = .ok (.iadd, 1) := by decide +kernel
theorem dX7_sifted_62 : decode cX7_sifted 62 = .ok (.iaload, 1) := by decide +kernel
theorem dX7_sifted_63 : decode cX7_sifted 63 = .ok (.imul, 1) := by decide +kernel
theorem dX7_sifted_64 : decode cX7_sifted 64 = .ok (.iadd, 1) := by decide +kernel
theorem dX7_sifted_65 : decode cX7_sifted 65 = .ok (.bipush 97, 2) := by decide +kernel
theorem dX7_sifted_67 : decode cX7_sifted 67 = .ok (.irem, 1) := by decide +kernel
theorem dX7_sifted_68 : decode cX7_sifted 68 = .ok (.istore_n 2, 1) := by decide +kernel
theorem dX7_sifted_69 : decode cX7_sifted 69 = .ok (.iinc 3 1, 3) := by decide +kernel
theorem dX7_sifted_72 : decode cX7_sifted 72 = .ok (.goto (-48), 3) := by decide +kernel
theorem dX7_sifted_75 : decode cX7_sifted 75 = .ok (.iload_n 1, 1) := by decide +kernel
theorem dX7_sifted_76 : decode cX7_sifted 76 = .ok (.aload_n 0, 1) := by decide +kernel
theorem dX7_sifted_77 : decode cX7_sifted 77 = .ok (.getfield 93, 3) := by decide +kernel
theorem dX7_sifted_80 : decode cX7_sifted 80 = .ok (.if_icmp .ge 7, 3) := by decide +kernel
theorem dX7_sifted_83 : decode cX7_sifted 83 = .ok (.iload_n 2, 1) := by decide +kernel
theorem dX7_sifted_84 : decode cX7_sifted 84 = .ok (.goto 4, 3) := by decide +kernel
theorem dX7_sifted_87 : decode cX7_sifted 87 = .ok (.iconst (-1), 1) := by decide +kernel
theorem dX7_sifted_88 : decode cX7_sifted 88 = .ok (.ireturn, 1) := by decide +kernel
