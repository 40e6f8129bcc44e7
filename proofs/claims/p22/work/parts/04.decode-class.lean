theorem dX0_init_0 : decode cX0_init 0 = .ok (.aload_n 0, 1) := by decide +kernel
theorem dX0_init_1 : decode cX0_init 1 = .ok (.invokespecial 3, 3) := by decide +kernel
theorem dX0_init_4 : decode cX0_init 4 = .ok (.aload_n 0, 1) := by decide +kernel
theorem dX0_init_5 : decode cX0_init 5 = .ok (.new 9, 3) := by decide +kernel
theorem dX0_init_8 : decode cX0_init 8 = .ok (.dup, 1) := by decide +kernel
theorem dX0_init_9 : decode cX0_init 9 = .ok (.invokespecial 11, 3) := by decide +kernel
theorem dX0_init_12 : decode cX0_init 12 = .ok (.putfield 12, 3) := by decide +kernel
theorem dX0_init_15 : decode cX0_init 15 = .ok (.return_, 1) := by decide +kernel
theorem dX0_length_0 : decode cX0_length 0 = .ok (.aload_n 0, 1) := by decide +kernel
theorem dX0_length_1 : decode cX0_length 1 = .ok (.getfield 12, 3) := by decide +kernel
theorem dX0_length_4 : decode cX0_length 4 = .ok (.invokevirtual 18, 3) := by decide +kernel
theorem dX0_length_7 : decode cX0_length 7 = .ok (.ireturn, 1) := by decide +kernel
theorem dX0_placeOf_0 : decode cX0_placeOf 0 = .ok (.iconst 0, 1) := by decide +kernel
theorem dX0_placeOf_1 : decode cX0_placeOf 1 = .ok (.istore_n 2, 1) := by decide +kernel
theorem dX0_placeOf_2 : decode cX0_placeOf 2 = .ok (.iload_n 2, 1) := by decide +kernel
theorem dX0_placeOf_3 : decode cX0_placeOf 3 = .ok (.aload_n 0, 1) := by decide +kernel
theorem dX0_placeOf_4 : decode cX0_placeOf 4 = .ok (.getfield 12, 3) := by decide +kernel
theorem dX0_placeOf_7 : decode cX0_placeOf 7 = .ok (.invokevirtual 18, 3) := by decide +kernel
theorem dX0_placeOf_10 : decode cX0_placeOf 10 = .ok (.if_icmp .ge 23, 3) := by decide +kernel
theorem dX0_placeOf_13 : decode cX0_placeOf 13 = .ok (.aload_n 0, 1) := by decide +kernel
theorem dX0_placeOf_14 : decode cX0_placeOf 14 = .ok (.getfield 12, 3) := by decide +kernel
theorem dX0_placeOf_17 : decode cX0_placeOf 17 = .ok (.iload_n 2, 1) := by decide +kernel
theorem dX0_placeOf_18 : decode cX0_placeOf 18 = .ok (.invokevirtual 22, 3) := by decide +kernel
theorem dX0_placeOf_21 : decode cX0_placeOf 21 = .ok (.aload_n 1, 1) := by decide +kernel
theorem dX0_placeOf_22 : decode cX0_placeOf 22 = .ok (.if_acmp .ne 5, 3) := by decide +kernel
theorem dX0_placeOf_25 : decode cX0_placeOf 25 = .ok (.iload_n 2, 1) := by decide +kernel
theorem dX0_placeOf_26 : decode cX0_placeOf 26 = .ok (.ireturn, 1) := by decide +kernel
theorem dX0_placeOf_27 : decode cX0_placeOf 27 = .ok (.iinc 2 1, 3) := by decide +kernel
theorem dX0_placeOf_30 : decode cX0_placeOf 30 = .ok (.goto (-28), 3) := by decide +kernel
theorem dX0_placeOf_33 : decode cX0_placeOf 33 = .ok (.iconst (-1), 1) := by decide +kernel
theorem dX0_placeOf_34 : decode cX0_placeOf 34 = .ok (.ireturn, 1) := by decide +kernel
theorem dX0_toggle_0 : decode cX0_toggle 0 = .ok (.aload_n 0, 1) := by decide +kernel
theorem dX0_toggle_1 : decode cX0_toggle 1 = .ok (.aload_n 1, 1) := by decide +kernel
theorem dX0_toggle_2 : decode cX0_toggle 2 = .ok (.invokevirtual 26, 3) := by decide +kernel
theorem dX0_toggle_5 : decode cX0_toggle 5 = .ok (.istore_n 2, 1) := by decide +kernel
theorem dX0_toggle_6 : decode cX0_toggle 6 = .ok (.iload_n 2, 1) := by decide +kernel
theorem dX0_toggle_7 : decode cX0_toggle 7 = .ok (.iconst (-1), 1) := by decide +kernel
theorem dX0_toggle_8 : decode cX0_toggle 8 = .ok (.if_icmp .ne 15, 3) := by decide +kernel
theorem dX0_toggle_11 : decode cX0_toggle 11 = .ok (.aload_n 0, 1) := by decide +kernel
theorem dX0_toggle_12 : decode cX0_toggle 12 = .ok (.getfield 12, 3) := by decide +kernel
theorem dX0_toggle_15 : decode cX0_toggle 15 = .ok (.aload_n 1, 1) := by decide +kernel
theorem dX0_toggle_16 : decode cX0_toggle 16 = .ok (.invokevirtual 30, 3) := by decide +kernel
theorem dX0_toggle_19 : decode cX0_toggle 19 = .ok (.pop, 1) := by decide +kernel
theorem dX0_toggle_20 : decode cX0_toggle 20 = .ok (.goto 12, 3) := by decide +kernel
theorem dX0_toggle_23 : decode cX0_toggle 23 = .ok (.aload_n 0, 1) := by decide +kernel
theorem dX0_toggle_24 : decode cX0_toggle 24 = .ok (.getfield 12, 3) := by decide +kernel
theorem dX0_toggle_27 : decode cX0_toggle 27 = .ok (.iload_n 2, 1) := by decide +kernel
theorem dX0_toggle_28 : decode cX0_toggle 28 = .ok (.invokevirtual 34, 3) := by decide +kernel
theorem dX0_toggle_31 : decode cX0_toggle 31 = .ok (.pop, 1) := by decide +kernel
theorem dX0_toggle_32 : decode cX0_toggle 32 = .ok (.aload_n 0, 1) := by decide +kernel
theorem dX0_toggle_33 : decode cX0_toggle 33 = .ok (.getfield 12, 3) := by decide +kernel
theorem dX0_toggle_36 : decode cX0_toggle 36 = .ok (.invokevirtual 18, 3) := by decide +kernel
theorem dX0_toggle_39 : decode cX0_toggle 39 = .ok (.ireturn, 1) := by decide +kernel
theorem dX0_putInOrder_0 : decode cX0_putInOrder 0 = .ok (.new 9, 3) := by decide +kernel
theorem dX0_putInOrder_3 : decode cX0_putInOrder 3 = .ok (.dup, 1) := by decide +kernel
theorem dX0_putInOrder_4 : decode cX0_putInOrder 4 = .ok (.invokespecial 11, 3) := by decide +kernel
theorem dX0_putInOrder_7 : decode cX0_putInOrder 7 = .ok (.astore_n 1, 1) := by decide +kernel
theorem dX0_putInOrder_8 : decode cX0_putInOrder 8 = .ok (.iconst 0, 1) := by decide +kernel
theorem dX0_putInOrder_9 : decode cX0_putInOrder 9 = .ok (.istore_n 2, 1) := by decide +kernel
theorem dX0_putInOrder_10 : decode cX0_putInOrder 10 = .ok (.iload_n 2, 1) := by decide +kernel
theorem dX0_putInOrder_11 : decode cX0_putInOrder 11 = .ok (.aload_n 0, 1) := by decide +kernel
theorem dX0_putInOrder_12 : decode cX0_putInOrder 12 = .ok (.getfield 12, 3) := by decide +kernel
theorem dX0_putInOrder_15 : decode cX0_putInOrder 15 = .ok (.invokevirtual 18, 3) := by decide +kernel
theorem dX0_putInOrder_18 : decode cX0_putInOrder 18 = .ok (.if_icmp .ge 24, 3) := by decide +kernel
theorem dX0_putInOrder_21 : decode cX0_putInOrder 21 = .ok (.aload_n 1, 1) := by decide +kernel
theorem dX0_putInOrder_22 : decode cX0_putInOrder 22 = .ok (.aload_n 0, 1) := by decide +kernel
theorem dX0_putInOrder_23 : decode cX0_putInOrder 23 = .ok (.getfield 12, 3) := by decide +kernel
theorem dX0_putInOrder_26 : decode cX0_putInOrder 26 = .ok (.iload_n 2, 1) := by decide +kernel
theorem dX0_putInOrder_27 : decode cX0_putInOrder 27 = .ok (.invokevirtual 22, 3) := by decide +kernel
theorem dX0_putInOrder_30 : decode cX0_putInOrder 30 = .ok (.checkcast 37, 3) := by decide +kernel
theorem dX0_putInOrder_33 : decode cX0_putInOrder 33 = .ok (.invokestatic 39, 3) := by decide +kernel
theorem dX0_putInOrder_36 : decode cX0_putInOrder 36 = .ok (.iinc 2 1, 3) := by decide +kernel
theorem dX0_putInOrder_39 : decode cX0_putInOrder 39 = .ok (.goto (-29), 3) := by decide +kernel
theorem dX0_putInOrder_42 : decode cX0_putInOrder 42 = .ok (.iconst 0, 1) := by decide +kernel
theorem dX0_putInOrder_43 : decode cX0_putInOrder 43 = .ok (.istore_n 2, 1) := by decide +kernel
theorem dX0_putInOrder_44 : decode cX0_putInOrder 44 = .ok (.iconst 0, 1) := by decide +kernel
theorem dX0_putInOrder_45 : decode cX0_putInOrder 45 = .ok (.istore_n 3, 1) := by decide +kernel
theorem dX0_putInOrder_46 : decode cX0_putInOrder 46 = .ok (.iload_n 3, 1) := by decide +kernel
theorem dX0_putInOrder_47 : decode cX0_putInOrder 47 = .ok (.aload_n 0, 1) := by decide +kernel
theorem dX0_putInOrder_48 : decode cX0_putInOrder 48 = .ok (.getfield 12, 3) := by decide +kernel
theorem dX0_putInOrder_51 : decode cX0_putInOrder 51 = .ok (.invokevirtual 18, 3) := by decide +kernel
theorem dX0_putInOrder_54 : decode cX0_putInOrder 54 = .ok (.if_icmp .ge 36, 3) := by decide +kernel
theorem dX0_putInOrder_57 : decode cX0_putInOrder 57 = .ok (.iload_n 3, 1) := by decide +kernel
theorem dX0_putInOrder_58 : decode cX0_putInOrder 58 = .ok (.aload_n 1, 1) := by decide +kernel
theorem dX0_putInOrder_59 : decode cX0_putInOrder 59 = .ok (.invokevirtual 18, 3) := by decide +kernel
theorem dX0_putInOrder_62 : decode cX0_putInOrder 62 = .ok (.if_icmp .ge 28, 3) := by decide +kernel
theorem dX0_putInOrder_65 : decode cX0_putInOrder 65 = .ok (.aload_n 0, 1) := by decide +kernel
theorem dX0_putInOrder_66 : decode cX0_putInOrder 66 = .ok (.getfield 12, 3) := by decide +kernel
theorem dX0_putInOrder_69 : decode cX0_putInOrder 69 = .ok (.iload_n 3, 1) := by decide +kernel
theorem dX0_putInOrder_70 : decode cX0_putInOrder 70 = .ok (.invokevirtual 22, 3) := by decide +kernel
theorem dX0_putInOrder_73 : decode cX0_putInOrder 73 = .ok (.aload_n 1, 1) := by decide +kernel
theorem dX0_putInOrder_74 : decode cX0_putInOrder 74 = .ok (.iload_n 3, 1) := by decide +kernel
theorem dX0_putInOrder_75 : decode cX0_putInOrder 75 = .ok (.invokevirtual 22, 3) := by decide +kernel
theorem dX0_putInOrder_78 : decode cX0_putInOrder 78 = .ok (.if_acmp .eq 6, 3) := by decide +kernel
theorem dX0_putInOrder_81 : decode cX0_putInOrder 81 = .ok (.iinc 2 1, 3) := by decide +kernel
theorem dX0_putInOrder_84 : decode cX0_putInOrder 84 = .ok (.iinc 3 1, 3) := by decide +kernel
theorem dX0_putInOrder_87 : decode cX0_putInOrder 87 = .ok (.goto (-41), 3) := by decide +kernel
theorem dX0_putInOrder_90 : decode cX0_putInOrder 90 = .ok (.aload_n 0, 1) := by decide +kernel
theorem dX0_putInOrder_91 : decode cX0_putInOrder 91 = .ok (.aload_n 1, 1) := by decide +kernel
theorem dX0_putInOrder_92 : decode cX0_putInOrder 92 = .ok (.putfield 12, 3) := by decide +kernel
theorem dX0_putInOrder_95 : decode cX0_putInOrder 95 = .ok (.iload_n 2, 1) := by decide +kernel
theorem dX0_putInOrder_96 : decode cX0_putInOrder 96 = .ok (.ireturn, 1) := by decide +kernel
theorem dX0_insert_0 : decode cX0_insert 0 = .ok (.iconst 0, 1) := by decide +kernel
theorem dX0_insert_1 : decode cX0_insert 1 = .ok (.istore_n 2, 1) := by decide +kernel
theorem dX0_insert_2 : decode cX0_insert 2 = .ok (.iload_n 2, 1) := by decide +kernel
theorem dX0_insert_3 : decode cX0_insert 3 = .ok (.aload_n 0, 1) := by decide +kernel
theorem dX0_insert_4 : decode cX0_insert 4 = .ok (.invokevirtual 18, 3) := by decide +kernel
theorem dX0_insert_7 : decode cX0_insert 7 = .ok (.if_icmp .ge 24, 3) := by decide +kernel
theorem dX0_insert_10 : decode cX0_insert 10 = .ok (.aload_n 0, 1) := by decide +kernel
theorem dX0_insert_11 : decode cX0_insert 11 = .ok (.iload_n 2, 1) := by decide +kernel
theorem dX0_insert_12 : decode cX0_insert 12 = .ok (.invokevirtual 22, 3) := by decide +kernel
theorem dX0_insert_15 : decode cX0_insert 15 = .ok (.checkcast 37, 3) := by decide +kernel
theorem dX0_insert_18 : decode cX0_insert 18 = .ok (.aload_n 1, 1) := by decide +kernel
theorem dX0_insert_19 : decode cX0_insert 19 = .ok (.invokevirtual 43, 3) := by decide +kernel
theorem dX0_insert_22 : decode cX0_insert 22 = .ok (.ifCond .eq 9, 3) := by decide +kernel
theorem dX0_insert_25 : decode cX0_insert 25 = .ok (.iinc 2 1, 3) := by decide +kernel
theorem dX0_insert_28 : decode cX0_insert 28 = .ok (.goto (-26), 3) := by decide +kernel
theorem dX0_insert_31 : decode cX0_insert 31 = .ok (.aload_n 0, 1) := by decide +kernel
theorem dX0_insert_32 : decode cX0_insert 32 = .ok (.iload_n 2, 1) := by decide +kernel
theorem dX0_insert_33 : decode cX0_insert 33 = .ok (.aload_n 1, 1) := by decide +kernel
theorem dX0_insert_34 : decode cX0_insert 34 = .ok (.invokevirtual 47, 3) := by decide +kernel
theorem dX0_insert_37 : decode cX0_insert 37 = .ok (.return_, 1) := by decide +kernel
theorem dX0_letThrough_0 : decode cX0_letThrough 0 = .ok (.iload_n 1, 1) := by decide +kernel
theorem dX0_letThrough_1 : decode cX0_letThrough 1 = .ok (.istore_n 2, 1) := by decide +kernel
theorem dX0_letThrough_2 : decode cX0_letThrough 2 = .ok (.iconst 0, 1) := by decide +kernel
theorem dX0_letThrough_3 : decode cX0_letThrough 3 = .ok (.istore_n 3, 1) := by decide +kernel
theorem dX0_letThrough_4 : decode cX0_letThrough 4 = .ok (.iload_n 3, 1) := by decide +kernel
theorem dX0_letThrough_5 : decode cX0_letThrough 5 = .ok (.aload_n 0, 1) := by decide +kernel
theorem dX0_letThrough_6 : decode cX0_letThrough 6 = .ok (.getfield 12, 3) := by decide +kernel
theorem dX0_letThrough_9 : decode cX0_letThrough 9 = .ok (.invokevirtual 18, 3) := by decide +kernel
theorem dX0_letThrough_12 : decode cX0_letThrough 12 = .ok (.if_icmp .ge 25, 3) := by decide +kernel
theorem dX0_letThrough_15 : decode cX0_letThrough 15 = .ok (.aload_n 0, 1) := by decide +kernel
theorem dX0_letThrough_16 : decode cX0_letThrough 16 = .ok (.getfield 12, 3) := by decide +kernel
theorem dX0_letThrough_19 : decode cX0_letThrough 19 = .ok (.iload_n 3, 1) := by decide +kernel
theorem dX0_letThrough_20 : decode cX0_letThrough 20 = .ok (.invokevirtual 22, 3) := by decide +kernel
theorem dX0_letThrough_23 : decode cX0_letThrough 23 = .ok (.checkcast 37, 3) := by decide +kernel
theorem dX0_letThrough_26 : decode cX0_letThrough 26 = .ok (.iload_n 2, 1) := by decide +kernel
theorem dX0_letThrough_27 : decode cX0_letThrough 27 = .ok (.invokevirtual 50, 3) := by decide +kernel
theorem dX0_letThrough_30 : decode cX0_letThrough 30 = .ok (.istore_n 2, 1) := by decide +kernel
theorem dX0_letThrough_31 : decode cX0_letThrough 31 = .ok (.iinc 3 1, 3) := by decide +kernel
theorem dX0_letThrough_34 : decode cX0_letThrough 34 = .ok (.goto (-30), 3) := by decide +kernel
theorem dX0_letThrough_37 : decode cX0_letThrough 37 = .ok (.iload_n 2, 1) := by decide +kernel
theorem dX0_letThrough_38 : decode cX0_letThrough 38 = .ok (.ireturn, 1) := by decide +kernel
theorem dX0_isStable_0 : decode cX0_isStable 0 = .ok (.iconst 0, 1) := by decide +kernel
theorem dX0_isStable_1 : decode cX0_isStable 1 = .ok (.istore_n 1, 1) := by decide +kernel
theorem dX0_isStable_2 : decode cX0_isStable 2 = .ok (.iload_n 1, 1) := by decide +kernel
theorem dX0_isStable_3 : decode cX0_isStable 3 = .ok (.aload_n 0, 1) := by decide +kernel
theorem dX0_isStable_4 : decode cX0_isStable 4 = .ok (.getfield 12, 3) := by decide +kernel
theorem dX0_isStable_7 : decode cX0_isStable 7 = .ok (.invokevirtual 18, 3) := by decide +kernel
theorem dX0_isStable_10 : decode cX0_isStable 10 = .ok (.if_icmp .ge 28, 3) := by decide +kernel
theorem dX0_isStable_13 : decode cX0_isStable 13 = .ok (.aload_n 0, 1) := by decide +kernel
theorem dX0_isStable_14 : decode cX0_isStable 14 = .ok (.getfield 12, 3) := by decide +kernel
theorem dX0_isStable_17 : decode cX0_isStable 17 = .ok (.iload_n 1, 1) := by decide +kernel
theorem dX0_isStable_18 : decode cX0_isStable 18 = .ok (.invokevirtual 22, 3) := by decide +kernel
theorem dX0_isStable_21 : decode cX0_isStable 21 = .ok (.checkcast 37, 3) := by decide +kernel
theorem dX0_isStable_24 : decode cX0_isStable 24 = .ok (.invokevirtual 54, 3) := by decide +kernel
theorem dX0_isStable_27 : decode cX0_isStable 27 = .ok (.ifCond .ne 5, 3) := by decide +kernel
theorem dX0_isStable_30 : decode cX0_isStable 30 = .ok (.iconst 0, 1) := by decide +kernel
theorem dX0_isStable_31 : decode cX0_isStable 31 = .ok (.ireturn, 1) := by decide +kernel
theorem dX0_isStable_32 : decode cX0_isStable 32 = .ok (.iinc 1 1, 3) := by decide +kernel
theorem dX0_isStable_35 : decode cX0_isStable 35 = .ok (.goto (-33), 3) := by decide +kernel
theorem dX0_isStable_38 : decode cX0_isStable 38 = .ok (.iconst 1, 1) := by decide +kernel
theorem dX0_isStable_39 : decode cX0_isStable 39 = .ok (.ireturn, 1) := by decide +kernel
theorem dX0_gainAt_0 : decode cX0_gainAt 0 = .ok (.new 58, 3) := by decide +kernel
theorem dX0_gainAt_3 : decode cX0_gainAt 3 = .ok (.dup, 1) := by decide +kernel
theorem dX0_gainAt_4 : decode cX0_gainAt 4 = .ok (.invokespecial 60, 3) := by decide +kernel
theorem dX0_gainAt_7 : decode cX0_gainAt 7 = .ok (.astore_n 2, 1) := by decide +kernel
theorem dX0_gainAt_8 : decode cX0_gainAt 8 = .ok (.iconst 0, 1) := by decide +kernel
theorem dX0_gainAt_9 : decode cX0_gainAt 9 = .ok (.istore_n 3, 1) := by decide +kernel
theorem dX0_gainAt_10 : decode cX0_gainAt 10 = .ok (.iload_n 3, 1) := by decide +kernel
theorem dX0_gainAt_11 : decode cX0_gainAt 11 = .ok (.aload_n 0, 1) := by decide +kernel
theorem dX0_gainAt_12 : decode cX0_gainAt 12 = .ok (.getfield 12, 3) := by decide +kernel
theorem dX0_gainAt_15 : decode cX0_gainAt 15 = .ok (.invokevirtual 18, 3) := by decide +kernel
theorem dX0_gainAt_18 : decode cX0_gainAt 18 = .ok (.if_icmp .ge 38, 3) := by decide +kernel
theorem dX0_gainAt_21 : decode cX0_gainAt 21 = .ok (.aload_n 0, 1) := by decide +kernel
theorem dX0_gainAt_22 : decode cX0_gainAt 22 = .ok (.getfield 12, 3) := by decide +kernel
theorem dX0_gainAt_25 : decode cX0_gainAt 25 = .ok (.iload_n 3, 1) := by decide +kernel
theorem dX0_gainAt_26 : decode cX0_gainAt 26 = .ok (.invokevirtual 22, 3) := by decide +kernel
theorem dX0_gainAt_29 : decode cX0_gainAt 29 = .ok (.checkcast 37, 3) := by decide +kernel
theorem dX0_gainAt_32 : decode cX0_gainAt 32 = .ok (.astore 4, 2) := by decide +kernel
theorem dX0_gainAt_34 : decode cX0_gainAt 34 = .ok (.aload_n 2, 1) := by decide +kernel
theorem dX0_gainAt_35 : decode cX0_gainAt 35 = .ok (.aload 4, 2) := by decide +kernel
theorem dX0_gainAt_37 : decode cX0_gainAt 37 = .ok (.iload_n 1, 1) := by decide +kernel
theorem dX0_gainAt_38 : decode cX0_gainAt 38 = .ok (.invokevirtual 61, 3) := by decide +kernel
theorem dX0_gainAt_41 : decode cX0_gainAt 41 = .ok (.aload 4, 2) := by decide +kernel
theorem dX0_gainAt_43 : decode cX0_gainAt 43 = .ok (.iload_n 1, 1) := by decide +kernel
theorem dX0_gainAt_44 : decode cX0_gainAt 44 = .ok (.invokevirtual 65, 3) := by decide +kernel
theorem dX0_gainAt_47 : decode cX0_gainAt 47 = .ok (.invokevirtual 68, 3) := by decide +kernel
theorem dX0_gainAt_50 : decode cX0_gainAt 50 = .ok (.iinc 3 1, 3) := by decide +kernel
theorem dX0_gainAt_53 : decode cX0_gainAt 53 = .ok (.goto (-43), 3) := by decide +kernel
theorem dX0_gainAt_56 : decode cX0_gainAt 56 = .ok (.aload_n 2, 1) := by decide +kernel
theorem dX0_gainAt_57 : decode cX0_gainAt 57 = .ok (.invokevirtual 72, 3) := by decide +kernel
theorem dX0_gainAt_60 : decode cX0_gainAt 60 = .ok (.aload_n 2, 1) := by decide +kernel
theorem dX0_gainAt_61 : decode cX0_gainAt 61 = .ok (.areturn, 1) := by decide +kernel
theorem dX1_init_0 : decode cX1_init 0 = .ok (.aload_n 0, 1) := by decide +kernel
theorem dX1_init_1 : decode cX1_init 1 = .ok (.invokespecial 3, 3) := by decide +kernel
theorem dX1_init_4 : decode cX1_init 4 = .ok (.aload_n 0, 1) := by decide +kernel
theorem dX1_init_5 : decode cX1_init 5 = .ok (.sipush 1263, 3) := by decide +kernel
theorem dX1_init_8 : decode cX1_init 8 = .ok (.newarray .long, 2) := by decide +kernel
theorem dX1_init_10 : decode cX1_init 10 = .ok (.putfield 9, 3) := by decide +kernel
theorem dX1_init_13 : decode cX1_init 13 = .ok (.return_, 1) := by decide +kernel
theorem dX1_tryAll_0 : decode cX1_tryAll 0 = .ok (.aload_n 0, 1) := by decide +kernel
theorem dX1_tryAll_1 : decode cX1_tryAll 1 = .ok (.getfield 9, 3) := by decide +kernel
theorem dX1_tryAll_4 : decode cX1_tryAll 4 = .ok (.lconst 0, 1) := by decide +kernel
theorem dX1_tryAll_5 : decode cX1_tryAll 5 = .ok (.invokestatic 13, 3) := by decide +kernel
theorem dX1_tryAll_8 : decode cX1_tryAll 8 = .ok (.aload_n 0, 1) := by decide +kernel
theorem dX1_tryAll_9 : decode cX1_tryAll 9 = .ok (.iconst 0, 1) := by decide +kernel
theorem dX1_tryAll_10 : decode cX1_tryAll 10 = .ok (.putfield 19, 3) := by decide +kernel
theorem dX1_tryAll_13 : decode cX1_tryAll 13 = .ok (.aload_n 0, 1) := by decide +kernel
theorem dX1_tryAll_14 : decode cX1_tryAll 14 = .ok (.iconst 0, 1) := by decide +kernel
theorem dX1_tryAll_15 : decode cX1_tryAll 15 = .ok (.putfield 23, 3) := by decide +kernel
theorem dX1_tryAll_18 : decode cX1_tryAll 18 = .ok (.aload_n 0, 1) := by decide +kernel
theorem dX1_tryAll_19 : decode cX1_tryAll 19 = .ok (.iconst 0, 1) := by decide +kernel
theorem dX1_tryAll_20 : decode cX1_tryAll 20 = .ok (.putfield 26, 3) := by decide +kernel
theorem dX1_tryAll_23 : decode cX1_tryAll 23 = .ok (.aload_n 0, 1) := by decide +kernel
theorem dX1_tryAll_24 : decode cX1_tryAll 24 = .ok (.iconst 0, 1) := by decide +kernel
theorem dX1_tryAll_25 : decode cX1_tryAll 25 = .ok (.putfield 29, 3) := by decide +kernel
theorem dX1_tryAll_28 : decode cX1_tryAll 28 = .ok (.iload_n 2, 1) := by decide +kernel
theorem dX1_tryAll_29 : decode cX1_tryAll 29 = .ok (.ineg, 1) := by decide +kernel
theorem dX1_tryAll_30 : decode cX1_tryAll 30 = .ok (.istore_n 3, 1) := by decide +kernel
theorem dX1_tryAll_31 : decode cX1_tryAll 31 = .ok (.iload_n 3, 1) := by decide +kernel
theorem dX1_tryAll_32 : decode cX1_tryAll 32 = .ok (.iload_n 2, 1) := by decide +kernel
theorem dX1_tryAll_33 : decode cX1_tryAll 33 = .ok (.if_icmp .gt 36, 3) := by decide +kernel
theorem dX1_tryAll_36 : decode cX1_tryAll 36 = .ok (.iload_n 2, 1) := by decide +kernel
theorem dX1_tryAll_37 : decode cX1_tryAll 37 = .ok (.ineg, 1) := by decide +kernel
theorem dX1_tryAll_38 : decode cX1_tryAll 38 = .ok (.istore 4, 2) := by decide +kernel
theorem dX1_tryAll_40 : decode cX1_tryAll 40 = .ok (.iload 4, 2) := by decide +kernel
theorem dX1_tryAll_42 : decode cX1_tryAll 42 = .ok (.iload_n 2, 1) := by decide +kernel
theorem dX1_tryAll_43 : decode cX1_tryAll 43 = .ok (.if_icmp .gt 20, 3) := by decide +kernel
theorem dX1_tryAll_46 : decode cX1_tryAll 46 = .ok (.aload_n 0, 1) := by decide +kernel
theorem dX1_tryAll_47 : decode cX1_tryAll 47 = .ok (.aload_n 1, 1) := by decide +kernel
theorem dX1_tryAll_48 : decode cX1_tryAll 48 = .ok (.iload_n 3, 1) := by decide +kernel
theorem dX1_tryAll_49 : decode cX1_tryAll 49 = .ok (.iload 4, 2) := by decide +kernel
theorem dX1_tryAll_51 : decode cX1_tryAll 51 = .ok (.invokestatic 32, 3) := by decide +kernel
theorem dX1_tryAll_54 : decode cX1_tryAll 54 = .ok (.invokevirtual 36, 3) := by decide +kernel
theorem dX1_tryAll_57 : decode cX1_tryAll 57 = .ok (.iinc 4 1, 3) := by decide +kernel
theorem dX1_tryAll_60 : decode cX1_tryAll 60 = .ok (.goto (-20), 3) := by decide +kernel
theorem dX1_tryAll_63 : decode cX1_tryAll 63 = .ok (.iinc 3 1, 3) := by decide +kernel
theorem dX1_tryAll_66 : decode cX1_tryAll 66 = .ok (.goto (-35), 3) := by decide +kernel
theorem dX1_tryAll_69 : decode cX1_tryAll 69 = .ok (.return_, 1) := by decide +kernel
theorem dX1_found_0 : decode cX1_found 0 = .ok (.iload_n 1, 1) := by decide +kernel
theorem dX1_found_1 : decode cX1_found 1 = .ok (.tableswitch 42 0 2 #[27, 32, 37], 27) := by decide +kernel
theorem dX1_found_28 : decode cX1_found 28 = .ok (.aload_n 0, 1) := by decide +kernel
theorem dX1_found_29 : decode cX1_found 29 = .ok (.getfield 19, 3) := by decide +kernel
theorem dX1_found_32 : decode cX1_found 32 = .ok (.ireturn, 1) := by decide +kernel
theorem dX1_found_33 : decode cX1_found 33 = .ok (.aload_n 0, 1) := by decide +kernel
theorem dX1_found_34 : decode cX1_found 34 = .ok (.getfield 23, 3) := by decide +kernel
theorem dX1_found_37 : decode cX1_found 37 = .ok (.ireturn, 1) := by decide +kernel
theorem dX1_found_38 : decode cX1_found 38 = .ok (.aload_n 0, 1) := by decide +kernel
theorem dX1_found_39 : decode cX1_found 39 = .ok (.getfield 26, 3) := by decide +kernel
theorem dX1_found_42 : decode cX1_found 42 = .ok (.ireturn, 1) := by decide +kernel
theorem dX1_found_43 : decode cX1_found 43 = .ok (.aload_n 0, 1) := by decide +kernel
theorem dX1_found_44 : decode cX1_found 44 = .ok (.getfield 29, 3) := by decide +kernel
theorem dX1_found_47 : decode cX1_found 47 = .ok (.ireturn, 1) := by decide +kernel
theorem dX1_tryFrom_0 : decode cX1_tryFrom 0 = .ok (.aload_n 0, 1) := by decide +kernel
theorem dX1_tryFrom_1 : decode cX1_tryFrom 1 = .ok (.aload_n 1, 1) := by decide +kernel
theorem dX1_tryFrom_2 : decode cX1_tryFrom 2 = .ok (.iload_n 2, 1) := by decide +kernel
theorem dX1_tryFrom_3 : decode cX1_tryFrom 3 = .ok (.iconst 0, 1) := by decide +kernel
theorem dX1_tryFrom_4 : decode cX1_tryFrom 4 = .ok (.iconst 1, 1) := by decide +kernel
theorem dX1_tryFrom_5 : decode cX1_tryFrom 5 = .ok (.invokevirtual 40, 3) := by decide +kernel
theorem dX1_tryFrom_8 : decode cX1_tryFrom 8 = .ok (.istore_n 3, 1) := by decide +kernel
theorem dX1_tryFrom_9 : decode cX1_tryFrom 9 = .ok (.aload_n 0, 1) := by decide +kernel
theorem dX1_tryFrom_10 : decode cX1_tryFrom 10 = .ok (.iload_n 3, 1) := by decide +kernel
theorem dX1_tryFrom_11 : decode cX1_tryFrom 11 = .ok (.invokevirtual 44, 3) := by decide +kernel
theorem dX1_tryFrom_14 : decode cX1_tryFrom 14 = .ok (.istore 4, 2) := by decide +kernel
theorem dX1_tryFrom_16 : decode cX1_tryFrom 16 = .ok (.iload 4, 2) := by decide +kernel
theorem dX1_tryFrom_18 : decode cX1_tryFrom 18 = .ok (.iconst 1, 1) := by decide +kernel
theorem dX1_tryFrom_19 : decode cX1_tryFrom 19 = .ok (.if_icmp .ne 16, 3) := by decide +kernel
theorem dX1_tryFrom_22 : decode cX1_tryFrom 22 = .ok (.iload_n 3, 1) := by decide +kernel
theorem dX1_tryFrom_23 : decode cX1_tryFrom 23 = .ok (.sipush 20200, 3) := by decide +kernel
theorem dX1_tryFrom_26 : decode cX1_tryFrom 26 = .ok (.if_icmp .eq 9, 3) := by decide +kernel
theorem dX1_tryFrom_29 : decode cX1_tryFrom 29 = .ok (.aload_n 0, 1) := by decide +kernel
theorem dX1_tryFrom_30 : decode cX1_tryFrom 30 = .ok (.aload_n 1, 1) := by decide +kernel
theorem dX1_tryFrom_31 : decode cX1_tryFrom 31 = .ok (.iload_n 3, 1) := by decide +kernel
theorem dX1_tryFrom_32 : decode cX1_tryFrom 32 = .ok (.invokevirtual 48, 3) := by decide +kernel
theorem dX1_tryFrom_35 : decode cX1_tryFrom 35 = .ok (.aload_n 0, 1) := by decide +kernel
theorem dX1_tryFrom_36 : decode cX1_tryFrom 36 = .ok (.aload_n 1, 1) := by decide +kernel
theorem dX1_tryFrom_37 : decode cX1_tryFrom 37 = .ok (.iload_n 2, 1) := by decide +kernel
theorem dX1_tryFrom_38 : decode cX1_tryFrom 38 = .ok (.iconst 1, 1) := by decide +kernel
theorem dX1_tryFrom_39 : decode cX1_tryFrom 39 = .ok (.iload 4, 2) := by decide +kernel
theorem dX1_tryFrom_41 : decode cX1_tryFrom 41 = .ok (.iconst 3, 1) := by decide +kernel
theorem dX1_tryFrom_42 : decode cX1_tryFrom 42 = .ok (.if_icmp .ne 7, 3) := by decide +kernel
theorem dX1_tryFrom_45 : decode cX1_tryFrom 45 = .ok (.iconst 3, 1) := by decide +kernel
theorem dX1_tryFrom_46 : decode cX1_tryFrom 46 = .ok (.goto 4, 3) := by decide +kernel
theorem dX1_tryFrom_49 : decode cX1_tryFrom 49 = .ok (.iconst 2, 1) := by decide +kernel
theorem dX1_tryFrom_50 : decode cX1_tryFrom 50 = .ok (.invokevirtual 40, 3) := by decide +kernel
theorem dX1_tryFrom_53 : decode cX1_tryFrom 53 = .ok (.pop, 1) := by decide +kernel
theorem dX1_tryFrom_54 : decode cX1_tryFrom 54 = .ok (.iload 4, 2) := by decide +kernel
theorem dX1_tryFrom_56 : decode cX1_tryFrom 56 = .ok (.iconst 3, 1) := by decide +kernel
theorem dX1_tryFrom_57 : decode cX1_tryFrom 57 = .ok (.if_icmp .ne 13, 3) := by decide +kernel
theorem dX1_tryFrom_60 : decode cX1_tryFrom 60 = .ok (.aload_n 0, 1) := by decide +kernel
theorem dX1_tryFrom_61 : decode cX1_tryFrom 61 = .ok (.dup, 1) := by decide +kernel
theorem dX1_tryFrom_62 : decode cX1_tryFrom 62 = .ok (.getfield 29, 3) := by decide +kernel
theorem dX1_tryFrom_65 : decode cX1_tryFrom 65 = .ok (.iconst 1, 1) := by decide +kernel
theorem dX1_tryFrom_66 : decode cX1_tryFrom 66 = .ok (.iadd, 1) := by decide +kernel
theorem dX1_tryFrom_67 : decode cX1_tryFrom 67 = .ok (.putfield 29, 3) := by decide +kernel
theorem dX1_tryFrom_70 : decode cX1_tryFrom 70 = .ok (.return_, 1) := by decide +kernel
theorem dX1_walk_0 : decode cX1_walk 0 = .ok (.iload_n 2, 1) := by decide +kernel
theorem dX1_walk_1 : decode cX1_walk 1 = .ok (.istore 5, 2) := by decide +kernel
theorem dX1_walk_3 : decode cX1_walk 3 = .ok (.iconst 0, 1) := by decide +kernel
theorem dX1_walk_4 : decode cX1_walk 4 = .ok (.istore 6, 2) := by decide +kernel
theorem dX1_walk_6 : decode cX1_walk 6 = .ok (.iload 6, 2) := by decide +kernel
theorem dX1_walk_8 : decode cX1_walk 8 = .ok (.ldc 51, 2) := by decide +kernel
theorem dX1_walk_10 : decode cX1_walk 10 = .ok (.if_icmp .gt 35, 3) := by decide +kernel
theorem dX1_walk_13 : decode cX1_walk 13 = .ok (.aload_n 0, 1) := by decide +kernel
theorem dX1_walk_14 : decode cX1_walk 14 = .ok (.iload 5, 2) := by decide +kernel
theorem dX1_walk_16 : decode cX1_walk 16 = .ok (.invokevirtual 44, 3) := by decide +kernel
theorem dX1_walk_19 : decode cX1_walk 19 = .ok (.iload_n 3, 1) := by decide +kernel
theorem dX1_walk_20 : decode cX1_walk 20 = .ok (.if_icmp .ne 25, 3) := by decide +kernel
theorem dX1_walk_23 : decode cX1_walk 23 = .ok (.aload_n 0, 1) := by decide +kernel
theorem dX1_walk_24 : decode cX1_walk 24 = .ok (.iload 5, 2) := by decide +kernel
theorem dX1_walk_26 : decode cX1_walk 26 = .ok (.iload 4, 2) := by decide +kernel
theorem dX1_walk_28 : decode cX1_walk 28 = .ok (.invokevirtual 52, 3) := by decide +kernel
theorem dX1_walk_31 : decode cX1_walk 31 = .ok (.aload_n 1, 1) := by decide +kernel
theorem dX1_walk_32 : decode cX1_walk 32 = .ok (.iload 5, 2) := by decide +kernel
theorem dX1_walk_34 : decode cX1_walk 34 = .ok (.invokestatic 56, 3) := by decide +kernel
theorem dX1_walk_37 : decode cX1_walk 37 = .ok (.istore 5, 2) := by decide +kernel
theorem dX1_walk_39 : decode cX1_walk 39 = .ok (.iinc 6 1, 3) := by decide +kernel
theorem dX1_walk_42 : decode cX1_walk 42 = .ok (.goto (-36), 3) := by decide +kernel
theorem dX1_walk_45 : decode cX1_walk 45 = .ok (.iload 5, 2) := by decide +kernel
theorem dX1_walk_47 : decode cX1_walk 47 = .ok (.ireturn, 1) := by decide +kernel
theorem dX1_countCycle_0 : decode cX1_countCycle 0 = .ok (.iconst 0, 1) := by decide +kernel
theorem dX1_countCycle_1 : decode cX1_countCycle 1 = .ok (.istore_n 3, 1) := by decide +kernel
theorem dX1_countCycle_2 : decode cX1_countCycle 2 = .ok (.iload_n 2, 1) := by decide +kernel
theorem dX1_countCycle_3 : decode cX1_countCycle 3 = .ok (.istore 4, 2) := by decide +kernel
theorem dX1_countCycle_5 : decode cX1_countCycle 5 = .ok (.iinc 3 1, 3) := by decide +kernel
theorem dX1_countCycle_8 : decode cX1_countCycle 8 = .ok (.aload_n 0, 1) := by decide +kernel
theorem dX1_countCycle_9 : decode cX1_countCycle 9 = .ok (.aload_n 0, 1) := by decide +kernel
theorem dX1_countCycle_10 : decode cX1_countCycle 10 = .ok (.getfield 26, 3) := by decide +kernel
theorem dX1_countCycle_13 : decode cX1_countCycle 13 = .ok (.iload 4, 2) := by decide +kernel
theorem dX1_countCycle_15 : decode cX1_countCycle 15 = .ok (.invokestatic 60, 3) := by decide +kernel
theorem dX1_countCycle_18 : decode cX1_countCycle 18 = .ok (.invokestatic 63, 3) := by decide +kernel
theorem dX1_countCycle_21 : decode cX1_countCycle 21 = .ok (.invokestatic 68, 3) := by decide +kernel
theorem dX1_countCycle_24 : decode cX1_countCycle 24 = .ok (.putfield 26, 3) := by decide +kernel
theorem dX1_countCycle_27 : decode cX1_countCycle 27 = .ok (.aload_n 1, 1) := by decide +kernel
theorem dX1_countCycle_28 : decode cX1_countCycle 28 = .ok (.iload 4, 2) := by decide +kernel
theorem dX1_countCycle_30 : decode cX1_countCycle 30 = .ok (.invokestatic 56, 3) := by decide +kernel
theorem dX1_countCycle_33 : decode cX1_countCycle 33 = .ok (.istore 4, 2) := by decide +kernel
theorem dX1_countCycle_35 : decode cX1_countCycle 35 = .ok (.iload 4, 2) := by decide +kernel
theorem dX1_countCycle_37 : decode cX1_countCycle 37 = .ok (.iload_n 2, 1) := by decide +kernel
theorem dX1_countCycle_38 : decode cX1_countCycle 38 = .ok (.if_icmp .eq 9, 3) := by decide +kernel
theorem dX1_countCycle_41 : decode cX1_countCycle 41 = .ok (.iload_n 3, 1) := by decide +kernel
theorem dX1_countCycle_42 : decode cX1_countCycle 42 = .ok (.ldc 51, 2) := by decide +kernel
theorem dX1_countCycle_44 : decode cX1_countCycle 44 = .ok (.if_icmp .lt (-39), 3) := by decide +kernel
theorem dX1_countCycle_47 : decode cX1_countCycle 47 = .ok (.aload_n 0, 1) := by decide +kernel
theorem dX1_countCycle_48 : decode cX1_countCycle 48 = .ok (.dup, 1) := by decide +kernel
theorem dX1_countCycle_49 : decode cX1_countCycle 49 = .ok (.getfield 19, 3) := by decide +kernel
theorem dX1_countCycle_52 : decode cX1_countCycle 52 = .ok (.iconst 1, 1) := by decide +kernel
theorem dX1_countCycle_53 : decode cX1_countCycle 53 = .ok (.iadd, 1) := by decide +kernel
theorem dX1_countCycle_54 : decode cX1_countCycle 54 = .ok (.putfield 19, 3) := by decide +kernel
theorem dX1_countCycle_57 : decode cX1_countCycle 57 = .ok (.aload_n 0, 1) := by decide +kernel
theorem dX1_countCycle_58 : decode cX1_countCycle 58 = .ok (.aload_n 0, 1) := by decide +kernel
theorem dX1_countCycle_59 : decode cX1_countCycle 59 = .ok (.getfield 23, 3) := by decide +kernel
theorem dX1_countCycle_62 : decode cX1_countCycle 62 = .ok (.iload_n 3, 1) := by decide +kernel
theorem dX1_countCycle_63 : decode cX1_countCycle 63 = .ok (.invokestatic 68, 3) := by decide +kernel
theorem dX1_countCycle_66 : decode cX1_countCycle 66 = .ok (.putfield 23, 3) := by decide +kernel
theorem dX1_countCycle_69 : decode cX1_countCycle 69 = .ok (.return_, 1) := by decide +kernel
theorem dX1_next_0 : decode cX1_next 0 = .ok (.iload_n 1, 1) := by decide +kernel
theorem dX1_next_1 : decode cX1_next 1 = .ok (.invokestatic 60, 3) := by decide +kernel
theorem dX1_next_4 : decode cX1_next 4 = .ok (.istore_n 2, 1) := by decide +kernel
theorem dX1_next_5 : decode cX1_next 5 = .ok (.aload_n 0, 1) := by decide +kernel
theorem dX1_next_6 : decode cX1_next 6 = .ok (.iconst 0, 1) := by decide +kernel
theorem dX1_next_7 : decode cX1_next 7 = .ok (.iload_n 2, 1) := by decide +kernel
theorem dX1_next_8 : decode cX1_next 8 = .ok (.iload_n 1, 1) := by decide +kernel
theorem dX1_next_9 : decode cX1_next 9 = .ok (.invokestatic 71, 3) := by decide +kernel
theorem dX1_next_12 : decode cX1_next 12 = .ok (.invokevirtual 74, 3) := by decide +kernel
theorem dX1_next_15 : decode cX1_next 15 = .ok (.iload_n 2, 1) := by decide +kernel
theorem dX1_next_16 : decode cX1_next 16 = .ok (.invokestatic 32, 3) := by decide +kernel
theorem dX1_next_19 : decode cX1_next 19 = .ok (.ireturn, 1) := by decide +kernel
theorem dX1_stateOf_0 : decode cX1_stateOf 0 = .ok (.iload_n 0, 1) := by decide +kernel
theorem dX1_stateOf_1 : decode cX1_stateOf 1 = .ok (.invokestatic 63, 3) := by decide +kernel
theorem dX1_stateOf_4 : decode cX1_stateOf 4 = .ok (.bipush 100, 2) := by decide +kernel
theorem dX1_stateOf_6 : decode cX1_stateOf 6 = .ok (.if_icmp .gt 12, 3) := by decide +kernel
theorem dX1_stateOf_9 : decode cX1_stateOf 9 = .ok (.iload_n 1, 1) := by decide +kernel
theorem dX1_stateOf_10 : decode cX1_stateOf 10 = .ok (.invokestatic 63, 3) := by decide +kernel
theorem dX1_stateOf_13 : decode cX1_stateOf 13 = .ok (.bipush 100, 2) := by decide +kernel
theorem dX1_stateOf_15 : decode cX1_stateOf 15 = .ok (.if_icmp .le 5, 3) := by decide +kernel
theorem dX1_stateOf_18 : decode cX1_stateOf 18 = .ok (.iconst (-1), 1) := by decide +kernel
theorem dX1_stateOf_19 : decode cX1_stateOf 19 = .ok (.ireturn, 1) := by decide +kernel
theorem dX1_stateOf_20 : decode cX1_stateOf 20 = .ok (.iload_n 0, 1) := by decide +kernel
theorem dX1_stateOf_21 : decode cX1_stateOf 21 = .ok (.bipush 100, 2) := by decide +kernel
theorem dX1_stateOf_23 : decode cX1_stateOf 23 = .ok (.iadd, 1) := by decide +kernel
theorem dX1_stateOf_24 : decode cX1_stateOf 24 = .ok (.sipush 201, 3) := by decide +kernel
theorem dX1_stateOf_27 : decode cX1_stateOf 27 = .ok (.imul, 1) := by decide +kernel
theorem dX1_stateOf_28 : decode cX1_stateOf 28 = .ok (.iload_n 1, 1) := by decide +kernel
theorem dX1_stateOf_29 : decode cX1_stateOf 29 = .ok (.iadd, 1) := by decide +kernel
theorem dX1_stateOf_30 : decode cX1_stateOf 30 = .ok (.bipush 100, 2) := by decide +kernel
theorem dX1_stateOf_32 : decode cX1_stateOf 32 = .ok (.iadd, 1) := by decide +kernel
theorem dX1_stateOf_33 : decode cX1_stateOf 33 = .ok (.ireturn, 1) := by decide +kernel
theorem dX1_lastOf_0 : decode cX1_lastOf 0 = .ok (.iload_n 0, 1) := by decide +kernel
theorem dX1_lastOf_1 : decode cX1_lastOf 1 = .ok (.sipush 201, 3) := by decide +kernel
theorem dX1_lastOf_4 : decode cX1_lastOf 4 = .ok (.idiv, 1) := by decide +kernel
theorem dX1_lastOf_5 : decode cX1_lastOf 5 = .ok (.bipush 100, 2) := by decide +kernel
theorem dX1_lastOf_7 : decode cX1_lastOf 7 = .ok (.isub, 1) := by decide +kernel
theorem dX1_lastOf_8 : decode cX1_lastOf 8 = .ok (.ireturn, 1) := by decide +kernel
theorem dX1_aheadOf_0 : decode cX1_aheadOf 0 = .ok (.iload_n 0, 1) := by decide +kernel
theorem dX1_aheadOf_1 : decode cX1_aheadOf 1 = .ok (.sipush 201, 3) := by decide +kernel
theorem dX1_aheadOf_4 : decode cX1_aheadOf 4 = .ok (.irem, 1) := by decide +kernel
theorem dX1_aheadOf_5 : decode cX1_aheadOf 5 = .ok (.bipush 100, 2) := by decide +kernel
theorem dX1_aheadOf_7 : decode cX1_aheadOf 7 = .ok (.isub, 1) := by decide +kernel
theorem dX1_aheadOf_8 : decode cX1_aheadOf 8 = .ok (.ireturn, 1) := by decide +kernel
theorem dX1_markOf_0 : decode cX1_markOf 0 = .ok (.iload_n 1, 1) := by decide +kernel
theorem dX1_markOf_1 : decode cX1_markOf 1 = .ok (.ifCond .lt 9, 3) := by decide +kernel
theorem dX1_markOf_4 : decode cX1_markOf 4 = .ok (.iload_n 1, 1) := by decide +kernel
theorem dX1_markOf_5 : decode cX1_markOf 5 = .ok (.ldc 51, 2) := by decide +kernel
theorem dX1_markOf_7 : decode cX1_markOf 7 = .ok (.if_icmp .lt 5, 3) := by decide +kernel
theorem dX1_markOf_10 : decode cX1_markOf 10 = .ok (.iconst 3, 1) := by decide +kernel
theorem dX1_markOf_11 : decode cX1_markOf 11 = .ok (.ireturn, 1) := by decide +kernel
theorem dX1_markOf_12 : decode cX1_markOf 12 = .ok (.aload_n 0, 1) := by decide +kernel
theorem dX1_markOf_13 : decode cX1_markOf 13 = .ok (.getfield 9, 3) := by decide +kernel
theorem dX1_markOf_16 : decode cX1_markOf 16 = .ok (.iload_n 1, 1) := by decide +kernel
theorem dX1_markOf_17 : decode cX1_markOf 17 = .ok (.bipush 32, 2) := by decide +kernel
theorem dX1_markOf_19 : decode cX1_markOf 19 = .ok (.idiv, 1) := by decide +kernel
theorem dX1_markOf_20 : decode cX1_markOf 20 = .ok (.laload, 1) := by decide +kernel
theorem dX1_markOf_21 : decode cX1_markOf 21 = .ok (.iload_n 1, 1) := by decide +kernel
theorem dX1_markOf_22 : decode cX1_markOf 22 = .ok (.invokestatic 80, 3) := by decide +kernel
theorem dX1_markOf_25 : decode cX1_markOf 25 = .ok (.lushr, 1) := by decide +kernel
theorem dX1_markOf_26 : decode cX1_markOf 26 = .ok (.l2i, 1) := by decide +kernel
theorem dX1_markOf_27 : decode cX1_markOf 27 = .ok (.iconst 3, 1) := by decide +kernel
theorem dX1_markOf_28 : decode cX1_markOf 28 = .ok (.iand, 1) := by decide +kernel
theorem dX1_markOf_29 : decode cX1_markOf 29 = .ok (.ireturn, 1) := by decide +kernel
theorem dX1_mark_0 : decode cX1_mark 0 = .ok (.iload_n 1, 1) := by decide +kernel
theorem dX1_mark_1 : decode cX1_mark 1 = .ok (.ifCond .lt 9, 3) := by decide +kernel
theorem dX1_mark_4 : decode cX1_mark 4 = .ok (.iload_n 1, 1) := by decide +kernel
theorem dX1_mark_5 : decode cX1_mark 5 = .ok (.ldc 51, 2) := by decide +kernel
theorem dX1_mark_7 : decode cX1_mark 7 = .ok (.if_icmp .lt 4, 3) := by decide +kernel
theorem dX1_mark_10 : decode cX1_mark 10 = .ok (.return_, 1) := by decide +kernel
theorem dX1_mark_11 : decode cX1_mark 11 = .ok (.aload_n 0, 1) := by decide +kernel
theorem dX1_mark_12 : decode cX1_mark 12 = .ok (.getfield 9, 3) := by decide +kernel
theorem dX1_mark_15 : decode cX1_mark 15 = .ok (.iload_n 1, 1) := by decide +kernel
theorem dX1_mark_16 : decode cX1_mark 16 = .ok (.bipush 32, 2) := by decide +kernel
theorem dX1_mark_18 : decode cX1_mark 18 = .ok (.idiv, 1) := by decide +kernel
theorem dX1_mark_19 : decode cX1_mark 19 = .ok (.laload, 1) := by decide +kernel
theorem dX1_mark_20 : decode cX1_mark 20 = .ok (.ldc2_w 83, 3) := by decide +kernel
theorem dX1_mark_23 : decode cX1_mark 23 = .ok (.iload_n 1, 1) := by decide +kernel
theorem dX1_mark_24 : decode cX1_mark 24 = .ok (.invokestatic 80, 3) := by decide +kernel
theorem dX1_mark_27 : decode cX1_mark 27 = .ok (.lshl, 1) := by decide +kernel
theorem dX1_mark_28 : decode cX1_mark 28 = .ok (.ldc2_w 85, 3) := by decide +kernel
theorem dX1_mark_31 : decode cX1_mark 31 = .ok (.lxor, 1) := by decide +kernel
theorem dX1_mark_32 : decode cX1_mark 32 = .ok (.land, 1) := by decide +kernel
theorem dX1_mark_33 : decode cX1_mark 33 = .ok (.lstore_n 3, 1) := by decide +kernel
theorem dX1_mark_34 : decode cX1_mark 34 = .ok (.aload_n 0, 1) := by decide +kernel
theorem dX1_mark_35 : decode cX1_mark 35 = .ok (.getfield 9, 3) := by decide +kernel
theorem dX1_mark_38 : decode cX1_mark 38 = .ok (.iload_n 1, 1) := by decide +kernel
theorem dX1_mark_39 : decode cX1_mark 39 = .ok (.bipush 32, 2) := by decide +kernel
theorem dX1_mark_41 : decode cX1_mark 41 = .ok (.idiv, 1) := by decide +kernel
theorem dX1_mark_42 : decode cX1_mark 42 = .ok (.lload_n 3, 1) := by decide +kernel
theorem dX1_mark_43 : decode cX1_mark 43 = .ok (.iload_n 2, 1) := by decide +kernel
theorem dX1_mark_44 : decode cX1_mark 44 = .ok (.i2l, 1) := by decide +kernel
theorem dX1_mark_45 : decode cX1_mark 45 = .ok (.iload_n 1, 1) := by decide +kernel
theorem dX1_mark_46 : decode cX1_mark 46 = .ok (.invokestatic 80, 3) := by decide +kernel
theorem dX1_mark_49 : decode cX1_mark 49 = .ok (.lshl, 1) := by decide +kernel
theorem dX1_mark_50 : decode cX1_mark 50 = .ok (.lor, 1) := by decide +kernel
theorem dX1_mark_51 : decode cX1_mark 51 = .ok (.lastore, 1) := by decide +kernel
theorem dX1_mark_52 : decode cX1_mark 52 = .ok (.return_, 1) := by decide +kernel
theorem dX1_shiftOf_0 : decode cX1_shiftOf 0 = .ok (.iload_n 0, 1) := by decide +kernel
theorem dX1_shiftOf_1 : decode cX1_shiftOf 1 = .ok (.bipush 32, 2) := by decide +kernel
theorem dX1_shiftOf_3 : decode cX1_shiftOf 3 = .ok (.irem, 1) := by decide +kernel
theorem dX1_shiftOf_4 : decode cX1_shiftOf 4 = .ok (.iconst 2, 1) := by decide +kernel
theorem dX1_shiftOf_5 : decode cX1_shiftOf 5 = .ok (.imul, 1) := by decide +kernel
theorem dX1_shiftOf_6 : decode cX1_shiftOf 6 = .ok (.ireturn, 1) := by decide +kernel
theorem dX2_init_0 : decode cX2_init 0 = .ok (.aload_n 0, 1) := by decide +kernel
theorem dX2_init_1 : decode cX2_init 1 = .ok (.invokespecial 1, 3) := by decide +kernel
theorem dX2_init_4 : decode cX2_init 4 = .ok (.aload_n 0, 1) := by decide +kernel
theorem dX2_init_5 : decode cX2_init 5 = .ok (.lconst 1, 1) := by decide +kernel
theorem dX2_init_6 : decode cX2_init 6 = .ok (.putfield 7, 3) := by decide +kernel
theorem dX2_init_9 : decode cX2_init 9 = .ok (.aload_n 0, 1) := by decide +kernel
theorem dX2_init_10 : decode cX2_init 10 = .ok (.lconst 1, 1) := by decide +kernel
theorem dX2_init_11 : decode cX2_init 11 = .ok (.putfield 13, 3) := by decide +kernel
theorem dX2_init_14 : decode cX2_init 14 = .ok (.return_, 1) := by decide +kernel
theorem dX2_multiply_0 : decode cX2_multiply 0 = .ok (.aload_n 0, 1) := by decide +kernel
theorem dX2_multiply_1 : decode cX2_multiply 1 = .ok (.dup, 1) := by decide +kernel
theorem dX2_multiply_2 : decode cX2_multiply 2 = .ok (.getfield 7, 3) := by decide +kernel
theorem dX2_multiply_5 : decode cX2_multiply 5 = .ok (.lload_n 1, 1) := by decide +kernel
theorem dX2_multiply_6 : decode cX2_multiply 6 = .ok (.lmul, 1) := by decide +kernel
theorem dX2_multiply_7 : decode cX2_multiply 7 = .ok (.putfield 7, 3) := by decide +kernel
theorem dX2_multiply_10 : decode cX2_multiply 10 = .ok (.aload_n 0, 1) := by decide +kernel
theorem dX2_multiply_11 : decode cX2_multiply 11 = .ok (.dup, 1) := by decide +kernel
theorem dX2_multiply_12 : decode cX2_multiply 12 = .ok (.getfield 13, 3) := by decide +kernel
theorem dX2_multiply_15 : decode cX2_multiply 15 = .ok (.lload_n 3, 1) := by decide +kernel
theorem dX2_multiply_16 : decode cX2_multiply 16 = .ok (.lmul, 1) := by decide +kernel
theorem dX2_multiply_17 : decode cX2_multiply 17 = .ok (.putfield 13, 3) := by decide +kernel
theorem dX2_multiply_20 : decode cX2_multiply 20 = .ok (.return_, 1) := by decide +kernel
theorem dX2_makeSmall_0 : decode cX2_makeSmall 0 = .ok (.aload_n 0, 1) := by decide +kernel
theorem dX2_makeSmall_1 : decode cX2_makeSmall 1 = .ok (.getfield 13, 3) := by decide +kernel
theorem dX2_makeSmall_4 : decode cX2_makeSmall 4 = .ok (.lconst 0, 1) := by decide +kernel
theorem dX2_makeSmall_5 : decode cX2_makeSmall 5 = .ok (.lcmp, 1) := by decide +kernel
theorem dX2_makeSmall_6 : decode cX2_makeSmall 6 = .ok (.ifCond .ne 9, 3) := by decide +kernel
theorem dX2_makeSmall_9 : decode cX2_makeSmall 9 = .ok (.aload_n 0, 1) := by decide +kernel
theorem dX2_makeSmall_10 : decode cX2_makeSmall 10 = .ok (.lconst 1, 1) := by decide +kernel
theorem dX2_makeSmall_11 : decode cX2_makeSmall 11 = .ok (.putfield 7, 3) := by decide +kernel
theorem dX2_makeSmall_14 : decode cX2_makeSmall 14 = .ok (.return_, 1) := by decide +kernel
theorem dX2_makeSmall_15 : decode cX2_makeSmall 15 = .ok (.aload_n 0, 1) := by decide +kernel
theorem dX2_makeSmall_16 : decode cX2_makeSmall 16 = .ok (.getfield 7, 3) := by decide +kernel
theorem dX2_makeSmall_19 : decode cX2_makeSmall 19 = .ok (.invokestatic 16, 3) := by decide +kernel
theorem dX2_makeSmall_22 : decode cX2_makeSmall 22 = .ok (.aload_n 0, 1) := by decide +kernel
theorem dX2_makeSmall_23 : decode cX2_makeSmall 23 = .ok (.getfield 13, 3) := by decide +kernel
theorem dX2_makeSmall_26 : decode cX2_makeSmall 26 = .ok (.invokestatic 16, 3) := by decide +kernel
theorem dX2_makeSmall_29 : decode cX2_makeSmall 29 = .ok (.invokestatic 22, 3) := by decide +kernel
theorem dX2_makeSmall_32 : decode cX2_makeSmall 32 = .ok (.lstore_n 1, 1) := by decide +kernel
theorem dX2_makeSmall_33 : decode cX2_makeSmall 33 = .ok (.aload_n 0, 1) := by decide +kernel
theorem dX2_makeSmall_34 : decode cX2_makeSmall 34 = .ok (.getfield 13, 3) := by decide +kernel
theorem dX2_makeSmall_37 : decode cX2_makeSmall 37 = .ok (.lconst 0, 1) := by decide +kernel
theorem dX2_makeSmall_38 : decode cX2_makeSmall 38 = .ok (.lcmp, 1) := by decide +kernel
theorem dX2_makeSmall_39 : decode cX2_makeSmall 39 = .ok (.ifCond .ge 8, 3) := by decide +kernel
theorem dX2_makeSmall_42 : decode cX2_makeSmall 42 = .ok (.lload_n 1, 1) := by decide +kernel
theorem dX2_makeSmall_43 : decode cX2_makeSmall 43 = .ok (.lneg, 1) := by decide +kernel
theorem dX2_makeSmall_44 : decode cX2_makeSmall 44 = .ok (.goto 4, 3) := by decide +kernel
theorem dX2_makeSmall_47 : decode cX2_makeSmall 47 = .ok (.lload_n 1, 1) := by decide +kernel
theorem dX2_makeSmall_48 : decode cX2_makeSmall 48 = .ok (.lstore_n 3, 1) := by decide +kernel
theorem dX2_makeSmall_49 : decode cX2_makeSmall 49 = .ok (.lload_n 3, 1) := by decide +kernel
theorem dX2_makeSmall_50 : decode cX2_makeSmall 50 = .ok (.lconst 0, 1) := by decide +kernel
theorem dX2_makeSmall_51 : decode cX2_makeSmall 51 = .ok (.lcmp, 1) := by decide +kernel
theorem dX2_makeSmall_52 : decode cX2_makeSmall 52 = .ok (.ifCond .eq 23, 3) := by decide +kernel
theorem dX2_makeSmall_55 : decode cX2_makeSmall 55 = .ok (.aload_n 0, 1) := by decide +kernel
theorem dX2_makeSmall_56 : decode cX2_makeSmall 56 = .ok (.dup, 1) := by decide +kernel
theorem dX2_makeSmall_57 : decode cX2_makeSmall 57 = .ok (.getfield 7, 3) := by decide +kernel
theorem dX2_makeSmall_60 : decode cX2_makeSmall 60 = .ok (.lload_n 3, 1) := by decide +kernel
theorem dX2_makeSmall_61 : decode cX2_makeSmall 61 = .ok (.ldiv, 1) := by decide +kernel
theorem dX2_makeSmall_62 : decode cX2_makeSmall 62 = .ok (.putfield 7, 3) := by decide +kernel
theorem dX2_makeSmall_65 : decode cX2_makeSmall 65 = .ok (.aload_n 0, 1) := by decide +kernel
theorem dX2_makeSmall_66 : decode cX2_makeSmall 66 = .ok (.dup, 1) := by decide +kernel
theorem dX2_makeSmall_67 : decode cX2_makeSmall 67 = .ok (.getfield 13, 3) := by decide +kernel
theorem dX2_makeSmall_70 : decode cX2_makeSmall 70 = .ok (.lload_n 3, 1) := by decide +kernel
theorem dX2_makeSmall_71 : decode cX2_makeSmall 71 = .ok (.ldiv, 1) := by decide +kernel
theorem dX2_makeSmall_72 : decode cX2_makeSmall 72 = .ok (.putfield 13, 3) := by decide +kernel
theorem dX2_makeSmall_75 : decode cX2_makeSmall 75 = .ok (.return_, 1) := by decide +kernel
theorem dX2_commonDivisor_0 : decode cX2_commonDivisor 0 = .ok (.lload_n 0, 1) := by decide +kernel
theorem dX2_commonDivisor_1 : decode cX2_commonDivisor 1 = .ok (.lstore 4, 2) := by decide +kernel
theorem dX2_commonDivisor_3 : decode cX2_commonDivisor 3 = .ok (.lload_n 2, 1) := by decide +kernel
theorem dX2_commonDivisor_4 : decode cX2_commonDivisor 4 = .ok (.lstore 6, 2) := by decide +kernel
theorem dX2_commonDivisor_6 : decode cX2_commonDivisor 6 = .ok (.iconst 0, 1) := by decide +kernel
theorem dX2_commonDivisor_7 : decode cX2_commonDivisor 7 = .ok (.istore 8, 2) := by decide +kernel
theorem dX2_commonDivisor_9 : decode cX2_commonDivisor 9 = .ok (.iload 8, 2) := by decide +kernel
theorem dX2_commonDivisor_11 : decode cX2_commonDivisor 11 = .ok (.bipush 100, 2) := by decide +kernel
theorem dX2_commonDivisor_13 : decode cX2_commonDivisor 13 = .ok (.if_icmp .ge 31, 3) := by decide +kernel
theorem dX2_commonDivisor_16 : decode cX2_commonDivisor 16 = .ok (.lload 6, 2) := by decide +kernel
theorem dX2_commonDivisor_18 : decode cX2_commonDivisor 18 = .ok (.lconst 0, 1) := by decide +kernel
theorem dX2_commonDivisor_19 : decode cX2_commonDivisor 19 = .ok (.lcmp, 1) := by decide +kernel
theorem dX2_commonDivisor_20 : decode cX2_commonDivisor 20 = .ok (.ifCond .eq 24, 3) := by decide +kernel
theorem dX2_commonDivisor_23 : decode cX2_commonDivisor 23 = .ok (.lload 4, 2) := by decide +kernel
theorem dX2_commonDivisor_25 : decode cX2_commonDivisor 25 = .ok (.lload 6, 2) := by decide +kernel
theorem dX2_commonDivisor_27 : decode cX2_commonDivisor 27 = .ok (.lrem, 1) := by decide +kernel
theorem dX2_commonDivisor_28 : decode cX2_commonDivisor 28 = .ok (.lstore 9, 2) := by decide +kernel
theorem dX2_commonDivisor_30 : decode cX2_commonDivisor 30 = .ok (.lload 6, 2) := by decide +kernel
theorem dX2_commonDivisor_32 : decode cX2_commonDivisor 32 = .ok (.lstore 4, 2) := by decide +kernel
theorem dX2_commonDivisor_34 : decode cX2_commonDivisor 34 = .ok (.lload 9, 2) := by decide +kernel
theorem dX2_commonDivisor_36 : decode cX2_commonDivisor 36 = .ok (.lstore 6, 2) := by decide +kernel
theorem dX2_commonDivisor_38 : decode cX2_commonDivisor 38 = .ok (.iinc 8 1, 3) := by decide +kernel
theorem dX2_commonDivisor_41 : decode cX2_commonDivisor 41 = .ok (.goto (-32), 3) := by decide +kernel
theorem dX2_commonDivisor_44 : decode cX2_commonDivisor 44 = .ok (.lload 4, 2) := by decide +kernel
theorem dX2_commonDivisor_46 : decode cX2_commonDivisor 46 = .ok (.lreturn, 1) := by decide +kernel
theorem dX2_isWithin_0 : decode cX2_isWithin 0 = .ok (.aload_n 0, 1) := by decide +kernel
theorem dX2_isWithin_1 : decode cX2_isWithin 1 = .ok (.getfield 7, 3) := by decide +kernel
theorem dX2_isWithin_4 : decode cX2_isWithin 4 = .ok (.invokestatic 16, 3) := by decide +kernel
theorem dX2_isWithin_7 : decode cX2_isWithin 7 = .ok (.lload 5, 2) := by decide +kernel
theorem dX2_isWithin_9 : decode cX2_isWithin 9 = .ok (.lmul, 1) := by decide +kernel
theorem dX2_isWithin_10 : decode cX2_isWithin 10 = .ok (.lstore 7, 2) := by decide +kernel
theorem dX2_isWithin_12 : decode cX2_isWithin 12 = .ok (.lload 7, 2) := by decide +kernel
theorem dX2_isWithin_14 : decode cX2_isWithin 14 = .ok (.lload_n 1, 1) := by decide +kernel
theorem dX2_isWithin_15 : decode cX2_isWithin 15 = .ok (.aload_n 0, 1) := by decide +kernel
theorem dX2_isWithin_16 : decode cX2_isWithin 16 = .ok (.getfield 13, 3) := by decide +kernel
theorem dX2_isWithin_19 : decode cX2_isWithin 19 = .ok (.lmul, 1) := by decide +kernel
theorem dX2_isWithin_20 : decode cX2_isWithin 20 = .ok (.lcmp, 1) := by decide +kernel
theorem dX2_isWithin_21 : decode cX2_isWithin 21 = .ok (.ifCond .lt 19, 3) := by decide +kernel
theorem dX2_isWithin_24 : decode cX2_isWithin 24 = .ok (.lload 7, 2) := by decide +kernel
theorem dX2_isWithin_26 : decode cX2_isWithin 26 = .ok (.lload_n 3, 1) := by decide +kernel
theorem dX2_isWithin_27 : decode cX2_isWithin 27 = .ok (.aload_n 0, 1) := by decide +kernel
theorem dX2_isWithin_28 : decode cX2_isWithin 28 = .ok (.getfield 13, 3) := by decide +kernel
theorem dX2_isWithin_31 : decode cX2_isWithin 31 = .ok (.lmul, 1) := by decide +kernel
theorem dX2_isWithin_32 : decode cX2_isWithin 32 = .ok (.lcmp, 1) := by decide +kernel
theorem dX2_isWithin_33 : decode cX2_isWithin 33 = .ok (.ifCond .gt 7, 3) := by decide +kernel
theorem dX2_isWithin_36 : decode cX2_isWithin 36 = .ok (.iconst 1, 1) := by decide +kernel
theorem dX2_isWithin_37 : decode cX2_isWithin 37 = .ok (.goto 4, 3) := by decide +kernel
theorem dX2_isWithin_40 : decode cX2_isWithin 40 = .ok (.iconst 0, 1) := by decide +kernel
theorem dX2_isWithin_41 : decode cX2_isWithin 41 = .ok (.ireturn, 1) := by decide +kernel
theorem dX3_init_0 : decode cX3_init 0 = .ok (.aload_n 0, 1) := by decide +kernel
theorem dX3_init_1 : decode cX3_init 1 = .ok (.invokespecial 1, 3) := by decide +kernel
theorem dX3_init_4 : decode cX3_init 4 = .ok (.aload_n 0, 1) := by decide +kernel
theorem dX3_init_5 : decode cX3_init 5 = .ok (.iconst 1, 1) := by decide +kernel
theorem dX3_init_6 : decode cX3_init 6 = .ok (.iload_n 1, 1) := by decide +kernel
theorem dX3_init_7 : decode cX3_init 7 = .ok (.invokestatic 7, 3) := by decide +kernel
theorem dX3_init_10 : decode cX3_init 10 = .ok (.newarray .int, 2) := by decide +kernel
theorem dX3_init_12 : decode cX3_init 12 = .ok (.putfield 13, 3) := by decide +kernel
theorem dX3_init_15 : decode cX3_init 15 = .ok (.return_, 1) := by decide +kernel
theorem dX3_add_0 : decode cX3_add 0 = .ok (.aload_n 0, 1) := by decide +kernel
theorem dX3_add_1 : decode cX3_add 1 = .ok (.getfield 13, 3) := by decide +kernel
theorem dX3_add_4 : decode cX3_add 4 = .ok (.iconst 0, 1) := by decide +kernel
theorem dX3_add_5 : decode cX3_add 5 = .ok (.aload_n 0, 1) := by decide +kernel
theorem dX3_add_6 : decode cX3_add 6 = .ok (.getfield 13, 3) := by decide +kernel
theorem dX3_add_9 : decode cX3_add 9 = .ok (.iconst 1, 1) := by decide +kernel
theorem dX3_add_10 : decode cX3_add 10 = .ok (.aload_n 0, 1) := by decide +kernel
theorem dX3_add_11 : decode cX3_add 11 = .ok (.getfield 13, 3) := by decide +kernel
theorem dX3_add_14 : decode cX3_add 14 = .ok (.arraylength, 1) := by decide +kernel
theorem dX3_add_15 : decode cX3_add 15 = .ok (.iconst 1, 1) := by decide +kernel
theorem dX3_add_16 : decode cX3_add 16 = .ok (.isub, 1) := by decide +kernel
theorem dX3_add_17 : decode cX3_add 17 = .ok (.invokestatic 19, 3) := by decide +kernel
theorem dX3_add_20 : decode cX3_add 20 = .ok (.aload_n 0, 1) := by decide +kernel
theorem dX3_add_21 : decode cX3_add 21 = .ok (.getfield 13, 3) := by decide +kernel
theorem dX3_add_24 : decode cX3_add 24 = .ok (.iconst 0, 1) := by decide +kernel
theorem dX3_add_25 : decode cX3_add 25 = .ok (.iload_n 1, 1) := by decide +kernel
theorem dX3_add_26 : decode cX3_add 26 = .ok (.iastore, 1) := by decide +kernel
theorem dX3_add_27 : decode cX3_add 27 = .ok (.aload_n 0, 1) := by decide +kernel
theorem dX3_add_28 : decode cX3_add 28 = .ok (.aload_n 0, 1) := by decide +kernel
theorem dX3_add_29 : decode cX3_add 29 = .ok (.getfield 25, 3) := by decide +kernel
theorem dX3_add_32 : decode cX3_add 32 = .ok (.iconst 1, 1) := by decide +kernel
theorem dX3_add_33 : decode cX3_add 33 = .ok (.iadd, 1) := by decide +kernel
theorem dX3_add_34 : decode cX3_add 34 = .ok (.aload_n 0, 1) := by decide +kernel
theorem dX3_add_35 : decode cX3_add 35 = .ok (.getfield 13, 3) := by decide +kernel
theorem dX3_add_38 : decode cX3_add 38 = .ok (.arraylength, 1) := by decide +kernel
theorem dX3_add_39 : decode cX3_add 39 = .ok (.invokestatic 29, 3) := by decide +kernel
theorem dX3_add_42 : decode cX3_add 42 = .ok (.putfield 25, 3) := by decide +kernel
theorem dX3_add_45 : decode cX3_add 45 = .ok (.return_, 1) := by decide +kernel
theorem dX3_at_0 : decode cX3_at 0 = .ok (.iload_n 1, 1) := by decide +kernel
theorem dX3_at_1 : decode cX3_at 1 = .ok (.ifCond .lt 29, 3) := by decide +kernel
theorem dX3_at_4 : decode cX3_at 4 = .ok (.iload_n 1, 1) := by decide +kernel
theorem dX3_at_5 : decode cX3_at 5 = .ok (.aload_n 0, 1) := by decide +kernel
theorem dX3_at_6 : decode cX3_at 6 = .ok (.getfield 25, 3) := by decide +kernel
theorem dX3_at_9 : decode cX3_at 9 = .ok (.if_icmp .ge 21, 3) := by decide +kernel
theorem dX3_at_12 : decode cX3_at 12 = .ok (.iload_n 1, 1) := by decide +kernel
theorem dX3_at_13 : decode cX3_at 13 = .ok (.aload_n 0, 1) := by decide +kernel
theorem dX3_at_14 : decode cX3_at 14 = .ok (.getfield 13, 3) := by decide +kernel
theorem dX3_at_17 : decode cX3_at 17 = .ok (.arraylength, 1) := by decide +kernel
theorem dX3_at_18 : decode cX3_at 18 = .ok (.if_icmp .ge 12, 3) := by decide +kernel
theorem dX3_at_21 : decode cX3_at 21 = .ok (.aload_n 0, 1) := by decide +kernel
theorem dX3_at_22 : decode cX3_at 22 = .ok (.getfield 13, 3) := by decide +kernel
theorem dX3_at_25 : decode cX3_at 25 = .ok (.iload_n 1, 1) := by decide +kernel
theorem dX3_at_26 : decode cX3_at 26 = .ok (.iaload, 1) := by decide +kernel
theorem dX3_at_27 : decode cX3_at 27 = .ok (.goto 4, 3) := by decide +kernel
theorem dX3_at_30 : decode cX3_at 30 = .ok (.iconst 0, 1) := by decide +kernel
theorem dX3_at_31 : decode cX3_at 31 = .ok (.ireturn, 1) := by decide +kernel
theorem dX3_count_0 : decode cX3_count 0 = .ok (.aload_n 0, 1) := by decide +kernel
theorem dX3_count_1 : decode cX3_count 1 = .ok (.getfield 25, 3) := by decide +kernel
theorem dX3_count_4 : decode cX3_count 4 = .ok (.ireturn, 1) := by decide +kernel
theorem dX3_forget_0 : decode cX3_forget 0 = .ok (.aload_n 0, 1) := by decide +kernel
theorem dX3_forget_1 : decode cX3_forget 1 = .ok (.iconst 0, 1) := by decide +kernel
theorem dX3_forget_2 : decode cX3_forget 2 = .ok (.putfield 25, 3) := by decide +kernel
theorem dX3_forget_5 : decode cX3_forget 5 = .ok (.return_, 1) := by decide +kernel
theorem dX4_init_0 : decode cX4_init 0 = .ok (.aload_n 0, 1) := by decide +kernel
theorem dX4_init_1 : decode cX4_init 1 = .ok (.invokespecial 3, 3) := by decide +kernel
theorem dX4_init_4 : decode cX4_init 4 = .ok (.aload_n 0, 1) := by decide +kernel
theorem dX4_init_5 : decode cX4_init 5 = .ok (.iload_n 1, 1) := by decide +kernel
theorem dX4_init_6 : decode cX4_init 6 = .ok (.putfield 9, 3) := by decide +kernel
theorem dX4_init_9 : decode cX4_init 9 = .ok (.aload_n 0, 1) := by decide +kernel
theorem dX4_init_10 : decode cX4_init 10 = .ok (.iload_n 2, 1) := by decide +kernel
theorem dX4_init_11 : decode cX4_init 11 = .ok (.putfield 15, 3) := by decide +kernel
theorem dX4_init_14 : decode cX4_init 14 = .ok (.aload_n 0, 1) := by decide +kernel
theorem dX4_init_15 : decode cX4_init 15 = .ok (.iconst 5, 1) := by decide +kernel
theorem dX4_init_16 : decode cX4_init 16 = .ok (.newarray .int, 2) := by decide +kernel
theorem dX4_init_18 : decode cX4_init 18 = .ok (.putfield 18, 3) := by decide +kernel
theorem dX4_init_21 : decode cX4_init 21 = .ok (.aload_n 0, 1) := by decide +kernel
theorem dX4_init_22 : decode cX4_init 22 = .ok (.getfield 18, 3) := by decide +kernel
theorem dX4_init_25 : decode cX4_init 25 = .ok (.iconst 0, 1) := by decide +kernel
theorem dX4_init_26 : decode cX4_init 26 = .ok (.bipush 64, 2) := by decide +kernel
theorem dX4_init_28 : decode cX4_init 28 = .ok (.iastore, 1) := by decide +kernel
theorem dX4_init_29 : decode cX4_init 29 = .ok (.return_, 1) := by decide +kernel
theorem dX4_coefficient_0 : decode cX4_coefficient 0 = .ok (.iload_n 1, 1) := by decide +kernel
theorem dX4_coefficient_1 : decode cX4_coefficient 1 = .ok (.ifCond .lt 17, 3) := by decide +kernel
theorem dX4_coefficient_4 : decode cX4_coefficient 4 = .ok (.iload_n 1, 1) := by decide +kernel
theorem dX4_coefficient_5 : decode cX4_coefficient 5 = .ok (.iconst 4, 1) := by decide +kernel
theorem dX4_coefficient_6 : decode cX4_coefficient 6 = .ok (.if_icmp .gt 12, 3) := by decide +kernel
theorem dX4_coefficient_9 : decode cX4_coefficient 9 = .ok (.aload_n 0, 1) := by decide +kernel
theorem dX4_coefficient_10 : decode cX4_coefficient 10 = .ok (.getfield 18, 3) := by decide +kernel
theorem dX4_coefficient_13 : decode cX4_coefficient 13 = .ok (.iload_n 1, 1) := by decide +kernel
theorem dX4_coefficient_14 : decode cX4_coefficient 14 = .ok (.iaload, 1) := by decide +kernel
theorem dX4_coefficient_15 : decode cX4_coefficient 15 = .ok (.goto 4, 3) := by decide +kernel
theorem dX4_coefficient_18 : decode cX4_coefficient 18 = .ok (.iconst 0, 1) := by decide +kernel
theorem dX4_coefficient_19 : decode cX4_coefficient 19 = .ok (.ireturn, 1) := by decide +kernel
theorem dX4_replace_0 : decode cX4_replace 0 = .ok (.aload_n 0, 1) := by decide +kernel
theorem dX4_replace_1 : decode cX4_replace 1 = .ok (.iload_n 1, 1) := by decide +kernel
theorem dX4_replace_2 : decode cX4_replace 2 = .ok (.invokevirtual 22, 3) := by decide +kernel
theorem dX4_replace_5 : decode cX4_replace 5 = .ok (.istore_n 3, 1) := by decide +kernel
theorem dX4_replace_6 : decode cX4_replace 6 = .ok (.iload_n 1, 1) := by decide +kernel
theorem dX4_replace_7 : decode cX4_replace 7 = .ok (.ifCond .lt 15, 3) := by decide +kernel
theorem dX4_replace_10 : decode cX4_replace 10 = .ok (.iload_n 1, 1) := by decide +kernel
theorem dX4_replace_11 : decode cX4_replace 11 = .ok (.iconst 4, 1) := by decide +kernel
theorem dX4_replace_12 : decode cX4_replace 12 = .ok (.if_icmp .gt 10, 3) := by decide +kernel
theorem dX4_replace_15 : decode cX4_replace 15 = .ok (.aload_n 0, 1) := by decide +kernel
theorem dX4_replace_16 : decode cX4_replace 16 = .ok (.getfield 18, 3) := by decide +kernel
theorem dX4_replace_19 : decode cX4_replace 19 = .ok (.iload_n 1, 1) := by decide +kernel
theorem dX4_replace_20 : decode cX4_replace 20 = .ok (.iload_n 2, 1) := by decide +kernel
theorem dX4_replace_21 : decode cX4_replace 21 = .ok (.iastore, 1) := by decide +kernel
theorem dX4_replace_22 : decode cX4_replace 22 = .ok (.iload_n 3, 1) := by decide +kernel
theorem dX4_replace_23 : decode cX4_replace 23 = .ok (.ireturn, 1) := by decide +kernel
theorem dX4_calm_0 : decode cX4_calm 0 = .ok (.aload_n 0, 1) := by decide +kernel
theorem dX4_calm_1 : decode cX4_calm 1 = .ok (.iconst 0, 1) := by decide +kernel
theorem dX4_calm_2 : decode cX4_calm 2 = .ok (.putfield 26, 3) := by decide +kernel
theorem dX4_calm_5 : decode cX4_calm 5 = .ok (.aload_n 0, 1) := by decide +kernel
theorem dX4_calm_6 : decode cX4_calm 6 = .ok (.iconst 0, 1) := by decide +kernel
theorem dX4_calm_7 : decode cX4_calm 7 = .ok (.putfield 29, 3) := by decide +kernel
theorem dX4_calm_10 : decode cX4_calm 10 = .ok (.aload_n 0, 1) := by decide +kernel
theorem dX4_calm_11 : decode cX4_calm 11 = .ok (.iconst 0, 1) := by decide +kernel
theorem dX4_calm_12 : decode cX4_calm 12 = .ok (.putfield 32, 3) := by decide +kernel
theorem dX4_calm_15 : decode cX4_calm 15 = .ok (.aload_n 0, 1) := by decide +kernel
theorem dX4_calm_16 : decode cX4_calm 16 = .ok (.iconst 0, 1) := by decide +kernel
theorem dX4_calm_17 : decode cX4_calm 17 = .ok (.putfield 35, 3) := by decide +kernel
theorem dX4_calm_20 : decode cX4_calm 20 = .ok (.return_, 1) := by decide +kernel
theorem dX4_take_0 : decode cX4_take 0 = .ok (.aload_n 0, 1) := by decide +kernel
theorem dX4_take_1 : decode cX4_take 1 = .ok (.getfield 18, 3) := by decide +kernel
theorem dX4_take_4 : decode cX4_take 4 = .ok (.iconst 0, 1) := by decide +kernel
theorem dX4_take_5 : decode cX4_take 5 = .ok (.iaload, 1) := by decide +kernel
theorem dX4_take_6 : decode cX4_take 6 = .ok (.iload_n 1, 1) := by decide +kernel
theorem dX4_take_7 : decode cX4_take 7 = .ok (.imul, 1) := by decide +kernel
theorem dX4_take_8 : decode cX4_take 8 = .ok (.aload_n 0, 1) := by decide +kernel
theorem dX4_take_9 : decode cX4_take 9 = .ok (.getfield 18, 3) := by decide +kernel
theorem dX4_take_12 : decode cX4_take 12 = .ok (.iconst 1, 1) := by decide +kernel
theorem dX4_take_13 : decode cX4_take 13 = .ok (.iaload, 1) := by decide +kernel
theorem dX4_take_14 : decode cX4_take 14 = .ok (.aload_n 0, 1) := by decide +kernel
theorem dX4_take_15 : decode cX4_take 15 = .ok (.getfield 26, 3) := by decide +kernel
theorem dX4_take_18 : decode cX4_take 18 = .ok (.imul, 1) := by decide +kernel
theorem dX4_take_19 : decode cX4_take 19 = .ok (.iadd, 1) := by decide +kernel
theorem dX4_take_20 : decode cX4_take 20 = .ok (.aload_n 0, 1) := by decide +kernel
theorem dX4_take_21 : decode cX4_take 21 = .ok (.getfield 18, 3) := by decide +kernel
theorem dX4_take_24 : decode cX4_take 24 = .ok (.iconst 2, 1) := by decide +kernel
theorem dX4_take_25 : decode cX4_take 25 = .ok (.iaload, 1) := by decide +kernel
theorem dX4_take_26 : decode cX4_take 26 = .ok (.aload_n 0, 1) := by decide +kernel
theorem dX4_take_27 : decode cX4_take 27 = .ok (.getfield 29, 3) := by decide +kernel
theorem dX4_take_30 : decode cX4_take 30 = .ok (.imul, 1) := by decide +kernel
theorem dX4_take_31 : decode cX4_take 31 = .ok (.iadd, 1) := by decide +kernel
theorem dX4_take_32 : decode cX4_take 32 = .ok (.istore_n 2, 1) := by decide +kernel
theorem dX4_take_33 : decode cX4_take 33 = .ok (.aload_n 0, 1) := by decide +kernel
theorem dX4_take_34 : decode cX4_take 34 = .ok (.iload_n 2, 1) := by decide +kernel
theorem dX4_take_35 : decode cX4_take 35 = .ok (.aload_n 0, 1) := by decide +kernel
theorem dX4_take_36 : decode cX4_take 36 = .ok (.getfield 32, 3) := by decide +kernel
theorem dX4_take_39 : decode cX4_take 39 = .ok (.aload_n 0, 1) := by decide +kernel
theorem dX4_take_40 : decode cX4_take 40 = .ok (.getfield 35, 3) := by decide +kernel
theorem dX4_take_43 : decode cX4_take 43 = .ok (.invokevirtual 38, 3) := by decide +kernel
theorem dX4_take_46 : decode cX4_take 46 = .ok (.istore_n 3, 1) := by decide +kernel
theorem dX4_take_47 : decode cX4_take 47 = .ok (.aload_n 0, 1) := by decide +kernel
theorem dX4_take_48 : decode cX4_take 48 = .ok (.aload_n 0, 1) := by decide +kernel
theorem dX4_take_49 : decode cX4_take 49 = .ok (.getfield 26, 3) := by decide +kernel
theorem dX4_take_52 : decode cX4_take 52 = .ok (.putfield 29, 3) := by decide +kernel
theorem dX4_take_55 : decode cX4_take 55 = .ok (.aload_n 0, 1) := by decide +kernel
theorem dX4_take_56 : decode cX4_take 56 = .ok (.iload_n 1, 1) := by decide +kernel
theorem dX4_take_57 : decode cX4_take 57 = .ok (.putfield 26, 3) := by decide +kernel
theorem dX4_take_60 : decode cX4_take 60 = .ok (.aload_n 0, 1) := by decide +kernel
theorem dX4_take_61 : decode cX4_take 61 = .ok (.aload_n 0, 1) := by decide +kernel
theorem dX4_take_62 : decode cX4_take 62 = .ok (.getfield 32, 3) := by decide +kernel
theorem dX4_take_65 : decode cX4_take 65 = .ok (.putfield 35, 3) := by decide +kernel
theorem dX4_take_68 : decode cX4_take 68 = .ok (.aload_n 0, 1) := by decide +kernel
theorem dX4_take_69 : decode cX4_take 69 = .ok (.iload_n 3, 1) := by decide +kernel
theorem dX4_take_70 : decode cX4_take 70 = .ok (.putfield 32, 3) := by decide +kernel
theorem dX4_take_73 : decode cX4_take 73 = .ok (.iload_n 3, 1) := by decide +kernel
theorem dX4_take_74 : decode cX4_take 74 = .ok (.ireturn, 1) := by decide +kernel
theorem dX4_outputFrom_0 : decode cX4_outputFrom 0 = .ok (.aload_n 0, 1) := by decide +kernel
theorem dX4_outputFrom_1 : decode cX4_outputFrom 1 = .ok (.iload_n 1, 1) := by decide +kernel
theorem dX4_outputFrom_2 : decode cX4_outputFrom 2 = .ok (.aload_n 0, 1) := by decide +kernel
theorem dX4_outputFrom_3 : decode cX4_outputFrom 3 = .ok (.getfield 18, 3) := by decide +kernel
theorem dX4_outputFrom_6 : decode cX4_outputFrom 6 = .ok (.iconst 3, 1) := by decide +kernel
theorem dX4_outputFrom_7 : decode cX4_outputFrom 7 = .ok (.iaload, 1) := by decide +kernel
theorem dX4_outputFrom_8 : decode cX4_outputFrom 8 = .ok (.iload_n 2, 1) := by decide +kernel
theorem dX4_outputFrom_9 : decode cX4_outputFrom 9 = .ok (.imul, 1) := by decide +kernel
theorem dX4_outputFrom_10 : decode cX4_outputFrom 10 = .ok (.isub, 1) := by decide +kernel
theorem dX4_outputFrom_11 : decode cX4_outputFrom 11 = .ok (.aload_n 0, 1) := by decide +kernel
theorem dX4_outputFrom_12 : decode cX4_outputFrom 12 = .ok (.getfield 18, 3) := by decide +kernel
theorem dX4_outputFrom_15 : decode cX4_outputFrom 15 = .ok (.iconst 4, 1) := by decide +kernel
theorem dX4_outputFrom_16 : decode cX4_outputFrom 16 = .ok (.iaload, 1) := by decide +kernel
theorem dX4_outputFrom_17 : decode cX4_outputFrom 17 = .ok (.iload_n 3, 1) := by decide +kernel
theorem dX4_outputFrom_18 : decode cX4_outputFrom 18 = .ok (.imul, 1) := by decide +kernel
theorem dX4_outputFrom_19 : decode cX4_outputFrom 19 = .ok (.isub, 1) := by decide +kernel
theorem dX4_outputFrom_20 : decode cX4_outputFrom 20 = .ok (.invokevirtual 42, 3) := by decide +kernel
theorem dX4_outputFrom_23 : decode cX4_outputFrom 23 = .ok (.istore 4, 2) := by decide +kernel
theorem dX4_outputFrom_25 : decode cX4_outputFrom 25 = .ok (.sipush (-32767), 3) := by decide +kernel
theorem dX4_outputFrom_28 : decode cX4_outputFrom 28 = .ok (.sipush 32767, 3) := by decide +kernel
theorem dX4_outputFrom_31 : decode cX4_outputFrom 31 = .ok (.iload 4, 2) := by decide +kernel
theorem dX4_outputFrom_33 : decode cX4_outputFrom 33 = .ok (.invokestatic 45, 3) := by decide +kernel
theorem dX4_outputFrom_36 : decode cX4_outputFrom 36 = .ok (.invokestatic 51, 3) := by decide +kernel
theorem dX4_outputFrom_39 : decode cX4_outputFrom 39 = .ok (.ireturn, 1) := by decide +kernel
theorem dX4_rounded_0 : decode cX4_rounded 0 = .ok (.aload_n 0, 1) := by decide +kernel
theorem dX4_rounded_1 : decode cX4_rounded 1 = .ok (.getfield 15, 3) := by decide +kernel
theorem dX4_rounded_4 : decode cX4_rounded 4 = .ok (.lookupswitch 45 #[(1, 28), (2, 35)], 28) := by decide +kernel
theorem dX4_rounded_32 : decode cX4_rounded 32 = .ok (.iload_n 1, 1) := by decide +kernel
theorem dX4_rounded_33 : decode cX4_rounded 33 = .ok (.bipush 64, 2) := by decide +kernel
theorem dX4_rounded_35 : decode cX4_rounded 35 = .ok (.invokestatic 54, 3) := by decide +kernel
theorem dX4_rounded_38 : decode cX4_rounded 38 = .ok (.ireturn, 1) := by decide +kernel
theorem dX4_rounded_39 : decode cX4_rounded 39 = .ok (.iload_n 1, 1) := by decide +kernel
theorem dX4_rounded_40 : decode cX4_rounded 40 = .ok (.bipush 32, 2) := by decide +kernel
theorem dX4_rounded_42 : decode cX4_rounded 42 = .ok (.iadd, 1) := by decide +kernel
theorem dX4_rounded_43 : decode cX4_rounded 43 = .ok (.bipush 64, 2) := by decide +kernel
theorem dX4_rounded_45 : decode cX4_rounded 45 = .ok (.invokestatic 54, 3) := by decide +kernel
theorem dX4_rounded_48 : decode cX4_rounded 48 = .ok (.ireturn, 1) := by decide +kernel
theorem dX4_rounded_49 : decode cX4_rounded 49 = .ok (.iload_n 1, 1) := by decide +kernel
theorem dX4_rounded_50 : decode cX4_rounded 50 = .ok (.bipush 64, 2) := by decide +kernel
theorem dX4_rounded_52 : decode cX4_rounded 52 = .ok (.idiv, 1) := by decide +kernel
theorem dX4_rounded_53 : decode cX4_rounded 53 = .ok (.ireturn, 1) := by decide +kernel
theorem dX4_isStable_0 : decode cX4_isStable 0 = .ok (.aload_n 0, 1) := by decide +kernel
theorem dX4_isStable_1 : decode cX4_isStable 1 = .ok (.getfield 18, 3) := by decide +kernel
theorem dX4_isStable_4 : decode cX4_isStable 4 = .ok (.iconst 4, 1) := by decide +kernel
theorem dX4_isStable_5 : decode cX4_isStable 5 = .ok (.iaload, 1) := by decide +kernel
theorem dX4_isStable_6 : decode cX4_isStable 6 = .ok (.istore_n 1, 1) := by decide +kernel
theorem dX4_isStable_7 : decode cX4_isStable 7 = .ok (.iload_n 1, 1) := by decide +kernel
theorem dX4_isStable_8 : decode cX4_isStable 8 = .ok (.bipush (-64), 2) := by decide +kernel
theorem dX4_isStable_10 : decode cX4_isStable 10 = .ok (.if_icmp .le 29, 3) := by decide +kernel
theorem dX4_isStable_13 : decode cX4_isStable 13 = .ok (.iload_n 1, 1) := by decide +kernel
theorem dX4_isStable_14 : decode cX4_isStable 14 = .ok (.bipush 64, 2) := by decide +kernel
theorem dX4_isStable_16 : decode cX4_isStable 16 = .ok (.if_icmp .ge 23, 3) := by decide +kernel
theorem dX4_isStable_19 : decode cX4_isStable 19 = .ok (.aload_n 0, 1) := by decide +kernel
theorem dX4_isStable_20 : decode cX4_isStable 20 = .ok (.getfield 18, 3) := by decide +kernel
theorem dX4_isStable_23 : decode cX4_isStable 23 = .ok (.iconst 3, 1) := by decide +kernel
theorem dX4_isStable_24 : decode cX4_isStable 24 = .ok (.iaload, 1) := by decide +kernel
theorem dX4_isStable_25 : decode cX4_isStable 25 = .ok (.invokestatic 57, 3) := by decide +kernel
theorem dX4_isStable_28 : decode cX4_isStable 28 = .ok (.iload_n 1, 1) := by decide +kernel
theorem dX4_isStable_29 : decode cX4_isStable 29 = .ok (.bipush 64, 2) := by decide +kernel
theorem dX4_isStable_31 : decode cX4_isStable 31 = .ok (.iadd, 1) := by decide +kernel
theorem dX4_isStable_32 : decode cX4_isStable 32 = .ok (.if_icmp .ge 7, 3) := by decide +kernel
theorem dX4_isStable_35 : decode cX4_isStable 35 = .ok (.iconst 1, 1) := by decide +kernel
theorem dX4_isStable_36 : decode cX4_isStable 36 = .ok (.goto 4, 3) := by decide +kernel
theorem dX4_isStable_39 : decode cX4_isStable 39 = .ok (.iconst 0, 1) := by decide +kernel
theorem dX4_isStable_40 : decode cX4_isStable 40 = .ok (.ireturn, 1) := by decide +kernel
theorem dX4_goesAheadOf_0 : decode cX4_goesAheadOf 0 = .ok (.aload_n 0, 1) := by decide +kernel
theorem dX4_goesAheadOf_1 : decode cX4_goesAheadOf 1 = .ok (.getfield 18, 3) := by decide +kernel
theorem dX4_goesAheadOf_4 : decode cX4_goesAheadOf 4 = .ok (.iconst 4, 1) := by decide +kernel
theorem dX4_goesAheadOf_5 : decode cX4_goesAheadOf 5 = .ok (.iaload, 1) := by decide +kernel
theorem dX4_goesAheadOf_6 : decode cX4_goesAheadOf 6 = .ok (.aload_n 1, 1) := by decide +kernel
theorem dX4_goesAheadOf_7 : decode cX4_goesAheadOf 7 = .ok (.getfield 18, 3) := by decide +kernel
theorem dX4_goesAheadOf_10 : decode cX4_goesAheadOf 10 = .ok (.iconst 4, 1) := by decide +kernel
theorem dX4_goesAheadOf_11 : decode cX4_goesAheadOf 11 = .ok (.iaload, 1) := by decide +kernel
theorem dX4_goesAheadOf_12 : decode cX4_goesAheadOf 12 = .ok (.if_icmp .eq 24, 3) := by decide +kernel
theorem dX4_goesAheadOf_15 : decode cX4_goesAheadOf 15 = .ok (.aload_n 0, 1) := by decide +kernel
theorem dX4_goesAheadOf_16 : decode cX4_goesAheadOf 16 = .ok (.getfield 18, 3) := by decide +kernel
theorem dX4_goesAheadOf_19 : decode cX4_goesAheadOf 19 = .ok (.iconst 4, 1) := by decide +kernel
theorem dX4_goesAheadOf_20 : decode cX4_goesAheadOf 20 = .ok (.iaload, 1) := by decide +kernel
theorem dX4_goesAheadOf_21 : decode cX4_goesAheadOf 21 = .ok (.aload_n 1, 1) := by decide +kernel
theorem dX4_goesAheadOf_22 : decode cX4_goesAheadOf 22 = .ok (.getfield 18, 3) := by decide +kernel
theorem dX4_goesAheadOf_25 : decode cX4_goesAheadOf 25 = .ok (.iconst 4, 1) := by decide +kernel
theorem dX4_goesAheadOf_26 : decode cX4_goesAheadOf 26 = .ok (.iaload, 1) := by decide +kernel
theorem dX4_goesAheadOf_27 : decode cX4_goesAheadOf 27 = .ok (.if_icmp .ge 7, 3) := by decide +kernel
theorem dX4_goesAheadOf_30 : decode cX4_goesAheadOf 30 = .ok (.iconst 1, 1) := by decide +kernel
theorem dX4_goesAheadOf_31 : decode cX4_goesAheadOf 31 = .ok (.goto 4, 3) := by decide +kernel
theorem dX4_goesAheadOf_34 : decode cX4_goesAheadOf 34 = .ok (.iconst 0, 1) := by decide +kernel
theorem dX4_goesAheadOf_35 : decode cX4_goesAheadOf 35 = .ok (.ireturn, 1) := by decide +kernel
theorem dX4_goesAheadOf_36 : decode cX4_goesAheadOf 36 = .ok (.aload_n 0, 1) := by decide +kernel
theorem dX4_goesAheadOf_37 : decode cX4_goesAheadOf 37 = .ok (.getfield 18, 3) := by decide +kernel
theorem dX4_goesAheadOf_40 : decode cX4_goesAheadOf 40 = .ok (.iconst 3, 1) := by decide +kernel
theorem dX4_goesAheadOf_41 : decode cX4_goesAheadOf 41 = .ok (.iaload, 1) := by decide +kernel
theorem dX4_goesAheadOf_42 : decode cX4_goesAheadOf 42 = .ok (.invokestatic 57, 3) := by decide +kernel
theorem dX4_goesAheadOf_45 : decode cX4_goesAheadOf 45 = .ok (.istore_n 2, 1) := by decide +kernel
theorem dX4_goesAheadOf_46 : decode cX4_goesAheadOf 46 = .ok (.aload_n 1, 1) := by decide +kernel
theorem dX4_goesAheadOf_47 : decode cX4_goesAheadOf 47 = .ok (.getfield 18, 3) := by decide +kernel
theorem dX4_goesAheadOf_50 : decode cX4_goesAheadOf 50 = .ok (.iconst 3, 1) := by decide +kernel
theorem dX4_goesAheadOf_51 : decode cX4_goesAheadOf 51 = .ok (.iaload, 1) := by decide +kernel
theorem dX4_goesAheadOf_52 : decode cX4_goesAheadOf 52 = .ok (.invokestatic 57, 3) := by decide +kernel
theorem dX4_goesAheadOf_55 : decode cX4_goesAheadOf 55 = .ok (.istore_n 3, 1) := by decide +kernel
theorem dX4_goesAheadOf_56 : decode cX4_goesAheadOf 56 = .ok (.iload_n 2, 1) := by decide +kernel
theorem dX4_goesAheadOf_57 : decode cX4_goesAheadOf 57 = .ok (.iload_n 3, 1) := by decide +kernel
theorem dX4_goesAheadOf_58 : decode cX4_goesAheadOf 58 = .ok (.if_icmp .eq 16, 3) := by decide +kernel
theorem dX4_goesAheadOf_61 : decode cX4_goesAheadOf 61 = .ok (.iload_n 2, 1) := by decide +kernel
theorem dX4_goesAheadOf_62 : decode cX4_goesAheadOf 62 = .ok (.iload_n 3, 1) := by decide +kernel
theorem dX4_goesAheadOf_63 : decode cX4_goesAheadOf 63 = .ok (.if_icmp .ge 7, 3) := by decide +kernel
theorem dX4_goesAheadOf_66 : decode cX4_goesAheadOf 66 = .ok (.iconst 1, 1) := by decide +kernel
theorem dX4_goesAheadOf_67 : decode cX4_goesAheadOf 67 = .ok (.goto 23, 3) := by decide +kernel
theorem dX4_goesAheadOf_70 : decode cX4_goesAheadOf 70 = .ok (.iconst 0, 1) := by decide +kernel
theorem dX4_goesAheadOf_71 : decode cX4_goesAheadOf 71 = .ok (.goto 19, 3) := by decide +kernel
theorem dX4_goesAheadOf_74 : decode cX4_goesAheadOf 74 = .ok (.aload_n 0, 1) := by decide +kernel
theorem dX4_goesAheadOf_75 : decode cX4_goesAheadOf 75 = .ok (.getfield 9, 3) := by decide +kernel
theorem dX4_goesAheadOf_78 : decode cX4_goesAheadOf 78 = .ok (.aload_n 1, 1) := by decide +kernel
theorem dX4_goesAheadOf_79 : decode cX4_goesAheadOf 79 = .ok (.getfield 9, 3) := by decide +kernel
theorem dX4_goesAheadOf_82 : decode cX4_goesAheadOf 82 = .ok (.if_icmp .ge 7, 3) := by decide +kernel
theorem dX4_goesAheadOf_85 : decode cX4_goesAheadOf 85 = .ok (.iconst 1, 1) := by decide +kernel
theorem dX4_goesAheadOf_86 : decode cX4_goesAheadOf 86 = .ok (.goto 4, 3) := by decide +kernel
theorem dX4_goesAheadOf_89 : decode cX4_goesAheadOf 89 = .ok (.iconst 0, 1) := by decide +kernel
theorem dX4_goesAheadOf_90 : decode cX4_goesAheadOf 90 = .ok (.ireturn, 1) := by decide +kernel
theorem dX4_gainNumber_0 : decode cX4_gainNumber 0 = .ok (.iload_n 1, 1) := by decide +kernel
theorem dX4_gainNumber_1 : decode cX4_gainNumber 1 = .ok (.aload_n 0, 1) := by decide +kernel
theorem dX4_gainNumber_2 : decode cX4_gainNumber 2 = .ok (.getfield 18, 3) := by decide +kernel
theorem dX4_gainNumber_5 : decode cX4_gainNumber 5 = .ok (.iconst 0, 1) := by decide +kernel
theorem dX4_gainNumber_6 : decode cX4_gainNumber 6 = .ok (.iaload, 1) := by decide +kernel
theorem dX4_gainNumber_7 : decode cX4_gainNumber 7 = .ok (.i2l, 1) := by decide +kernel
theorem dX4_gainNumber_8 : decode cX4_gainNumber 8 = .ok (.aload_n 0, 1) := by decide +kernel
theorem dX4_gainNumber_9 : decode cX4_gainNumber 9 = .ok (.getfield 18, 3) := by decide +kernel
theorem dX4_gainNumber_12 : decode cX4_gainNumber 12 = .ok (.iconst 1, 1) := by decide +kernel
theorem dX4_gainNumber_13 : decode cX4_gainNumber 13 = .ok (.iaload, 1) := by decide +kernel
theorem dX4_gainNumber_14 : decode cX4_gainNumber 14 = .ok (.i2l, 1) := by decide +kernel
theorem dX4_gainNumber_15 : decode cX4_gainNumber 15 = .ok (.aload_n 0, 1) := by decide +kernel
theorem dX4_gainNumber_16 : decode cX4_gainNumber 16 = .ok (.getfield 18, 3) := by decide +kernel
theorem dX4_gainNumber_19 : decode cX4_gainNumber 19 = .ok (.iconst 2, 1) := by decide +kernel
theorem dX4_gainNumber_20 : decode cX4_gainNumber 20 = .ok (.iaload, 1) := by decide +kernel
theorem dX4_gainNumber_21 : decode cX4_gainNumber 21 = .ok (.i2l, 1) := by decide +kernel
theorem dX4_gainNumber_22 : decode cX4_gainNumber 22 = .ok (.invokestatic 60, 3) := by decide +kernel
theorem dX4_gainNumber_25 : decode cX4_gainNumber 25 = .ok (.lreturn, 1) := by decide +kernel
theorem dX4_gainDivisor_0 : decode cX4_gainDivisor 0 = .ok (.iload_n 1, 1) := by decide +kernel
theorem dX4_gainDivisor_1 : decode cX4_gainDivisor 1 = .ok (.ldc2_w 64, 3) := by decide +kernel
theorem dX4_gainDivisor_4 : decode cX4_gainDivisor 4 = .ok (.aload_n 0, 1) := by decide +kernel
theorem dX4_gainDivisor_5 : decode cX4_gainDivisor 5 = .ok (.getfield 18, 3) := by decide +kernel
theorem dX4_gainDivisor_8 : decode cX4_gainDivisor 8 = .ok (.iconst 3, 1) := by decide +kernel
theorem dX4_gainDivisor_9 : decode cX4_gainDivisor 9 = .ok (.iaload, 1) := by decide +kernel
theorem dX4_gainDivisor_10 : decode cX4_gainDivisor 10 = .ok (.i2l, 1) := by decide +kernel
theorem dX4_gainDivisor_11 : decode cX4_gainDivisor 11 = .ok (.aload_n 0, 1) := by decide +kernel
theorem dX4_gainDivisor_12 : decode cX4_gainDivisor 12 = .ok (.getfield 18, 3) := by decide +kernel
theorem dX4_gainDivisor_15 : decode cX4_gainDivisor 15 = .ok (.iconst 4, 1) := by decide +kernel
theorem dX4_gainDivisor_16 : decode cX4_gainDivisor 16 = .ok (.iaload, 1) := by decide +kernel
theorem dX4_gainDivisor_17 : decode cX4_gainDivisor 17 = .ok (.i2l, 1) := by decide +kernel
theorem dX4_gainDivisor_18 : decode cX4_gainDivisor 18 = .ok (.invokestatic 60, 3) := by decide +kernel
theorem dX4_gainDivisor_21 : decode cX4_gainDivisor 21 = .ok (.lreturn, 1) := by decide +kernel
theorem dX4_valueAt_0 : decode cX4_valueAt 0 = .ok (.iload_n 0, 1) := by decide +kernel
theorem dX4_valueAt_1 : decode cX4_valueAt 1 = .ok (.lookupswitch 41 #[(0, 27), (1, 34)], 27) := by decide +kernel
theorem dX4_valueAt_28 : decode cX4_valueAt 28 = .ok (.lload_n 1, 1) := by decide +kernel
theorem dX4_valueAt_29 : decode cX4_valueAt 29 = .ok (.lload_n 3, 1) := by decide +kernel
theorem dX4_valueAt_30 : decode cX4_valueAt 30 = .ok (.ladd, 1) := by decide +kernel
theorem dX4_valueAt_31 : decode cX4_valueAt 31 = .ok (.lload 5, 2) := by decide +kernel
theorem dX4_valueAt_33 : decode cX4_valueAt 33 = .ok (.ladd, 1) := by decide +kernel
theorem dX4_valueAt_34 : decode cX4_valueAt 34 = .ok (.lreturn, 1) := by decide +kernel
theorem dX4_valueAt_35 : decode cX4_valueAt 35 = .ok (.lload_n 1, 1) := by decide +kernel
theorem dX4_valueAt_36 : decode cX4_valueAt 36 = .ok (.lload_n 3, 1) := by decide +kernel
theorem dX4_valueAt_37 : decode cX4_valueAt 37 = .ok (.lsub, 1) := by decide +kernel
theorem dX4_valueAt_38 : decode cX4_valueAt 38 = .ok (.lload 5, 2) := by decide +kernel
theorem dX4_valueAt_40 : decode cX4_valueAt 40 = .ok (.ladd, 1) := by decide +kernel
theorem dX4_valueAt_41 : decode cX4_valueAt 41 = .ok (.lreturn, 1) := by decide +kernel
theorem dX4_valueAt_42 : decode cX4_valueAt 42 = .ok (.lload_n 1, 1) := by decide +kernel
theorem dX4_valueAt_43 : decode cX4_valueAt 43 = .ok (.lload 5, 2) := by decide +kernel
theorem dX4_valueAt_45 : decode cX4_valueAt 45 = .ok (.lsub, 1) := by decide +kernel
theorem dX4_valueAt_46 : decode cX4_valueAt 46 = .ok (.lload_n 1, 1) := by decide +kernel
theorem dX4_valueAt_47 : decode cX4_valueAt 47 = .ok (.lload 5, 2) := by decide +kernel
theorem dX4_valueAt_49 : decode cX4_valueAt 49 = .ok (.lsub, 1) := by decide +kernel
theorem dX4_valueAt_50 : decode cX4_valueAt 50 = .ok (.lmul, 1) := by decide +kernel
theorem dX4_valueAt_51 : decode cX4_valueAt 51 = .ok (.lload_n 3, 1) := by decide +kernel
theorem dX4_valueAt_52 : decode cX4_valueAt 52 = .ok (.lload_n 3, 1) := by decide +kernel
theorem dX4_valueAt_53 : decode cX4_valueAt 53 = .ok (.lmul, 1) := by decide +kernel
theorem dX4_valueAt_54 : decode cX4_valueAt 54 = .ok (.ladd, 1) := by decide +kernel
theorem dX4_valueAt_55 : decode cX4_valueAt 55 = .ok (.lreturn, 1) := by decide +kernel
theorem dX5_init_0 : decode cX5_init 0 = .ok (.aload_n 0, 1) := by decide +kernel
theorem dX5_init_1 : decode cX5_init 1 = .ok (.invokespecial 1, 3) := by decide +kernel
theorem dX5_init_4 : decode cX5_init 4 = .ok (.aload_n 0, 1) := by decide +kernel
theorem dX5_init_5 : decode cX5_init 5 = .ok (.bipush 32, 2) := by decide +kernel
theorem dX5_init_7 : decode cX5_init 7 = .ok (.newarray .int, 2) := by decide +kernel
theorem dX5_init_9 : decode cX5_init 9 = .ok (.putfield 9, 3) := by decide +kernel
theorem dX5_init_12 : decode cX5_init 12 = .ok (.aload_n 0, 1) := by decide +kernel
theorem dX5_init_13 : decode cX5_init 13 = .ok (.bipush 32, 2) := by decide +kernel
theorem dX5_init_15 : decode cX5_init 15 = .ok (.newarray .int, 2) := by decide +kernel
theorem dX5_init_17 : decode cX5_init 17 = .ok (.putfield 13, 3) := by decide +kernel
theorem dX5_init_20 : decode cX5_init 20 = .ok (.aload_n 0, 1) := by decide +kernel
theorem dX5_init_21 : decode cX5_init 21 = .ok (.bipush 32, 2) := by decide +kernel
theorem dX5_init_23 : decode cX5_init 23 = .ok (.newarray .int, 2) := by decide +kernel
theorem dX5_init_25 : decode cX5_init 25 = .ok (.putfield 16, 3) := by decide +kernel
theorem dX5_init_28 : decode cX5_init 28 = .ok (.iconst 1, 1) := by decide +kernel
theorem dX5_init_29 : decode cX5_init 29 = .ok (.istore_n 1, 1) := by decide +kernel
theorem dX5_init_30 : decode cX5_init 30 = .ok (.iconst 0, 1) := by decide +kernel
theorem dX5_init_31 : decode cX5_init 31 = .ok (.istore_n 2, 1) := by decide +kernel
theorem dX5_init_32 : decode cX5_init 32 = .ok (.iload_n 2, 1) := by decide +kernel
theorem dX5_init_33 : decode cX5_init 33 = .ok (.bipush 32, 2) := by decide +kernel
theorem dX5_init_35 : decode cX5_init 35 = .ok (.if_icmp .ge 24, 3) := by decide +kernel
theorem dX5_init_38 : decode cX5_init 38 = .ok (.aload_n 0, 1) := by decide +kernel
theorem dX5_init_39 : decode cX5_init 39 = .ok (.getfield 16, 3) := by decide +kernel
theorem dX5_init_42 : decode cX5_init 42 = .ok (.iload_n 2, 1) := by decide +kernel
theorem dX5_init_43 : decode cX5_init 43 = .ok (.iload_n 1, 1) := by decide +kernel
theorem dX5_init_44 : decode cX5_init 44 = .ok (.iastore, 1) := by decide +kernel
theorem dX5_init_45 : decode cX5_init 45 = .ok (.iload_n 1, 1) := by decide +kernel
theorem dX5_init_46 : decode cX5_init 46 = .ok (.bipush 28, 2) := by decide +kernel
theorem dX5_init_48 : decode cX5_init 48 = .ok (.imul, 1) := by decide +kernel
theorem dX5_init_49 : decode cX5_init 49 = .ok (.bipush 97, 2) := by decide +kernel
theorem dX5_init_51 : decode cX5_init 51 = .ok (.irem, 1) := by decide +kernel
theorem dX5_init_52 : decode cX5_init 52 = .ok (.istore_n 1, 1) := by decide +kernel
theorem dX5_init_53 : decode cX5_init 53 = .ok (.iinc 2 1, 3) := by decide +kernel
theorem dX5_init_56 : decode cX5_init 56 = .ok (.goto (-24), 3) := by decide +kernel
theorem dX5_init_59 : decode cX5_init 59 = .ok (.return_, 1) := by decide +kernel
theorem dX5_rootOf_0 : decode cX5_rootOf 0 = .ok (.aload_n 0, 1) := by decide +kernel
theorem dX5_rootOf_1 : decode cX5_rootOf 1 = .ok (.getfield 16, 3) := by decide +kernel
theorem dX5_rootOf_4 : decode cX5_rootOf 4 = .ok (.iload_n 1, 1) := by decide +kernel
theorem dX5_rootOf_5 : decode cX5_rootOf 5 = .ok (.iload_n 2, 1) := by decide +kernel
theorem dX5_rootOf_6 : decode cX5_rootOf 6 = .ok (.imul, 1) := by decide +kernel
theorem dX5_rootOf_7 : decode cX5_rootOf 7 = .ok (.bipush 32, 2) := by decide +kernel
theorem dX5_rootOf_9 : decode cX5_rootOf 9 = .ok (.invokestatic 19, 3) := by decide +kernel
theorem dX5_rootOf_12 : decode cX5_rootOf 12 = .ok (.iaload, 1) := by decide +kernel
theorem dX5_rootOf_13 : decode cX5_rootOf 13 = .ok (.ireturn, 1) := by decide +kernel
theorem dX5_tapAt_0 : decode cX5_tapAt 0 = .ok (.iload_n 1, 1) := by decide +kernel
theorem dX5_tapAt_1 : decode cX5_tapAt 1 = .ok (.ifCond .lt 18, 3) := by decide +kernel
theorem dX5_tapAt_4 : decode cX5_tapAt 4 = .ok (.iload_n 1, 1) := by decide +kernel
theorem dX5_tapAt_5 : decode cX5_tapAt 5 = .ok (.bipush 32, 2) := by decide +kernel
theorem dX5_tapAt_7 : decode cX5_tapAt 7 = .ok (.if_icmp .ge 12, 3) := by decide +kernel
theorem dX5_tapAt_10 : decode cX5_tapAt 10 = .ok (.aload_n 0, 1) := by decide +kernel
theorem dX5_tapAt_11 : decode cX5_tapAt 11 = .ok (.getfield 9, 3) := by decide +kernel
theorem dX5_tapAt_14 : decode cX5_tapAt 14 = .ok (.iload_n 1, 1) := by decide +kernel
theorem dX5_tapAt_15 : decode cX5_tapAt 15 = .ok (.iaload, 1) := by decide +kernel
theorem dX5_tapAt_16 : decode cX5_tapAt 16 = .ok (.goto 4, 3) := by decide +kernel
theorem dX5_tapAt_19 : decode cX5_tapAt 19 = .ok (.iconst 0, 1) := by decide +kernel
theorem dX5_tapAt_20 : decode cX5_tapAt 20 = .ok (.ireturn, 1) := by decide +kernel
theorem dX5_replaceTap_0 : decode cX5_replaceTap 0 = .ok (.aload_n 0, 1) := by decide +kernel
theorem dX5_replaceTap_1 : decode cX5_replaceTap 1 = .ok (.getfield 9, 3) := by decide +kernel
theorem dX5_replaceTap_4 : decode cX5_replaceTap 4 = .ok (.iload_n 1, 1) := by decide +kernel
theorem dX5_replaceTap_5 : decode cX5_replaceTap 5 = .ok (.iload_n 2, 1) := by decide +kernel
theorem dX5_replaceTap_6 : decode cX5_replaceTap 6 = .ok (.invokestatic 25, 3) := by decide +kernel
theorem dX5_replaceTap_9 : decode cX5_replaceTap 9 = .ok (.ireturn, 1) := by decide +kernel
theorem dX5_replaceAsked_0 : decode cX5_replaceAsked 0 = .ok (.aload_n 0, 1) := by decide +kernel
theorem dX5_replaceAsked_1 : decode cX5_replaceAsked 1 = .ok (.getfield 13, 3) := by decide +kernel
theorem dX5_replaceAsked_4 : decode cX5_replaceAsked 4 = .ok (.iload_n 1, 1) := by decide +kernel
theorem dX5_replaceAsked_5 : decode cX5_replaceAsked 5 = .ok (.iload_n 2, 1) := by decide +kernel
theorem dX5_replaceAsked_6 : decode cX5_replaceAsked 6 = .ok (.invokestatic 25, 3) := by decide +kernel
theorem dX5_replaceAsked_9 : decode cX5_replaceAsked 9 = .ok (.ireturn, 1) := by decide +kernel
theorem dX5_replaceIn_0 : decode cX5_replaceIn 0 = .ok (.iload_n 1, 1) := by decide +kernel
theorem dX5_replaceIn_1 : decode cX5_replaceIn 1 = .ok (.ifCond .lt 9, 3) := by decide +kernel
theorem dX5_replaceIn_4 : decode cX5_replaceIn 4 = .ok (.iload_n 1, 1) := by decide +kernel
theorem dX5_replaceIn_5 : decode cX5_replaceIn 5 = .ok (.aload_n 0, 1) := by decide +kernel
theorem dX5_replaceIn_6 : decode cX5_replaceIn 6 = .ok (.arraylength, 1) := by decide +kernel
theorem dX5_replaceIn_7 : decode cX5_replaceIn 7 = .ok (.if_icmp .lt 5, 3) := by decide +kernel
theorem dX5_replaceIn_10 : decode cX5_replaceIn 10 = .ok (.iconst 0, 1) := by decide +kernel
theorem dX5_replaceIn_11 : decode cX5_replaceIn 11 = .ok (.ireturn, 1) := by decide +kernel
theorem dX5_replaceIn_12 : decode cX5_replaceIn 12 = .ok (.aload_n 0, 1) := by decide +kernel
theorem dX5_replaceIn_13 : decode cX5_replaceIn 13 = .ok (.iload_n 1, 1) := by decide +kernel
theorem dX5_replaceIn_14 : decode cX5_replaceIn 14 = .ok (.iaload, 1) := by decide +kernel
theorem dX5_replaceIn_15 : decode cX5_replaceIn 15 = .ok (.istore_n 3, 1) := by decide +kernel
theorem dX5_replaceIn_16 : decode cX5_replaceIn 16 = .ok (.aload_n 0, 1) := by decide +kernel
theorem dX5_replaceIn_17 : decode cX5_replaceIn 17 = .ok (.iload_n 1, 1) := by decide +kernel
theorem dX5_replaceIn_18 : decode cX5_replaceIn 18 = .ok (.iload_n 2, 1) := by decide +kernel
theorem dX5_replaceIn_19 : decode cX5_replaceIn 19 = .ok (.bipush 97, 2) := by decide +kernel
theorem dX5_replaceIn_21 : decode cX5_replaceIn 21 = .ok (.invokestatic 19, 3) := by decide +kernel
theorem dX5_replaceIn_24 : decode cX5_replaceIn 24 = .ok (.iastore, 1) := by decide +kernel
theorem dX5_replaceIn_25 : decode cX5_replaceIn 25 = .ok (.iload_n 3, 1) := by decide +kernel
theorem dX5_replaceIn_26 : decode cX5_replaceIn 26 = .ok (.ireturn, 1) := by decide +kernel
theorem dX5_takeDesign_0 : decode cX5_takeDesign 0 = .ok (.iconst 0, 1) := by decide +kernel
theorem dX5_takeDesign_1 : decode cX5_takeDesign 1 = .ok (.istore_n 1, 1) := by decide +kernel
theorem dX5_takeDesign_2 : decode cX5_takeDesign 2 = .ok (.iconst 0, 1) := by decide +kernel
theorem dX5_takeDesign_3 : decode cX5_takeDesign 3 = .ok (.istore_n 2, 1) := by decide +kernel
theorem dX5_takeDesign_4 : decode cX5_takeDesign 4 = .ok (.iload_n 2, 1) := by decide +kernel
theorem dX5_takeDesign_5 : decode cX5_takeDesign 5 = .ok (.bipush 32, 2) := by decide +kernel
theorem dX5_takeDesign_7 : decode cX5_takeDesign 7 = .ok (.if_icmp .ge 75, 3) := by decide +kernel
theorem dX5_takeDesign_10 : decode cX5_takeDesign 10 = .ok (.iconst 0, 1) := by decide +kernel
theorem dX5_takeDesign_11 : decode cX5_takeDesign 11 = .ok (.istore_n 3, 1) := by decide +kernel
theorem dX5_takeDesign_12 : decode cX5_takeDesign 12 = .ok (.iconst 0, 1) := by decide +kernel
theorem dX5_takeDesign_13 : decode cX5_takeDesign 13 = .ok (.istore 4, 2) := by decide +kernel
theorem dX5_takeDesign_15 : decode cX5_takeDesign 15 = .ok (.iload 4, 2) := by decide +kernel
theorem dX5_takeDesign_17 : decode cX5_takeDesign 17 = .ok (.bipush 32, 2) := by decide +kernel
theorem dX5_takeDesign_19 : decode cX5_takeDesign 19 = .ok (.if_icmp .ge 30, 3) := by decide +kernel
theorem dX5_takeDesign_22 : decode cX5_takeDesign 22 = .ok (.iload_n 3, 1) := by decide +kernel
theorem dX5_takeDesign_23 : decode cX5_takeDesign 23 = .ok (.aload_n 0, 1) := by decide +kernel
theorem dX5_takeDesign_24 : decode cX5_takeDesign 24 = .ok (.getfield 13, 3) := by decide +kernel
theorem dX5_takeDesign_27 : decode cX5_takeDesign 27 = .ok (.iload 4, 2) := by decide +kernel
theorem dX5_takeDesign_29 : decode cX5_takeDesign 29 = .ok (.iaload, 1) := by decide +kernel
theorem dX5_takeDesign_30 : decode cX5_takeDesign 30 = .ok (.aload_n 0, 1) := by decide +kernel
theorem dX5_takeDesign_31 : decode cX5_takeDesign 31 = .ok (.iload 4, 2) := by decide +kernel
theorem dX5_takeDesign_33 : decode cX5_takeDesign 33 = .ok (.bipush 32, 2) := by decide +kernel
theorem dX5_takeDesign_35 : decode cX5_takeDesign 35 = .ok (.iload_n 2, 1) := by decide +kernel
theorem dX5_takeDesign_36 : decode cX5_takeDesign 36 = .ok (.isub, 1) := by decide +kernel
theorem dX5_takeDesign_37 : decode cX5_takeDesign 37 = .ok (.invokevirtual 29, 3) := by decide +kernel
theorem dX5_takeDesign_40 : decode cX5_takeDesign 40 = .ok (.imul, 1) := by decide +kernel
theorem dX5_takeDesign_41 : decode cX5_takeDesign 41 = .ok (.iadd, 1) := by decide +kernel
theorem dX5_takeDesign_42 : decode cX5_takeDesign 42 = .ok (.istore_n 3, 1) := by decide +kernel
theorem dX5_takeDesign_43 : decode cX5_takeDesign 43 = .ok (.iinc 4 1, 3) := by decide +kernel
theorem dX5_takeDesign_46 : decode cX5_takeDesign 46 = .ok (.goto (-31), 3) := by decide +kernel
theorem dX5_takeDesign_49 : decode cX5_takeDesign 49 = .ok (.iload_n 3, 1) := by decide +kernel
theorem dX5_takeDesign_50 : decode cX5_takeDesign 50 = .ok (.bipush 97, 2) := by decide +kernel
theorem dX5_takeDesign_52 : decode cX5_takeDesign 52 = .ok (.irem, 1) := by decide +kernel
theorem dX5_takeDesign_53 : decode cX5_takeDesign 53 = .ok (.bipush 94, 2) := by decide +kernel
theorem dX5_takeDesign_55 : decode cX5_takeDesign 55 = .ok (.imul, 1) := by decide +kernel
theorem dX5_takeDesign_56 : decode cX5_takeDesign 56 = .ok (.bipush 97, 2) := by decide +kernel
theorem dX5_takeDesign_58 : decode cX5_takeDesign 58 = .ok (.irem, 1) := by decide +kernel
theorem dX5_takeDesign_59 : decode cX5_takeDesign 59 = .ok (.istore 4, 2) := by decide +kernel
theorem dX5_takeDesign_61 : decode cX5_takeDesign 61 = .ok (.aload_n 0, 1) := by decide +kernel
theorem dX5_takeDesign_62 : decode cX5_takeDesign 62 = .ok (.iload_n 2, 1) := by decide +kernel
theorem dX5_takeDesign_63 : decode cX5_takeDesign 63 = .ok (.iload 4, 2) := by decide +kernel
theorem dX5_takeDesign_65 : decode cX5_takeDesign 65 = .ok (.invokevirtual 32, 3) := by decide +kernel
theorem dX5_takeDesign_68 : decode cX5_takeDesign 68 = .ok (.iload 4, 2) := by decide +kernel
theorem dX5_takeDesign_70 : decode cX5_takeDesign 70 = .ok (.if_icmp .eq 6, 3) := by decide +kernel
theorem dX5_takeDesign_73 : decode cX5_takeDesign 73 = .ok (.iinc 1 1, 3) := by decide +kernel
theorem dX5_takeDesign_76 : decode cX5_takeDesign 76 = .ok (.iinc 2 1, 3) := by decide +kernel
theorem dX5_takeDesign_79 : decode cX5_takeDesign 79 = .ok (.goto (-75), 3) := by decide +kernel
theorem dX5_takeDesign_82 : decode cX5_takeDesign 82 = .ok (.iload_n 1, 1) := by decide +kernel
theorem dX5_takeDesign_83 : decode cX5_takeDesign 83 = .ok (.ireturn, 1) := by decide +kernel
theorem dX5_answerBySum_0 : decode cX5_answerBySum 0 = .ok (.iconst 0, 1) := by decide +kernel
theorem dX5_answerBySum_1 : decode cX5_answerBySum 1 = .ok (.istore_n 2, 1) := by decide +kernel
theorem dX5_answerBySum_2 : decode cX5_answerBySum 2 = .ok (.iconst 0, 1) := by decide +kernel
theorem dX5_answerBySum_3 : decode cX5_answerBySum 3 = .ok (.istore_n 3, 1) := by decide +kernel
theorem dX5_answerBySum_4 : decode cX5_answerBySum 4 = .ok (.iload_n 3, 1) := by decide +kernel
theorem dX5_answerBySum_5 : decode cX5_answerBySum 5 = .ok (.bipush 32, 2) := by decide +kernel
theorem dX5_answerBySum_7 : decode cX5_answerBySum 7 = .ok (.if_icmp .ge 25, 3) := by decide +kernel
theorem dX5_answerBySum_10 : decode cX5_answerBySum 10 = .ok (.iload_n 2, 1) := by decide +kernel
theorem dX5_answerBySum_11 : decode cX5_answerBySum 11 = .ok (.aload_n 0, 1) := by decide +kernel
theorem dX5_answerBySum_12 : decode cX5_answerBySum 12 = .ok (.getfield 9, 3) := by decide +kernel
theorem dX5_answerBySum_15 : decode cX5_answerBySum 15 = .ok (.iload_n 3, 1) := by decide +kernel
theorem dX5_answerBySum_16 : decode cX5_answerBySum 16 = .ok (.iaload, 1) := by decide +kernel
theorem dX5_answerBySum_17 : decode cX5_answerBySum 17 = .ok (.aload_n 0, 1) := by decide +kernel
theorem dX5_answerBySum_18 : decode cX5_answerBySum 18 = .ok (.iload_n 1, 1) := by decide +kernel
theorem dX5_answerBySum_19 : decode cX5_answerBySum 19 = .ok (.iload_n 3, 1) := by decide +kernel
theorem dX5_answerBySum_20 : decode cX5_answerBySum 20 = .ok (.invokevirtual 29, 3) := by decide +kernel
theorem dX5_answerBySum_23 : decode cX5_answerBySum 23 = .ok (.imul, 1) := by decide +kernel
theorem dX5_answerBySum_24 : decode cX5_answerBySum 24 = .ok (.iadd, 1) := by decide +kernel
theorem dX5_answerBySum_25 : decode cX5_answerBySum 25 = .ok (.istore_n 2, 1) := by decide +kernel
theorem dX5_answerBySum_26 : decode cX5_answerBySum 26 = .ok (.iinc 3 1, 3) := by decide +kernel
theorem dX5_answerBySum_29 : decode cX5_answerBySum 29 = .ok (.goto (-25), 3) := by decide +kernel
theorem dX5_answerBySum_32 : decode cX5_answerBySum 32 = .ok (.iload_n 2, 1) := by decide +kernel
theorem dX5_answerBySum_33 : decode cX5_answerBySum 33 = .ok (.bipush 97, 2) := by decide +kernel
theorem dX5_answerBySum_35 : decode cX5_answerBySum 35 = .ok (.irem, 1) := by decide +kernel
theorem dX5_answerBySum_36 : decode cX5_answerBySum 36 = .ok (.ireturn, 1) := by decide +kernel
theorem dX5_answerByTwo_0 : decode cX5_answerByTwo 0 = .ok (.aload_n 0, 1) := by decide +kernel
theorem dX5_answerByTwo_1 : decode cX5_answerByTwo 1 = .ok (.iload_n 1, 1) := by decide +kernel
theorem dX5_answerByTwo_2 : decode cX5_answerByTwo 2 = .ok (.bipush 31, 2) := by decide +kernel
theorem dX5_answerByTwo_4 : decode cX5_answerByTwo 4 = .ok (.invokevirtual 29, 3) := by decide +kernel
theorem dX5_answerByTwo_7 : decode cX5_answerByTwo 7 = .ok (.istore_n 2, 1) := by decide +kernel
theorem dX5_answerByTwo_8 : decode cX5_answerByTwo 8 = .ok (.aload_n 0, 1) := by decide +kernel
theorem dX5_answerByTwo_9 : decode cX5_answerByTwo 9 = .ok (.iload_n 1, 1) := by decide +kernel
theorem dX5_answerByTwo_10 : decode cX5_answerByTwo 10 = .ok (.iconst 1, 1) := by decide +kernel
theorem dX5_answerByTwo_11 : decode cX5_answerByTwo 11 = .ok (.invokevirtual 29, 3) := by decide +kernel
theorem dX5_answerByTwo_14 : decode cX5_answerByTwo 14 = .ok (.iload_n 2, 1) := by decide +kernel
theorem dX5_answerByTwo_15 : decode cX5_answerByTwo 15 = .ok (.iadd, 1) := by decide +kernel
theorem dX5_answerByTwo_16 : decode cX5_answerByTwo 16 = .ok (.istore_n 3, 1) := by decide +kernel
theorem dX5_answerByTwo_17 : decode cX5_answerByTwo 17 = .ok (.iconst 0, 1) := by decide +kernel
theorem dX5_answerByTwo_18 : decode cX5_answerByTwo 18 = .ok (.istore 4, 2) := by decide +kernel
theorem dX5_answerByTwo_20 : decode cX5_answerByTwo 20 = .ok (.iconst 0, 1) := by decide +kernel
theorem dX5_answerByTwo_21 : decode cX5_answerByTwo 21 = .ok (.istore 5, 2) := by decide +kernel
theorem dX5_answerByTwo_23 : decode cX5_answerByTwo 23 = .ok (.bipush 31, 2) := by decide +kernel
theorem dX5_answerByTwo_25 : decode cX5_answerByTwo 25 = .ok (.istore 6, 2) := by decide +kernel
theorem dX5_answerByTwo_27 : decode cX5_answerByTwo 27 = .ok (.iload 6, 2) := by decide +kernel
theorem dX5_answerByTwo_29 : decode cX5_answerByTwo 29 = .ok (.ifCond .lt 39, 3) := by decide +kernel
theorem dX5_answerByTwo_32 : decode cX5_answerByTwo 32 = .ok (.aload_n 0, 1) := by decide +kernel
theorem dX5_answerByTwo_33 : decode cX5_answerByTwo 33 = .ok (.getfield 9, 3) := by decide +kernel
theorem dX5_answerByTwo_36 : decode cX5_answerByTwo 36 = .ok (.iload 6, 2) := by decide +kernel
theorem dX5_answerByTwo_38 : decode cX5_answerByTwo 38 = .ok (.iaload, 1) := by decide +kernel
theorem dX5_answerByTwo_39 : decode cX5_answerByTwo 39 = .ok (.iload_n 3, 1) := by decide +kernel
theorem dX5_answerByTwo_40 : decode cX5_answerByTwo 40 = .ok (.iload 4, 2) := by decide +kernel
theorem dX5_answerByTwo_42 : decode cX5_answerByTwo 42 = .ok (.imul, 1) := by decide +kernel
theorem dX5_answerByTwo_43 : decode cX5_answerByTwo 43 = .ok (.iadd, 1) := by decide +kernel
theorem dX5_answerByTwo_44 : decode cX5_answerByTwo 44 = .ok (.iload 5, 2) := by decide +kernel
theorem dX5_answerByTwo_46 : decode cX5_answerByTwo 46 = .ok (.isub, 1) := by decide +kernel
theorem dX5_answerByTwo_47 : decode cX5_answerByTwo 47 = .ok (.bipush 97, 2) := by decide +kernel
theorem dX5_answerByTwo_49 : decode cX5_answerByTwo 49 = .ok (.invokestatic 19, 3) := by decide +kernel
theorem dX5_answerByTwo_52 : decode cX5_answerByTwo 52 = .ok (.istore 7, 2) := by decide +kernel
theorem dX5_answerByTwo_54 : decode cX5_answerByTwo 54 = .ok (.iload 4, 2) := by decide +kernel
theorem dX5_answerByTwo_56 : decode cX5_answerByTwo 56 = .ok (.istore 5, 2) := by decide +kernel
theorem dX5_answerByTwo_58 : decode cX5_answerByTwo 58 = .ok (.iload 7, 2) := by decide +kernel
theorem dX5_answerByTwo_60 : decode cX5_answerByTwo 60 = .ok (.istore 4, 2) := by decide +kernel
theorem dX5_answerByTwo_62 : decode cX5_answerByTwo 62 = .ok (.iinc 6 (-1), 3) := by decide +kernel
theorem dX5_answerByTwo_65 : decode cX5_answerByTwo 65 = .ok (.goto (-38), 3) := by decide +kernel
theorem dX5_answerByTwo_68 : decode cX5_answerByTwo 68 = .ok (.iload 4, 2) := by decide +kernel
theorem dX5_answerByTwo_70 : decode cX5_answerByTwo 70 = .ok (.iload 5, 2) := by decide +kernel
theorem dX5_answerByTwo_72 : decode cX5_answerByTwo 72 = .ok (.iload_n 2, 1) := by decide +kernel
theorem dX5_answerByTwo_73 : decode cX5_answerByTwo 73 = .ok (.imul, 1) := by decide +kernel
theorem dX5_answerByTwo_74 : decode cX5_answerByTwo 74 = .ok (.isub, 1) := by decide +kernel
theorem dX5_answerByTwo_75 : decode cX5_answerByTwo 75 = .ok (.bipush 97, 2) := by decide +kernel
theorem dX5_answerByTwo_77 : decode cX5_answerByTwo 77 = .ok (.invokestatic 19, 3) := by decide +kernel
theorem dX5_answerByTwo_80 : decode cX5_answerByTwo 80 = .ok (.ireturn, 1) := by decide +kernel
theorem dX5_sift_0 : decode cX5_sift 0 = .ok (.iconst 0, 1) := by decide +kernel
theorem dX5_sift_1 : decode cX5_sift 1 = .ok (.istore_n 3, 1) := by decide +kernel
theorem dX5_sift_2 : decode cX5_sift 2 = .ok (.iconst 0, 1) := by decide +kernel
theorem dX5_sift_3 : decode cX5_sift 3 = .ok (.istore 4, 2) := by decide +kernel
theorem dX5_sift_5 : decode cX5_sift 5 = .ok (.iload 4, 2) := by decide +kernel
theorem dX5_sift_7 : decode cX5_sift 7 = .ok (.bipush 32, 2) := by decide +kernel
theorem dX5_sift_9 : decode cX5_sift 9 = .ok (.if_icmp .ge 28, 3) := by decide +kernel
theorem dX5_sift_12 : decode cX5_sift 12 = .ok (.iload_n 3, 1) := by decide +kernel
theorem dX5_sift_13 : decode cX5_sift 13 = .ok (.aload_n 0, 1) := by decide +kernel
theorem dX5_sift_14 : decode cX5_sift 14 = .ok (.getfield 9, 3) := by decide +kernel
theorem dX5_sift_17 : decode cX5_sift 17 = .ok (.iload 4, 2) := by decide +kernel
theorem dX5_sift_19 : decode cX5_sift 19 = .ok (.iaload, 1) := by decide +kernel
theorem dX5_sift_20 : decode cX5_sift 20 = .ok (.aload_n 1, 1) := by decide +kernel
theorem dX5_sift_21 : decode cX5_sift 21 = .ok (.iload_n 2, 1) := by decide +kernel
theorem dX5_sift_22 : decode cX5_sift 22 = .ok (.iload 4, 2) := by decide +kernel
theorem dX5_sift_24 : decode cX5_sift 24 = .ok (.iadd, 1) := by decide +kernel
theorem dX5_sift_25 : decode cX5_sift 25 = .ok (.invokevirtual 35, 3) := by decide +kernel
theorem dX5_sift_28 : decode cX5_sift 28 = .ok (.imul, 1) := by decide +kernel
theorem dX5_sift_29 : decode cX5_sift 29 = .ok (.iadd, 1) := by decide +kernel
theorem dX5_sift_30 : decode cX5_sift 30 = .ok (.istore_n 3, 1) := by decide +kernel
theorem dX5_sift_31 : decode cX5_sift 31 = .ok (.iinc 4 1, 3) := by decide +kernel
theorem dX5_sift_34 : decode cX5_sift 34 = .ok (.goto (-29), 3) := by decide +kernel
theorem dX5_sift_37 : decode cX5_sift 37 = .ok (.iload_n 3, 1) := by decide +kernel
theorem dX5_sift_38 : decode cX5_sift 38 = .ok (.bipush 97, 2) := by decide +kernel
theorem dX5_sift_40 : decode cX5_sift 40 = .ok (.invokestatic 19, 3) := by decide +kernel
theorem dX5_sift_43 : decode cX5_sift 43 = .ok (.ireturn, 1) := by decide +kernel
theorem dX6_init_0 : decode cX6_init 0 = .ok (.aload_n 0, 1) := by decide +kernel
theorem dX6_init_1 : decode cX6_init 1 = .ok (.invokespecial 1, 3) := by decide +kernel
theorem dX6_init_4 : decode cX6_init 4 = .ok (.aload_n 0, 1) := by decide +kernel
theorem dX6_init_5 : decode cX6_init 5 = .ok (.new 7, 3) := by decide +kernel
theorem dX6_init_8 : decode cX6_init 8 = .ok (.dup, 1) := by decide +kernel
theorem dX6_init_9 : decode cX6_init 9 = .ok (.invokespecial 9, 3) := by decide +kernel
theorem dX6_init_12 : decode cX6_init 12 = .ok (.putfield 10, 3) := by decide +kernel
theorem dX6_init_15 : decode cX6_init 15 = .ok (.aload_n 0, 1) := by decide +kernel
theorem dX6_init_16 : decode cX6_init 16 = .ok (.new 16, 3) := by decide +kernel
theorem dX6_init_19 : decode cX6_init 19 = .ok (.dup, 1) := by decide +kernel
theorem dX6_init_20 : decode cX6_init 20 = .ok (.invokespecial 18, 3) := by decide +kernel
theorem dX6_init_23 : decode cX6_init 23 = .ok (.putfield 19, 3) := by decide +kernel
theorem dX6_init_26 : decode cX6_init 26 = .ok (.aload_n 0, 1) := by decide +kernel
theorem dX6_init_27 : decode cX6_init 27 = .ok (.new 23, 3) := by decide +kernel
theorem dX6_init_30 : decode cX6_init 30 = .ok (.dup, 1) := by decide +kernel
theorem dX6_init_31 : decode cX6_init 31 = .ok (.bipush 16, 2) := by decide +kernel
theorem dX6_init_33 : decode cX6_init 33 = .ok (.invokespecial 25, 3) := by decide +kernel
theorem dX6_init_36 : decode cX6_init 36 = .ok (.putfield 28, 3) := by decide +kernel
theorem dX6_init_39 : decode cX6_init 39 = .ok (.aload_n 0, 1) := by decide +kernel
theorem dX6_init_40 : decode cX6_init 40 = .ok (.new 32, 3) := by decide +kernel
theorem dX6_init_43 : decode cX6_init 43 = .ok (.dup, 1) := by decide +kernel
theorem dX6_init_44 : decode cX6_init 44 = .ok (.invokespecial 34, 3) := by decide +kernel
theorem dX6_init_47 : decode cX6_init 47 = .ok (.putfield 35, 3) := by decide +kernel
theorem dX6_init_50 : decode cX6_init 50 = .ok (.aload_n 0, 1) := by decide +kernel
theorem dX6_init_51 : decode cX6_init 51 = .ok (.new 39, 3) := by decide +kernel
theorem dX6_init_54 : decode cX6_init 54 = .ok (.dup, 1) := by decide +kernel
theorem dX6_init_55 : decode cX6_init 55 = .ok (.invokespecial 41, 3) := by decide +kernel
theorem dX6_init_58 : decode cX6_init 58 = .ok (.putfield 42, 3) := by decide +kernel
theorem dX6_init_61 : decode cX6_init 61 = .ok (.aload_n 0, 1) := by decide +kernel
theorem dX6_init_62 : decode cX6_init 62 = .ok (.new 23, 3) := by decide +kernel
theorem dX6_init_65 : decode cX6_init 65 = .ok (.dup, 1) := by decide +kernel
theorem dX6_init_66 : decode cX6_init 66 = .ok (.bipush 64, 2) := by decide +kernel
theorem dX6_init_68 : decode cX6_init 68 = .ok (.invokespecial 25, 3) := by decide +kernel
theorem dX6_init_71 : decode cX6_init 71 = .ok (.putfield 46, 3) := by decide +kernel
theorem dX6_init_74 : decode cX6_init 74 = .ok (.return_, 1) := by decide +kernel
theorem dX6_section_0 : decode cX6_section 0 = .ok (.iload_n 1, 1) := by decide +kernel
theorem dX6_section_1 : decode cX6_section 1 = .ok (.iconst 0, 1) := by decide +kernel
theorem dX6_section_2 : decode cX6_section 2 = .ok (.iconst 2, 1) := by decide +kernel
theorem dX6_section_3 : decode cX6_section 3 = .ok (.invokestatic 51, 3) := by decide +kernel
theorem dX6_section_6 : decode cX6_section 6 = .ok (.aload_n 0, 1) := by decide +kernel
theorem dX6_section_7 : decode cX6_section 7 = .ok (.getfield 10, 3) := by decide +kernel
theorem dX6_section_10 : decode cX6_section 10 = .ok (.invokevirtual 55, 3) := by decide +kernel
theorem dX6_section_13 : decode cX6_section 13 = .ok (.bipush 8, 2) := by decide +kernel
theorem dX6_section_15 : decode cX6_section 15 = .ok (.if_icmp .lt 13, 3) := by decide +kernel
theorem dX6_section_18 : decode cX6_section 18 = .ok (.new 59, 3) := by decide +kernel
theorem dX6_section_21 : decode cX6_section 21 = .ok (.dup, 1) := by decide +kernel
theorem dX6_section_22 : decode cX6_section 22 = .ok (.ldc 61, 2) := by decide +kernel
theorem dX6_section_24 : decode cX6_section 24 = .ok (.invokespecial 63, 3) := by decide +kernel
theorem dX6_section_27 : decode cX6_section 27 = .ok (.athrow, 1) := by decide +kernel
theorem dX6_section_28 : decode cX6_section 28 = .ok (.aload_n 0, 1) := by decide +kernel
theorem dX6_section_29 : decode cX6_section 29 = .ok (.getfield 10, 3) := by decide +kernel
theorem dX6_section_32 : decode cX6_section 32 = .ok (.invokevirtual 55, 3) := by decide +kernel
theorem dX6_section_35 : decode cX6_section 35 = .ok (.istore_n 2, 1) := by decide +kernel
theorem dX6_section_36 : decode cX6_section 36 = .ok (.aload_n 0, 1) := by decide +kernel
theorem dX6_section_37 : decode cX6_section 37 = .ok (.getfield 10, 3) := by decide +kernel
theorem dX6_section_40 : decode cX6_section 40 = .ok (.new 49, 3) := by decide +kernel
theorem dX6_section_43 : decode cX6_section 43 = .ok (.dup, 1) := by decide +kernel
theorem dX6_section_44 : decode cX6_section 44 = .ok (.iload_n 2, 1) := by decide +kernel
theorem dX6_section_45 : decode cX6_section 45 = .ok (.iload_n 1, 1) := by decide +kernel
theorem dX6_section_46 : decode cX6_section 46 = .ok (.invokespecial 66, 3) := by decide +kernel
theorem dX6_section_49 : decode cX6_section 49 = .ok (.invokevirtual 69, 3) := by decide +kernel
theorem dX6_section_52 : decode cX6_section 52 = .ok (.pop, 1) := by decide +kernel
theorem dX6_section_53 : decode cX6_section 53 = .ok (.iload_n 2, 1) := by decide +kernel
theorem dX6_section_54 : decode cX6_section 54 = .ok (.ireturn, 1) := by decide +kernel
theorem dX6_set_0 : decode cX6_set 0 = .ok (.iload_n 1, 1) := by decide +kernel
theorem dX6_set_1 : decode cX6_set 1 = .ok (.aload_n 0, 1) := by decide +kernel
theorem dX6_set_2 : decode cX6_set 2 = .ok (.getfield 10, 3) := by decide +kernel
theorem dX6_set_5 : decode cX6_set 5 = .ok (.invokevirtual 55, 3) := by decide +kernel
theorem dX6_set_8 : decode cX6_set 8 = .ok (.invokestatic 73, 3) := by decide +kernel
theorem dX6_set_11 : decode cX6_set 11 = .ok (.iload_n 2, 1) := by decide +kernel
theorem dX6_set_12 : decode cX6_set 12 = .ok (.iconst 0, 1) := by decide +kernel
theorem dX6_set_13 : decode cX6_set 13 = .ok (.iconst 4, 1) := by decide +kernel
theorem dX6_set_14 : decode cX6_set 14 = .ok (.invokestatic 51, 3) := by decide +kernel
theorem dX6_set_17 : decode cX6_set 17 = .ok (.iload_n 3, 1) := by decide +kernel
theorem dX6_set_18 : decode cX6_set 18 = .ok (.bipush (-127), 2) := by decide +kernel
theorem dX6_set_20 : decode cX6_set 20 = .ok (.bipush 127, 2) := by decide +kernel
theorem dX6_set_22 : decode cX6_set 22 = .ok (.invokestatic 51, 3) := by decide +kernel
theorem dX6_set_25 : decode cX6_set 25 = .ok (.aload_n 0, 1) := by decide +kernel
theorem dX6_set_26 : decode cX6_set 26 = .ok (.getfield 10, 3) := by decide +kernel
theorem dX6_set_29 : decode cX6_set 29 = .ok (.iload_n 1, 1) := by decide +kernel
theorem dX6_set_30 : decode cX6_set 30 = .ok (.invokevirtual 76, 3) := by decide +kernel
theorem dX6_set_33 : decode cX6_set 33 = .ok (.checkcast 49, 3) := by decide +kernel
theorem dX6_set_36 : decode cX6_set 36 = .ok (.iload_n 2, 1) := by decide +kernel
theorem dX6_set_37 : decode cX6_set 37 = .ok (.iload_n 3, 1) := by decide +kernel
theorem dX6_set_38 : decode cX6_set 38 = .ok (.invokevirtual 80, 3) := by decide +kernel
theorem dX6_set_41 : decode cX6_set 41 = .ok (.ireturn, 1) := by decide +kernel
theorem dX6_chain_0 : decode cX6_chain 0 = .ok (.iload_n 1, 1) := by decide +kernel
theorem dX6_chain_1 : decode cX6_chain 1 = .ok (.aload_n 0, 1) := by decide +kernel
theorem dX6_chain_2 : decode cX6_chain 2 = .ok (.getfield 10, 3) := by decide +kernel
theorem dX6_chain_5 : decode cX6_chain 5 = .ok (.invokevirtual 55, 3) := by decide +kernel
theorem dX6_chain_8 : decode cX6_chain 8 = .ok (.invokestatic 73, 3) := by decide +kernel
theorem dX6_chain_11 : decode cX6_chain 11 = .ok (.aload_n 0, 1) := by decide +kernel
theorem dX6_chain_12 : decode cX6_chain 12 = .ok (.getfield 19, 3) := by decide +kernel
theorem dX6_chain_15 : decode cX6_chain 15 = .ok (.aload_n 0, 1) := by decide +kernel
theorem dX6_chain_16 : decode cX6_chain 16 = .ok (.getfield 10, 3) := by decide +kernel
theorem dX6_chain_19 : decode cX6_chain 19 = .ok (.iload_n 1, 1) := by decide +kernel
theorem dX6_chain_20 : decode cX6_chain 20 = .ok (.invokevirtual 76, 3) := by decide +kernel
theorem dX6_chain_23 : decode cX6_chain 23 = .ok (.checkcast 49, 3) := by decide +kernel
theorem dX6_chain_26 : decode cX6_chain 26 = .ok (.invokevirtual 84, 3) := by decide +kernel
theorem dX6_chain_29 : decode cX6_chain 29 = .ok (.ireturn, 1) := by decide +kernel
theorem dX6_arrange_0 : decode cX6_arrange 0 = .ok (.aload_n 0, 1) := by decide +kernel
theorem dX6_arrange_1 : decode cX6_arrange 1 = .ok (.getfield 19, 3) := by decide +kernel
theorem dX6_arrange_4 : decode cX6_arrange 4 = .ok (.invokevirtual 88, 3) := by decide +kernel
theorem dX6_arrange_7 : decode cX6_arrange 7 = .ok (.ireturn, 1) := by decide +kernel
theorem dX6_run_0 : decode cX6_run 0 = .ok (.iload_n 1, 1) := by decide +kernel
theorem dX6_run_1 : decode cX6_run 1 = .ok (.sipush (-32767), 3) := by decide +kernel
theorem dX6_run_4 : decode cX6_run 4 = .ok (.sipush 32767, 3) := by decide +kernel
theorem dX6_run_7 : decode cX6_run 7 = .ok (.invokestatic 51, 3) := by decide +kernel
theorem dX6_run_10 : decode cX6_run 10 = .ok (.aload_n 0, 1) := by decide +kernel
theorem dX6_run_11 : decode cX6_run 11 = .ok (.getfield 19, 3) := by decide +kernel
theorem dX6_run_14 : decode cX6_run 14 = .ok (.iload_n 1, 1) := by decide +kernel
theorem dX6_run_15 : decode cX6_run 15 = .ok (.invokevirtual 91, 3) := by decide +kernel
theorem dX6_run_18 : decode cX6_run 18 = .ok (.istore_n 2, 1) := by decide +kernel
theorem dX6_run_19 : decode cX6_run 19 = .ok (.aload_n 0, 1) := by decide +kernel
theorem dX6_run_20 : decode cX6_run 20 = .ok (.getfield 28, 3) := by decide +kernel
theorem dX6_run_23 : decode cX6_run 23 = .ok (.iload_n 2, 1) := by decide +kernel
theorem dX6_run_24 : decode cX6_run 24 = .ok (.invokevirtual 95, 3) := by decide +kernel
theorem dX6_run_27 : decode cX6_run 27 = .ok (.iload_n 2, 1) := by decide +kernel
theorem dX6_run_28 : decode cX6_run 28 = .ok (.ireturn, 1) := by decide +kernel
theorem dX6_rest_0 : decode cX6_rest 0 = .ok (.iconst 0, 1) := by decide +kernel
theorem dX6_rest_1 : decode cX6_rest 1 = .ok (.istore_n 1, 1) := by decide +kernel
theorem dX6_rest_2 : decode cX6_rest 2 = .ok (.iload_n 1, 1) := by decide +kernel
theorem dX6_rest_3 : decode cX6_rest 3 = .ok (.aload_n 0, 1) := by decide +kernel
theorem dX6_rest_4 : decode cX6_rest 4 = .ok (.getfield 10, 3) := by decide +kernel
theorem dX6_rest_7 : decode cX6_rest 7 = .ok (.invokevirtual 55, 3) := by decide +kernel
theorem dX6_rest_10 : decode cX6_rest 10 = .ok (.if_icmp .ge 23, 3) := by decide +kernel
theorem dX6_rest_13 : decode cX6_rest 13 = .ok (.aload_n 0, 1) := by decide +kernel
theorem dX6_rest_14 : decode cX6_rest 14 = .ok (.getfield 10, 3) := by decide +kernel
theorem dX6_rest_17 : decode cX6_rest 17 = .ok (.iload_n 1, 1) := by decide +kernel
theorem dX6_rest_18 : decode cX6_rest 18 = .ok (.invokevirtual 76, 3) := by decide +kernel
theorem dX6_rest_21 : decode cX6_rest 21 = .ok (.checkcast 49, 3) := by decide +kernel
theorem dX6_rest_24 : decode cX6_rest 24 = .ok (.invokevirtual 97, 3) := by decide +kernel
theorem dX6_rest_27 : decode cX6_rest 27 = .ok (.iinc 1 1, 3) := by decide +kernel
theorem dX6_rest_30 : decode cX6_rest 30 = .ok (.goto (-28), 3) := by decide +kernel
theorem dX6_rest_33 : decode cX6_rest 33 = .ok (.aload_n 0, 1) := by decide +kernel
theorem dX6_rest_34 : decode cX6_rest 34 = .ok (.getfield 28, 3) := by decide +kernel
theorem dX6_rest_37 : decode cX6_rest 37 = .ok (.invokevirtual 100, 3) := by decide +kernel
theorem dX6_rest_40 : decode cX6_rest 40 = .ok (.istore_n 1, 1) := by decide +kernel
theorem dX6_rest_41 : decode cX6_rest 41 = .ok (.aload_n 0, 1) := by decide +kernel
theorem dX6_rest_42 : decode cX6_rest 42 = .ok (.getfield 28, 3) := by decide +kernel
theorem dX6_rest_45 : decode cX6_rest 45 = .ok (.invokevirtual 103, 3) := by decide +kernel
theorem dX6_rest_48 : decode cX6_rest 48 = .ok (.iload_n 1, 1) := by decide +kernel
theorem dX6_rest_49 : decode cX6_rest 49 = .ok (.ireturn, 1) := by decide +kernel
theorem dX6_tap_0 : decode cX6_tap 0 = .ok (.iload_n 1, 1) := by decide +kernel
theorem dX6_tap_1 : decode cX6_tap 1 = .ok (.bipush 32, 2) := by decide +kernel
theorem dX6_tap_3 : decode cX6_tap 3 = .ok (.invokestatic 73, 3) := by decide +kernel
theorem dX6_tap_6 : decode cX6_tap 6 = .ok (.iload_n 2, 1) := by decide +kernel
theorem dX6_tap_7 : decode cX6_tap 7 = .ok (.invokestatic 106, 3) := by decide +kernel
theorem dX6_tap_10 : decode cX6_tap 10 = .ok (.aload_n 0, 1) := by decide +kernel
theorem dX6_tap_11 : decode cX6_tap 11 = .ok (.getfield 42, 3) := by decide +kernel
theorem dX6_tap_14 : decode cX6_tap 14 = .ok (.iload_n 1, 1) := by decide +kernel
theorem dX6_tap_15 : decode cX6_tap 15 = .ok (.iload_n 2, 1) := by decide +kernel
theorem dX6_tap_16 : decode cX6_tap 16 = .ok (.invokevirtual 109, 3) := by decide +kernel
theorem dX6_tap_19 : decode cX6_tap 19 = .ok (.ireturn, 1) := by decide +kernel
theorem dX6_ask_0 : decode cX6_ask 0 = .ok (.iload_n 1, 1) := by decide +kernel
theorem dX6_ask_1 : decode cX6_ask 1 = .ok (.bipush 32, 2) := by decide +kernel
theorem dX6_ask_3 : decode cX6_ask 3 = .ok (.invokestatic 73, 3) := by decide +kernel
theorem dX6_ask_6 : decode cX6_ask 6 = .ok (.iload_n 2, 1) := by decide +kernel
theorem dX6_ask_7 : decode cX6_ask 7 = .ok (.invokestatic 106, 3) := by decide +kernel
theorem dX6_ask_10 : decode cX6_ask 10 = .ok (.aload_n 0, 1) := by decide +kernel
theorem dX6_ask_11 : decode cX6_ask 11 = .ok (.getfield 42, 3) := by decide +kernel
theorem dX6_ask_14 : decode cX6_ask 14 = .ok (.iload_n 1, 1) := by decide +kernel
theorem dX6_ask_15 : decode cX6_ask 15 = .ok (.iload_n 2, 1) := by decide +kernel
theorem dX6_ask_16 : decode cX6_ask 16 = .ok (.invokevirtual 112, 3) := by decide +kernel
theorem dX6_ask_19 : decode cX6_ask 19 = .ok (.ireturn, 1) := by decide +kernel
theorem dX6_design_0 : decode cX6_design 0 = .ok (.aload_n 0, 1) := by decide +kernel
theorem dX6_design_1 : decode cX6_design 1 = .ok (.getfield 42, 3) := by decide +kernel
theorem dX6_design_4 : decode cX6_design 4 = .ok (.invokevirtual 115, 3) := by decide +kernel
theorem dX6_design_7 : decode cX6_design 7 = .ok (.ireturn, 1) := by decide +kernel
theorem dX6_sample_0 : decode cX6_sample 0 = .ok (.iload_n 1, 1) := by decide +kernel
theorem dX6_sample_1 : decode cX6_sample 1 = .ok (.invokestatic 106, 3) := by decide +kernel
theorem dX6_sample_4 : decode cX6_sample 4 = .ok (.aload_n 0, 1) := by decide +kernel
theorem dX6_sample_5 : decode cX6_sample 5 = .ok (.getfield 46, 3) := by decide +kernel
theorem dX6_sample_8 : decode cX6_sample 8 = .ok (.iload_n 1, 1) := by decide +kernel
theorem dX6_sample_9 : decode cX6_sample 9 = .ok (.invokevirtual 95, 3) := by decide +kernel
theorem dX6_sample_12 : decode cX6_sample 12 = .ok (.aload_n 0, 1) := by decide +kernel
theorem dX6_sample_13 : decode cX6_sample 13 = .ok (.getfield 46, 3) := by decide +kernel
theorem dX6_sample_16 : decode cX6_sample 16 = .ok (.invokevirtual 100, 3) := by decide +kernel
theorem dX6_sample_19 : decode cX6_sample 19 = .ok (.ireturn, 1) := by decide +kernel
theorem dX6_of_0 : decode cX6_of 0 = .ok (.iload_n 1, 1) := by decide +kernel
theorem dX6_of_1 : decode cX6_of 1 = .ok (.aload_n 0, 1) := by decide +kernel
theorem dX6_of_2 : decode cX6_of 2 = .ok (.getfield 10, 3) := by decide +kernel
theorem dX6_of_5 : decode cX6_of 5 = .ok (.invokevirtual 55, 3) := by decide +kernel
theorem dX6_of_8 : decode cX6_of 8 = .ok (.invokestatic 73, 3) := by decide +kernel
theorem dX6_of_11 : decode cX6_of 11 = .ok (.iload_n 2, 1) := by decide +kernel
theorem dX6_of_12 : decode cX6_of 12 = .ok (.iconst 0, 1) := by decide +kernel
theorem dX6_of_13 : decode cX6_of 13 = .ok (.bipush 9, 2) := by decide +kernel
theorem dX6_of_15 : decode cX6_of 15 = .ok (.invokestatic 51, 3) := by decide +kernel
theorem dX6_of_18 : decode cX6_of 18 = .ok (.aload_n 0, 1) := by decide +kernel
theorem dX6_of_19 : decode cX6_of 19 = .ok (.getfield 10, 3) := by decide +kernel
theorem dX6_of_22 : decode cX6_of 22 = .ok (.iload_n 1, 1) := by decide +kernel
theorem dX6_of_23 : decode cX6_of 23 = .ok (.invokevirtual 76, 3) := by decide +kernel
theorem dX6_of_26 : decode cX6_of 26 = .ok (.checkcast 49, 3) := by decide +kernel
theorem dX6_of_29 : decode cX6_of 29 = .ok (.astore_n 3, 1) := by decide +kernel
theorem dX6_of_30 : decode cX6_of 30 = .ok (.iload_n 2, 1) := by decide +kernel
theorem dX6_of_31 : decode cX6_of 31 = .ok (.tableswitch 70 5 9 #[33, 46, 55, 60, 65], 33) := by decide +kernel
theorem dX6_of_64 : decode cX6_of 64 = .ok (.aload_n 3, 1) := by decide +kernel
theorem dX6_of_65 : decode cX6_of 65 = .ok (.invokevirtual 118, 3) := by decide +kernel
theorem dX6_of_68 : decode cX6_of 68 = .ok (.ifCond .eq 7, 3) := by decide +kernel
theorem dX6_of_71 : decode cX6_of 71 = .ok (.iconst 1, 1) := by decide +kernel
theorem dX6_of_72 : decode cX6_of 72 = .ok (.goto 4, 3) := by decide +kernel
theorem dX6_of_75 : decode cX6_of 75 = .ok (.iconst 0, 1) := by decide +kernel
theorem dX6_of_76 : decode cX6_of 76 = .ok (.ireturn, 1) := by decide +kernel
theorem dX6_of_77 : decode cX6_of 77 = .ok (.aload_n 0, 1) := by decide +kernel
theorem dX6_of_78 : decode cX6_of 78 = .ok (.getfield 19, 3) := by decide +kernel
theorem dX6_of_81 : decode cX6_of 81 = .ok (.aload_n 3, 1) := by decide +kernel
theorem dX6_of_82 : decode cX6_of 82 = .ok (.invokevirtual 122, 3) := by decide +kernel
theorem dX6_of_85 : decode cX6_of 85 = .ok (.ireturn, 1) := by decide +kernel
theorem dX6_of_86 : decode cX6_of 86 = .ok (.aload_n 3, 1) := by decide +kernel
theorem dX6_of_87 : decode cX6_of 87 = .ok (.getfield 125, 3) := by decide +kernel
theorem dX6_of_90 : decode cX6_of 90 = .ok (.ireturn, 1) := by decide +kernel
theorem dX6_of_91 : decode cX6_of 91 = .ok (.aload_n 3, 1) := by decide +kernel
theorem dX6_of_92 : decode cX6_of 92 = .ok (.getfield 129, 3) := by decide +kernel
theorem dX6_of_95 : decode cX6_of 95 = .ok (.ireturn, 1) := by decide +kernel
theorem dX6_of_96 : decode cX6_of 96 = .ok (.aload_n 3, 1) := by decide +kernel
theorem dX6_of_97 : decode cX6_of 97 = .ok (.getfield 132, 3) := by decide +kernel
theorem dX6_of_100 : decode cX6_of 100 = .ok (.ireturn, 1) := by decide +kernel
theorem dX6_of_101 : decode cX6_of 101 = .ok (.aload_n 3, 1) := by decide +kernel
theorem dX6_of_102 : decode cX6_of 102 = .ok (.iload_n 2, 1) := by decide +kernel
theorem dX6_of_103 : decode cX6_of 103 = .ok (.invokevirtual 135, 3) := by decide +kernel
theorem dX6_of_106 : decode cX6_of 106 = .ok (.ireturn, 1) := by decide +kernel
theorem dX6_output_0 : decode cX6_output 0 = .ok (.iload_n 1, 1) := by decide +kernel
theorem dX6_output_1 : decode cX6_output 1 = .ok (.invokestatic 138, 3) := by decide +kernel
theorem dX6_output_4 : decode cX6_output 4 = .ok (.aload_n 0, 1) := by decide +kernel
theorem dX6_output_5 : decode cX6_output 5 = .ok (.getfield 28, 3) := by decide +kernel
theorem dX6_output_8 : decode cX6_output 8 = .ok (.iload_n 1, 1) := by decide +kernel
theorem dX6_output_9 : decode cX6_output 9 = .ok (.invokevirtual 141, 3) := by decide +kernel
theorem dX6_output_12 : decode cX6_output 12 = .ok (.ireturn, 1) := by decide +kernel
theorem dX6_gain_0 : decode cX6_gain 0 = .ok (.iload_n 1, 1) := by decide +kernel
theorem dX6_gain_1 : decode cX6_gain 1 = .ok (.iconst 0, 1) := by decide +kernel
theorem dX6_gain_2 : decode cX6_gain 2 = .ok (.iconst 2, 1) := by decide +kernel
theorem dX6_gain_3 : decode cX6_gain 3 = .ok (.invokestatic 51, 3) := by decide +kernel
theorem dX6_gain_6 : decode cX6_gain 6 = .ok (.aload_n 0, 1) := by decide +kernel
theorem dX6_gain_7 : decode cX6_gain 7 = .ok (.iload_n 1, 1) := by decide +kernel
theorem dX6_gain_8 : decode cX6_gain 8 = .ok (.invokevirtual 144, 3) := by decide +kernel
theorem dX6_gain_11 : decode cX6_gain 11 = .ok (.aload_n 0, 1) := by decide +kernel
theorem dX6_gain_12 : decode cX6_gain 12 = .ok (.getfield 19, 3) := by decide +kernel
theorem dX6_gain_15 : decode cX6_gain 15 = .ok (.iload_n 1, 1) := by decide +kernel
theorem dX6_gain_16 : decode cX6_gain 16 = .ok (.invokevirtual 147, 3) := by decide +kernel
theorem dX6_gain_19 : decode cX6_gain 19 = .ok (.astore_n 3, 1) := by decide +kernel
theorem dX6_gain_20 : decode cX6_gain 20 = .ok (.iload_n 2, 1) := by decide +kernel
theorem dX6_gain_21 : decode cX6_gain 21 = .ok (.ifCond .eq 10, 3) := by decide +kernel
theorem dX6_gain_24 : decode cX6_gain 24 = .ok (.aload_n 3, 1) := by decide +kernel
theorem dX6_gain_25 : decode cX6_gain 25 = .ok (.getfield 151, 3) := by decide +kernel
theorem dX6_gain_28 : decode cX6_gain 28 = .ok (.goto 7, 3) := by decide +kernel
theorem dX6_gain_31 : decode cX6_gain 31 = .ok (.aload_n 3, 1) := by decide +kernel
theorem dX6_gain_32 : decode cX6_gain 32 = .ok (.getfield 157, 3) := by decide +kernel
theorem dX6_gain_35 : decode cX6_gain 35 = .ok (.lreturn, 1) := by decide +kernel
theorem dX6_meets_0 : decode cX6_meets 0 = .ok (.iload_n 1, 1) := by decide +kernel
theorem dX6_meets_1 : decode cX6_meets 1 = .ok (.iconst 0, 1) := by decide +kernel
theorem dX6_meets_2 : decode cX6_meets 2 = .ok (.iconst 2, 1) := by decide +kernel
theorem dX6_meets_3 : decode cX6_meets 3 = .ok (.invokestatic 51, 3) := by decide +kernel
theorem dX6_meets_6 : decode cX6_meets 6 = .ok (.iload_n 2, 1) := by decide +kernel
theorem dX6_meets_7 : decode cX6_meets 7 = .ok (.iconst 0, 1) := by decide +kernel
theorem dX6_meets_8 : decode cX6_meets 8 = .ok (.sipush 10000, 3) := by decide +kernel
theorem dX6_meets_11 : decode cX6_meets 11 = .ok (.invokestatic 51, 3) := by decide +kernel
theorem dX6_meets_14 : decode cX6_meets 14 = .ok (.iload_n 3, 1) := by decide +kernel
theorem dX6_meets_15 : decode cX6_meets 15 = .ok (.iload_n 2, 1) := by decide +kernel
theorem dX6_meets_16 : decode cX6_meets 16 = .ok (.sipush 10000, 3) := by decide +kernel
theorem dX6_meets_19 : decode cX6_meets 19 = .ok (.invokestatic 51, 3) := by decide +kernel
theorem dX6_meets_22 : decode cX6_meets 22 = .ok (.aload_n 0, 1) := by decide +kernel
theorem dX6_meets_23 : decode cX6_meets 23 = .ok (.iload_n 1, 1) := by decide +kernel
theorem dX6_meets_24 : decode cX6_meets 24 = .ok (.invokevirtual 144, 3) := by decide +kernel
theorem dX6_meets_27 : decode cX6_meets 27 = .ok (.aload_n 0, 1) := by decide +kernel
theorem dX6_meets_28 : decode cX6_meets 28 = .ok (.getfield 19, 3) := by decide +kernel
theorem dX6_meets_31 : decode cX6_meets 31 = .ok (.invokevirtual 160, 3) := by decide +kernel
theorem dX6_meets_34 : decode cX6_meets 34 = .ok (.ifCond .ne 5, 3) := by decide +kernel
theorem dX6_meets_37 : decode cX6_meets 37 = .ok (.iconst 0, 1) := by decide +kernel
theorem dX6_meets_38 : decode cX6_meets 38 = .ok (.ireturn, 1) := by decide +kernel
theorem dX6_meets_39 : decode cX6_meets 39 = .ok (.aload_n 0, 1) := by decide +kernel
theorem dX6_meets_40 : decode cX6_meets 40 = .ok (.getfield 19, 3) := by decide +kernel
theorem dX6_meets_43 : decode cX6_meets 43 = .ok (.iload_n 1, 1) := by decide +kernel
theorem dX6_meets_44 : decode cX6_meets 44 = .ok (.invokevirtual 147, 3) := by decide +kernel
theorem dX6_meets_47 : decode cX6_meets 47 = .ok (.astore 4, 2) := by decide +kernel
theorem dX6_meets_49 : decode cX6_meets 49 = .ok (.iload_n 1, 1) := by decide +kernel
theorem dX6_meets_50 : decode cX6_meets 50 = .ok (.iconst 2, 1) := by decide +kernel
theorem dX6_meets_51 : decode cX6_meets 51 = .ok (.if_icmp .ne 24, 3) := by decide +kernel
theorem dX6_meets_54 : decode cX6_meets 54 = .ok (.aload 4, 2) := by decide +kernel
theorem dX6_meets_56 : decode cX6_meets 56 = .ok (.iload_n 2, 1) := by decide +kernel
theorem dX6_meets_57 : decode cX6_meets 57 = .ok (.i2l, 1) := by decide +kernel
theorem dX6_meets_58 : decode cX6_meets 58 = .ok (.iload_n 2, 1) := by decide +kernel
theorem dX6_meets_59 : decode cX6_meets 59 = .ok (.i2l, 1) := by decide +kernel
theorem dX6_meets_60 : decode cX6_meets 60 = .ok (.lmul, 1) := by decide +kernel
theorem dX6_meets_61 : decode cX6_meets 61 = .ok (.iload_n 3, 1) := by decide +kernel
theorem dX6_meets_62 : decode cX6_meets 62 = .ok (.i2l, 1) := by decide +kernel
theorem dX6_meets_63 : decode cX6_meets 63 = .ok (.iload_n 3, 1) := by decide +kernel
theorem dX6_meets_64 : decode cX6_meets 64 = .ok (.i2l, 1) := by decide +kernel
theorem dX6_meets_65 : decode cX6_meets 65 = .ok (.lmul, 1) := by decide +kernel
theorem dX6_meets_66 : decode cX6_meets 66 = .ok (.ldc2_w 161, 3) := by decide +kernel
theorem dX6_meets_69 : decode cX6_meets 69 = .ok (.invokevirtual 163, 3) := by decide +kernel
theorem dX6_meets_72 : decode cX6_meets 72 = .ok (.goto 15, 3) := by decide +kernel
theorem dX6_meets_75 : decode cX6_meets 75 = .ok (.aload 4, 2) := by decide +kernel
theorem dX6_meets_77 : decode cX6_meets 77 = .ok (.iload_n 2, 1) := by decide +kernel
theorem dX6_meets_78 : decode cX6_meets 78 = .ok (.i2l, 1) := by decide +kernel
theorem dX6_meets_79 : decode cX6_meets 79 = .ok (.iload_n 3, 1) := by decide +kernel
theorem dX6_meets_80 : decode cX6_meets 80 = .ok (.i2l, 1) := by decide +kernel
theorem dX6_meets_81 : decode cX6_meets 81 = .ok (.ldc2_w 167, 3) := by decide +kernel
theorem dX6_meets_84 : decode cX6_meets 84 = .ok (.invokevirtual 163, 3) := by decide +kernel
theorem dX6_meets_87 : decode cX6_meets 87 = .ok (.ireturn, 1) := by decide +kernel
theorem dX6_cycles_0 : decode cX6_cycles 0 = .ok (.iload_n 1, 1) := by decide +kernel
theorem dX6_cycles_1 : decode cX6_cycles 1 = .ok (.aload_n 0, 1) := by decide +kernel
theorem dX6_cycles_2 : decode cX6_cycles 2 = .ok (.getfield 10, 3) := by decide +kernel
theorem dX6_cycles_5 : decode cX6_cycles 5 = .ok (.invokevirtual 55, 3) := by decide +kernel
theorem dX6_cycles_8 : decode cX6_cycles 8 = .ok (.invokestatic 73, 3) := by decide +kernel
theorem dX6_cycles_11 : decode cX6_cycles 11 = .ok (.iload_n 2, 1) := by decide +kernel
theorem dX6_cycles_12 : decode cX6_cycles 12 = .ok (.iconst 1, 1) := by decide +kernel
theorem dX6_cycles_13 : decode cX6_cycles 13 = .ok (.bipush 12, 2) := by decide +kernel
theorem dX6_cycles_15 : decode cX6_cycles 15 = .ok (.invokestatic 51, 3) := by decide +kernel
theorem dX6_cycles_18 : decode cX6_cycles 18 = .ok (.iload_n 3, 1) := by decide +kernel
theorem dX6_cycles_19 : decode cX6_cycles 19 = .ok (.iconst 0, 1) := by decide +kernel
theorem dX6_cycles_20 : decode cX6_cycles 20 = .ok (.iconst 3, 1) := by decide +kernel
theorem dX6_cycles_21 : decode cX6_cycles 21 = .ok (.invokestatic 51, 3) := by decide +kernel
theorem dX6_cycles_24 : decode cX6_cycles 24 = .ok (.aload_n 0, 1) := by decide +kernel
theorem dX6_cycles_25 : decode cX6_cycles 25 = .ok (.getfield 35, 3) := by decide +kernel
theorem dX6_cycles_28 : decode cX6_cycles 28 = .ok (.aload_n 0, 1) := by decide +kernel
theorem dX6_cycles_29 : decode cX6_cycles 29 = .ok (.getfield 10, 3) := by decide +kernel
theorem dX6_cycles_32 : decode cX6_cycles 32 = .ok (.iload_n 1, 1) := by decide +kernel
theorem dX6_cycles_33 : decode cX6_cycles 33 = .ok (.invokevirtual 76, 3) := by decide +kernel
theorem dX6_cycles_36 : decode cX6_cycles 36 = .ok (.checkcast 49, 3) := by decide +kernel
theorem dX6_cycles_39 : decode cX6_cycles 39 = .ok (.iload_n 2, 1) := by decide +kernel
theorem dX6_cycles_40 : decode cX6_cycles 40 = .ok (.invokevirtual 169, 3) := by decide +kernel
theorem dX6_cycles_43 : decode cX6_cycles 43 = .ok (.aload_n 0, 1) := by decide +kernel
theorem dX6_cycles_44 : decode cX6_cycles 44 = .ok (.getfield 35, 3) := by decide +kernel
theorem dX6_cycles_47 : decode cX6_cycles 47 = .ok (.iload_n 3, 1) := by decide +kernel
theorem dX6_cycles_48 : decode cX6_cycles 48 = .ok (.invokevirtual 173, 3) := by decide +kernel
theorem dX6_cycles_51 : decode cX6_cycles 51 = .ok (.ireturn, 1) := by decide +kernel
theorem dX6_tapOf_0 : decode cX6_tapOf 0 = .ok (.iload_n 1, 1) := by decide +kernel
theorem dX6_tapOf_1 : decode cX6_tapOf 1 = .ok (.bipush 32, 2) := by decide +kernel
theorem dX6_tapOf_3 : decode cX6_tapOf 3 = .ok (.invokestatic 73, 3) := by decide +kernel
theorem dX6_tapOf_6 : decode cX6_tapOf 6 = .ok (.aload_n 0, 1) := by decide +kernel
theorem dX6_tapOf_7 : decode cX6_tapOf 7 = .ok (.getfield 42, 3) := by decide +kernel
theorem dX6_tapOf_10 : decode cX6_tapOf 10 = .ok (.iload_n 1, 1) := by decide +kernel
theorem dX6_tapOf_11 : decode cX6_tapOf 11 = .ok (.invokevirtual 176, 3) := by decide +kernel
theorem dX6_tapOf_14 : decode cX6_tapOf 14 = .ok (.ireturn, 1) := by decide +kernel
theorem dX6_answer_0 : decode cX6_answer 0 = .ok (.iload_n 1, 1) := by decide +kernel
theorem dX6_answer_1 : decode cX6_answer 1 = .ok (.bipush 32, 2) := by decide +kernel
theorem dX6_answer_3 : decode cX6_answer 3 = .ok (.invokestatic 73, 3) := by decide +kernel
theorem dX6_answer_6 : decode cX6_answer 6 = .ok (.aload_n 0, 1) := by decide +kernel
theorem dX6_answer_7 : decode cX6_answer 7 = .ok (.getfield 42, 3) := by decide +kernel
theorem dX6_answer_10 : decode cX6_answer 10 = .ok (.iload_n 1, 1) := by decide +kernel
theorem dX6_answer_11 : decode cX6_answer 11 = .ok (.invokevirtual 179, 3) := by decide +kernel
theorem dX6_answer_14 : decode cX6_answer 14 = .ok (.ireturn, 1) := by decide +kernel
theorem dX6_answerAnew_0 : decode cX6_answerAnew 0 = .ok (.iload_n 1, 1) := by decide +kernel
theorem dX6_answerAnew_1 : decode cX6_answerAnew 1 = .ok (.bipush 32, 2) := by decide +kernel
theorem dX6_answerAnew_3 : decode cX6_answerAnew 3 = .ok (.invokestatic 73, 3) := by decide +kernel
theorem dX6_answerAnew_6 : decode cX6_answerAnew 6 = .ok (.aload_n 0, 1) := by decide +kernel
theorem dX6_answerAnew_7 : decode cX6_answerAnew 7 = .ok (.getfield 42, 3) := by decide +kernel
theorem dX6_answerAnew_10 : decode cX6_answerAnew 10 = .ok (.iload_n 1, 1) := by decide +kernel
theorem dX6_answerAnew_11 : decode cX6_answerAnew 11 = .ok (.invokevirtual 182, 3) := by decide +kernel
theorem dX6_answerAnew_14 : decode cX6_answerAnew 14 = .ok (.ireturn, 1) := by decide +kernel
theorem dX6_sifted_0 : decode cX6_sifted 0 = .ok (.iload_n 1, 1) := by decide +kernel
theorem dX6_sifted_1 : decode cX6_sifted 1 = .ok (.invokestatic 138, 3) := by decide +kernel
theorem dX6_sifted_4 : decode cX6_sifted 4 = .ok (.iload_n 1, 1) := by decide +kernel
theorem dX6_sifted_5 : decode cX6_sifted 5 = .ok (.aload_n 0, 1) := by decide +kernel
theorem dX6_sifted_6 : decode cX6_sifted 6 = .ok (.getfield 46, 3) := by decide +kernel
theorem dX6_sifted_9 : decode cX6_sifted 9 = .ok (.invokevirtual 100, 3) := by decide +kernel
theorem dX6_sifted_12 : decode cX6_sifted 12 = .ok (.if_icmp .ge 18, 3) := by decide +kernel
theorem dX6_sifted_15 : decode cX6_sifted 15 = .ok (.aload_n 0, 1) := by decide +kernel
theorem dX6_sifted_16 : decode cX6_sifted 16 = .ok (.getfield 42, 3) := by decide +kernel
theorem dX6_sifted_19 : decode cX6_sifted 19 = .ok (.aload_n 0, 1) := by decide +kernel
theorem dX6_sifted_20 : decode cX6_sifted 20 = .ok (.getfield 46, 3) := by decide +kernel
theorem dX6_sifted_23 : decode cX6_sifted 23 = .ok (.iload_n 1, 1) := by decide +kernel
theorem dX6_sifted_24 : decode cX6_sifted 24 = .ok (.invokevirtual 185, 3) := by decide +kernel
theorem dX6_sifted_27 : decode cX6_sifted 27 = .ok (.goto 4, 3) := by decide +kernel
theorem dX6_sifted_30 : decode cX6_sifted 30 = .ok (.iconst (-1), 1) := by decide +kernel
theorem dX6_sifted_31 : decode cX6_sifted 31 = .ok (.ireturn, 1) := by decide +kernel
theorem dX6_requirePlace_0 : decode cX6_requirePlace 0 = .ok (.iload_n 0, 1) := by decide +kernel
theorem dX6_requirePlace_1 : decode cX6_requirePlace 1 = .ok (.ifCond .lt 8, 3) := by decide +kernel
theorem dX6_requirePlace_4 : decode cX6_requirePlace 4 = .ok (.iload_n 0, 1) := by decide +kernel
theorem dX6_requirePlace_5 : decode cX6_requirePlace 5 = .ok (.iload_n 1, 1) := by decide +kernel
theorem dX6_requirePlace_6 : decode cX6_requirePlace 6 = .ok (.if_icmp .lt 13, 3) := by decide +kernel
theorem dX6_requirePlace_9 : decode cX6_requirePlace 9 = .ok (.new 189, 3) := by decide +kernel
theorem dX6_requirePlace_12 : decode cX6_requirePlace 12 = .ok (.dup, 1) := by decide +kernel
theorem dX6_requirePlace_13 : decode cX6_requirePlace 13 = .ok (.ldc 191, 2) := by decide +kernel
theorem dX6_requirePlace_15 : decode cX6_requirePlace 15 = .ok (.invokespecial 193, 3) := by decide +kernel
theorem dX6_requirePlace_18 : decode cX6_requirePlace 18 = .ok (.athrow, 1) := by decide +kernel
theorem dX6_requirePlace_19 : decode cX6_requirePlace 19 = .ok (.return_, 1) := by decide +kernel
theorem dX6_requireBack_0 : decode cX6_requireBack 0 = .ok (.iload_n 0, 1) := by decide +kernel
theorem dX6_requireBack_1 : decode cX6_requireBack 1 = .ok (.ifCond .ge 13, 3) := by decide +kernel
theorem dX6_requireBack_4 : decode cX6_requireBack 4 = .ok (.new 189, 3) := by decide +kernel
theorem dX6_requireBack_7 : decode cX6_requireBack 7 = .ok (.dup, 1) := by decide +kernel
theorem dX6_requireBack_8 : decode cX6_requireBack 8 = .ok (.ldc 194, 2) := by decide +kernel
theorem dX6_requireBack_10 : decode cX6_requireBack 10 = .ok (.invokespecial 193, 3) := by decide +kernel
theorem dX6_requireBack_13 : decode cX6_requireBack 13 = .ok (.athrow, 1) := by decide +kernel
theorem dX6_requireBack_14 : decode cX6_requireBack 14 = .ok (.return_, 1) := by decide +kernel
theorem dX6_requireWithin_0 : decode cX6_requireWithin 0 = .ok (.iload_n 0, 1) := by decide +kernel
theorem dX6_requireWithin_1 : decode cX6_requireWithin 1 = .ok (.iload_n 1, 1) := by decide +kernel
theorem dX6_requireWithin_2 : decode cX6_requireWithin 2 = .ok (.if_icmp .lt 8, 3) := by decide +kernel
theorem dX6_requireWithin_5 : decode cX6_requireWithin 5 = .ok (.iload_n 0, 1) := by decide +kernel
theorem dX6_requireWithin_6 : decode cX6_requireWithin 6 = .ok (.iload_n 2, 1) := by decide +kernel
theorem dX6_requireWithin_7 : decode cX6_requireWithin 7 = .ok (.if_icmp .le 13, 3) := by decide +kernel
theorem dX6_requireWithin_10 : decode cX6_requireWithin 10 = .ok (.new 196, 3) := by decide +kernel
theorem dX6_requireWithin_13 : decode cX6_requireWithin 13 = .ok (.dup, 1) := by decide +kernel
theorem dX6_requireWithin_14 : decode cX6_requireWithin 14 = .ok (.ldc 198, 2) := by decide +kernel
theorem dX6_requireWithin_16 : decode cX6_requireWithin 16 = .ok (.invokespecial 200, 3) := by decide +kernel
theorem dX6_requireWithin_19 : decode cX6_requireWithin 19 = .ok (.athrow, 1) := by decide +kernel
theorem dX6_requireWithin_20 : decode cX6_requireWithin 20 = .ok (.return_, 1) := by decide +kernel
theorem dX6_requireRemainder_0 : decode cX6_requireRemainder 0 = .ok (.iload_n 0, 1) := by decide +kernel
theorem dX6_requireRemainder_1 : decode cX6_requireRemainder 1 = .ok (.bipush (-96), 2) := by decide +kernel
theorem dX6_requireRemainder_3 : decode cX6_requireRemainder 3 = .ok (.bipush 96, 2) := by decide +kernel
theorem dX6_requireRemainder_5 : decode cX6_requireRemainder 5 = .ok (.invokestatic 51, 3) := by decide +kernel
theorem dX6_requireRemainder_8 : decode cX6_requireRemainder 8 = .ok (.return_, 1) := by decide +kernel
theorem dX6_requireShortChain_0 : decode cX6_requireShortChain 0 = .ok (.aload_n 0, 1) := by decide +kernel
theorem dX6_requireShortChain_1 : decode cX6_requireShortChain 1 = .ok (.getfield 19, 3) := by decide +kernel
theorem dX6_requireShortChain_4 : decode cX6_requireShortChain 4 = .ok (.invokevirtual 201, 3) := by decide +kernel
theorem dX6_requireShortChain_7 : decode cX6_requireShortChain 7 = .ok (.iload_n 1, 1) := by decide +kernel
theorem dX6_requireShortChain_8 : decode cX6_requireShortChain 8 = .ok (.iconst 2, 1) := by decide +kernel
theorem dX6_requireShortChain_9 : decode cX6_requireShortChain 9 = .ok (.if_icmp .ne 7, 3) := by decide +kernel
theorem dX6_requireShortChain_12 : decode cX6_requireShortChain 12 = .ok (.iconst 2, 1) := by decide +kernel
theorem dX6_requireShortChain_13 : decode cX6_requireShortChain 13 = .ok (.goto 4, 3) := by decide +kernel
theorem dX6_requireShortChain_16 : decode cX6_requireShortChain 16 = .ok (.iconst 4, 1) := by decide +kernel
theorem dX6_requireShortChain_17 : decode cX6_requireShortChain 17 = .ok (.if_icmp .le 13, 3) := by decide +kernel
theorem dX6_requireShortChain_20 : decode cX6_requireShortChain 20 = .ok (.new 59, 3) := by decide +kernel
theorem dX6_requireShortChain_23 : decode cX6_requireShortChain 23 = .ok (.dup, 1) := by decide +kernel
theorem dX6_requireShortChain_24 : decode cX6_requireShortChain 24 = .ok (.ldc 204, 2) := by decide +kernel
theorem dX6_requireShortChain_26 : decode cX6_requireShortChain 26 = .ok (.invokespecial 63, 3) := by decide +kernel
theorem dX6_requireShortChain_29 : decode cX6_requireShortChain 29 = .ok (.athrow, 1) := by decide +kernel
theorem dX6_requireShortChain_30 : decode cX6_requireShortChain 30 = .ok (.return_, 1) := by decide +kernel
theorem dJ9_floorDiv_7cf53_0 : decode cJ9_floorDiv_7cf53 0 = .ok (.iload_n 0, 1) := by decide +kernel
theorem dJ9_floorDiv_7cf53_1 : decode cJ9_floorDiv_7cf53 1 = .ok (.iload_n 1, 1) := by decide +kernel
theorem dJ9_floorDiv_7cf53_2 : decode cJ9_floorDiv_7cf53 2 = .ok (.idiv, 1) := by decide +kernel
theorem dJ9_floorDiv_7cf53_3 : decode cJ9_floorDiv_7cf53 3 = .ok (.istore_n 2, 1) := by decide +kernel
theorem dJ9_floorDiv_7cf53_4 : decode cJ9_floorDiv_7cf53 4 = .ok (.iload_n 0, 1) := by decide +kernel
theorem dJ9_floorDiv_7cf53_5 : decode cJ9_floorDiv_7cf53 5 = .ok (.iload_n 1, 1) := by decide +kernel
theorem dJ9_floorDiv_7cf53_6 : decode cJ9_floorDiv_7cf53 6 = .ok (.ixor, 1) := by decide +kernel
theorem dJ9_floorDiv_7cf53_7 : decode cJ9_floorDiv_7cf53 7 = .ok (.ifCond .ge 14, 3) := by decide +kernel
theorem dJ9_floorDiv_7cf53_10 : decode cJ9_floorDiv_7cf53 10 = .ok (.iload_n 2, 1) := by decide +kernel
theorem dJ9_floorDiv_7cf53_11 : decode cJ9_floorDiv_7cf53 11 = .ok (.iload_n 1, 1) := by decide +kernel
theorem dJ9_floorDiv_7cf53_12 : decode cJ9_floorDiv_7cf53 12 = .ok (.imul, 1) := by decide +kernel
theorem dJ9_floorDiv_7cf53_13 : decode cJ9_floorDiv_7cf53 13 = .ok (.iload_n 0, 1) := by decide +kernel
theorem dJ9_floorDiv_7cf53_14 : decode cJ9_floorDiv_7cf53 14 = .ok (.if_icmp .eq 7, 3) := by decide +kernel
theorem dJ9_floorDiv_7cf53_17 : decode cJ9_floorDiv_7cf53 17 = .ok (.iload_n 2, 1) := by decide +kernel
theorem dJ9_floorDiv_7cf53_18 : decode cJ9_floorDiv_7cf53 18 = .ok (.iconst 1, 1) := by decide +kernel
theorem dJ9_floorDiv_7cf53_19 : decode cJ9_floorDiv_7cf53 19 = .ok (.isub, 1) := by decide +kernel
theorem dJ9_floorDiv_7cf53_20 : decode cJ9_floorDiv_7cf53 20 = .ok (.ireturn, 1) := by decide +kernel
theorem dJ9_floorDiv_7cf53_21 : decode cJ9_floorDiv_7cf53 21 = .ok (.iload_n 2, 1) := by decide +kernel
theorem dJ9_floorDiv_7cf53_22 : decode cJ9_floorDiv_7cf53 22 = .ok (.ireturn, 1) := by decide +kernel
theorem dJ9_floorMod_7cf53_0 : decode cJ9_floorMod_7cf53 0 = .ok (.iload_n 0, 1) := by decide +kernel
theorem dJ9_floorMod_7cf53_1 : decode cJ9_floorMod_7cf53 1 = .ok (.iload_n 1, 1) := by decide +kernel
theorem dJ9_floorMod_7cf53_2 : decode cJ9_floorMod_7cf53 2 = .ok (.irem, 1) := by decide +kernel
theorem dJ9_floorMod_7cf53_3 : decode cJ9_floorMod_7cf53 3 = .ok (.istore_n 2, 1) := by decide +kernel
theorem dJ9_floorMod_7cf53_4 : decode cJ9_floorMod_7cf53 4 = .ok (.iload_n 0, 1) := by decide +kernel
theorem dJ9_floorMod_7cf53_5 : decode cJ9_floorMod_7cf53 5 = .ok (.iload_n 1, 1) := by decide +kernel
theorem dJ9_floorMod_7cf53_6 : decode cJ9_floorMod_7cf53 6 = .ok (.ixor, 1) := by decide +kernel
theorem dJ9_floorMod_7cf53_7 : decode cJ9_floorMod_7cf53 7 = .ok (.ifCond .ge 11, 3) := by decide +kernel
theorem dJ9_floorMod_7cf53_10 : decode cJ9_floorMod_7cf53 10 = .ok (.iload_n 2, 1) := by decide +kernel
theorem dJ9_floorMod_7cf53_11 : decode cJ9_floorMod_7cf53 11 = .ok (.ifCond .eq 7, 3) := by decide +kernel
theorem dJ9_floorMod_7cf53_14 : decode cJ9_floorMod_7cf53 14 = .ok (.iload_n 2, 1) := by decide +kernel
theorem dJ9_floorMod_7cf53_15 : decode cJ9_floorMod_7cf53 15 = .ok (.iload_n 1, 1) := by decide +kernel
theorem dJ9_floorMod_7cf53_16 : decode cJ9_floorMod_7cf53 16 = .ok (.iadd, 1) := by decide +kernel
theorem dJ9_floorMod_7cf53_17 : decode cJ9_floorMod_7cf53 17 = .ok (.ireturn, 1) := by decide +kernel
theorem dJ9_floorMod_7cf53_18 : decode cJ9_floorMod_7cf53 18 = .ok (.iload_n 2, 1) := by decide +kernel
theorem dJ9_floorMod_7cf53_19 : decode cJ9_floorMod_7cf53 19 = .ok (.ireturn, 1) := by decide +kernel
theorem dJxa1e45_init_da8c8_0 : decode cJxa1e45_init_da8c8 0 = .ok (.aload_n 0, 1) := by decide +kernel
theorem dJxa1e45_init_da8c8_1 : decode cJxa1e45_init_da8c8 1 = .ok (.invokespecial 1, 3) := by decide +kernel
theorem dJxa1e45_init_da8c8_4 : decode cJxa1e45_init_da8c8 4 = .ok (.return_, 1) := by decide +kernel
theorem dJxc12de_init_da8c8_0 : decode cJxc12de_init_da8c8 0 = .ok (.aload_n 0, 1) := by decide +kernel
theorem dJxc12de_init_da8c8_1 : decode cJxc12de_init_da8c8 1 = .ok (.invokespecial 1, 3) := by decide +kernel
theorem dJxc12de_init_da8c8_4 : decode cJxc12de_init_da8c8 4 = .ok (.aload_n 0, 1) := by decide +kernel
theorem dJxc12de_init_da8c8_5 : decode cJxc12de_init_da8c8 5 = .ok (.iconst 0, 1) := by decide +kernel
theorem dJxc12de_init_da8c8_6 : decode cJxc12de_init_da8c8 6 = .ok (.putfield 7, 3) := by decide +kernel
theorem dJxc12de_init_da8c8_9 : decode cJxc12de_init_da8c8 9 = .ok (.return_, 1) := by decide +kernel
theorem dJx4a65c_init_da8c8_0 : decode cJx4a65c_init_da8c8 0 = .ok (.aload_n 0, 1) := by decide +kernel
theorem dJx4a65c_init_da8c8_1 : decode cJx4a65c_init_da8c8 1 = .ok (.invokespecial 1, 3) := by decide +kernel
theorem dJx4a65c_init_da8c8_4 : decode cJx4a65c_init_da8c8 4 = .ok (.aload_n 0, 1) := by decide +kernel
theorem dJx4a65c_init_da8c8_5 : decode cJx4a65c_init_da8c8 5 = .ok (.getstatic 39, 3) := by decide +kernel
theorem dJx4a65c_init_da8c8_8 : decode cJx4a65c_init_da8c8 8 = .ok (.putfield 9, 3) := by decide +kernel
theorem dJx4a65c_init_da8c8_11 : decode cJx4a65c_init_da8c8 11 = .ok (.return_, 1) := by decide +kernel
theorem dJx4a65c_grow_92f84_0 : decode cJx4a65c_grow_92f84 0 = .ok (.aload_n 0, 1) := by decide +kernel
theorem dJx4a65c_grow_92f84_1 : decode cJx4a65c_grow_92f84 1 = .ok (.getfield 9, 3) := by decide +kernel
theorem dJx4a65c_grow_92f84_4 : decode cJx4a65c_grow_92f84 4 = .ok (.arraylength, 1) := by decide +kernel
theorem dJx4a65c_grow_92f84_5 : decode cJx4a65c_grow_92f84 5 = .ok (.istore_n 2, 1) := by decide +kernel
theorem dJx4a65c_grow_92f84_6 : decode cJx4a65c_grow_92f84 6 = .ok (.iload_n 2, 1) := by decide +kernel
theorem dJx4a65c_grow_92f84_7 : decode cJx4a65c_grow_92f84 7 = .ok (.ifCond .gt 13, 3) := by decide +kernel
theorem dJx4a65c_grow_92f84_10 : decode cJx4a65c_grow_92f84 10 = .ok (.aload_n 0, 1) := by decide +kernel
theorem dJx4a65c_grow_92f84_11 : decode cJx4a65c_grow_92f84 11 = .ok (.getfield 9, 3) := by decide +kernel
theorem dJx4a65c_grow_92f84_14 : decode cJx4a65c_grow_92f84 14 = .ok (.getstatic 39, 3) := by decide +kernel
theorem dJx4a65c_grow_92f84_17 : decode cJx4a65c_grow_92f84 17 = .ok (.if_acmp .eq 28, 3) := by decide +kernel
theorem dJx4a65c_grow_92f84_20 : decode cJx4a65c_grow_92f84 20 = .ok (.iload_n 2, 1) := by decide +kernel
theorem dJx4a65c_grow_92f84_21 : decode cJx4a65c_grow_92f84 21 = .ok (.iload_n 1, 1) := by decide +kernel
theorem dJx4a65c_grow_92f84_22 : decode cJx4a65c_grow_92f84 22 = .ok (.iload_n 2, 1) := by decide +kernel
theorem dJx4a65c_grow_92f84_23 : decode cJx4a65c_grow_92f84 23 = .ok (.isub, 1) := by decide +kernel
theorem dJx4a65c_grow_92f84_24 : decode cJx4a65c_grow_92f84 24 = .ok (.iload_n 2, 1) := by decide +kernel
theorem dJx4a65c_grow_92f84_25 : decode cJx4a65c_grow_92f84 25 = .ok (.iconst 1, 1) := by decide +kernel
theorem dJx4a65c_grow_92f84_26 : decode cJx4a65c_grow_92f84 26 = .ok (.ishr, 1) := by decide +kernel
theorem dJx4a65c_grow_92f84_27 : decode cJx4a65c_grow_92f84 27 = .ok (.invokestatic 73, 3) := by decide +kernel
theorem dJx4a65c_grow_92f84_30 : decode cJx4a65c_grow_92f84 30 = .ok (.istore_n 3, 1) := by decide +kernel
theorem dJx4a65c_grow_92f84_31 : decode cJx4a65c_grow_92f84 31 = .ok (.aload_n 0, 1) := by decide +kernel
theorem dJx4a65c_grow_92f84_32 : decode cJx4a65c_grow_92f84 32 = .ok (.aload_n 0, 1) := by decide +kernel
theorem dJx4a65c_grow_92f84_33 : decode cJx4a65c_grow_92f84 33 = .ok (.getfield 9, 3) := by decide +kernel
theorem dJx4a65c_grow_92f84_36 : decode cJx4a65c_grow_92f84 36 = .ok (.iload_n 3, 1) := by decide +kernel
theorem dJx4a65c_grow_92f84_37 : decode cJx4a65c_grow_92f84 37 = .ok (.invokestatic 66, 3) := by decide +kernel
theorem dJx4a65c_grow_92f84_40 : decode cJx4a65c_grow_92f84 40 = .ok (.dup_x1, 1) := by decide +kernel
theorem dJx4a65c_grow_92f84_41 : decode cJx4a65c_grow_92f84 41 = .ok (.putfield 9, 3) := by decide +kernel
theorem dJx4a65c_grow_92f84_44 : decode cJx4a65c_grow_92f84 44 = .ok (.areturn, 1) := by decide +kernel
theorem dJx4a65c_grow_92f84_45 : decode cJx4a65c_grow_92f84 45 = .ok (.aload_n 0, 1) := by decide +kernel
theorem dJx4a65c_grow_92f84_46 : decode cJx4a65c_grow_92f84 46 = .ok (.bipush 10, 2) := by decide +kernel
theorem dJx4a65c_grow_92f84_48 : decode cJx4a65c_grow_92f84 48 = .ok (.iload_n 1, 1) := by decide +kernel
theorem dJx4a65c_grow_92f84_49 : decode cJx4a65c_grow_92f84 49 = .ok (.invokestatic 79, 3) := by decide +kernel
theorem dJx4a65c_grow_92f84_52 : decode cJx4a65c_grow_92f84 52 = .ok (.anewarray 7, 3) := by decide +kernel
theorem dJx4a65c_grow_92f84_55 : decode cJx4a65c_grow_92f84 55 = .ok (.dup_x1, 1) := by decide +kernel
theorem dJx4a65c_grow_92f84_56 : decode cJx4a65c_grow_92f84 56 = .ok (.putfield 9, 3) := by decide +kernel
theorem dJx4a65c_grow_92f84_59 : decode cJx4a65c_grow_92f84 59 = .ok (.areturn, 1) := by decide +kernel
theorem dJx4a65c_grow_d5877_0 : decode cJx4a65c_grow_d5877 0 = .ok (.aload_n 0, 1) := by decide +kernel
theorem dJx4a65c_grow_d5877_1 : decode cJx4a65c_grow_d5877 1 = .ok (.aload_n 0, 1) := by decide +kernel
theorem dJx4a65c_grow_d5877_2 : decode cJx4a65c_grow_d5877 2 = .ok (.getfield 48, 3) := by decide +kernel
theorem dJx4a65c_grow_d5877_5 : decode cJx4a65c_grow_d5877 5 = .ok (.iconst 1, 1) := by decide +kernel
theorem dJx4a65c_grow_d5877_6 : decode cJx4a65c_grow_d5877 6 = .ok (.iadd, 1) := by decide +kernel
theorem dJx4a65c_grow_d5877_7 : decode cJx4a65c_grow_d5877 7 = .ok (.invokevirtual 69, 3) := by decide +kernel
theorem dJx4a65c_grow_d5877_10 : decode cJx4a65c_grow_d5877 10 = .ok (.areturn, 1) := by decide +kernel
theorem dJx4a65c_size_8abf5_0 : decode cJx4a65c_size_8abf5 0 = .ok (.aload_n 0, 1) := by decide +kernel
theorem dJx4a65c_size_8abf5_1 : decode cJx4a65c_size_8abf5 1 = .ok (.getfield 48, 3) := by decide +kernel
theorem dJx4a65c_size_8abf5_4 : decode cJx4a65c_size_8abf5 4 = .ok (.ireturn, 1) := by decide +kernel
theorem dJx4a65c_elementData_915e3_0 : decode cJx4a65c_elementData_915e3 0 = .ok (.aload_n 0, 1) := by decide +kernel
theorem dJx4a65c_elementData_915e3_1 : decode cJx4a65c_elementData_915e3 1 = .ok (.getfield 9, 3) := by decide +kernel
theorem dJx4a65c_elementData_915e3_4 : decode cJx4a65c_elementData_915e3 4 = .ok (.iload_n 1, 1) := by decide +kernel
theorem dJx4a65c_elementData_915e3_5 : decode cJx4a65c_elementData_915e3 5 = .ok (.aaload, 1) := by decide +kernel
theorem dJx4a65c_elementData_915e3_6 : decode cJx4a65c_elementData_915e3 6 = .ok (.areturn, 1) := by decide +kernel
theorem dJx4a65c_get_915e3_0 : decode cJx4a65c_get_915e3 0 = .ok (.iload_n 1, 1) := by decide +kernel
theorem dJx4a65c_get_915e3_1 : decode cJx4a65c_get_915e3 1 = .ok (.aload_n 0, 1) := by decide +kernel
theorem dJx4a65c_get_915e3_2 : decode cJx4a65c_get_915e3 2 = .ok (.getfield 48, 3) := by decide +kernel
theorem dJx4a65c_get_915e3_5 : decode cJx4a65c_get_915e3 5 = .ok (.invokestatic 118, 3) := by decide +kernel
theorem dJx4a65c_get_915e3_8 : decode cJx4a65c_get_915e3 8 = .ok (.pop, 1) := by decide +kernel
theorem dJx4a65c_get_915e3_9 : decode cJx4a65c_get_915e3 9 = .ok (.aload_n 0, 1) := by decide +kernel
theorem dJx4a65c_get_915e3_10 : decode cJx4a65c_get_915e3 10 = .ok (.iload_n 1, 1) := by decide +kernel
theorem dJx4a65c_get_915e3_11 : decode cJx4a65c_get_915e3 11 = .ok (.invokevirtual 123, 3) := by decide +kernel
theorem dJx4a65c_get_915e3_14 : decode cJx4a65c_get_915e3 14 = .ok (.areturn, 1) := by decide +kernel
theorem dJx4a65c_add_72be8_0 : decode cJx4a65c_add_72be8 0 = .ok (.iload_n 3, 1) := by decide +kernel
theorem dJx4a65c_add_72be8_1 : decode cJx4a65c_add_72be8 1 = .ok (.aload_n 2, 1) := by decide +kernel
theorem dJx4a65c_add_72be8_2 : decode cJx4a65c_add_72be8 2 = .ok (.arraylength, 1) := by decide +kernel
theorem dJx4a65c_add_72be8_3 : decode cJx4a65c_add_72be8 3 = .ok (.if_icmp .ne 8, 3) := by decide +kernel
theorem dJx4a65c_add_72be8_6 : decode cJx4a65c_add_72be8 6 = .ok (.aload_n 0, 1) := by decide +kernel
theorem dJx4a65c_add_72be8_7 : decode cJx4a65c_add_72be8 7 = .ok (.invokevirtual 129, 3) := by decide +kernel
theorem dJx4a65c_add_72be8_10 : decode cJx4a65c_add_72be8 10 = .ok (.astore_n 2, 1) := by decide +kernel
theorem dJx4a65c_add_72be8_11 : decode cJx4a65c_add_72be8 11 = .ok (.aload_n 2, 1) := by decide +kernel
theorem dJx4a65c_add_72be8_12 : decode cJx4a65c_add_72be8 12 = .ok (.iload_n 3, 1) := by decide +kernel
theorem dJx4a65c_add_72be8_13 : decode cJx4a65c_add_72be8 13 = .ok (.aload_n 1, 1) := by decide +kernel
theorem dJx4a65c_add_72be8_14 : decode cJx4a65c_add_72be8 14 = .ok (.aastore, 1) := by decide +kernel
theorem dJx4a65c_add_72be8_15 : decode cJx4a65c_add_72be8 15 = .ok (.aload_n 0, 1) := by decide +kernel
theorem dJx4a65c_add_72be8_16 : decode cJx4a65c_add_72be8 16 = .ok (.iload_n 3, 1) := by decide +kernel
theorem dJx4a65c_add_72be8_17 : decode cJx4a65c_add_72be8 17 = .ok (.iconst 1, 1) := by decide +kernel
theorem dJx4a65c_add_72be8_18 : decode cJx4a65c_add_72be8 18 = .ok (.iadd, 1) := by decide +kernel
theorem dJx4a65c_add_72be8_19 : decode cJx4a65c_add_72be8 19 = .ok (.putfield 48, 3) := by decide +kernel
theorem dJx4a65c_add_72be8_22 : decode cJx4a65c_add_72be8 22 = .ok (.return_, 1) := by decide +kernel
theorem dJx4a65c_add_9ea2d_0 : decode cJx4a65c_add_9ea2d 0 = .ok (.aload_n 0, 1) := by decide +kernel
theorem dJx4a65c_add_9ea2d_1 : decode cJx4a65c_add_9ea2d 1 = .ok (.dup, 1) := by decide +kernel
theorem dJx4a65c_add_9ea2d_2 : decode cJx4a65c_add_9ea2d 2 = .ok (.getfield 63, 3) := by decide +kernel
theorem dJx4a65c_add_9ea2d_5 : decode cJx4a65c_add_9ea2d 5 = .ok (.iconst 1, 1) := by decide +kernel
theorem dJx4a65c_add_9ea2d_6 : decode cJx4a65c_add_9ea2d 6 = .ok (.iadd, 1) := by decide +kernel
theorem dJx4a65c_add_9ea2d_7 : decode cJx4a65c_add_9ea2d 7 = .ok (.putfield 63, 3) := by decide +kernel
theorem dJx4a65c_add_9ea2d_10 : decode cJx4a65c_add_9ea2d 10 = .ok (.aload_n 0, 1) := by decide +kernel
theorem dJx4a65c_add_9ea2d_11 : decode cJx4a65c_add_9ea2d 11 = .ok (.aload_n 1, 1) := by decide +kernel
theorem dJx4a65c_add_9ea2d_12 : decode cJx4a65c_add_9ea2d 12 = .ok (.aload_n 0, 1) := by decide +kernel
theorem dJx4a65c_add_9ea2d_13 : decode cJx4a65c_add_9ea2d 13 = .ok (.getfield 9, 3) := by decide +kernel
theorem dJx4a65c_add_9ea2d_16 : decode cJx4a65c_add_9ea2d 16 = .ok (.aload_n 0, 1) := by decide +kernel
theorem dJx4a65c_add_9ea2d_17 : decode cJx4a65c_add_9ea2d 17 = .ok (.getfield 48, 3) := by decide +kernel
theorem dJx4a65c_add_9ea2d_20 : decode cJx4a65c_add_9ea2d 20 = .ok (.invokevirtual 131, 3) := by decide +kernel
theorem dJx4a65c_add_9ea2d_23 : decode cJx4a65c_add_9ea2d 23 = .ok (.iconst 1, 1) := by decide +kernel
theorem dJx4a65c_add_9ea2d_24 : decode cJx4a65c_add_9ea2d 24 = .ok (.ireturn, 1) := by decide +kernel
theorem dJx4a65c_add_7a177_0 : decode cJx4a65c_add_7a177 0 = .ok (.aload_n 0, 1) := by decide +kernel
theorem dJx4a65c_add_7a177_1 : decode cJx4a65c_add_7a177 1 = .ok (.iload_n 1, 1) := by decide +kernel
theorem dJx4a65c_add_7a177_2 : decode cJx4a65c_add_7a177 2 = .ok (.invokevirtual 135, 3) := by decide +kernel
theorem dJx4a65c_add_7a177_5 : decode cJx4a65c_add_7a177 5 = .ok (.aload_n 0, 1) := by decide +kernel
theorem dJx4a65c_add_7a177_6 : decode cJx4a65c_add_7a177 6 = .ok (.dup, 1) := by decide +kernel
theorem dJx4a65c_add_7a177_7 : decode cJx4a65c_add_7a177 7 = .ok (.getfield 63, 3) := by decide +kernel
theorem dJx4a65c_add_7a177_10 : decode cJx4a65c_add_7a177 10 = .ok (.iconst 1, 1) := by decide +kernel
theorem dJx4a65c_add_7a177_11 : decode cJx4a65c_add_7a177 11 = .ok (.iadd, 1) := by decide +kernel
theorem dJx4a65c_add_7a177_12 : decode cJx4a65c_add_7a177 12 = .ok (.putfield 63, 3) := by decide +kernel
theorem dJx4a65c_add_7a177_15 : decode cJx4a65c_add_7a177 15 = .ok (.aload_n 0, 1) := by decide +kernel
theorem dJx4a65c_add_7a177_16 : decode cJx4a65c_add_7a177 16 = .ok (.getfield 48, 3) := by decide +kernel
theorem dJx4a65c_add_7a177_19 : decode cJx4a65c_add_7a177 19 = .ok (.dup, 1) := by decide +kernel
theorem dJx4a65c_add_7a177_20 : decode cJx4a65c_add_7a177 20 = .ok (.istore_n 3, 1) := by decide +kernel
theorem dJx4a65c_add_7a177_21 : decode cJx4a65c_add_7a177 21 = .ok (.aload_n 0, 1) := by decide +kernel
theorem dJx4a65c_add_7a177_22 : decode cJx4a65c_add_7a177 22 = .ok (.getfield 9, 3) := by decide +kernel
theorem dJx4a65c_add_7a177_25 : decode cJx4a65c_add_7a177 25 = .ok (.dup, 1) := by decide +kernel
theorem dJx4a65c_add_7a177_26 : decode cJx4a65c_add_7a177 26 = .ok (.astore 4, 2) := by decide +kernel
theorem dJx4a65c_add_7a177_28 : decode cJx4a65c_add_7a177 28 = .ok (.arraylength, 1) := by decide +kernel
theorem dJx4a65c_add_7a177_29 : decode cJx4a65c_add_7a177 29 = .ok (.if_icmp .ne 9, 3) := by decide +kernel
theorem dJx4a65c_add_7a177_32 : decode cJx4a65c_add_7a177 32 = .ok (.aload_n 0, 1) := by decide +kernel
theorem dJx4a65c_add_7a177_33 : decode cJx4a65c_add_7a177 33 = .ok (.invokevirtual 129, 3) := by decide +kernel
theorem dJx4a65c_add_7a177_36 : decode cJx4a65c_add_7a177 36 = .ok (.astore 4, 2) := by decide +kernel
theorem dJx4a65c_add_7a177_38 : decode cJx4a65c_add_7a177 38 = .ok (.aload 4, 2) := by decide +kernel
theorem dJx4a65c_add_7a177_40 : decode cJx4a65c_add_7a177 40 = .ok (.iload_n 1, 1) := by decide +kernel
theorem dJx4a65c_add_7a177_41 : decode cJx4a65c_add_7a177 41 = .ok (.aload 4, 2) := by decide +kernel
theorem dJx4a65c_add_7a177_43 : decode cJx4a65c_add_7a177 43 = .ok (.iload_n 1, 1) := by decide +kernel
theorem dJx4a65c_add_7a177_44 : decode cJx4a65c_add_7a177 44 = .ok (.iconst 1, 1) := by decide +kernel
theorem dJx4a65c_add_7a177_45 : decode cJx4a65c_add_7a177 45 = .ok (.iadd, 1) := by decide +kernel
theorem dJx4a65c_add_7a177_46 : decode cJx4a65c_add_7a177 46 = .ok (.iload_n 3, 1) := by decide +kernel
theorem dJx4a65c_add_7a177_47 : decode cJx4a65c_add_7a177 47 = .ok (.iload_n 1, 1) := by decide +kernel
theorem dJx4a65c_add_7a177_48 : decode cJx4a65c_add_7a177 48 = .ok (.isub, 1) := by decide +kernel
theorem dJx4a65c_add_7a177_49 : decode cJx4a65c_add_7a177 49 = .ok (.invokestatic 112, 3) := by decide +kernel
theorem dJx4a65c_add_7a177_52 : decode cJx4a65c_add_7a177 52 = .ok (.aload 4, 2) := by decide +kernel
theorem dJx4a65c_add_7a177_54 : decode cJx4a65c_add_7a177 54 = .ok (.iload_n 1, 1) := by decide +kernel
theorem dJx4a65c_add_7a177_55 : decode cJx4a65c_add_7a177 55 = .ok (.aload_n 2, 1) := by decide +kernel
theorem dJx4a65c_add_7a177_56 : decode cJx4a65c_add_7a177 56 = .ok (.aastore, 1) := by decide +kernel
theorem dJx4a65c_add_7a177_57 : decode cJx4a65c_add_7a177 57 = .ok (.aload_n 0, 1) := by decide +kernel
theorem dJx4a65c_add_7a177_58 : decode cJx4a65c_add_7a177 58 = .ok (.iload_n 3, 1) := by decide +kernel
theorem dJx4a65c_add_7a177_59 : decode cJx4a65c_add_7a177 59 = .ok (.iconst 1, 1) := by decide +kernel
theorem dJx4a65c_add_7a177_60 : decode cJx4a65c_add_7a177 60 = .ok (.iadd, 1) := by decide +kernel
theorem dJx4a65c_add_7a177_61 : decode cJx4a65c_add_7a177 61 = .ok (.putfield 48, 3) := by decide +kernel
theorem dJx4a65c_add_7a177_64 : decode cJx4a65c_add_7a177 64 = .ok (.return_, 1) := by decide +kernel
theorem dJx4a65c_remove_915e3_0 : decode cJx4a65c_remove_915e3 0 = .ok (.iload_n 1, 1) := by decide +kernel
theorem dJx4a65c_remove_915e3_1 : decode cJx4a65c_remove_915e3 1 = .ok (.aload_n 0, 1) := by decide +kernel
theorem dJx4a65c_remove_915e3_2 : decode cJx4a65c_remove_915e3 2 = .ok (.getfield 48, 3) := by decide +kernel
theorem dJx4a65c_remove_915e3_5 : decode cJx4a65c_remove_915e3 5 = .ok (.invokestatic 118, 3) := by decide +kernel
theorem dJx4a65c_remove_915e3_8 : decode cJx4a65c_remove_915e3 8 = .ok (.pop, 1) := by decide +kernel
theorem dJx4a65c_remove_915e3_9 : decode cJx4a65c_remove_915e3 9 = .ok (.aload_n 0, 1) := by decide +kernel
theorem dJx4a65c_remove_915e3_10 : decode cJx4a65c_remove_915e3 10 = .ok (.getfield 9, 3) := by decide +kernel
theorem dJx4a65c_remove_915e3_13 : decode cJx4a65c_remove_915e3 13 = .ok (.astore_n 2, 1) := by decide +kernel
theorem dJx4a65c_remove_915e3_14 : decode cJx4a65c_remove_915e3 14 = .ok (.aload_n 2, 1) := by decide +kernel
theorem dJx4a65c_remove_915e3_15 : decode cJx4a65c_remove_915e3 15 = .ok (.iload_n 1, 1) := by decide +kernel
theorem dJx4a65c_remove_915e3_16 : decode cJx4a65c_remove_915e3 16 = .ok (.aaload, 1) := by decide +kernel
theorem dJx4a65c_remove_915e3_17 : decode cJx4a65c_remove_915e3 17 = .ok (.astore_n 3, 1) := by decide +kernel
theorem dJx4a65c_remove_915e3_18 : decode cJx4a65c_remove_915e3 18 = .ok (.aload_n 0, 1) := by decide +kernel
theorem dJx4a65c_remove_915e3_19 : decode cJx4a65c_remove_915e3 19 = .ok (.aload_n 2, 1) := by decide +kernel
theorem dJx4a65c_remove_915e3_20 : decode cJx4a65c_remove_915e3 20 = .ok (.iload_n 1, 1) := by decide +kernel
theorem dJx4a65c_remove_915e3_21 : decode cJx4a65c_remove_915e3 21 = .ok (.invokevirtual 144, 3) := by decide +kernel
theorem dJx4a65c_remove_915e3_24 : decode cJx4a65c_remove_915e3 24 = .ok (.aload_n 3, 1) := by decide +kernel
theorem dJx4a65c_remove_915e3_25 : decode cJx4a65c_remove_915e3 25 = .ok (.areturn, 1) := by decide +kernel
theorem dJx4a65c_fastRemove_b59b0_0 : decode cJx4a65c_fastRemove_b59b0 0 = .ok (.aload_n 0, 1) := by decide +kernel
theorem dJx4a65c_fastRemove_b59b0_1 : decode cJx4a65c_fastRemove_b59b0 1 = .ok (.dup, 1) := by decide +kernel
theorem dJx4a65c_fastRemove_b59b0_2 : decode cJx4a65c_fastRemove_b59b0 2 = .ok (.getfield 63, 3) := by decide +kernel
theorem dJx4a65c_fastRemove_b59b0_5 : decode cJx4a65c_fastRemove_b59b0 5 = .ok (.iconst 1, 1) := by decide +kernel
theorem dJx4a65c_fastRemove_b59b0_6 : decode cJx4a65c_fastRemove_b59b0 6 = .ok (.iadd, 1) := by decide +kernel
theorem dJx4a65c_fastRemove_b59b0_7 : decode cJx4a65c_fastRemove_b59b0 7 = .ok (.putfield 63, 3) := by decide +kernel
theorem dJx4a65c_fastRemove_b59b0_10 : decode cJx4a65c_fastRemove_b59b0 10 = .ok (.aload_n 0, 1) := by decide +kernel
theorem dJx4a65c_fastRemove_b59b0_11 : decode cJx4a65c_fastRemove_b59b0 11 = .ok (.getfield 48, 3) := by decide +kernel
theorem dJx4a65c_fastRemove_b59b0_14 : decode cJx4a65c_fastRemove_b59b0 14 = .ok (.iconst 1, 1) := by decide +kernel
theorem dJx4a65c_fastRemove_b59b0_15 : decode cJx4a65c_fastRemove_b59b0 15 = .ok (.isub, 1) := by decide +kernel
theorem dJx4a65c_fastRemove_b59b0_16 : decode cJx4a65c_fastRemove_b59b0 16 = .ok (.dup, 1) := by decide +kernel
theorem dJx4a65c_fastRemove_b59b0_17 : decode cJx4a65c_fastRemove_b59b0 17 = .ok (.istore_n 3, 1) := by decide +kernel
theorem dJx4a65c_fastRemove_b59b0_18 : decode cJx4a65c_fastRemove_b59b0 18 = .ok (.iload_n 2, 1) := by decide +kernel
theorem dJx4a65c_fastRemove_b59b0_19 : decode cJx4a65c_fastRemove_b59b0 19 = .ok (.if_icmp .le 15, 3) := by decide +kernel
theorem dJx4a65c_fastRemove_b59b0_22 : decode cJx4a65c_fastRemove_b59b0 22 = .ok (.aload_n 1, 1) := by decide +kernel
theorem dJx4a65c_fastRemove_b59b0_23 : decode cJx4a65c_fastRemove_b59b0 23 = .ok (.iload_n 2, 1) := by decide +kernel
theorem dJx4a65c_fastRemove_b59b0_24 : decode cJx4a65c_fastRemove_b59b0 24 = .ok (.iconst 1, 1) := by decide +kernel
theorem dJx4a65c_fastRemove_b59b0_25 : decode cJx4a65c_fastRemove_b59b0 25 = .ok (.iadd, 1) := by decide +kernel
theorem dJx4a65c_fastRemove_b59b0_26 : decode cJx4a65c_fastRemove_b59b0 26 = .ok (.aload_n 1, 1) := by decide +kernel
theorem dJx4a65c_fastRemove_b59b0_27 : decode cJx4a65c_fastRemove_b59b0 27 = .ok (.iload_n 2, 1) := by decide +kernel
theorem dJx4a65c_fastRemove_b59b0_28 : decode cJx4a65c_fastRemove_b59b0 28 = .ok (.iload_n 3, 1) := by decide +kernel
theorem dJx4a65c_fastRemove_b59b0_29 : decode cJx4a65c_fastRemove_b59b0 29 = .ok (.iload_n 2, 1) := by decide +kernel
theorem dJx4a65c_fastRemove_b59b0_30 : decode cJx4a65c_fastRemove_b59b0 30 = .ok (.isub, 1) := by decide +kernel
theorem dJx4a65c_fastRemove_b59b0_31 : decode cJx4a65c_fastRemove_b59b0 31 = .ok (.invokestatic 112, 3) := by decide +kernel
theorem dJx4a65c_fastRemove_b59b0_34 : decode cJx4a65c_fastRemove_b59b0 34 = .ok (.aload_n 1, 1) := by decide +kernel
theorem dJx4a65c_fastRemove_b59b0_35 : decode cJx4a65c_fastRemove_b59b0 35 = .ok (.aload_n 0, 1) := by decide +kernel
theorem dJx4a65c_fastRemove_b59b0_36 : decode cJx4a65c_fastRemove_b59b0 36 = .ok (.iload_n 3, 1) := by decide +kernel
theorem dJx4a65c_fastRemove_b59b0_37 : decode cJx4a65c_fastRemove_b59b0 37 = .ok (.dup_x1, 1) := by decide +kernel
theorem dJx4a65c_fastRemove_b59b0_38 : decode cJx4a65c_fastRemove_b59b0 38 = .ok (.putfield 48, 3) := by decide +kernel
theorem dJx4a65c_fastRemove_b59b0_41 : decode cJx4a65c_fastRemove_b59b0 41 = .ok (.aconst_null, 1) := by decide +kernel
theorem dJx4a65c_fastRemove_b59b0_42 : decode cJx4a65c_fastRemove_b59b0 42 = .ok (.aastore, 1) := by decide +kernel
theorem dJx4a65c_fastRemove_b59b0_43 : decode cJx4a65c_fastRemove_b59b0 43 = .ok (.return_, 1) := by decide +kernel
theorem dJx4a65c_rangeCheckForAdd_d00df_0 : decode cJx4a65c_rangeCheckForAdd_d00df 0 = .ok (.iload_n 1, 1) := by decide +kernel
theorem dJx4a65c_rangeCheckForAdd_d00df_1 : decode cJx4a65c_rangeCheckForAdd_d00df 1 = .ok (.aload_n 0, 1) := by decide +kernel
theorem dJx4a65c_rangeCheckForAdd_d00df_2 : decode cJx4a65c_rangeCheckForAdd_d00df 2 = .ok (.getfield 48, 3) := by decide +kernel
theorem dJx4a65c_rangeCheckForAdd_d00df_5 : decode cJx4a65c_rangeCheckForAdd_d00df 5 = .ok (.if_icmp .gt 7, 3) := by decide +kernel
theorem dJx4a65c_rangeCheckForAdd_d00df_8 : decode cJx4a65c_rangeCheckForAdd_d00df 8 = .ok (.iload_n 1, 1) := by decide +kernel
theorem dJx4a65c_rangeCheckForAdd_d00df_9 : decode cJx4a65c_rangeCheckForAdd_d00df 9 = .ok (.ifCond .ge 16, 3) := by decide +kernel
theorem dJx4a65c_rangeCheckForAdd_d00df_12 : decode cJx4a65c_rangeCheckForAdd_d00df 12 = .ok (.new 187, 3) := by decide +kernel
theorem dJx4a65c_rangeCheckForAdd_d00df_15 : decode cJx4a65c_rangeCheckForAdd_d00df 15 = .ok (.dup, 1) := by decide +kernel
theorem dJx4a65c_rangeCheckForAdd_d00df_16 : decode cJx4a65c_rangeCheckForAdd_d00df 16 = .ok (.aload_n 0, 1) := by decide +kernel
theorem dJx4a65c_rangeCheckForAdd_d00df_17 : decode cJx4a65c_rangeCheckForAdd_d00df 17 = .ok (.iload_n 1, 1) := by decide +kernel
theorem dJx4a65c_rangeCheckForAdd_d00df_18 : decode cJx4a65c_rangeCheckForAdd_d00df 18 = .ok (.invokevirtual 198, 3) := by decide +kernel
theorem dJx4a65c_rangeCheckForAdd_d00df_21 : decode cJx4a65c_rangeCheckForAdd_d00df 21 = .ok (.invokespecial 193, 3) := by decide +kernel
theorem dJx4a65c_rangeCheckForAdd_d00df_24 : decode cJx4a65c_rangeCheckForAdd_d00df 24 = .ok (.athrow, 1) := by decide +kernel
theorem dJx4a65c_rangeCheckForAdd_d00df_25 : decode cJx4a65c_rangeCheckForAdd_d00df 25 = .ok (.return_, 1) := by decide +kernel
theorem dJ7_fill_d0a16_0 : decode cJ7_fill_d0a16 0 = .ok (.iconst 0, 1) := by decide +kernel
theorem dJ7_fill_d0a16_1 : decode cJ7_fill_d0a16 1 = .ok (.istore_n 3, 1) := by decide +kernel
theorem dJ7_fill_d0a16_2 : decode cJ7_fill_d0a16 2 = .ok (.aload_n 0, 1) := by decide +kernel
theorem dJ7_fill_d0a16_3 : decode cJ7_fill_d0a16 3 = .ok (.arraylength, 1) := by decide +kernel
theorem dJ7_fill_d0a16_4 : decode cJ7_fill_d0a16 4 = .ok (.istore 4, 2) := by decide +kernel
theorem dJ7_fill_d0a16_6 : decode cJ7_fill_d0a16 6 = .ok (.iload_n 3, 1) := by decide +kernel
theorem dJ7_fill_d0a16_7 : decode cJ7_fill_d0a16 7 = .ok (.iload 4, 2) := by decide +kernel
theorem dJ7_fill_d0a16_9 : decode cJ7_fill_d0a16 9 = .ok (.if_icmp .ge 13, 3) := by decide +kernel
theorem dJ7_fill_d0a16_12 : decode cJ7_fill_d0a16 12 = .ok (.aload_n 0, 1) := by decide +kernel
theorem dJ7_fill_d0a16_13 : decode cJ7_fill_d0a16 13 = .ok (.iload_n 3, 1) := by decide +kernel
theorem dJ7_fill_d0a16_14 : decode cJ7_fill_d0a16 14 = .ok (.lload_n 1, 1) := by decide +kernel
theorem dJ7_fill_d0a16_15 : decode cJ7_fill_d0a16 15 = .ok (.lastore, 1) := by decide +kernel
theorem dJ7_fill_d0a16_16 : decode cJ7_fill_d0a16 16 = .ok (.iinc 3 1, 3) := by decide +kernel
theorem dJ7_fill_d0a16_19 : decode cJ7_fill_d0a16 19 = .ok (.goto (-13), 3) := by decide +kernel
theorem dJ7_fill_d0a16_22 : decode cJ7_fill_d0a16 22 = .ok (.return_, 1) := by decide +kernel
theorem dJ15_checkIndex_7cf53_0 : decode cJ15_checkIndex_7cf53 0 = .ok (.iload_n 0, 1) := by decide +kernel
theorem dJ15_checkIndex_7cf53_1 : decode cJ15_checkIndex_7cf53 1 = .ok (.iload_n 1, 1) := by decide +kernel
theorem dJ15_checkIndex_7cf53_2 : decode cJ15_checkIndex_7cf53 2 = .ok (.aconst_null, 1) := by decide +kernel
theorem dJ15_checkIndex_7cf53_3 : decode cJ15_checkIndex_7cf53 3 = .ok (.invokestatic 105, 3) := by decide +kernel
theorem dJ15_checkIndex_7cf53_6 : decode cJ15_checkIndex_7cf53 6 = .ok (.ireturn, 1) := by decide +kernel
theorem dJ3_checkIndex_8e157_0 : decode cJ3_checkIndex_8e157 0 = .ok (.iload_n 0, 1) := by decide +kernel
theorem dJ3_checkIndex_8e157_1 : decode cJ3_checkIndex_8e157 1 = .ok (.ifCond .lt 8, 3) := by decide +kernel
theorem dJ3_checkIndex_8e157_4 : decode cJ3_checkIndex_8e157 4 = .ok (.iload_n 0, 1) := by decide +kernel
theorem dJ3_checkIndex_8e157_5 : decode cJ3_checkIndex_8e157 5 = .ok (.iload_n 1, 1) := by decide +kernel
theorem dJ3_checkIndex_8e157_6 : decode cJ3_checkIndex_8e157 6 = .ok (.if_icmp .lt 10, 3) := by decide +kernel
theorem dJ3_checkIndex_8e157_9 : decode cJ3_checkIndex_8e157 9 = .ok (.aload_n 2, 1) := by decide +kernel
theorem dJ3_checkIndex_8e157_10 : decode cJ3_checkIndex_8e157 10 = .ok (.iload_n 0, 1) := by decide +kernel
theorem dJ3_checkIndex_8e157_11 : decode cJ3_checkIndex_8e157 11 = .ok (.iload_n 1, 1) := by decide +kernel
theorem dJ3_checkIndex_8e157_12 : decode cJ3_checkIndex_8e157 12 = .ok (.invokestatic 95, 3) := by decide +kernel
theorem dJ3_checkIndex_8e157_15 : decode cJ3_checkIndex_8e157 15 = .ok (.athrow, 1) := by decide +kernel
theorem dJ3_checkIndex_8e157_16 : decode cJ3_checkIndex_8e157 16 = .ok (.iload_n 0, 1) := by decide +kernel
theorem dJ3_checkIndex_8e157_17 : decode cJ3_checkIndex_8e157 17 = .ok (.ireturn, 1) := by decide +kernel
