theorem d_AbC_init_0 : decode prog_24_method_1_code 0 = .ok (.aload_n 0, 1) := by decide +kernel
theorem d_AbC_init_1 : decode prog_24_method_1_code 1 = .ok (.invokespecial 1, 3) := by decide +kernel
theorem d_AbC_init_4 : decode prog_24_method_1_code 4 = .ok (.return_, 1) := by decide +kernel
theorem d_AbL_init_0 : decode prog_25_method_1_code 0 = .ok (.aload_n 0, 1) := by decide +kernel
theorem d_AbL_init_1 : decode prog_25_method_1_code 1 = .ok (.invokespecial 1, 3) := by decide +kernel
theorem d_AbL_init_4 : decode prog_25_method_1_code 4 = .ok (.aload_n 0, 1) := by decide +kernel
theorem d_AbL_init_5 : decode prog_25_method_1_code 5 = .ok (.iconst 0, 1) := by decide +kernel
theorem d_AbL_init_6 : decode prog_25_method_1_code 6 = .ok (.putfield 7, 3) := by decide +kernel
theorem d_AbL_init_9 : decode prog_25_method_1_code 9 = .ok (.return_, 1) := by decide +kernel
theorem d_AL_init_0 : decode prog_26_method_2_code 0 = .ok (.aload_n 0, 1) := by decide +kernel
theorem d_AL_init_1 : decode prog_26_method_2_code 1 = .ok (.invokespecial 1, 3) := by decide +kernel
theorem d_AL_init_4 : decode prog_26_method_2_code 4 = .ok (.aload_n 0, 1) := by decide +kernel
theorem d_AL_init_5 : decode prog_26_method_2_code 5 = .ok (.getstatic 39, 3) := by decide +kernel
theorem d_AL_init_8 : decode prog_26_method_2_code 8 = .ok (.putfield 9, 3) := by decide +kernel
theorem d_AL_init_11 : decode prog_26_method_2_code 11 = .ok (.return_, 1) := by decide +kernel
theorem d_AL_size_0 : decode prog_26_method_8_code 0 = .ok (.aload_n 0, 1) := by decide +kernel
theorem d_AL_size_1 : decode prog_26_method_8_code 1 = .ok (.getfield 48, 3) := by decide +kernel
theorem d_AL_size_4 : decode prog_26_method_8_code 4 = .ok (.ireturn, 1) := by decide +kernel
theorem d_AL_isEmpty_0 : decode prog_26_method_9_code 0 = .ok (.aload_n 0, 1) := by decide +kernel
theorem d_AL_isEmpty_1 : decode prog_26_method_9_code 1 = .ok (.getfield 48, 3) := by decide +kernel
theorem d_AL_isEmpty_4 : decode prog_26_method_9_code 4 = .ok (.ifCond .ne 7, 3) := by decide +kernel
theorem d_AL_isEmpty_7 : decode prog_26_method_9_code 7 = .ok (.iconst 1, 1) := by decide +kernel
theorem d_AL_isEmpty_8 : decode prog_26_method_9_code 8 = .ok (.goto 4, 3) := by decide +kernel
theorem d_AL_isEmpty_11 : decode prog_26_method_9_code 11 = .ok (.iconst 0, 1) := by decide +kernel
theorem d_AL_isEmpty_12 : decode prog_26_method_9_code 12 = .ok (.ireturn, 1) := by decide +kernel
theorem d_AL_elementData_0 : decode prog_26_method_18_code 0 = .ok (.aload_n 0, 1) := by decide +kernel
theorem d_AL_elementData_1 : decode prog_26_method_18_code 1 = .ok (.getfield 9, 3) := by decide +kernel
theorem d_AL_elementData_4 : decode prog_26_method_18_code 4 = .ok (.iload_n 1, 1) := by decide +kernel
theorem d_AL_elementData_5 : decode prog_26_method_18_code 5 = .ok (.aaload, 1) := by decide +kernel
theorem d_AL_elementData_6 : decode prog_26_method_18_code 6 = .ok (.areturn, 1) := by decide +kernel
theorem d_AL_get_0 : decode prog_26_method_20_code 0 = .ok (.iload_n 1, 1) := by decide +kernel
theorem d_AL_get_1 : decode prog_26_method_20_code 1 = .ok (.aload_n 0, 1) := by decide +kernel
theorem d_AL_get_2 : decode prog_26_method_20_code 2 = .ok (.getfield 48, 3) := by decide +kernel
theorem d_AL_get_5 : decode prog_26_method_20_code 5 = .ok (.invokestatic 118, 3) := by decide +kernel
theorem d_AL_get_8 : decode prog_26_method_20_code 8 = .ok (.pop, 1) := by decide +kernel
theorem d_AL_get_9 : decode prog_26_method_20_code 9 = .ok (.aload_n 0, 1) := by decide +kernel
theorem d_AL_get_10 : decode prog_26_method_20_code 10 = .ok (.iload_n 1, 1) := by decide +kernel
theorem d_AL_get_11 : decode prog_26_method_20_code 11 = .ok (.invokevirtual 123, 3) := by decide +kernel
theorem d_AL_get_14 : decode prog_26_method_20_code 14 = .ok (.areturn, 1) := by decide +kernel
theorem d_ASup_newLength_0 : decode prog_33_method_27_code 0 = .ok (.iload_n 0, 1) := by decide +kernel
theorem d_ASup_newLength_1 : decode prog_33_method_27_code 1 = .ok (.iload_n 1, 1) := by decide +kernel
theorem d_ASup_newLength_2 : decode prog_33_method_27_code 2 = .ok (.iload_n 2, 1) := by decide +kernel
theorem d_ASup_newLength_3 : decode prog_33_method_27_code 3 = .ok (.invokestatic 194, 3) := by decide +kernel
theorem d_ASup_newLength_6 : decode prog_33_method_27_code 6 = .ok (.iadd, 1) := by decide +kernel
theorem d_ASup_newLength_7 : decode prog_33_method_27_code 7 = .ok (.istore_n 3, 1) := by decide +kernel
theorem d_ASup_newLength_8 : decode prog_33_method_27_code 8 = .ok (.iconst 0, 1) := by decide +kernel
theorem d_ASup_newLength_9 : decode prog_33_method_27_code 9 = .ok (.iload_n 3, 1) := by decide +kernel
theorem d_ASup_newLength_10 : decode prog_33_method_27_code 10 = .ok (.if_icmp .ge 11, 3) := by decide +kernel
theorem d_ASup_newLength_13 : decode prog_33_method_27_code 13 = .ok (.iload_n 3, 1) := by decide +kernel
theorem d_ASup_newLength_14 : decode prog_33_method_27_code 14 = .ok (.ldc 200, 2) := by decide +kernel
theorem d_ASup_newLength_16 : decode prog_33_method_27_code 16 = .ok (.if_icmp .gt 5, 3) := by decide +kernel
theorem d_ASup_newLength_19 : decode prog_33_method_27_code 19 = .ok (.iload_n 3, 1) := by decide +kernel
theorem d_ASup_newLength_20 : decode prog_33_method_27_code 20 = .ok (.ireturn, 1) := by decide +kernel
theorem d_ASup_newLength_21 : decode prog_33_method_27_code 21 = .ok (.iload_n 0, 1) := by decide +kernel
theorem d_ASup_newLength_22 : decode prog_33_method_27_code 22 = .ok (.iload_n 1, 1) := by decide +kernel
theorem d_ASup_newLength_23 : decode prog_33_method_27_code 23 = .ok (.invokestatic 201, 3) := by decide +kernel
theorem d_ASup_newLength_26 : decode prog_33_method_27_code 26 = .ok (.ireturn, 1) := by decide +kernel
theorem d_Arr_copyOf3_0 : decode prog_27_method_120_code 0 = .ok (.aload_n 2, 1) := by decide +kernel
theorem d_Arr_copyOf3_1 : decode prog_27_method_120_code 1 = .ok (.ldc 110, 2) := by decide +kernel
theorem d_Arr_copyOf3_3 : decode prog_27_method_120_code 3 = .ok (.if_acmp .ne 10, 3) := by decide +kernel
theorem d_Arr_copyOf3_6 : decode prog_27_method_120_code 6 = .ok (.iload_n 1, 1) := by decide +kernel
theorem d_Arr_copyOf3_7 : decode prog_27_method_120_code 7 = .ok (.anewarray 2, 3) := by decide +kernel
theorem d_Arr_copyOf3_10 : decode prog_27_method_120_code 10 = .ok (.goto 14, 3) := by decide +kernel
theorem d_Arr_copyOf3_13 : decode prog_27_method_120_code 13 = .ok (.aload_n 2, 1) := by decide +kernel
theorem d_Arr_copyOf3_14 : decode prog_27_method_120_code 14 = .ok (.invokevirtual 90, 3) := by decide +kernel
theorem d_Arr_copyOf3_17 : decode prog_27_method_120_code 17 = .ok (.iload_n 1, 1) := by decide +kernel
theorem d_Arr_copyOf3_18 : decode prog_27_method_120_code 18 = .ok (.invokestatic 95, 3) := by decide +kernel
theorem d_Arr_copyOf3_21 : decode prog_27_method_120_code 21 = .ok (.checkcast 110, 3) := by decide +kernel
theorem d_Arr_copyOf3_24 : decode prog_27_method_120_code 24 = .ok (.astore_n 3, 1) := by decide +kernel
theorem d_Arr_copyOf3_25 : decode prog_27_method_120_code 25 = .ok (.aload_n 0, 1) := by decide +kernel
theorem d_Arr_copyOf3_26 : decode prog_27_method_120_code 26 = .ok (.iconst 0, 1) := by decide +kernel
theorem d_Arr_copyOf3_27 : decode prog_27_method_120_code 27 = .ok (.aload_n 3, 1) := by decide +kernel
theorem d_Arr_copyOf3_28 : decode prog_27_method_120_code 28 = .ok (.iconst 0, 1) := by decide +kernel
theorem d_Arr_copyOf3_29 : decode prog_27_method_120_code 29 = .ok (.aload_n 0, 1) := by decide +kernel
theorem d_Arr_copyOf3_30 : decode prog_27_method_120_code 30 = .ok (.arraylength, 1) := by decide +kernel
theorem d_Arr_copyOf3_31 : decode prog_27_method_120_code 31 = .ok (.iload_n 1, 1) := by decide +kernel
theorem d_Arr_copyOf3_32 : decode prog_27_method_120_code 32 = .ok (.invokestatic 304, 3) := by decide +kernel
theorem d_Arr_copyOf3_35 : decode prog_27_method_120_code 35 = .ok (.invokestatic 150, 3) := by decide +kernel
theorem d_Arr_copyOf3_38 : decode prog_27_method_120_code 38 = .ok (.aload_n 3, 1) := by decide +kernel
theorem d_Arr_copyOf3_39 : decode prog_27_method_120_code 39 = .ok (.areturn, 1) := by decide +kernel
theorem d_Arr_copyOf2_0 : decode prog_27_method_119_code 0 = .ok (.aload_n 0, 1) := by decide +kernel
theorem d_Arr_copyOf2_1 : decode prog_27_method_119_code 1 = .ok (.iload_n 1, 1) := by decide +kernel
theorem d_Arr_copyOf2_2 : decode prog_27_method_119_code 2 = .ok (.aload_n 0, 1) := by decide +kernel
theorem d_Arr_copyOf2_3 : decode prog_27_method_119_code 3 = .ok (.invokevirtual 86, 3) := by decide +kernel
theorem d_Arr_copyOf2_6 : decode prog_27_method_119_code 6 = .ok (.invokestatic 300, 3) := by decide +kernel
theorem d_Arr_copyOf2_9 : decode prog_27_method_119_code 9 = .ok (.areturn, 1) := by decide +kernel
theorem d_Arr_copyOf_0 : decode prog_27_method_124_code 0 = .ok (.iload_n 1, 1) := by decide +kernel
theorem d_Arr_copyOf_1 : decode prog_27_method_124_code 1 = .ok (.aload_n 0, 1) := by decide +kernel
theorem d_Arr_copyOf_2 : decode prog_27_method_124_code 2 = .ok (.arraylength, 1) := by decide +kernel
theorem d_Arr_copyOf_3 : decode prog_27_method_124_code 3 = .ok (.if_icmp .ne 11, 3) := by decide +kernel
theorem d_Arr_copyOf_6 : decode prog_27_method_124_code 6 = .ok (.aload_n 0, 1) := by decide +kernel
theorem d_Arr_copyOf_7 : decode prog_27_method_124_code 7 = .ok (.invokevirtual 319, 3) := by decide +kernel
theorem d_Arr_copyOf_10 : decode prog_27_method_124_code 10 = .ok (.checkcast 320, 3) := by decide +kernel
theorem d_Arr_copyOf_13 : decode prog_27_method_124_code 13 = .ok (.areturn, 1) := by decide +kernel
theorem d_Arr_copyOf_14 : decode prog_27_method_124_code 14 = .ok (.iload_n 1, 1) := by decide +kernel
theorem d_Arr_copyOf_15 : decode prog_27_method_124_code 15 = .ok (.newarray .long, 2) := by decide +kernel
theorem d_Arr_copyOf_17 : decode prog_27_method_124_code 17 = .ok (.astore_n 2, 1) := by decide +kernel
theorem d_Arr_copyOf_18 : decode prog_27_method_124_code 18 = .ok (.aload_n 0, 1) := by decide +kernel
theorem d_Arr_copyOf_19 : decode prog_27_method_124_code 19 = .ok (.iconst 0, 1) := by decide +kernel
theorem d_Arr_copyOf_20 : decode prog_27_method_124_code 20 = .ok (.aload_n 2, 1) := by decide +kernel
theorem d_Arr_copyOf_21 : decode prog_27_method_124_code 21 = .ok (.iconst 0, 1) := by decide +kernel
theorem d_Arr_copyOf_22 : decode prog_27_method_124_code 22 = .ok (.aload_n 0, 1) := by decide +kernel
theorem d_Arr_copyOf_23 : decode prog_27_method_124_code 23 = .ok (.arraylength, 1) := by decide +kernel
theorem d_Arr_copyOf_24 : decode prog_27_method_124_code 24 = .ok (.iload_n 1, 1) := by decide +kernel
theorem d_Arr_copyOf_25 : decode prog_27_method_124_code 25 = .ok (.invokestatic 304, 3) := by decide +kernel
theorem d_Arr_copyOf_28 : decode prog_27_method_124_code 28 = .ok (.invokestatic 150, 3) := by decide +kernel
theorem d_Arr_copyOf_31 : decode prog_27_method_124_code 31 = .ok (.aload_n 2, 1) := by decide +kernel
theorem d_Arr_copyOf_32 : decode prog_27_method_124_code 32 = .ok (.areturn, 1) := by decide +kernel
theorem d_AL_grow2_0 : decode prog_26_method_6_code 0 = .ok (.aload_n 0, 1) := by decide +kernel
theorem d_AL_grow2_1 : decode prog_26_method_6_code 1 = .ok (.getfield 9, 3) := by decide +kernel
theorem d_AL_grow2_4 : decode prog_26_method_6_code 4 = .ok (.arraylength, 1) := by decide +kernel
theorem d_AL_grow2_5 : decode prog_26_method_6_code 5 = .ok (.istore_n 2, 1) := by decide +kernel
theorem d_AL_grow2_6 : decode prog_26_method_6_code 6 = .ok (.iload_n 2, 1) := by decide +kernel
theorem d_AL_grow2_7 : decode prog_26_method_6_code 7 = .ok (.ifCond .gt 13, 3) := by decide +kernel
theorem d_AL_grow2_10 : decode prog_26_method_6_code 10 = .ok (.aload_n 0, 1) := by decide +kernel
theorem d_AL_grow2_11 : decode prog_26_method_6_code 11 = .ok (.getfield 9, 3) := by decide +kernel
theorem d_AL_grow2_14 : decode prog_26_method_6_code 14 = .ok (.getstatic 39, 3) := by decide +kernel
theorem d_AL_grow2_17 : decode prog_26_method_6_code 17 = .ok (.if_acmp .eq 28, 3) := by decide +kernel
theorem d_AL_grow2_20 : decode prog_26_method_6_code 20 = .ok (.iload_n 2, 1) := by decide +kernel
theorem d_AL_grow2_21 : decode prog_26_method_6_code 21 = .ok (.iload_n 1, 1) := by decide +kernel
theorem d_AL_grow2_22 : decode prog_26_method_6_code 22 = .ok (.iload_n 2, 1) := by decide +kernel
theorem d_AL_grow2_23 : decode prog_26_method_6_code 23 = .ok (.isub, 1) := by decide +kernel
theorem d_AL_grow2_24 : decode prog_26_method_6_code 24 = .ok (.iload_n 2, 1) := by decide +kernel
theorem d_AL_grow2_25 : decode prog_26_method_6_code 25 = .ok (.iconst 1, 1) := by decide +kernel
theorem d_AL_grow2_26 : decode prog_26_method_6_code 26 = .ok (.ishr, 1) := by decide +kernel
theorem d_AL_grow2_27 : decode prog_26_method_6_code 27 = .ok (.invokestatic 73, 3) := by decide +kernel
theorem d_AL_grow2_30 : decode prog_26_method_6_code 30 = .ok (.istore_n 3, 1) := by decide +kernel
theorem d_AL_grow2_31 : decode prog_26_method_6_code 31 = .ok (.aload_n 0, 1) := by decide +kernel
theorem d_AL_grow2_32 : decode prog_26_method_6_code 32 = .ok (.aload_n 0, 1) := by decide +kernel
theorem d_AL_grow2_33 : decode prog_26_method_6_code 33 = .ok (.getfield 9, 3) := by decide +kernel
theorem d_AL_grow2_36 : decode prog_26_method_6_code 36 = .ok (.iload_n 3, 1) := by decide +kernel
theorem d_AL_grow2_37 : decode prog_26_method_6_code 37 = .ok (.invokestatic 66, 3) := by decide +kernel
theorem d_AL_grow2_40 : decode prog_26_method_6_code 40 = .ok (.dup_x1, 1) := by decide +kernel
theorem d_AL_grow2_41 : decode prog_26_method_6_code 41 = .ok (.putfield 9, 3) := by decide +kernel
theorem d_AL_grow2_44 : decode prog_26_method_6_code 44 = .ok (.areturn, 1) := by decide +kernel
theorem d_AL_grow2_45 : decode prog_26_method_6_code 45 = .ok (.aload_n 0, 1) := by decide +kernel
theorem d_AL_grow2_46 : decode prog_26_method_6_code 46 = .ok (.bipush 10, 2) := by decide +kernel
theorem d_AL_grow2_48 : decode prog_26_method_6_code 48 = .ok (.iload_n 1, 1) := by decide +kernel
theorem d_AL_grow2_49 : decode prog_26_method_6_code 49 = .ok (.invokestatic 79, 3) := by decide +kernel
theorem d_AL_grow2_52 : decode prog_26_method_6_code 52 = .ok (.anewarray 7, 3) := by decide +kernel
theorem d_AL_grow2_55 : decode prog_26_method_6_code 55 = .ok (.dup_x1, 1) := by decide +kernel
theorem d_AL_grow2_56 : decode prog_26_method_6_code 56 = .ok (.putfield 9, 3) := by decide +kernel
theorem d_AL_grow2_59 : decode prog_26_method_6_code 59 = .ok (.areturn, 1) := by decide +kernel
theorem d_AL_grow_0 : decode prog_26_method_7_code 0 = .ok (.aload_n 0, 1) := by decide +kernel
theorem d_AL_grow_1 : decode prog_26_method_7_code 1 = .ok (.aload_n 0, 1) := by decide +kernel
theorem d_AL_grow_2 : decode prog_26_method_7_code 2 = .ok (.getfield 48, 3) := by decide +kernel
theorem d_AL_grow_5 : decode prog_26_method_7_code 5 = .ok (.iconst 1, 1) := by decide +kernel
theorem d_AL_grow_6 : decode prog_26_method_7_code 6 = .ok (.iadd, 1) := by decide +kernel
theorem d_AL_grow_7 : decode prog_26_method_7_code 7 = .ok (.invokevirtual 69, 3) := by decide +kernel
theorem d_AL_grow_10 : decode prog_26_method_7_code 10 = .ok (.areturn, 1) := by decide +kernel
theorem d_AL_add2_0 : decode prog_26_method_24_code 0 = .ok (.iload_n 3, 1) := by decide +kernel
theorem d_AL_add2_1 : decode prog_26_method_24_code 1 = .ok (.aload_n 2, 1) := by decide +kernel
theorem d_AL_add2_2 : decode prog_26_method_24_code 2 = .ok (.arraylength, 1) := by decide +kernel
theorem d_AL_add2_3 : decode prog_26_method_24_code 3 = .ok (.if_icmp .ne 8, 3) := by decide +kernel
theorem d_AL_add2_6 : decode prog_26_method_24_code 6 = .ok (.aload_n 0, 1) := by decide +kernel
theorem d_AL_add2_7 : decode prog_26_method_24_code 7 = .ok (.invokevirtual 129, 3) := by decide +kernel
theorem d_AL_add2_10 : decode prog_26_method_24_code 10 = .ok (.astore_n 2, 1) := by decide +kernel
theorem d_AL_add2_11 : decode prog_26_method_24_code 11 = .ok (.aload_n 2, 1) := by decide +kernel
theorem d_AL_add2_12 : decode prog_26_method_24_code 12 = .ok (.iload_n 3, 1) := by decide +kernel
theorem d_AL_add2_13 : decode prog_26_method_24_code 13 = .ok (.aload_n 1, 1) := by decide +kernel
theorem d_AL_add2_14 : decode prog_26_method_24_code 14 = .ok (.aastore, 1) := by decide +kernel
theorem d_AL_add2_15 : decode prog_26_method_24_code 15 = .ok (.aload_n 0, 1) := by decide +kernel
theorem d_AL_add2_16 : decode prog_26_method_24_code 16 = .ok (.iload_n 3, 1) := by decide +kernel
theorem d_AL_add2_17 : decode prog_26_method_24_code 17 = .ok (.iconst 1, 1) := by decide +kernel
theorem d_AL_add2_18 : decode prog_26_method_24_code 18 = .ok (.iadd, 1) := by decide +kernel
theorem d_AL_add2_19 : decode prog_26_method_24_code 19 = .ok (.putfield 48, 3) := by decide +kernel
theorem d_AL_add2_22 : decode prog_26_method_24_code 22 = .ok (.return_, 1) := by decide +kernel
theorem d_AL_add_0 : decode prog_26_method_25_code 0 = .ok (.aload_n 0, 1) := by decide +kernel
theorem d_AL_add_1 : decode prog_26_method_25_code 1 = .ok (.dup, 1) := by decide +kernel
theorem d_AL_add_2 : decode prog_26_method_25_code 2 = .ok (.getfield 63, 3) := by decide +kernel
theorem d_AL_add_5 : decode prog_26_method_25_code 5 = .ok (.iconst 1, 1) := by decide +kernel
theorem d_AL_add_6 : decode prog_26_method_25_code 6 = .ok (.iadd, 1) := by decide +kernel
theorem d_AL_add_7 : decode prog_26_method_25_code 7 = .ok (.putfield 63, 3) := by decide +kernel
theorem d_AL_add_10 : decode prog_26_method_25_code 10 = .ok (.aload_n 0, 1) := by decide +kernel
theorem d_AL_add_11 : decode prog_26_method_25_code 11 = .ok (.aload_n 1, 1) := by decide +kernel
theorem d_AL_add_12 : decode prog_26_method_25_code 12 = .ok (.aload_n 0, 1) := by decide +kernel
theorem d_AL_add_13 : decode prog_26_method_25_code 13 = .ok (.getfield 9, 3) := by decide +kernel
theorem d_AL_add_16 : decode prog_26_method_25_code 16 = .ok (.aload_n 0, 1) := by decide +kernel
theorem d_AL_add_17 : decode prog_26_method_25_code 17 = .ok (.getfield 48, 3) := by decide +kernel
theorem d_AL_add_20 : decode prog_26_method_25_code 20 = .ok (.invokevirtual 131, 3) := by decide +kernel
theorem d_AL_add_23 : decode prog_26_method_25_code 23 = .ok (.iconst 1, 1) := by decide +kernel
theorem d_AL_add_24 : decode prog_26_method_25_code 24 = .ok (.ireturn, 1) := by decide +kernel
theorem d_AL_rangeCheckForAdd_0 : decode prog_26_method_45_code 0 = .ok (.iload_n 1, 1) := by decide +kernel
theorem d_AL_rangeCheckForAdd_1 : decode prog_26_method_45_code 1 = .ok (.aload_n 0, 1) := by decide +kernel
theorem d_AL_rangeCheckForAdd_2 : decode prog_26_method_45_code 2 = .ok (.getfield 48, 3) := by decide +kernel
theorem d_AL_rangeCheckForAdd_5 : decode prog_26_method_45_code 5 = .ok (.if_icmp .gt 7, 3) := by decide +kernel
theorem d_AL_rangeCheckForAdd_8 : decode prog_26_method_45_code 8 = .ok (.iload_n 1, 1) := by decide +kernel
theorem d_AL_rangeCheckForAdd_9 : decode prog_26_method_45_code 9 = .ok (.ifCond .ge 16, 3) := by decide +kernel
theorem d_AL_rangeCheckForAdd_12 : decode prog_26_method_45_code 12 = .ok (.new 187, 3) := by decide +kernel
theorem d_AL_rangeCheckForAdd_15 : decode prog_26_method_45_code 15 = .ok (.dup, 1) := by decide +kernel
theorem d_AL_rangeCheckForAdd_16 : decode prog_26_method_45_code 16 = .ok (.aload_n 0, 1) := by decide +kernel
theorem d_AL_rangeCheckForAdd_17 : decode prog_26_method_45_code 17 = .ok (.iload_n 1, 1) := by decide +kernel
theorem d_AL_rangeCheckForAdd_18 : decode prog_26_method_45_code 18 = .ok (.invokevirtual 198, 3) := by decide +kernel
theorem d_AL_rangeCheckForAdd_21 : decode prog_26_method_45_code 21 = .ok (.invokespecial 193, 3) := by decide +kernel
theorem d_AL_rangeCheckForAdd_24 : decode prog_26_method_45_code 24 = .ok (.athrow, 1) := by decide +kernel
theorem d_AL_rangeCheckForAdd_25 : decode prog_26_method_45_code 25 = .ok (.return_, 1) := by decide +kernel
theorem d_AL_add3_0 : decode prog_26_method_26_code 0 = .ok (.aload_n 0, 1) := by decide +kernel
theorem d_AL_add3_1 : decode prog_26_method_26_code 1 = .ok (.iload_n 1, 1) := by decide +kernel
theorem d_AL_add3_2 : decode prog_26_method_26_code 2 = .ok (.invokevirtual 135, 3) := by decide +kernel
theorem d_AL_add3_5 : decode prog_26_method_26_code 5 = .ok (.aload_n 0, 1) := by decide +kernel
theorem d_AL_add3_6 : decode prog_26_method_26_code 6 = .ok (.dup, 1) := by decide +kernel
theorem d_AL_add3_7 : decode prog_26_method_26_code 7 = .ok (.getfield 63, 3) := by decide +kernel
theorem d_AL_add3_10 : decode prog_26_method_26_code 10 = .ok (.iconst 1, 1) := by decide +kernel
theorem d_AL_add3_11 : decode prog_26_method_26_code 11 = .ok (.iadd, 1) := by decide +kernel
theorem d_AL_add3_12 : decode prog_26_method_26_code 12 = .ok (.putfield 63, 3) := by decide +kernel
theorem d_AL_add3_15 : decode prog_26_method_26_code 15 = .ok (.aload_n 0, 1) := by decide +kernel
theorem d_AL_add3_16 : decode prog_26_method_26_code 16 = .ok (.getfield 48, 3) := by decide +kernel
theorem d_AL_add3_19 : decode prog_26_method_26_code 19 = .ok (.dup, 1) := by decide +kernel
theorem d_AL_add3_20 : decode prog_26_method_26_code 20 = .ok (.istore_n 3, 1) := by decide +kernel
theorem d_AL_add3_21 : decode prog_26_method_26_code 21 = .ok (.aload_n 0, 1) := by decide +kernel
theorem d_AL_add3_22 : decode prog_26_method_26_code 22 = .ok (.getfield 9, 3) := by decide +kernel
theorem d_AL_add3_25 : decode prog_26_method_26_code 25 = .ok (.dup, 1) := by decide +kernel
theorem d_AL_add3_26 : decode prog_26_method_26_code 26 = .ok (.astore 4, 2) := by decide +kernel
theorem d_AL_add3_28 : decode prog_26_method_26_code 28 = .ok (.arraylength, 1) := by decide +kernel
theorem d_AL_add3_29 : decode prog_26_method_26_code 29 = .ok (.if_icmp .ne 9, 3) := by decide +kernel
theorem d_AL_add3_32 : decode prog_26_method_26_code 32 = .ok (.aload_n 0, 1) := by decide +kernel
theorem d_AL_add3_33 : decode prog_26_method_26_code 33 = .ok (.invokevirtual 129, 3) := by decide +kernel
theorem d_AL_add3_36 : decode prog_26_method_26_code 36 = .ok (.astore 4, 2) := by decide +kernel
theorem d_AL_add3_38 : decode prog_26_method_26_code 38 = .ok (.aload 4, 2) := by decide +kernel
theorem d_AL_add3_40 : decode prog_26_method_26_code 40 = .ok (.iload_n 1, 1) := by decide +kernel
theorem d_AL_add3_41 : decode prog_26_method_26_code 41 = .ok (.aload 4, 2) := by decide +kernel
theorem d_AL_add3_43 : decode prog_26_method_26_code 43 = .ok (.iload_n 1, 1) := by decide +kernel
theorem d_AL_add3_44 : decode prog_26_method_26_code 44 = .ok (.iconst 1, 1) := by decide +kernel
theorem d_AL_add3_45 : decode prog_26_method_26_code 45 = .ok (.iadd, 1) := by decide +kernel
theorem d_AL_add3_46 : decode prog_26_method_26_code 46 = .ok (.iload_n 3, 1) := by decide +kernel
theorem d_AL_add3_47 : decode prog_26_method_26_code 47 = .ok (.iload_n 1, 1) := by decide +kernel
theorem d_AL_add3_48 : decode prog_26_method_26_code 48 = .ok (.isub, 1) := by decide +kernel
theorem d_AL_add3_49 : decode prog_26_method_26_code 49 = .ok (.invokestatic 112, 3) := by decide +kernel
theorem d_AL_add3_52 : decode prog_26_method_26_code 52 = .ok (.aload 4, 2) := by decide +kernel
theorem d_AL_add3_54 : decode prog_26_method_26_code 54 = .ok (.iload_n 1, 1) := by decide +kernel
theorem d_AL_add3_55 : decode prog_26_method_26_code 55 = .ok (.aload_n 2, 1) := by decide +kernel
theorem d_AL_add3_56 : decode prog_26_method_26_code 56 = .ok (.aastore, 1) := by decide +kernel
theorem d_AL_add3_57 : decode prog_26_method_26_code 57 = .ok (.aload_n 0, 1) := by decide +kernel
theorem d_AL_add3_58 : decode prog_26_method_26_code 58 = .ok (.iload_n 3, 1) := by decide +kernel
theorem d_AL_add3_59 : decode prog_26_method_26_code 59 = .ok (.iconst 1, 1) := by decide +kernel
theorem d_AL_add3_60 : decode prog_26_method_26_code 60 = .ok (.iadd, 1) := by decide +kernel
theorem d_AL_add3_61 : decode prog_26_method_26_code 61 = .ok (.putfield 48, 3) := by decide +kernel
theorem d_AL_add3_64 : decode prog_26_method_26_code 64 = .ok (.return_, 1) := by decide +kernel
theorem d_AL_fastRemove_0 : decode prog_26_method_39_code 0 = .ok (.aload_n 0, 1) := by decide +kernel
theorem d_AL_fastRemove_1 : decode prog_26_method_39_code 1 = .ok (.dup, 1) := by decide +kernel
theorem d_AL_fastRemove_2 : decode prog_26_method_39_code 2 = .ok (.getfield 63, 3) := by decide +kernel
theorem d_AL_fastRemove_5 : decode prog_26_method_39_code 5 = .ok (.iconst 1, 1) := by decide +kernel
theorem d_AL_fastRemove_6 : decode prog_26_method_39_code 6 = .ok (.iadd, 1) := by decide +kernel
theorem d_AL_fastRemove_7 : decode prog_26_method_39_code 7 = .ok (.putfield 63, 3) := by decide +kernel
theorem d_AL_fastRemove_10 : decode prog_26_method_39_code 10 = .ok (.aload_n 0, 1) := by decide +kernel
theorem d_AL_fastRemove_11 : decode prog_26_method_39_code 11 = .ok (.getfield 48, 3) := by decide +kernel
theorem d_AL_fastRemove_14 : decode prog_26_method_39_code 14 = .ok (.iconst 1, 1) := by decide +kernel
theorem d_AL_fastRemove_15 : decode prog_26_method_39_code 15 = .ok (.isub, 1) := by decide +kernel
theorem d_AL_fastRemove_16 : decode prog_26_method_39_code 16 = .ok (.dup, 1) := by decide +kernel
theorem d_AL_fastRemove_17 : decode prog_26_method_39_code 17 = .ok (.istore_n 3, 1) := by decide +kernel
theorem d_AL_fastRemove_18 : decode prog_26_method_39_code 18 = .ok (.iload_n 2, 1) := by decide +kernel
theorem d_AL_fastRemove_19 : decode prog_26_method_39_code 19 = .ok (.if_icmp .le 15, 3) := by decide +kernel
theorem d_AL_fastRemove_22 : decode prog_26_method_39_code 22 = .ok (.aload_n 1, 1) := by decide +kernel
theorem d_AL_fastRemove_23 : decode prog_26_method_39_code 23 = .ok (.iload_n 2, 1) := by decide +kernel
theorem d_AL_fastRemove_24 : decode prog_26_method_39_code 24 = .ok (.iconst 1, 1) := by decide +kernel
theorem d_AL_fastRemove_25 : decode prog_26_method_39_code 25 = .ok (.iadd, 1) := by decide +kernel
theorem d_AL_fastRemove_26 : decode prog_26_method_39_code 26 = .ok (.aload_n 1, 1) := by decide +kernel
theorem d_AL_fastRemove_27 : decode prog_26_method_39_code 27 = .ok (.iload_n 2, 1) := by decide +kernel
theorem d_AL_fastRemove_28 : decode prog_26_method_39_code 28 = .ok (.iload_n 3, 1) := by decide +kernel
theorem d_AL_fastRemove_29 : decode prog_26_method_39_code 29 = .ok (.iload_n 2, 1) := by decide +kernel
theorem d_AL_fastRemove_30 : decode prog_26_method_39_code 30 = .ok (.isub, 1) := by decide +kernel
theorem d_AL_fastRemove_31 : decode prog_26_method_39_code 31 = .ok (.invokestatic 112, 3) := by decide +kernel
theorem d_AL_fastRemove_34 : decode prog_26_method_39_code 34 = .ok (.aload_n 1, 1) := by decide +kernel
theorem d_AL_fastRemove_35 : decode prog_26_method_39_code 35 = .ok (.aload_n 0, 1) := by decide +kernel
theorem d_AL_fastRemove_36 : decode prog_26_method_39_code 36 = .ok (.iload_n 3, 1) := by decide +kernel
theorem d_AL_fastRemove_37 : decode prog_26_method_39_code 37 = .ok (.dup_x1, 1) := by decide +kernel
theorem d_AL_fastRemove_38 : decode prog_26_method_39_code 38 = .ok (.putfield 48, 3) := by decide +kernel
theorem d_AL_fastRemove_41 : decode prog_26_method_39_code 41 = .ok (.aconst_null, 1) := by decide +kernel
theorem d_AL_fastRemove_42 : decode prog_26_method_39_code 42 = .ok (.aastore, 1) := by decide +kernel
theorem d_AL_fastRemove_43 : decode prog_26_method_39_code 43 = .ok (.return_, 1) := by decide +kernel
theorem d_AL_remove_0 : decode prog_26_method_29_code 0 = .ok (.iload_n 1, 1) := by decide +kernel
theorem d_AL_remove_1 : decode prog_26_method_29_code 1 = .ok (.aload_n 0, 1) := by decide +kernel
theorem d_AL_remove_2 : decode prog_26_method_29_code 2 = .ok (.getfield 48, 3) := by decide +kernel
theorem d_AL_remove_5 : decode prog_26_method_29_code 5 = .ok (.invokestatic 118, 3) := by decide +kernel
theorem d_AL_remove_8 : decode prog_26_method_29_code 8 = .ok (.pop, 1) := by decide +kernel
theorem d_AL_remove_9 : decode prog_26_method_29_code 9 = .ok (.aload_n 0, 1) := by decide +kernel
theorem d_AL_remove_10 : decode prog_26_method_29_code 10 = .ok (.getfield 9, 3) := by decide +kernel
theorem d_AL_remove_13 : decode prog_26_method_29_code 13 = .ok (.astore_n 2, 1) := by decide +kernel
theorem d_AL_remove_14 : decode prog_26_method_29_code 14 = .ok (.aload_n 2, 1) := by decide +kernel
theorem d_AL_remove_15 : decode prog_26_method_29_code 15 = .ok (.iload_n 1, 1) := by decide +kernel
theorem d_AL_remove_16 : decode prog_26_method_29_code 16 = .ok (.aaload, 1) := by decide +kernel
theorem d_AL_remove_17 : decode prog_26_method_29_code 17 = .ok (.astore_n 3, 1) := by decide +kernel
theorem d_AL_remove_18 : decode prog_26_method_29_code 18 = .ok (.aload_n 0, 1) := by decide +kernel
theorem d_AL_remove_19 : decode prog_26_method_29_code 19 = .ok (.aload_n 2, 1) := by decide +kernel
theorem d_AL_remove_20 : decode prog_26_method_29_code 20 = .ok (.iload_n 1, 1) := by decide +kernel
theorem d_AL_remove_21 : decode prog_26_method_29_code 21 = .ok (.invokevirtual 144, 3) := by decide +kernel
theorem d_AL_remove_24 : decode prog_26_method_29_code 24 = .ok (.aload_n 3, 1) := by decide +kernel
theorem d_AL_remove_25 : decode prog_26_method_29_code 25 = .ok (.areturn, 1) := by decide +kernel
theorem d_AL_clear_0 : decode prog_26_method_40_code 0 = .ok (.aload_n 0, 1) := by decide +kernel
theorem d_AL_clear_1 : decode prog_26_method_40_code 1 = .ok (.dup, 1) := by decide +kernel
theorem d_AL_clear_2 : decode prog_26_method_40_code 2 = .ok (.getfield 63, 3) := by decide +kernel
theorem d_AL_clear_5 : decode prog_26_method_40_code 5 = .ok (.iconst 1, 1) := by decide +kernel
theorem d_AL_clear_6 : decode prog_26_method_40_code 6 = .ok (.iadd, 1) := by decide +kernel
theorem d_AL_clear_7 : decode prog_26_method_40_code 7 = .ok (.putfield 63, 3) := by decide +kernel
theorem d_AL_clear_10 : decode prog_26_method_40_code 10 = .ok (.aload_n 0, 1) := by decide +kernel
theorem d_AL_clear_11 : decode prog_26_method_40_code 11 = .ok (.getfield 9, 3) := by decide +kernel
theorem d_AL_clear_14 : decode prog_26_method_40_code 14 = .ok (.astore_n 1, 1) := by decide +kernel
theorem d_AL_clear_15 : decode prog_26_method_40_code 15 = .ok (.aload_n 0, 1) := by decide +kernel
theorem d_AL_clear_16 : decode prog_26_method_40_code 16 = .ok (.getfield 48, 3) := by decide +kernel
theorem d_AL_clear_19 : decode prog_26_method_40_code 19 = .ok (.istore_n 2, 1) := by decide +kernel
theorem d_AL_clear_20 : decode prog_26_method_40_code 20 = .ok (.aload_n 0, 1) := by decide +kernel
theorem d_AL_clear_21 : decode prog_26_method_40_code 21 = .ok (.iconst 0, 1) := by decide +kernel
theorem d_AL_clear_22 : decode prog_26_method_40_code 22 = .ok (.dup_x1, 1) := by decide +kernel
theorem d_AL_clear_23 : decode prog_26_method_40_code 23 = .ok (.putfield 48, 3) := by decide +kernel
theorem d_AL_clear_26 : decode prog_26_method_40_code 26 = .ok (.istore_n 3, 1) := by decide +kernel
theorem d_AL_clear_27 : decode prog_26_method_40_code 27 = .ok (.iload_n 3, 1) := by decide +kernel
theorem d_AL_clear_28 : decode prog_26_method_40_code 28 = .ok (.iload_n 2, 1) := by decide +kernel
theorem d_AL_clear_29 : decode prog_26_method_40_code 29 = .ok (.if_icmp .ge 13, 3) := by decide +kernel
theorem d_AL_clear_32 : decode prog_26_method_40_code 32 = .ok (.aload_n 1, 1) := by decide +kernel
theorem d_AL_clear_33 : decode prog_26_method_40_code 33 = .ok (.iload_n 3, 1) := by decide +kernel
theorem d_AL_clear_34 : decode prog_26_method_40_code 34 = .ok (.aconst_null, 1) := by decide +kernel
theorem d_AL_clear_35 : decode prog_26_method_40_code 35 = .ok (.aastore, 1) := by decide +kernel
theorem d_AL_clear_36 : decode prog_26_method_40_code 36 = .ok (.iinc 3 1, 3) := by decide +kernel
theorem d_AL_clear_39 : decode prog_26_method_40_code 39 = .ok (.goto (-12), 3) := by decide +kernel
theorem d_AL_clear_42 : decode prog_26_method_40_code 42 = .ok (.return_, 1) := by decide +kernel
theorem d_AL_set_0 : decode prog_26_method_23_code 0 = .ok (.iload_n 1, 1) := by decide +kernel
theorem d_AL_set_1 : decode prog_26_method_23_code 1 = .ok (.aload_n 0, 1) := by decide +kernel
theorem d_AL_set_2 : decode prog_26_method_23_code 2 = .ok (.getfield 48, 3) := by decide +kernel
theorem d_AL_set_5 : decode prog_26_method_23_code 5 = .ok (.invokestatic 118, 3) := by decide +kernel
theorem d_AL_set_8 : decode prog_26_method_23_code 8 = .ok (.pop, 1) := by decide +kernel
theorem d_AL_set_9 : decode prog_26_method_23_code 9 = .ok (.aload_n 0, 1) := by decide +kernel
theorem d_AL_set_10 : decode prog_26_method_23_code 10 = .ok (.iload_n 1, 1) := by decide +kernel
theorem d_AL_set_11 : decode prog_26_method_23_code 11 = .ok (.invokevirtual 123, 3) := by decide +kernel
theorem d_AL_set_14 : decode prog_26_method_23_code 14 = .ok (.astore_n 3, 1) := by decide +kernel
theorem d_AL_set_15 : decode prog_26_method_23_code 15 = .ok (.aload_n 0, 1) := by decide +kernel
theorem d_AL_set_16 : decode prog_26_method_23_code 16 = .ok (.getfield 9, 3) := by decide +kernel
theorem d_AL_set_19 : decode prog_26_method_23_code 19 = .ok (.iload_n 1, 1) := by decide +kernel
theorem d_AL_set_20 : decode prog_26_method_23_code 20 = .ok (.aload_n 2, 1) := by decide +kernel
theorem d_AL_set_21 : decode prog_26_method_23_code 21 = .ok (.aastore, 1) := by decide +kernel
theorem d_AL_set_22 : decode prog_26_method_23_code 22 = .ok (.aload_n 3, 1) := by decide +kernel
theorem d_AL_set_23 : decode prog_26_method_23_code 23 = .ok (.areturn, 1) := by decide +kernel
theorem d_Int_bitCount_0 : decode prog_17_method_49_code 0 = .ok (.iload_n 0, 1) := by decide +kernel
theorem d_Int_bitCount_1 : decode prog_17_method_49_code 1 = .ok (.iload_n 0, 1) := by decide +kernel
theorem d_Int_bitCount_2 : decode prog_17_method_49_code 2 = .ok (.iconst 1, 1) := by decide +kernel
theorem d_Int_bitCount_3 : decode prog_17_method_49_code 3 = .ok (.iushr, 1) := by decide +kernel
theorem d_Int_bitCount_4 : decode prog_17_method_49_code 4 = .ok (.ldc_w 265, 3) := by decide +kernel
theorem d_Int_bitCount_7 : decode prog_17_method_49_code 7 = .ok (.iand, 1) := by decide +kernel
theorem d_Int_bitCount_8 : decode prog_17_method_49_code 8 = .ok (.isub, 1) := by decide +kernel
theorem d_Int_bitCount_9 : decode prog_17_method_49_code 9 = .ok (.istore_n 0, 1) := by decide +kernel
theorem d_Int_bitCount_10 : decode prog_17_method_49_code 10 = .ok (.iload_n 0, 1) := by decide +kernel
theorem d_Int_bitCount_11 : decode prog_17_method_49_code 11 = .ok (.ldc_w 266, 3) := by decide +kernel
theorem d_Int_bitCount_14 : decode prog_17_method_49_code 14 = .ok (.iand, 1) := by decide +kernel
theorem d_Int_bitCount_15 : decode prog_17_method_49_code 15 = .ok (.iload_n 0, 1) := by decide +kernel
theorem d_Int_bitCount_16 : decode prog_17_method_49_code 16 = .ok (.iconst 2, 1) := by decide +kernel
theorem d_Int_bitCount_17 : decode prog_17_method_49_code 17 = .ok (.iushr, 1) := by decide +kernel
theorem d_Int_bitCount_18 : decode prog_17_method_49_code 18 = .ok (.ldc_w 266, 3) := by decide +kernel
theorem d_Int_bitCount_21 : decode prog_17_method_49_code 21 = .ok (.iand, 1) := by decide +kernel
theorem d_Int_bitCount_22 : decode prog_17_method_49_code 22 = .ok (.iadd, 1) := by decide +kernel
theorem d_Int_bitCount_23 : decode prog_17_method_49_code 23 = .ok (.istore_n 0, 1) := by decide +kernel
theorem d_Int_bitCount_24 : decode prog_17_method_49_code 24 = .ok (.iload_n 0, 1) := by decide +kernel
theorem d_Int_bitCount_25 : decode prog_17_method_49_code 25 = .ok (.iload_n 0, 1) := by decide +kernel
theorem d_Int_bitCount_26 : decode prog_17_method_49_code 26 = .ok (.iconst 4, 1) := by decide +kernel
theorem d_Int_bitCount_27 : decode prog_17_method_49_code 27 = .ok (.iushr, 1) := by decide +kernel
theorem d_Int_bitCount_28 : decode prog_17_method_49_code 28 = .ok (.iadd, 1) := by decide +kernel
theorem d_Int_bitCount_29 : decode prog_17_method_49_code 29 = .ok (.ldc_w 267, 3) := by decide +kernel
theorem d_Int_bitCount_32 : decode prog_17_method_49_code 32 = .ok (.iand, 1) := by decide +kernel
theorem d_Int_bitCount_33 : decode prog_17_method_49_code 33 = .ok (.istore_n 0, 1) := by decide +kernel
theorem d_Int_bitCount_34 : decode prog_17_method_49_code 34 = .ok (.iload_n 0, 1) := by decide +kernel
theorem d_Int_bitCount_35 : decode prog_17_method_49_code 35 = .ok (.iload_n 0, 1) := by decide +kernel
theorem d_Int_bitCount_36 : decode prog_17_method_49_code 36 = .ok (.bipush 8, 2) := by decide +kernel
theorem d_Int_bitCount_38 : decode prog_17_method_49_code 38 = .ok (.iushr, 1) := by decide +kernel
theorem d_Int_bitCount_39 : decode prog_17_method_49_code 39 = .ok (.iadd, 1) := by decide +kernel
theorem d_Int_bitCount_40 : decode prog_17_method_49_code 40 = .ok (.istore_n 0, 1) := by decide +kernel
theorem d_Int_bitCount_41 : decode prog_17_method_49_code 41 = .ok (.iload_n 0, 1) := by decide +kernel
theorem d_Int_bitCount_42 : decode prog_17_method_49_code 42 = .ok (.iload_n 0, 1) := by decide +kernel
theorem d_Int_bitCount_43 : decode prog_17_method_49_code 43 = .ok (.bipush 16, 2) := by decide +kernel
theorem d_Int_bitCount_45 : decode prog_17_method_49_code 45 = .ok (.iushr, 1) := by decide +kernel
theorem d_Int_bitCount_46 : decode prog_17_method_49_code 46 = .ok (.iadd, 1) := by decide +kernel
theorem d_Int_bitCount_47 : decode prog_17_method_49_code 47 = .ok (.istore_n 0, 1) := by decide +kernel
theorem d_Int_bitCount_48 : decode prog_17_method_49_code 48 = .ok (.iload_n 0, 1) := by decide +kernel
theorem d_Int_bitCount_49 : decode prog_17_method_49_code 49 = .ok (.bipush 63, 2) := by decide +kernel
theorem d_Int_bitCount_51 : decode prog_17_method_49_code 51 = .ok (.iand, 1) := by decide +kernel
theorem d_Int_bitCount_52 : decode prog_17_method_49_code 52 = .ok (.ireturn, 1) := by decide +kernel
