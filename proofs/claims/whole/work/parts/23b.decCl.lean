theorem d_P_init_0 : decode prog_1_method_1_code 0 = .ok (.aload_n 0, 1) := by decide +kernel
theorem d_P_init_1 : decode prog_1_method_1_code 1 = .ok (.invokespecial 1, 3) := by decide +kernel
theorem d_P_init_4 : decode prog_1_method_1_code 4 = .ok (.aload_n 0, 1) := by decide +kernel
theorem d_P_init_5 : decode prog_1_method_1_code 5 = .ok (.new 7, 3) := by decide +kernel
theorem d_P_init_8 : decode prog_1_method_1_code 8 = .ok (.dup, 1) := by decide +kernel
theorem d_P_init_9 : decode prog_1_method_1_code 9 = .ok (.invokespecial 9, 3) := by decide +kernel
theorem d_P_init_12 : decode prog_1_method_1_code 12 = .ok (.putfield 10, 3) := by decide +kernel
theorem d_P_init_15 : decode prog_1_method_1_code 15 = .ok (.aload_n 0, 1) := by decide +kernel
theorem d_P_init_16 : decode prog_1_method_1_code 16 = .ok (.bipush 12, 2) := by decide +kernel
theorem d_P_init_18 : decode prog_1_method_1_code 18 = .ok (.newarray .long, 2) := by decide +kernel
theorem d_P_init_20 : decode prog_1_method_1_code 20 = .ok (.putfield 16, 3) := by decide +kernel
theorem d_P_init_23 : decode prog_1_method_1_code 23 = .ok (.aload_n 0, 1) := by decide +kernel
theorem d_P_init_24 : decode prog_1_method_1_code 24 = .ok (.iconst 0, 1) := by decide +kernel
theorem d_P_init_25 : decode prog_1_method_1_code 25 = .ok (.putfield 20, 3) := by decide +kernel
theorem d_P_init_28 : decode prog_1_method_1_code 28 = .ok (.aload_n 0, 1) := by decide +kernel
theorem d_P_init_29 : decode prog_1_method_1_code 29 = .ok (.new 24, 3) := by decide +kernel
theorem d_P_init_32 : decode prog_1_method_1_code 32 = .ok (.dup, 1) := by decide +kernel
theorem d_P_init_33 : decode prog_1_method_1_code 33 = .ok (.invokespecial 26, 3) := by decide +kernel
theorem d_P_init_36 : decode prog_1_method_1_code 36 = .ok (.putfield 27, 3) := by decide +kernel
theorem d_P_init_39 : decode prog_1_method_1_code 39 = .ok (.aload_n 0, 1) := by decide +kernel
theorem d_P_init_40 : decode prog_1_method_1_code 40 = .ok (.new 31, 3) := by decide +kernel
theorem d_P_init_43 : decode prog_1_method_1_code 43 = .ok (.dup, 1) := by decide +kernel
theorem d_P_init_44 : decode prog_1_method_1_code 44 = .ok (.invokespecial 33, 3) := by decide +kernel
theorem d_P_init_47 : decode prog_1_method_1_code 47 = .ok (.putfield 34, 3) := by decide +kernel
theorem d_P_init_50 : decode prog_1_method_1_code 50 = .ok (.aload_n 0, 1) := by decide +kernel
theorem d_P_init_51 : decode prog_1_method_1_code 51 = .ok (.new 38, 3) := by decide +kernel
theorem d_P_init_54 : decode prog_1_method_1_code 54 = .ok (.dup, 1) := by decide +kernel
theorem d_P_init_55 : decode prog_1_method_1_code 55 = .ok (.invokespecial 40, 3) := by decide +kernel
theorem d_P_init_58 : decode prog_1_method_1_code 58 = .ok (.putfield 41, 3) := by decide +kernel
theorem d_P_init_61 : decode prog_1_method_1_code 61 = .ok (.aload_n 0, 1) := by decide +kernel
theorem d_P_init_62 : decode prog_1_method_1_code 62 = .ok (.new 45, 3) := by decide +kernel
theorem d_P_init_65 : decode prog_1_method_1_code 65 = .ok (.dup, 1) := by decide +kernel
theorem d_P_init_66 : decode prog_1_method_1_code 66 = .ok (.invokespecial 47, 3) := by decide +kernel
theorem d_P_init_69 : decode prog_1_method_1_code 69 = .ok (.putfield 48, 3) := by decide +kernel
theorem d_P_init_72 : decode prog_1_method_1_code 72 = .ok (.aload_n 0, 1) := by decide +kernel
theorem d_P_init_73 : decode prog_1_method_1_code 73 = .ok (.new 52, 3) := by decide +kernel
theorem d_P_init_76 : decode prog_1_method_1_code 76 = .ok (.dup, 1) := by decide +kernel
theorem d_P_init_77 : decode prog_1_method_1_code 77 = .ok (.invokespecial 54, 3) := by decide +kernel
theorem d_P_init_80 : decode prog_1_method_1_code 80 = .ok (.putfield 55, 3) := by decide +kernel
theorem d_P_init_83 : decode prog_1_method_1_code 83 = .ok (.aload_n 0, 1) := by decide +kernel
theorem d_P_init_84 : decode prog_1_method_1_code 84 = .ok (.new 59, 3) := by decide +kernel
theorem d_P_init_87 : decode prog_1_method_1_code 87 = .ok (.dup, 1) := by decide +kernel
theorem d_P_init_88 : decode prog_1_method_1_code 88 = .ok (.invokespecial 61, 3) := by decide +kernel
theorem d_P_init_91 : decode prog_1_method_1_code 91 = .ok (.putfield 62, 3) := by decide +kernel
theorem d_P_init_94 : decode prog_1_method_1_code 94 = .ok (.return_, 1) := by decide +kernel
theorem d_Pe_init_0 : decode prog_4_method_1_code 0 = .ok (.aload_n 0, 1) := by decide +kernel
theorem d_Pe_init_1 : decode prog_4_method_1_code 1 = .ok (.invokespecial 1, 3) := by decide +kernel
theorem d_Pe_init_4 : decode prog_4_method_1_code 4 = .ok (.aload_n 0, 1) := by decide +kernel
theorem d_Pe_init_5 : decode prog_4_method_1_code 5 = .ok (.new 7, 3) := by decide +kernel
theorem d_Pe_init_8 : decode prog_4_method_1_code 8 = .ok (.dup, 1) := by decide +kernel
theorem d_Pe_init_9 : decode prog_4_method_1_code 9 = .ok (.invokespecial 9, 3) := by decide +kernel
theorem d_Pe_init_12 : decode prog_4_method_1_code 12 = .ok (.putfield 10, 3) := by decide +kernel
theorem d_Pe_init_15 : decode prog_4_method_1_code 15 = .ok (.aload_n 0, 1) := by decide +kernel
theorem d_Pe_init_16 : decode prog_4_method_1_code 16 = .ok (.iconst 0, 1) := by decide +kernel
theorem d_Pe_init_17 : decode prog_4_method_1_code 17 = .ok (.putfield 16, 3) := by decide +kernel
theorem d_Pe_init_20 : decode prog_4_method_1_code 20 = .ok (.return_, 1) := by decide +kernel
theorem d_Sh_init_0 : decode prog_9_method_1_code 0 = .ok (.aload_n 0, 1) := by decide +kernel
theorem d_Sh_init_1 : decode prog_9_method_1_code 1 = .ok (.invokespecial 1, 3) := by decide +kernel
theorem d_Sh_init_4 : decode prog_9_method_1_code 4 = .ok (.aload_n 0, 1) := by decide +kernel
theorem d_Sh_init_5 : decode prog_9_method_1_code 5 = .ok (.new 7, 3) := by decide +kernel
theorem d_Sh_init_8 : decode prog_9_method_1_code 8 = .ok (.dup, 1) := by decide +kernel
theorem d_Sh_init_9 : decode prog_9_method_1_code 9 = .ok (.invokespecial 9, 3) := by decide +kernel
theorem d_Sh_init_12 : decode prog_9_method_1_code 12 = .ok (.putfield 10, 3) := by decide +kernel
theorem d_Sh_init_15 : decode prog_9_method_1_code 15 = .ok (.aload_n 0, 1) := by decide +kernel
theorem d_Sh_init_16 : decode prog_9_method_1_code 16 = .ok (.new 7, 3) := by decide +kernel
theorem d_Sh_init_19 : decode prog_9_method_1_code 19 = .ok (.dup, 1) := by decide +kernel
theorem d_Sh_init_20 : decode prog_9_method_1_code 20 = .ok (.invokespecial 9, 3) := by decide +kernel
theorem d_Sh_init_23 : decode prog_9_method_1_code 23 = .ok (.putfield 16, 3) := by decide +kernel
theorem d_Sh_init_26 : decode prog_9_method_1_code 26 = .ok (.return_, 1) := by decide +kernel
theorem d_Ma_init_0 : decode prog_3_method_1_code 0 = .ok (.aload_n 0, 1) := by decide +kernel
theorem d_Ma_init_1 : decode prog_3_method_1_code 1 = .ok (.invokespecial 1, 3) := by decide +kernel
theorem d_Ma_init_4 : decode prog_3_method_1_code 4 = .ok (.aload_n 0, 1) := by decide +kernel
theorem d_Ma_init_5 : decode prog_3_method_1_code 5 = .ok (.iconst 0, 1) := by decide +kernel
theorem d_Ma_init_6 : decode prog_3_method_1_code 6 = .ok (.putfield 7, 3) := by decide +kernel
theorem d_Ma_init_9 : decode prog_3_method_1_code 9 = .ok (.aload_n 0, 1) := by decide +kernel
theorem d_Ma_init_10 : decode prog_3_method_1_code 10 = .ok (.iconst 0, 1) := by decide +kernel
theorem d_Ma_init_11 : decode prog_3_method_1_code 11 = .ok (.putfield 13, 3) := by decide +kernel
theorem d_Ma_init_14 : decode prog_3_method_1_code 14 = .ok (.aload_n 0, 1) := by decide +kernel
theorem d_Ma_init_15 : decode prog_3_method_1_code 15 = .ok (.iconst 0, 1) := by decide +kernel
theorem d_Ma_init_16 : decode prog_3_method_1_code 16 = .ok (.putfield 16, 3) := by decide +kernel
theorem d_Ma_init_19 : decode prog_3_method_1_code 19 = .ok (.return_, 1) := by decide +kernel
theorem d_Qs_init_0 : decode prog_5_method_1_code 0 = .ok (.aload_n 0, 1) := by decide +kernel
theorem d_Qs_init_1 : decode prog_5_method_1_code 1 = .ok (.invokespecial 3, 3) := by decide +kernel
theorem d_Qs_init_4 : decode prog_5_method_1_code 4 = .ok (.aload_n 0, 1) := by decide +kernel
theorem d_Qs_init_5 : decode prog_5_method_1_code 5 = .ok (.new 9, 3) := by decide +kernel
theorem d_Qs_init_8 : decode prog_5_method_1_code 8 = .ok (.dup, 1) := by decide +kernel
theorem d_Qs_init_9 : decode prog_5_method_1_code 9 = .ok (.invokespecial 11, 3) := by decide +kernel
theorem d_Qs_init_12 : decode prog_5_method_1_code 12 = .ok (.putfield 12, 3) := by decide +kernel
theorem d_Qs_init_15 : decode prog_5_method_1_code 15 = .ok (.aload_n 0, 1) := by decide +kernel
theorem d_Qs_init_16 : decode prog_5_method_1_code 16 = .ok (.bipush 8, 2) := by decide +kernel
theorem d_Qs_init_18 : decode prog_5_method_1_code 18 = .ok (.newarray .int, 2) := by decide +kernel
theorem d_Qs_init_20 : decode prog_5_method_1_code 20 = .ok (.putfield 18, 3) := by decide +kernel
theorem d_Qs_init_23 : decode prog_5_method_1_code 23 = .ok (.aload_n 0, 1) := by decide +kernel
theorem d_Qs_init_24 : decode prog_5_method_1_code 24 = .ok (.iconst 0, 1) := by decide +kernel
theorem d_Qs_init_25 : decode prog_5_method_1_code 25 = .ok (.putfield 22, 3) := by decide +kernel
theorem d_Qs_init_28 : decode prog_5_method_1_code 28 = .ok (.return_, 1) := by decide +kernel
theorem d_Ra_init_0 : decode prog_6_method_1_code 0 = .ok (.aload_n 0, 1) := by decide +kernel
theorem d_Ra_init_1 : decode prog_6_method_1_code 1 = .ok (.invokespecial 3, 3) := by decide +kernel
theorem d_Ra_init_4 : decode prog_6_method_1_code 4 = .ok (.aload_n 0, 1) := by decide +kernel
theorem d_Ra_init_5 : decode prog_6_method_1_code 5 = .ok (.bipush 8, 2) := by decide +kernel
theorem d_Ra_init_7 : decode prog_6_method_1_code 7 = .ok (.bipush 12, 2) := by decide +kernel
theorem d_Ra_init_9 : decode prog_6_method_1_code 9 = .ok (.multianewarray 9 2, 4) := by decide +kernel
theorem d_Ra_init_13 : decode prog_6_method_1_code 13 = .ok (.putfield 11, 3) := by decide +kernel
theorem d_Ra_init_16 : decode prog_6_method_1_code 16 = .ok (.aload_n 0, 1) := by decide +kernel
theorem d_Ra_init_17 : decode prog_6_method_1_code 17 = .ok (.bipush 8, 2) := by decide +kernel
theorem d_Ra_init_19 : decode prog_6_method_1_code 19 = .ok (.newarray .int, 2) := by decide +kernel
theorem d_Ra_init_21 : decode prog_6_method_1_code 21 = .ok (.putfield 16, 3) := by decide +kernel
theorem d_Ra_init_24 : decode prog_6_method_1_code 24 = .ok (.aload_n 0, 1) := by decide +kernel
theorem d_Ra_init_25 : decode prog_6_method_1_code 25 = .ok (.iconst 0, 1) := by decide +kernel
theorem d_Ra_init_26 : decode prog_6_method_1_code 26 = .ok (.putfield 20, 3) := by decide +kernel
theorem d_Ra_init_29 : decode prog_6_method_1_code 29 = .ok (.aload_n 0, 1) := by decide +kernel
theorem d_Ra_init_30 : decode prog_6_method_1_code 30 = .ok (.iconst 0, 1) := by decide +kernel
theorem d_Ra_init_31 : decode prog_6_method_1_code 31 = .ok (.putfield 24, 3) := by decide +kernel
theorem d_Ra_init_34 : decode prog_6_method_1_code 34 = .ok (.return_, 1) := by decide +kernel
theorem d_Re_init_0 : decode prog_7_method_1_code 0 = .ok (.aload_n 0, 1) := by decide +kernel
theorem d_Re_init_1 : decode prog_7_method_1_code 1 = .ok (.invokespecial 3, 3) := by decide +kernel
theorem d_Re_init_4 : decode prog_7_method_1_code 4 = .ok (.aload_n 0, 1) := by decide +kernel
theorem d_Re_init_5 : decode prog_7_method_1_code 5 = .ok (.bipush 12, 2) := by decide +kernel
theorem d_Re_init_7 : decode prog_7_method_1_code 7 = .ok (.newarray .int, 2) := by decide +kernel
theorem d_Re_init_9 : decode prog_7_method_1_code 9 = .ok (.putfield 9, 3) := by decide +kernel
theorem d_Re_init_12 : decode prog_7_method_1_code 12 = .ok (.aload_n 0, 1) := by decide +kernel
theorem d_Re_init_13 : decode prog_7_method_1_code 13 = .ok (.bipush 12, 2) := by decide +kernel
theorem d_Re_init_15 : decode prog_7_method_1_code 15 = .ok (.newarray .int, 2) := by decide +kernel
theorem d_Re_init_17 : decode prog_7_method_1_code 17 = .ok (.putfield 15, 3) := by decide +kernel
theorem d_Re_init_20 : decode prog_7_method_1_code 20 = .ok (.aload_n 0, 1) := by decide +kernel
theorem d_Re_init_21 : decode prog_7_method_1_code 21 = .ok (.iconst 0, 1) := by decide +kernel
theorem d_Re_init_22 : decode prog_7_method_1_code 22 = .ok (.putfield 18, 3) := by decide +kernel
theorem d_Re_init_25 : decode prog_7_method_1_code 25 = .ok (.return_, 1) := by decide +kernel
theorem d_P_stem_0 : decode prog_1_method_2_code 0 = .ok (.lload_n 1, 1) := by decide +kernel
theorem d_P_stem_1 : decode prog_1_method_2_code 1 = .ok (.invokestatic 66, 3) := by decide +kernel
theorem d_P_stem_4 : decode prog_1_method_2_code 4 = .ok (.ifCond .eq 14, 3) := by decide +kernel
theorem d_P_stem_7 : decode prog_1_method_2_code 7 = .ok (.aload_n 0, 1) := by decide +kernel
theorem d_P_stem_8 : decode prog_1_method_2_code 8 = .ok (.getfield 10, 3) := by decide +kernel
theorem d_P_stem_11 : decode prog_1_method_2_code 11 = .ok (.lload_n 1, 1) := by decide +kernel
theorem d_P_stem_12 : decode prog_1_method_2_code 12 = .ok (.invokevirtual 70, 3) := by decide +kernel
theorem d_P_stem_15 : decode prog_1_method_2_code 15 = .ok (.goto 4, 3) := by decide +kernel
theorem d_P_stem_18 : decode prog_1_method_2_code 18 = .ok (.lconst 0, 1) := by decide +kernel
theorem d_P_stem_19 : decode prog_1_method_2_code 19 = .ok (.lreturn, 1) := by decide +kernel
theorem d_P_feed_0 : decode prog_1_method_3_code 0 = .ok (.aload_n 0, 1) := by decide +kernel
theorem d_P_feed_1 : decode prog_1_method_3_code 1 = .ok (.getfield 41, 3) := by decide +kernel
theorem d_P_feed_4 : decode prog_1_method_3_code 4 = .ok (.getfield 74, 3) := by decide +kernel
theorem d_P_feed_7 : decode prog_1_method_3_code 7 = .ok (.ifCond .eq 6, 3) := by decide +kernel
theorem d_P_feed_10 : decode prog_1_method_3_code 10 = .ok (.bipush (-9), 2) := by decide +kernel
theorem d_P_feed_12 : decode prog_1_method_3_code 12 = .ok (.ireturn, 1) := by decide +kernel
theorem d_P_feed_13 : decode prog_1_method_3_code 13 = .ok (.lload_n 1, 1) := by decide +kernel
theorem d_P_feed_14 : decode prog_1_method_3_code 14 = .ok (.invokestatic 66, 3) := by decide +kernel
theorem d_P_feed_17 : decode prog_1_method_3_code 17 = .ok (.ifCond .eq 12, 3) := by decide +kernel
theorem d_P_feed_20 : decode prog_1_method_3_code 20 = .ok (.aload_n 0, 1) := by decide +kernel
theorem d_P_feed_21 : decode prog_1_method_3_code 21 = .ok (.getfield 20, 3) := by decide +kernel
theorem d_P_feed_24 : decode prog_1_method_3_code 24 = .ok (.bipush 12, 2) := by decide +kernel
theorem d_P_feed_26 : decode prog_1_method_3_code 26 = .ok (.if_icmp .lt 5, 3) := by decide +kernel
theorem d_P_feed_29 : decode prog_1_method_3_code 29 = .ok (.iconst (-1), 1) := by decide +kernel
theorem d_P_feed_30 : decode prog_1_method_3_code 30 = .ok (.ireturn, 1) := by decide +kernel
theorem d_P_feed_31 : decode prog_1_method_3_code 31 = .ok (.aload_n 0, 1) := by decide +kernel
theorem d_P_feed_32 : decode prog_1_method_3_code 32 = .ok (.getfield 16, 3) := by decide +kernel
theorem d_P_feed_35 : decode prog_1_method_3_code 35 = .ok (.aload_n 0, 1) := by decide +kernel
theorem d_P_feed_36 : decode prog_1_method_3_code 36 = .ok (.getfield 20, 3) := by decide +kernel
theorem d_P_feed_39 : decode prog_1_method_3_code 39 = .ok (.aload_n 0, 1) := by decide +kernel
theorem d_P_feed_40 : decode prog_1_method_3_code 40 = .ok (.getfield 10, 3) := by decide +kernel
theorem d_P_feed_43 : decode prog_1_method_3_code 43 = .ok (.lload_n 1, 1) := by decide +kernel
theorem d_P_feed_44 : decode prog_1_method_3_code 44 = .ok (.invokevirtual 78, 3) := by decide +kernel
theorem d_P_feed_47 : decode prog_1_method_3_code 47 = .ok (.lastore, 1) := by decide +kernel
theorem d_P_feed_48 : decode prog_1_method_3_code 48 = .ok (.aload_n 0, 1) := by decide +kernel
theorem d_P_feed_49 : decode prog_1_method_3_code 49 = .ok (.dup, 1) := by decide +kernel
theorem d_P_feed_50 : decode prog_1_method_3_code 50 = .ok (.getfield 20, 3) := by decide +kernel
theorem d_P_feed_53 : decode prog_1_method_3_code 53 = .ok (.iconst 1, 1) := by decide +kernel
theorem d_P_feed_54 : decode prog_1_method_3_code 54 = .ok (.iadd, 1) := by decide +kernel
theorem d_P_feed_55 : decode prog_1_method_3_code 55 = .ok (.putfield 20, 3) := by decide +kernel
theorem d_P_feed_58 : decode prog_1_method_3_code 58 = .ok (.aload_n 0, 1) := by decide +kernel
theorem d_P_feed_59 : decode prog_1_method_3_code 59 = .ok (.getfield 20, 3) := by decide +kernel
theorem d_P_feed_62 : decode prog_1_method_3_code 62 = .ok (.ireturn, 1) := by decide +kernel
theorem d_P_add_0 : decode prog_1_method_4_code 0 = .ok (.aload_n 0, 1) := by decide +kernel
theorem d_P_add_1 : decode prog_1_method_4_code 1 = .ok (.getfield 41, 3) := by decide +kernel
theorem d_P_add_4 : decode prog_1_method_4_code 4 = .ok (.getfield 74, 3) := by decide +kernel
theorem d_P_add_7 : decode prog_1_method_4_code 7 = .ok (.ifCond .eq 6, 3) := by decide +kernel
theorem d_P_add_10 : decode prog_1_method_4_code 10 = .ok (.bipush (-9), 2) := by decide +kernel
theorem d_P_add_12 : decode prog_1_method_4_code 12 = .ok (.ireturn, 1) := by decide +kernel
theorem d_P_add_13 : decode prog_1_method_4_code 13 = .ok (.iload_n 1, 1) := by decide +kernel
theorem d_P_add_14 : decode prog_1_method_4_code 14 = .ok (.invokestatic 81, 3) := by decide +kernel
theorem d_P_add_17 : decode prog_1_method_4_code 17 = .ok (.ifCond .ne 5, 3) := by decide +kernel
theorem d_P_add_20 : decode prog_1_method_4_code 20 = .ok (.iconst (-1), 1) := by decide +kernel
theorem d_P_add_21 : decode prog_1_method_4_code 21 = .ok (.ireturn, 1) := by decide +kernel
theorem d_P_add_22 : decode prog_1_method_4_code 22 = .ok (.aload_n 0, 1) := by decide +kernel
theorem d_P_add_23 : decode prog_1_method_4_code 23 = .ok (.getfield 27, 3) := by decide +kernel
theorem d_P_add_26 : decode prog_1_method_4_code 26 = .ok (.new 85, 3) := by decide +kernel
theorem d_P_add_29 : decode prog_1_method_4_code 29 = .ok (.dup, 1) := by decide +kernel
theorem d_P_add_30 : decode prog_1_method_4_code 30 = .ok (.iload_n 1, 1) := by decide +kernel
theorem d_P_add_31 : decode prog_1_method_4_code 31 = .ok (.aload_n 0, 1) := by decide +kernel
theorem d_P_add_32 : decode prog_1_method_4_code 32 = .ok (.getfield 16, 3) := by decide +kernel
theorem d_P_add_35 : decode prog_1_method_4_code 35 = .ok (.aload_n 0, 1) := by decide +kernel
theorem d_P_add_36 : decode prog_1_method_4_code 36 = .ok (.getfield 20, 3) := by decide +kernel
theorem d_P_add_39 : decode prog_1_method_4_code 39 = .ok (.invokestatic 87, 3) := by decide +kernel
theorem d_P_add_42 : decode prog_1_method_4_code 42 = .ok (.invokespecial 93, 3) := by decide +kernel
theorem d_P_add_45 : decode prog_1_method_4_code 45 = .ok (.invokevirtual 96, 3) := by decide +kernel
theorem d_P_add_48 : decode prog_1_method_4_code 48 = .ok (.aload_n 0, 1) := by decide +kernel
theorem d_P_add_49 : decode prog_1_method_4_code 49 = .ok (.iconst 0, 1) := by decide +kernel
theorem d_P_add_50 : decode prog_1_method_4_code 50 = .ok (.putfield 20, 3) := by decide +kernel
theorem d_P_add_53 : decode prog_1_method_4_code 53 = .ok (.aload_n 0, 1) := by decide +kernel
theorem d_P_add_54 : decode prog_1_method_4_code 54 = .ok (.getfield 27, 3) := by decide +kernel
theorem d_P_add_57 : decode prog_1_method_4_code 57 = .ok (.invokevirtual 100, 3) := by decide +kernel
theorem d_P_add_60 : decode prog_1_method_4_code 60 = .ok (.ireturn, 1) := by decide +kernel
theorem d_P_isId_0 : decode prog_1_method_19_code 0 = .ok (.iload_n 0, 1) := by decide +kernel
theorem d_P_isId_1 : decode prog_1_method_19_code 1 = .ok (.ifCond .lt 13, 3) := by decide +kernel
theorem d_P_isId_4 : decode prog_1_method_19_code 4 = .ok (.iload_n 0, 1) := by decide +kernel
theorem d_P_isId_5 : decode prog_1_method_19_code 5 = .ok (.bipush 12, 2) := by decide +kernel
theorem d_P_isId_7 : decode prog_1_method_19_code 7 = .ok (.if_icmp .ge 7, 3) := by decide +kernel
theorem d_P_isId_10 : decode prog_1_method_19_code 10 = .ok (.iconst 1, 1) := by decide +kernel
theorem d_P_isId_11 : decode prog_1_method_19_code 11 = .ok (.goto 4, 3) := by decide +kernel
theorem d_P_isId_14 : decode prog_1_method_19_code 14 = .ok (.iconst 0, 1) := by decide +kernel
theorem d_P_isId_15 : decode prog_1_method_19_code 15 = .ok (.ireturn, 1) := by decide +kernel
theorem d_D_init_0 : decode prog_2_method_1_code 0 = .ok (.aload_n 0, 1) := by decide +kernel
theorem d_D_init_1 : decode prog_2_method_1_code 1 = .ok (.invokespecial 3, 3) := by decide +kernel
theorem d_D_init_4 : decode prog_2_method_1_code 4 = .ok (.aload_n 0, 1) := by decide +kernel
theorem d_D_init_5 : decode prog_2_method_1_code 5 = .ok (.iload_n 1, 1) := by decide +kernel
theorem d_D_init_6 : decode prog_2_method_1_code 6 = .ok (.putfield 9, 3) := by decide +kernel
theorem d_D_init_9 : decode prog_2_method_1_code 9 = .ok (.aload_n 0, 1) := by decide +kernel
theorem d_D_init_10 : decode prog_2_method_1_code 10 = .ok (.aload_n 2, 1) := by decide +kernel
theorem d_D_init_11 : decode prog_2_method_1_code 11 = .ok (.putfield 15, 3) := by decide +kernel
theorem d_D_init_14 : decode prog_2_method_1_code 14 = .ok (.return_, 1) := by decide +kernel
theorem d_Pe_putDocument_0 : decode prog_4_method_3_code 0 = .ok (.aload_n 0, 1) := by decide +kernel
theorem d_Pe_putDocument_1 : decode prog_4_method_3_code 1 = .ok (.aload_n 1, 1) := by decide +kernel
theorem d_Pe_putDocument_2 : decode prog_4_method_3_code 2 = .ok (.getfield 26, 3) := by decide +kernel
theorem d_Pe_putDocument_5 : decode prog_4_method_3_code 5 = .ok (.invokevirtual 31, 3) := by decide +kernel
theorem d_Pe_putDocument_8 : decode prog_4_method_3_code 8 = .ok (.aload_n 0, 1) := by decide +kernel
theorem d_Pe_putDocument_9 : decode prog_4_method_3_code 9 = .ok (.getfield 10, 3) := by decide +kernel
theorem d_Pe_putDocument_12 : decode prog_4_method_3_code 12 = .ok (.aload_n 1, 1) := by decide +kernel
theorem d_Pe_putDocument_13 : decode prog_4_method_3_code 13 = .ok (.invokevirtual 35, 3) := by decide +kernel
theorem d_Pe_putDocument_16 : decode prog_4_method_3_code 16 = .ok (.pop, 1) := by decide +kernel
theorem d_Pe_putDocument_17 : decode prog_4_method_3_code 17 = .ok (.aload_n 0, 1) := by decide +kernel
theorem d_Pe_putDocument_18 : decode prog_4_method_3_code 18 = .ok (.dup, 1) := by decide +kernel
theorem d_Pe_putDocument_19 : decode prog_4_method_3_code 19 = .ok (.getfield 16, 3) := by decide +kernel
theorem d_Pe_putDocument_22 : decode prog_4_method_3_code 22 = .ok (.iconst 1, 1) := by decide +kernel
theorem d_Pe_putDocument_23 : decode prog_4_method_3_code 23 = .ok (.aload_n 1, 1) := by decide +kernel
theorem d_Pe_putDocument_24 : decode prog_4_method_3_code 24 = .ok (.getfield 26, 3) := by decide +kernel
theorem d_Pe_putDocument_27 : decode prog_4_method_3_code 27 = .ok (.ishl, 1) := by decide +kernel
theorem d_Pe_putDocument_28 : decode prog_4_method_3_code 28 = .ok (.ior, 1) := by decide +kernel
theorem d_Pe_putDocument_29 : decode prog_4_method_3_code 29 = .ok (.putfield 16, 3) := by decide +kernel
theorem d_Pe_putDocument_32 : decode prog_4_method_3_code 32 = .ok (.return_, 1) := by decide +kernel
theorem d_Pe_dropDocument_0 : decode prog_4_method_5_code 0 = .ok (.aload_n 0, 1) := by decide +kernel
theorem d_Pe_dropDocument_1 : decode prog_4_method_5_code 1 = .ok (.getfield 10, 3) := by decide +kernel
theorem d_Pe_dropDocument_4 : decode prog_4_method_5_code 4 = .ok (.invokevirtual 39, 3) := by decide +kernel
theorem d_Pe_dropDocument_7 : decode prog_4_method_5_code 7 = .ok (.iconst 1, 1) := by decide +kernel
theorem d_Pe_dropDocument_8 : decode prog_4_method_5_code 8 = .ok (.isub, 1) := by decide +kernel
theorem d_Pe_dropDocument_9 : decode prog_4_method_5_code 9 = .ok (.istore_n 2, 1) := by decide +kernel
theorem d_Pe_dropDocument_10 : decode prog_4_method_5_code 10 = .ok (.iload_n 2, 1) := by decide +kernel
theorem d_Pe_dropDocument_11 : decode prog_4_method_5_code 11 = .ok (.ifCond .lt 36, 3) := by decide +kernel
theorem d_Pe_dropDocument_14 : decode prog_4_method_5_code 14 = .ok (.aload_n 0, 1) := by decide +kernel
theorem d_Pe_dropDocument_15 : decode prog_4_method_5_code 15 = .ok (.getfield 10, 3) := by decide +kernel
theorem d_Pe_dropDocument_18 : decode prog_4_method_5_code 18 = .ok (.iload_n 2, 1) := by decide +kernel
theorem d_Pe_dropDocument_19 : decode prog_4_method_5_code 19 = .ok (.invokevirtual 43, 3) := by decide +kernel
theorem d_Pe_dropDocument_22 : decode prog_4_method_5_code 22 = .ok (.checkcast 27, 3) := by decide +kernel
theorem d_Pe_dropDocument_25 : decode prog_4_method_5_code 25 = .ok (.getfield 26, 3) := by decide +kernel
theorem d_Pe_dropDocument_28 : decode prog_4_method_5_code 28 = .ok (.iload_n 1, 1) := by decide +kernel
theorem d_Pe_dropDocument_29 : decode prog_4_method_5_code 29 = .ok (.if_icmp .ne 12, 3) := by decide +kernel
theorem d_Pe_dropDocument_32 : decode prog_4_method_5_code 32 = .ok (.aload_n 0, 1) := by decide +kernel
theorem d_Pe_dropDocument_33 : decode prog_4_method_5_code 33 = .ok (.getfield 10, 3) := by decide +kernel
theorem d_Pe_dropDocument_36 : decode prog_4_method_5_code 36 = .ok (.iload_n 2, 1) := by decide +kernel
theorem d_Pe_dropDocument_37 : decode prog_4_method_5_code 37 = .ok (.invokevirtual 47, 3) := by decide +kernel
theorem d_Pe_dropDocument_40 : decode prog_4_method_5_code 40 = .ok (.pop, 1) := by decide +kernel
theorem d_Pe_dropDocument_41 : decode prog_4_method_5_code 41 = .ok (.iinc 2 (-1), 3) := by decide +kernel
theorem d_Pe_dropDocument_44 : decode prog_4_method_5_code 44 = .ok (.goto (-34), 3) := by decide +kernel
theorem d_Pe_dropDocument_47 : decode prog_4_method_5_code 47 = .ok (.return_, 1) := by decide +kernel
theorem d_Pe_idCount_0 : decode prog_4_method_2_code 0 = .ok (.aload_n 0, 1) := by decide +kernel
theorem d_Pe_idCount_1 : decode prog_4_method_2_code 1 = .ok (.getfield 16, 3) := by decide +kernel
theorem d_Pe_idCount_4 : decode prog_4_method_2_code 4 = .ok (.invokestatic 20, 3) := by decide +kernel
theorem d_Pe_idCount_7 : decode prog_4_method_2_code 7 = .ok (.ireturn, 1) := by decide +kernel
theorem d_P_delete_0 : decode prog_1_method_5_code 0 = .ok (.aload_n 0, 1) := by decide +kernel
theorem d_P_delete_1 : decode prog_1_method_5_code 1 = .ok (.getfield 41, 3) := by decide +kernel
theorem d_P_delete_4 : decode prog_1_method_5_code 4 = .ok (.getfield 74, 3) := by decide +kernel
theorem d_P_delete_7 : decode prog_1_method_5_code 7 = .ok (.ifCond .eq 6, 3) := by decide +kernel
theorem d_P_delete_10 : decode prog_1_method_5_code 10 = .ok (.bipush (-9), 2) := by decide +kernel
theorem d_P_delete_12 : decode prog_1_method_5_code 12 = .ok (.ireturn, 1) := by decide +kernel
theorem d_P_delete_13 : decode prog_1_method_5_code 13 = .ok (.iload_n 1, 1) := by decide +kernel
theorem d_P_delete_14 : decode prog_1_method_5_code 14 = .ok (.invokestatic 81, 3) := by decide +kernel
theorem d_P_delete_17 : decode prog_1_method_5_code 17 = .ok (.ifCond .ne 5, 3) := by decide +kernel
theorem d_P_delete_20 : decode prog_1_method_5_code 20 = .ok (.iconst (-1), 1) := by decide +kernel
theorem d_P_delete_21 : decode prog_1_method_5_code 21 = .ok (.ireturn, 1) := by decide +kernel
theorem d_P_delete_22 : decode prog_1_method_5_code 22 = .ok (.aload_n 0, 1) := by decide +kernel
theorem d_P_delete_23 : decode prog_1_method_5_code 23 = .ok (.getfield 27, 3) := by decide +kernel
theorem d_P_delete_26 : decode prog_1_method_5_code 26 = .ok (.iload_n 1, 1) := by decide +kernel
theorem d_P_delete_27 : decode prog_1_method_5_code 27 = .ok (.invokevirtual 104, 3) := by decide +kernel
theorem d_P_delete_30 : decode prog_1_method_5_code 30 = .ok (.aload_n 0, 1) := by decide +kernel
theorem d_P_delete_31 : decode prog_1_method_5_code 31 = .ok (.getfield 27, 3) := by decide +kernel
theorem d_P_delete_34 : decode prog_1_method_5_code 34 = .ok (.invokevirtual 100, 3) := by decide +kernel
theorem d_P_delete_37 : decode prog_1_method_5_code 37 = .ok (.ireturn, 1) := by decide +kernel
theorem d_Pe_putDeletion_0 : decode prog_4_method_4_code 0 = .ok (.aload_n 0, 1) := by decide +kernel
theorem d_Pe_putDeletion_1 : decode prog_4_method_4_code 1 = .ok (.iload_n 1, 1) := by decide +kernel
theorem d_Pe_putDeletion_2 : decode prog_4_method_4_code 2 = .ok (.invokevirtual 31, 3) := by decide +kernel
theorem d_Pe_putDeletion_5 : decode prog_4_method_4_code 5 = .ok (.aload_n 0, 1) := by decide +kernel
theorem d_Pe_putDeletion_6 : decode prog_4_method_4_code 6 = .ok (.dup, 1) := by decide +kernel
theorem d_Pe_putDeletion_7 : decode prog_4_method_4_code 7 = .ok (.getfield 16, 3) := by decide +kernel
theorem d_Pe_putDeletion_10 : decode prog_4_method_4_code 10 = .ok (.iconst 1, 1) := by decide +kernel
theorem d_Pe_putDeletion_11 : decode prog_4_method_4_code 11 = .ok (.iload_n 1, 1) := by decide +kernel
theorem d_Pe_putDeletion_12 : decode prog_4_method_4_code 12 = .ok (.ishl, 1) := by decide +kernel
theorem d_Pe_putDeletion_13 : decode prog_4_method_4_code 13 = .ok (.ior, 1) := by decide +kernel
theorem d_Pe_putDeletion_14 : decode prog_4_method_4_code 14 = .ok (.putfield 16, 3) := by decide +kernel
theorem d_Pe_putDeletion_17 : decode prog_4_method_4_code 17 = .ok (.return_, 1) := by decide +kernel
theorem d_P_commit_0 : decode prog_1_method_6_code 0 = .ok (.aload_n 0, 1) := by decide +kernel
theorem d_P_commit_1 : decode prog_1_method_6_code 1 = .ok (.getfield 41, 3) := by decide +kernel
theorem d_P_commit_4 : decode prog_1_method_6_code 4 = .ok (.getfield 74, 3) := by decide +kernel
theorem d_P_commit_7 : decode prog_1_method_6_code 7 = .ok (.ifCond .eq 6, 3) := by decide +kernel
theorem d_P_commit_10 : decode prog_1_method_6_code 10 = .ok (.bipush (-9), 2) := by decide +kernel
theorem d_P_commit_12 : decode prog_1_method_6_code 12 = .ok (.ireturn, 1) := by decide +kernel
theorem d_P_commit_13 : decode prog_1_method_6_code 13 = .ok (.aload_n 0, 1) := by decide +kernel
theorem d_P_commit_14 : decode prog_1_method_6_code 14 = .ok (.getfield 27, 3) := by decide +kernel
theorem d_P_commit_17 : decode prog_1_method_6_code 17 = .ok (.invokevirtual 100, 3) := by decide +kernel
theorem d_P_commit_20 : decode prog_1_method_6_code 20 = .ok (.ifCond .ne 5, 3) := by decide +kernel
theorem d_P_commit_23 : decode prog_1_method_6_code 23 = .ok (.iconst (-1), 1) := by decide +kernel
theorem d_P_commit_24 : decode prog_1_method_6_code 24 = .ok (.ireturn, 1) := by decide +kernel
theorem d_P_commit_25 : decode prog_1_method_6_code 25 = .ok (.aload_n 0, 1) := by decide +kernel
theorem d_P_commit_26 : decode prog_1_method_6_code 26 = .ok (.getfield 27, 3) := by decide +kernel
theorem d_P_commit_29 : decode prog_1_method_6_code 29 = .ok (.getfield 108, 3) := by decide +kernel
theorem d_P_commit_32 : decode prog_1_method_6_code 32 = .ok (.invokevirtual 112, 3) := by decide +kernel
theorem d_P_commit_35 : decode prog_1_method_6_code 35 = .ok (.ifCond .ne 21, 3) := by decide +kernel
theorem d_P_commit_38 : decode prog_1_method_6_code 38 = .ok (.aload_n 0, 1) := by decide +kernel
theorem d_P_commit_39 : decode prog_1_method_6_code 39 = .ok (.getfield 34, 3) := by decide +kernel
theorem d_P_commit_42 : decode prog_1_method_6_code 42 = .ok (.getfield 118, 3) := by decide +kernel
theorem d_P_commit_45 : decode prog_1_method_6_code 45 = .ok (.invokevirtual 121, 3) := by decide +kernel
theorem d_P_commit_48 : decode prog_1_method_6_code 48 = .ok (.bipush 6, 2) := by decide +kernel
theorem d_P_commit_50 : decode prog_1_method_6_code 50 = .ok (.if_icmp .lt 6, 3) := by decide +kernel
theorem d_P_commit_53 : decode prog_1_method_6_code 53 = .ok (.bipush (-2), 2) := by decide +kernel
theorem d_P_commit_55 : decode prog_1_method_6_code 55 = .ok (.ireturn, 1) := by decide +kernel
theorem d_P_commit_56 : decode prog_1_method_6_code 56 = .ok (.aload_n 0, 1) := by decide +kernel
theorem d_P_commit_57 : decode prog_1_method_6_code 57 = .ok (.getfield 34, 3) := by decide +kernel
theorem d_P_commit_60 : decode prog_1_method_6_code 60 = .ok (.aload_n 0, 1) := by decide +kernel
theorem d_P_commit_61 : decode prog_1_method_6_code 61 = .ok (.getfield 27, 3) := by decide +kernel
theorem d_P_commit_64 : decode prog_1_method_6_code 64 = .ok (.getfield 124, 3) := by decide +kernel
theorem d_P_commit_67 : decode prog_1_method_6_code 67 = .ok (.invokevirtual 127, 3) := by decide +kernel
theorem d_P_commit_70 : decode prog_1_method_6_code 70 = .ok (.ifCond .eq 7, 3) := by decide +kernel
theorem d_P_commit_73 : decode prog_1_method_6_code 73 = .ok (.iconst 1, 1) := by decide +kernel
theorem d_P_commit_74 : decode prog_1_method_6_code 74 = .ok (.goto 4, 3) := by decide +kernel
theorem d_P_commit_77 : decode prog_1_method_6_code 77 = .ok (.iconst 0, 1) := by decide +kernel
theorem d_P_commit_78 : decode prog_1_method_6_code 78 = .ok (.istore_n 1, 1) := by decide +kernel
theorem d_P_commit_79 : decode prog_1_method_6_code 79 = .ok (.aload_n 0, 1) := by decide +kernel
theorem d_P_commit_80 : decode prog_1_method_6_code 80 = .ok (.getfield 41, 3) := by decide +kernel
theorem d_P_commit_83 : decode prog_1_method_6_code 83 = .ok (.aload_n 0, 1) := by decide +kernel
theorem d_P_commit_84 : decode prog_1_method_6_code 84 = .ok (.getfield 27, 3) := by decide +kernel
theorem d_P_commit_87 : decode prog_1_method_6_code 87 = .ok (.getfield 108, 3) := by decide +kernel
theorem d_P_commit_90 : decode prog_1_method_6_code 90 = .ok (.invokevirtual 121, 3) := by decide +kernel
theorem d_P_commit_93 : decode prog_1_method_6_code 93 = .ok (.iload_n 1, 1) := by decide +kernel
theorem d_P_commit_94 : decode prog_1_method_6_code 94 = .ok (.iadd, 1) := by decide +kernel
theorem d_P_commit_95 : decode prog_1_method_6_code 95 = .ok (.iconst 1, 1) := by decide +kernel
theorem d_P_commit_96 : decode prog_1_method_6_code 96 = .ok (.iadd, 1) := by decide +kernel
theorem d_P_commit_97 : decode prog_1_method_6_code 97 = .ok (.invokevirtual 130, 3) := by decide +kernel
theorem d_P_commit_100 : decode prog_1_method_6_code 100 = .ok (.ifCond .eq 21, 3) := by decide +kernel
theorem d_P_commit_103 : decode prog_1_method_6_code 103 = .ok (.aload_n 0, 1) := by decide +kernel
theorem d_P_commit_104 : decode prog_1_method_6_code 104 = .ok (.getfield 34, 3) := by decide +kernel
theorem d_P_commit_107 : decode prog_1_method_6_code 107 = .ok (.aload_n 0, 1) := by decide +kernel
theorem d_P_commit_108 : decode prog_1_method_6_code 108 = .ok (.getfield 27, 3) := by decide +kernel
theorem d_P_commit_111 : decode prog_1_method_6_code 111 = .ok (.invokevirtual 133, 3) := by decide +kernel
theorem d_P_commit_114 : decode prog_1_method_6_code 114 = .ok (.aload_n 0, 1) := by decide +kernel
theorem d_P_commit_115 : decode prog_1_method_6_code 115 = .ok (.getfield 27, 3) := by decide +kernel
theorem d_P_commit_118 : decode prog_1_method_6_code 118 = .ok (.invokevirtual 137, 3) := by decide +kernel
theorem d_P_commit_121 : decode prog_1_method_6_code 121 = .ok (.aload_n 0, 1) := by decide +kernel
theorem d_P_commit_122 : decode prog_1_method_6_code 122 = .ok (.getfield 41, 3) := by decide +kernel
theorem d_P_commit_125 : decode prog_1_method_6_code 125 = .ok (.getfield 74, 3) := by decide +kernel
theorem d_P_commit_128 : decode prog_1_method_6_code 128 = .ok (.ifCond .eq 10, 3) := by decide +kernel
theorem d_P_commit_131 : decode prog_1_method_6_code 131 = .ok (.aload_n 0, 1) := by decide +kernel
theorem d_P_commit_132 : decode prog_1_method_6_code 132 = .ok (.invokevirtual 140, 3) := by decide +kernel
theorem d_P_commit_135 : decode prog_1_method_6_code 135 = .ok (.goto 13, 3) := by decide +kernel
theorem d_P_commit_138 : decode prog_1_method_6_code 138 = .ok (.aload_n 0, 1) := by decide +kernel
theorem d_P_commit_139 : decode prog_1_method_6_code 139 = .ok (.getfield 34, 3) := by decide +kernel
theorem d_P_commit_142 : decode prog_1_method_6_code 142 = .ok (.getfield 143, 3) := by decide +kernel
theorem d_P_commit_145 : decode prog_1_method_6_code 145 = .ok (.invokevirtual 121, 3) := by decide +kernel
theorem d_P_commit_148 : decode prog_1_method_6_code 148 = .ok (.ireturn, 1) := by decide +kernel
theorem d_Sh_hasLiveAmong_0 : decode prog_9_method_2_code 0 = .ok (.iconst 0, 1) := by decide +kernel
theorem d_Sh_hasLiveAmong_1 : decode prog_9_method_2_code 1 = .ok (.istore_n 2, 1) := by decide +kernel
theorem d_Sh_hasLiveAmong_2 : decode prog_9_method_2_code 2 = .ok (.iload_n 2, 1) := by decide +kernel
theorem d_Sh_hasLiveAmong_3 : decode prog_9_method_2_code 3 = .ok (.aload_n 0, 1) := by decide +kernel
theorem d_Sh_hasLiveAmong_4 : decode prog_9_method_2_code 4 = .ok (.getfield 16, 3) := by decide +kernel
theorem d_Sh_hasLiveAmong_7 : decode prog_9_method_2_code 7 = .ok (.invokevirtual 19, 3) := by decide +kernel
theorem d_Sh_hasLiveAmong_10 : decode prog_9_method_2_code 10 = .ok (.if_icmp .ge 32, 3) := by decide +kernel
theorem d_Sh_hasLiveAmong_13 : decode prog_9_method_2_code 13 = .ok (.aload_n 0, 1) := by decide +kernel
theorem d_Sh_hasLiveAmong_14 : decode prog_9_method_2_code 14 = .ok (.getfield 16, 3) := by decide +kernel
theorem d_Sh_hasLiveAmong_17 : decode prog_9_method_2_code 17 = .ok (.iload_n 2, 1) := by decide +kernel
theorem d_Sh_hasLiveAmong_18 : decode prog_9_method_2_code 18 = .ok (.invokevirtual 23, 3) := by decide +kernel
theorem d_Sh_hasLiveAmong_21 : decode prog_9_method_2_code 21 = .ok (.checkcast 27, 3) := by decide +kernel
theorem d_Sh_hasLiveAmong_24 : decode prog_9_method_2_code 24 = .ok (.getfield 29, 3) := by decide +kernel
theorem d_Sh_hasLiveAmong_27 : decode prog_9_method_2_code 27 = .ok (.iload_n 1, 1) := by decide +kernel
theorem d_Sh_hasLiveAmong_28 : decode prog_9_method_2_code 28 = .ok (.invokestatic 33, 3) := by decide +kernel
theorem d_Sh_hasLiveAmong_31 : decode prog_9_method_2_code 31 = .ok (.ifCond .eq 5, 3) := by decide +kernel
theorem d_Sh_hasLiveAmong_34 : decode prog_9_method_2_code 34 = .ok (.iconst 1, 1) := by decide +kernel
theorem d_Sh_hasLiveAmong_35 : decode prog_9_method_2_code 35 = .ok (.ireturn, 1) := by decide +kernel
theorem d_Sh_hasLiveAmong_36 : decode prog_9_method_2_code 36 = .ok (.iinc 2 1, 3) := by decide +kernel
theorem d_Sh_hasLiveAmong_39 : decode prog_9_method_2_code 39 = .ok (.goto (-37), 3) := by decide +kernel
theorem d_Sh_hasLiveAmong_42 : decode prog_9_method_2_code 42 = .ok (.iconst 0, 1) := by decide +kernel
theorem d_Sh_hasLiveAmong_43 : decode prog_9_method_2_code 43 = .ok (.ireturn, 1) := by decide +kernel
theorem d_P_isAmong_0 : decode prog_1_method_20_code 0 = .ok (.iload_n 1, 1) := by decide +kernel
theorem d_P_isAmong_1 : decode prog_1_method_20_code 1 = .ok (.iload_n 0, 1) := by decide +kernel
theorem d_P_isAmong_2 : decode prog_1_method_20_code 2 = .ok (.ishr, 1) := by decide +kernel
theorem d_P_isAmong_3 : decode prog_1_method_20_code 3 = .ok (.iconst 1, 1) := by decide +kernel
theorem d_P_isAmong_4 : decode prog_1_method_20_code 4 = .ok (.iand, 1) := by decide +kernel
theorem d_P_isAmong_5 : decode prog_1_method_20_code 5 = .ok (.iconst 1, 1) := by decide +kernel
theorem d_P_isAmong_6 : decode prog_1_method_20_code 6 = .ok (.if_icmp .ne 7, 3) := by decide +kernel
theorem d_P_isAmong_9 : decode prog_1_method_20_code 9 = .ok (.iconst 1, 1) := by decide +kernel
theorem d_P_isAmong_10 : decode prog_1_method_20_code 10 = .ok (.goto 4, 3) := by decide +kernel
theorem d_P_isAmong_13 : decode prog_1_method_20_code 13 = .ok (.iconst 0, 1) := by decide +kernel
theorem d_P_isAmong_14 : decode prog_1_method_20_code 14 = .ok (.ireturn, 1) := by decide +kernel
theorem d_Ma_writeBlocks_0 : decode prog_3_method_2_code 0 = .ok (.iconst 0, 1) := by decide +kernel
theorem d_Ma_writeBlocks_1 : decode prog_3_method_2_code 1 = .ok (.istore_n 2, 1) := by decide +kernel
theorem d_Ma_writeBlocks_2 : decode prog_3_method_2_code 2 = .ok (.iload_n 2, 1) := by decide +kernel
theorem d_Ma_writeBlocks_3 : decode prog_3_method_2_code 3 = .ok (.iload_n 1, 1) := by decide +kernel
theorem d_Ma_writeBlocks_4 : decode prog_3_method_2_code 4 = .ok (.if_icmp .ge 22, 3) := by decide +kernel
theorem d_Ma_writeBlocks_7 : decode prog_3_method_2_code 7 = .ok (.aload_n 0, 1) := by decide +kernel
theorem d_Ma_writeBlocks_8 : decode prog_3_method_2_code 8 = .ok (.getfield 16, 3) := by decide +kernel
theorem d_Ma_writeBlocks_11 : decode prog_3_method_2_code 11 = .ok (.ifCond .eq 5, 3) := by decide +kernel
theorem d_Ma_writeBlocks_14 : decode prog_3_method_2_code 14 = .ok (.iconst 0, 1) := by decide +kernel
theorem d_Ma_writeBlocks_15 : decode prog_3_method_2_code 15 = .ok (.ireturn, 1) := by decide +kernel
theorem d_Ma_writeBlocks_16 : decode prog_3_method_2_code 16 = .ok (.aload_n 0, 1) := by decide +kernel
theorem d_Ma_writeBlocks_17 : decode prog_3_method_2_code 17 = .ok (.invokevirtual 20, 3) := by decide +kernel
theorem d_Ma_writeBlocks_20 : decode prog_3_method_2_code 20 = .ok (.iinc 2 1, 3) := by decide +kernel
theorem d_Ma_writeBlocks_23 : decode prog_3_method_2_code 23 = .ok (.goto (-21), 3) := by decide +kernel
theorem d_Ma_writeBlocks_26 : decode prog_3_method_2_code 26 = .ok (.iconst 1, 1) := by decide +kernel
theorem d_Ma_writeBlocks_27 : decode prog_3_method_2_code 27 = .ok (.ireturn, 1) := by decide +kernel
theorem d_Ma_writeBlock_0 : decode prog_3_method_3_code 0 = .ok (.aload_n 0, 1) := by decide +kernel
theorem d_Ma_writeBlock_1 : decode prog_3_method_3_code 1 = .ok (.dup, 1) := by decide +kernel
theorem d_Ma_writeBlock_2 : decode prog_3_method_3_code 2 = .ok (.getfield 7, 3) := by decide +kernel
theorem d_Ma_writeBlock_5 : decode prog_3_method_3_code 5 = .ok (.iconst 1, 1) := by decide +kernel
theorem d_Ma_writeBlock_6 : decode prog_3_method_3_code 6 = .ok (.iadd, 1) := by decide +kernel
theorem d_Ma_writeBlock_7 : decode prog_3_method_3_code 7 = .ok (.putfield 7, 3) := by decide +kernel
theorem d_Ma_writeBlock_10 : decode prog_3_method_3_code 10 = .ok (.aload_n 0, 1) := by decide +kernel
theorem d_Ma_writeBlock_11 : decode prog_3_method_3_code 11 = .ok (.getfield 13, 3) := by decide +kernel
theorem d_Ma_writeBlock_14 : decode prog_3_method_3_code 14 = .ok (.ifCond .le 29, 3) := by decide +kernel
theorem d_Ma_writeBlock_17 : decode prog_3_method_3_code 17 = .ok (.aload_n 0, 1) := by decide +kernel
theorem d_Ma_writeBlock_18 : decode prog_3_method_3_code 18 = .ok (.dup, 1) := by decide +kernel
theorem d_Ma_writeBlock_19 : decode prog_3_method_3_code 19 = .ok (.getfield 13, 3) := by decide +kernel
theorem d_Ma_writeBlock_22 : decode prog_3_method_3_code 22 = .ok (.iconst 1, 1) := by decide +kernel
theorem d_Ma_writeBlock_23 : decode prog_3_method_3_code 23 = .ok (.isub, 1) := by decide +kernel
theorem d_Ma_writeBlock_24 : decode prog_3_method_3_code 24 = .ok (.putfield 13, 3) := by decide +kernel
theorem d_Ma_writeBlock_27 : decode prog_3_method_3_code 27 = .ok (.aload_n 0, 1) := by decide +kernel
theorem d_Ma_writeBlock_28 : decode prog_3_method_3_code 28 = .ok (.aload_n 0, 1) := by decide +kernel
theorem d_Ma_writeBlock_29 : decode prog_3_method_3_code 29 = .ok (.getfield 13, 3) := by decide +kernel
theorem d_Ma_writeBlock_32 : decode prog_3_method_3_code 32 = .ok (.ifCond .ne 7, 3) := by decide +kernel
theorem d_Ma_writeBlock_35 : decode prog_3_method_3_code 35 = .ok (.iconst 1, 1) := by decide +kernel
theorem d_Ma_writeBlock_36 : decode prog_3_method_3_code 36 = .ok (.goto 4, 3) := by decide +kernel
theorem d_Ma_writeBlock_39 : decode prog_3_method_3_code 39 = .ok (.iconst 0, 1) := by decide +kernel
theorem d_Ma_writeBlock_40 : decode prog_3_method_3_code 40 = .ok (.putfield 16, 3) := by decide +kernel
theorem d_Ma_writeBlock_43 : decode prog_3_method_3_code 43 = .ok (.return_, 1) := by decide +kernel
theorem d_Sh_takeIn_0 : decode prog_9_method_3_code 0 = .ok (.aload_n 0, 1) := by decide +kernel
theorem d_Sh_takeIn_1 : decode prog_9_method_3_code 1 = .ok (.aload_n 1, 1) := by decide +kernel
theorem d_Sh_takeIn_2 : decode prog_9_method_3_code 2 = .ok (.getfield 39, 3) := by decide +kernel
theorem d_Sh_takeIn_5 : decode prog_9_method_3_code 5 = .ok (.invokevirtual 44, 3) := by decide +kernel
theorem d_Sh_takeIn_8 : decode prog_9_method_3_code 8 = .ok (.aload_n 1, 1) := by decide +kernel
theorem d_Sh_takeIn_9 : decode prog_9_method_3_code 9 = .ok (.getfield 48, 3) := by decide +kernel
theorem d_Sh_takeIn_12 : decode prog_9_method_3_code 12 = .ok (.invokevirtual 51, 3) := by decide +kernel
theorem d_Sh_takeIn_15 : decode prog_9_method_3_code 15 = .ok (.ifCond .ne 11, 3) := by decide +kernel
theorem d_Sh_takeIn_18 : decode prog_9_method_3_code 18 = .ok (.aload_n 0, 1) := by decide +kernel
theorem d_Sh_takeIn_19 : decode prog_9_method_3_code 19 = .ok (.aload_n 1, 1) := by decide +kernel
theorem d_Sh_takeIn_20 : decode prog_9_method_3_code 20 = .ok (.getfield 48, 3) := by decide +kernel
theorem d_Sh_takeIn_23 : decode prog_9_method_3_code 23 = .ok (.invokevirtual 55, 3) := by decide +kernel
theorem d_Sh_takeIn_26 : decode prog_9_method_3_code 26 = .ok (.return_, 1) := by decide +kernel
theorem d_Sh_markDeleted_0 : decode prog_9_method_4_code 0 = .ok (.iconst 0, 1) := by decide +kernel
theorem d_Sh_markDeleted_1 : decode prog_9_method_4_code 1 = .ok (.istore_n 2, 1) := by decide +kernel
theorem d_Sh_markDeleted_2 : decode prog_9_method_4_code 2 = .ok (.iload_n 2, 1) := by decide +kernel
theorem d_Sh_markDeleted_3 : decode prog_9_method_4_code 3 = .ok (.aload_n 0, 1) := by decide +kernel
theorem d_Sh_markDeleted_4 : decode prog_9_method_4_code 4 = .ok (.getfield 10, 3) := by decide +kernel
theorem d_Sh_markDeleted_7 : decode prog_9_method_4_code 7 = .ok (.invokevirtual 19, 3) := by decide +kernel
theorem d_Sh_markDeleted_10 : decode prog_9_method_4_code 10 = .ok (.if_icmp .ge 29, 3) := by decide +kernel
theorem d_Sh_markDeleted_13 : decode prog_9_method_4_code 13 = .ok (.aload_n 0, 1) := by decide +kernel
theorem d_Sh_markDeleted_14 : decode prog_9_method_4_code 14 = .ok (.getfield 10, 3) := by decide +kernel
theorem d_Sh_markDeleted_17 : decode prog_9_method_4_code 17 = .ok (.iload_n 2, 1) := by decide +kernel
theorem d_Sh_markDeleted_18 : decode prog_9_method_4_code 18 = .ok (.invokevirtual 23, 3) := by decide +kernel
theorem d_Sh_markDeleted_21 : decode prog_9_method_4_code 21 = .ok (.checkcast 59, 3) := by decide +kernel
theorem d_Sh_markDeleted_24 : decode prog_9_method_4_code 24 = .ok (.dup, 1) := by decide +kernel
theorem d_Sh_markDeleted_25 : decode prog_9_method_4_code 25 = .ok (.getfield 61, 3) := by decide +kernel
theorem d_Sh_markDeleted_28 : decode prog_9_method_4_code 28 = .ok (.iload_n 1, 1) := by decide +kernel
theorem d_Sh_markDeleted_29 : decode prog_9_method_4_code 29 = .ok (.ior, 1) := by decide +kernel
theorem d_Sh_markDeleted_30 : decode prog_9_method_4_code 30 = .ok (.putfield 61, 3) := by decide +kernel
theorem d_Sh_markDeleted_33 : decode prog_9_method_4_code 33 = .ok (.iinc 2 1, 3) := by decide +kernel
theorem d_Sh_markDeleted_36 : decode prog_9_method_4_code 36 = .ok (.goto (-34), 3) := by decide +kernel
theorem d_Sh_markDeleted_39 : decode prog_9_method_4_code 39 = .ok (.aload_n 0, 1) := by decide +kernel
theorem d_Sh_markDeleted_40 : decode prog_9_method_4_code 40 = .ok (.getfield 16, 3) := by decide +kernel
theorem d_Sh_markDeleted_43 : decode prog_9_method_4_code 43 = .ok (.invokevirtual 19, 3) := by decide +kernel
theorem d_Sh_markDeleted_46 : decode prog_9_method_4_code 46 = .ok (.iconst 1, 1) := by decide +kernel
theorem d_Sh_markDeleted_47 : decode prog_9_method_4_code 47 = .ok (.isub, 1) := by decide +kernel
theorem d_Sh_markDeleted_48 : decode prog_9_method_4_code 48 = .ok (.istore_n 2, 1) := by decide +kernel
theorem d_Sh_markDeleted_49 : decode prog_9_method_4_code 49 = .ok (.iload_n 2, 1) := by decide +kernel
theorem d_Sh_markDeleted_50 : decode prog_9_method_4_code 50 = .ok (.ifCond .lt 39, 3) := by decide +kernel
theorem d_Sh_markDeleted_53 : decode prog_9_method_4_code 53 = .ok (.aload_n 0, 1) := by decide +kernel
theorem d_Sh_markDeleted_54 : decode prog_9_method_4_code 54 = .ok (.getfield 16, 3) := by decide +kernel
theorem d_Sh_markDeleted_57 : decode prog_9_method_4_code 57 = .ok (.iload_n 2, 1) := by decide +kernel
theorem d_Sh_markDeleted_58 : decode prog_9_method_4_code 58 = .ok (.invokevirtual 23, 3) := by decide +kernel
theorem d_Sh_markDeleted_61 : decode prog_9_method_4_code 61 = .ok (.checkcast 27, 3) := by decide +kernel
theorem d_Sh_markDeleted_64 : decode prog_9_method_4_code 64 = .ok (.getfield 29, 3) := by decide +kernel
theorem d_Sh_markDeleted_67 : decode prog_9_method_4_code 67 = .ok (.iload_n 1, 1) := by decide +kernel
theorem d_Sh_markDeleted_68 : decode prog_9_method_4_code 68 = .ok (.invokestatic 33, 3) := by decide +kernel
theorem d_Sh_markDeleted_71 : decode prog_9_method_4_code 71 = .ok (.ifCond .eq 12, 3) := by decide +kernel
theorem d_Sh_markDeleted_74 : decode prog_9_method_4_code 74 = .ok (.aload_n 0, 1) := by decide +kernel
theorem d_Sh_markDeleted_75 : decode prog_9_method_4_code 75 = .ok (.getfield 16, 3) := by decide +kernel
theorem d_Sh_markDeleted_78 : decode prog_9_method_4_code 78 = .ok (.iload_n 2, 1) := by decide +kernel
theorem d_Sh_markDeleted_79 : decode prog_9_method_4_code 79 = .ok (.invokevirtual 64, 3) := by decide +kernel
theorem d_Sh_markDeleted_82 : decode prog_9_method_4_code 82 = .ok (.pop, 1) := by decide +kernel
theorem d_Sh_markDeleted_83 : decode prog_9_method_4_code 83 = .ok (.iinc 2 (-1), 3) := by decide +kernel
theorem d_Sh_markDeleted_86 : decode prog_9_method_4_code 86 = .ok (.goto (-37), 3) := by decide +kernel
theorem d_Sh_markDeleted_89 : decode prog_9_method_4_code 89 = .ok (.return_, 1) := by decide +kernel
theorem d_Sh_appendSegment_0 : decode prog_9_method_5_code 0 = .ok (.new 59, 3) := by decide +kernel
theorem d_Sh_appendSegment_3 : decode prog_9_method_5_code 3 = .ok (.dup, 1) := by decide +kernel
theorem d_Sh_appendSegment_4 : decode prog_9_method_5_code 4 = .ok (.invokespecial 67, 3) := by decide +kernel
theorem d_Sh_appendSegment_7 : decode prog_9_method_5_code 7 = .ok (.astore_n 2, 1) := by decide +kernel
theorem d_Sh_appendSegment_8 : decode prog_9_method_5_code 8 = .ok (.iconst 0, 1) := by decide +kernel
theorem d_Sh_appendSegment_9 : decode prog_9_method_5_code 9 = .ok (.istore_n 3, 1) := by decide +kernel
theorem d_Sh_appendSegment_10 : decode prog_9_method_5_code 10 = .ok (.iload_n 3, 1) := by decide +kernel
theorem d_Sh_appendSegment_11 : decode prog_9_method_5_code 11 = .ok (.aload_n 1, 1) := by decide +kernel
theorem d_Sh_appendSegment_12 : decode prog_9_method_5_code 12 = .ok (.invokevirtual 19, 3) := by decide +kernel
theorem d_Sh_appendSegment_15 : decode prog_9_method_5_code 15 = .ok (.if_icmp .ge 37, 3) := by decide +kernel
theorem d_Sh_appendSegment_18 : decode prog_9_method_5_code 18 = .ok (.aload_n 2, 1) := by decide +kernel
theorem d_Sh_appendSegment_19 : decode prog_9_method_5_code 19 = .ok (.getfield 68, 3) := by decide +kernel
theorem d_Sh_appendSegment_22 : decode prog_9_method_5_code 22 = .ok (.aload_n 1, 1) := by decide +kernel
theorem d_Sh_appendSegment_23 : decode prog_9_method_5_code 23 = .ok (.iload_n 3, 1) := by decide +kernel
theorem d_Sh_appendSegment_24 : decode prog_9_method_5_code 24 = .ok (.invokevirtual 23, 3) := by decide +kernel
theorem d_Sh_appendSegment_27 : decode prog_9_method_5_code 27 = .ok (.checkcast 27, 3) := by decide +kernel
theorem d_Sh_appendSegment_30 : decode prog_9_method_5_code 30 = .ok (.invokevirtual 69, 3) := by decide +kernel
theorem d_Sh_appendSegment_33 : decode prog_9_method_5_code 33 = .ok (.pop, 1) := by decide +kernel
theorem d_Sh_appendSegment_34 : decode prog_9_method_5_code 34 = .ok (.aload_n 0, 1) := by decide +kernel
theorem d_Sh_appendSegment_35 : decode prog_9_method_5_code 35 = .ok (.aload_n 1, 1) := by decide +kernel
theorem d_Sh_appendSegment_36 : decode prog_9_method_5_code 36 = .ok (.iload_n 3, 1) := by decide +kernel
theorem d_Sh_appendSegment_37 : decode prog_9_method_5_code 37 = .ok (.invokevirtual 23, 3) := by decide +kernel
theorem d_Sh_appendSegment_40 : decode prog_9_method_5_code 40 = .ok (.checkcast 27, 3) := by decide +kernel
theorem d_Sh_appendSegment_43 : decode prog_9_method_5_code 43 = .ok (.invokevirtual 73, 3) := by decide +kernel
theorem d_Sh_appendSegment_46 : decode prog_9_method_5_code 46 = .ok (.iinc 3 1, 3) := by decide +kernel
theorem d_Sh_appendSegment_49 : decode prog_9_method_5_code 49 = .ok (.goto (-39), 3) := by decide +kernel
theorem d_Sh_appendSegment_52 : decode prog_9_method_5_code 52 = .ok (.aload_n 0, 1) := by decide +kernel
theorem d_Sh_appendSegment_53 : decode prog_9_method_5_code 53 = .ok (.getfield 10, 3) := by decide +kernel
theorem d_Sh_appendSegment_56 : decode prog_9_method_5_code 56 = .ok (.aload_n 2, 1) := by decide +kernel
theorem d_Sh_appendSegment_57 : decode prog_9_method_5_code 57 = .ok (.invokevirtual 69, 3) := by decide +kernel
theorem d_Sh_appendSegment_60 : decode prog_9_method_5_code 60 = .ok (.pop, 1) := by decide +kernel
theorem d_Sh_appendSegment_61 : decode prog_9_method_5_code 61 = .ok (.return_, 1) := by decide +kernel
theorem d_Sg_init_0 : decode prog_8_method_1_code 0 = .ok (.aload_n 0, 1) := by decide +kernel
theorem d_Sg_init_1 : decode prog_8_method_1_code 1 = .ok (.invokespecial 1, 3) := by decide +kernel
theorem d_Sg_init_4 : decode prog_8_method_1_code 4 = .ok (.aload_n 0, 1) := by decide +kernel
theorem d_Sg_init_5 : decode prog_8_method_1_code 5 = .ok (.new 7, 3) := by decide +kernel
theorem d_Sg_init_8 : decode prog_8_method_1_code 8 = .ok (.dup, 1) := by decide +kernel
theorem d_Sg_init_9 : decode prog_8_method_1_code 9 = .ok (.invokespecial 9, 3) := by decide +kernel
theorem d_Sg_init_12 : decode prog_8_method_1_code 12 = .ok (.putfield 10, 3) := by decide +kernel
theorem d_Sg_init_15 : decode prog_8_method_1_code 15 = .ok (.aload_n 0, 1) := by decide +kernel
theorem d_Sg_init_16 : decode prog_8_method_1_code 16 = .ok (.iconst 0, 1) := by decide +kernel
theorem d_Sg_init_17 : decode prog_8_method_1_code 17 = .ok (.putfield 16, 3) := by decide +kernel
theorem d_Sg_init_20 : decode prog_8_method_1_code 20 = .ok (.return_, 1) := by decide +kernel
theorem d_Sh_insertLive_0 : decode prog_9_method_6_code 0 = .ok (.iconst 0, 1) := by decide +kernel
theorem d_Sh_insertLive_1 : decode prog_9_method_6_code 1 = .ok (.istore_n 2, 1) := by decide +kernel
theorem d_Sh_insertLive_2 : decode prog_9_method_6_code 2 = .ok (.iload_n 2, 1) := by decide +kernel
theorem d_Sh_insertLive_3 : decode prog_9_method_6_code 3 = .ok (.aload_n 0, 1) := by decide +kernel
theorem d_Sh_insertLive_4 : decode prog_9_method_6_code 4 = .ok (.getfield 16, 3) := by decide +kernel
theorem d_Sh_insertLive_7 : decode prog_9_method_6_code 7 = .ok (.invokevirtual 19, 3) := by decide +kernel
theorem d_Sh_insertLive_10 : decode prog_9_method_6_code 10 = .ok (.if_icmp .ge 30, 3) := by decide +kernel
theorem d_Sh_insertLive_13 : decode prog_9_method_6_code 13 = .ok (.aload_n 0, 1) := by decide +kernel
theorem d_Sh_insertLive_14 : decode prog_9_method_6_code 14 = .ok (.getfield 16, 3) := by decide +kernel
theorem d_Sh_insertLive_17 : decode prog_9_method_6_code 17 = .ok (.iload_n 2, 1) := by decide +kernel
theorem d_Sh_insertLive_18 : decode prog_9_method_6_code 18 = .ok (.invokevirtual 23, 3) := by decide +kernel
theorem d_Sh_insertLive_21 : decode prog_9_method_6_code 21 = .ok (.checkcast 27, 3) := by decide +kernel
theorem d_Sh_insertLive_24 : decode prog_9_method_6_code 24 = .ok (.getfield 29, 3) := by decide +kernel
theorem d_Sh_insertLive_27 : decode prog_9_method_6_code 27 = .ok (.aload_n 1, 1) := by decide +kernel
theorem d_Sh_insertLive_28 : decode prog_9_method_6_code 28 = .ok (.getfield 29, 3) := by decide +kernel
theorem d_Sh_insertLive_31 : decode prog_9_method_6_code 31 = .ok (.if_icmp .ge 9, 3) := by decide +kernel
theorem d_Sh_insertLive_34 : decode prog_9_method_6_code 34 = .ok (.iinc 2 1, 3) := by decide +kernel
theorem d_Sh_insertLive_37 : decode prog_9_method_6_code 37 = .ok (.goto (-35), 3) := by decide +kernel
theorem d_Sh_insertLive_40 : decode prog_9_method_6_code 40 = .ok (.aload_n 0, 1) := by decide +kernel
theorem d_Sh_insertLive_41 : decode prog_9_method_6_code 41 = .ok (.getfield 16, 3) := by decide +kernel
theorem d_Sh_insertLive_44 : decode prog_9_method_6_code 44 = .ok (.iload_n 2, 1) := by decide +kernel
theorem d_Sh_insertLive_45 : decode prog_9_method_6_code 45 = .ok (.aload_n 1, 1) := by decide +kernel
theorem d_Sh_insertLive_46 : decode prog_9_method_6_code 46 = .ok (.invokevirtual 77, 3) := by decide +kernel
theorem d_Sh_insertLive_49 : decode prog_9_method_6_code 49 = .ok (.return_, 1) := by decide +kernel
theorem d_Pe_clear_0 : decode prog_4_method_6_code 0 = .ok (.aload_n 0, 1) := by decide +kernel
theorem d_Pe_clear_1 : decode prog_4_method_6_code 1 = .ok (.getfield 10, 3) := by decide +kernel
theorem d_Pe_clear_4 : decode prog_4_method_6_code 4 = .ok (.invokevirtual 50, 3) := by decide +kernel
theorem d_Pe_clear_7 : decode prog_4_method_6_code 7 = .ok (.aload_n 0, 1) := by decide +kernel
theorem d_Pe_clear_8 : decode prog_4_method_6_code 8 = .ok (.iconst 0, 1) := by decide +kernel
theorem d_Pe_clear_9 : decode prog_4_method_6_code 9 = .ok (.putfield 16, 3) := by decide +kernel
theorem d_Pe_clear_12 : decode prog_4_method_6_code 12 = .ok (.return_, 1) := by decide +kernel
theorem d_P_goDown_0 : decode prog_1_method_22_code 0 = .ok (.aload_n 0, 1) := by decide +kernel
theorem d_P_goDown_1 : decode prog_1_method_22_code 1 = .ok (.iconst 0, 1) := by decide +kernel
theorem d_P_goDown_2 : decode prog_1_method_22_code 2 = .ok (.putfield 20, 3) := by decide +kernel
theorem d_P_goDown_5 : decode prog_1_method_22_code 5 = .ok (.aload_n 0, 1) := by decide +kernel
theorem d_P_goDown_6 : decode prog_1_method_22_code 6 = .ok (.getfield 27, 3) := by decide +kernel
theorem d_P_goDown_9 : decode prog_1_method_22_code 9 = .ok (.invokevirtual 137, 3) := by decide +kernel
theorem d_P_goDown_12 : decode prog_1_method_22_code 12 = .ok (.aload_n 0, 1) := by decide +kernel
theorem d_P_goDown_13 : decode prog_1_method_22_code 13 = .ok (.getfield 48, 3) := by decide +kernel
theorem d_P_goDown_16 : decode prog_1_method_22_code 16 = .ok (.invokevirtual 185, 3) := by decide +kernel
theorem d_P_goDown_19 : decode prog_1_method_22_code 19 = .ok (.bipush (-9), 2) := by decide +kernel
theorem d_P_goDown_21 : decode prog_1_method_22_code 21 = .ok (.ireturn, 1) := by decide +kernel
theorem d_Qs_clear_0 : decode prog_5_method_2_code 0 = .ok (.aload_n 0, 1) := by decide +kernel
theorem d_Qs_clear_1 : decode prog_5_method_2_code 1 = .ok (.getfield 12, 3) := by decide +kernel
theorem d_Qs_clear_4 : decode prog_5_method_2_code 4 = .ok (.invokevirtual 26, 3) := by decide +kernel
theorem d_Qs_clear_7 : decode prog_5_method_2_code 7 = .ok (.aload_n 0, 1) := by decide +kernel
theorem d_Qs_clear_8 : decode prog_5_method_2_code 8 = .ok (.iconst 0, 1) := by decide +kernel
theorem d_Qs_clear_9 : decode prog_5_method_2_code 9 = .ok (.putfield 22, 3) := by decide +kernel
theorem d_Qs_clear_12 : decode prog_5_method_2_code 12 = .ok (.return_, 1) := by decide +kernel
theorem d_P_merge_0 : decode prog_1_method_7_code 0 = .ok (.aload_n 0, 1) := by decide +kernel
theorem d_P_merge_1 : decode prog_1_method_7_code 1 = .ok (.getfield 41, 3) := by decide +kernel
theorem d_P_merge_4 : decode prog_1_method_7_code 4 = .ok (.getfield 74, 3) := by decide +kernel
theorem d_P_merge_7 : decode prog_1_method_7_code 7 = .ok (.ifCond .eq 6, 3) := by decide +kernel
theorem d_P_merge_10 : decode prog_1_method_7_code 10 = .ok (.bipush (-9), 2) := by decide +kernel
theorem d_P_merge_12 : decode prog_1_method_7_code 12 = .ok (.ireturn, 1) := by decide +kernel
theorem d_P_merge_13 : decode prog_1_method_7_code 13 = .ok (.iload_n 1, 1) := by decide +kernel
theorem d_P_merge_14 : decode prog_1_method_7_code 14 = .ok (.ifCond .lt 19, 3) := by decide +kernel
theorem d_P_merge_17 : decode prog_1_method_7_code 17 = .ok (.iload_n 1, 1) := by decide +kernel
theorem d_P_merge_18 : decode prog_1_method_7_code 18 = .ok (.aload_n 0, 1) := by decide +kernel
theorem d_P_merge_19 : decode prog_1_method_7_code 19 = .ok (.getfield 34, 3) := by decide +kernel
theorem d_P_merge_22 : decode prog_1_method_7_code 22 = .ok (.getfield 118, 3) := by decide +kernel
theorem d_P_merge_25 : decode prog_1_method_7_code 25 = .ok (.invokevirtual 121, 3) := by decide +kernel
theorem d_P_merge_28 : decode prog_1_method_7_code 28 = .ok (.iconst 1, 1) := by decide +kernel
theorem d_P_merge_29 : decode prog_1_method_7_code 29 = .ok (.isub, 1) := by decide +kernel
theorem d_P_merge_30 : decode prog_1_method_7_code 30 = .ok (.if_icmp .lt 5, 3) := by decide +kernel
theorem d_P_merge_33 : decode prog_1_method_7_code 33 = .ok (.iconst (-1), 1) := by decide +kernel
theorem d_P_merge_34 : decode prog_1_method_7_code 34 = .ok (.ireturn, 1) := by decide +kernel
theorem d_P_merge_35 : decode prog_1_method_7_code 35 = .ok (.aload_n 0, 1) := by decide +kernel
theorem d_P_merge_36 : decode prog_1_method_7_code 36 = .ok (.getfield 34, 3) := by decide +kernel
theorem d_P_merge_39 : decode prog_1_method_7_code 39 = .ok (.iload_n 1, 1) := by decide +kernel
theorem d_P_merge_40 : decode prog_1_method_7_code 40 = .ok (.invokevirtual 146, 3) := by decide +kernel
theorem d_P_merge_43 : decode prog_1_method_7_code 43 = .ok (.astore_n 2, 1) := by decide +kernel
theorem d_P_merge_44 : decode prog_1_method_7_code 44 = .ok (.aload_n 0, 1) := by decide +kernel
theorem d_P_merge_45 : decode prog_1_method_7_code 45 = .ok (.getfield 41, 3) := by decide +kernel
theorem d_P_merge_48 : decode prog_1_method_7_code 48 = .ok (.aload_n 2, 1) := by decide +kernel
theorem d_P_merge_49 : decode prog_1_method_7_code 49 = .ok (.getfield 150, 3) := by decide +kernel
theorem d_P_merge_52 : decode prog_1_method_7_code 52 = .ok (.invokevirtual 121, 3) := by decide +kernel
theorem d_P_merge_55 : decode prog_1_method_7_code 55 = .ok (.iconst 1, 1) := by decide +kernel
theorem d_P_merge_56 : decode prog_1_method_7_code 56 = .ok (.iadd, 1) := by decide +kernel
theorem d_P_merge_57 : decode prog_1_method_7_code 57 = .ok (.invokevirtual 130, 3) := by decide +kernel
theorem d_P_merge_60 : decode prog_1_method_7_code 60 = .ok (.ifCond .eq 12, 3) := by decide +kernel
theorem d_P_merge_63 : decode prog_1_method_7_code 63 = .ok (.aload_n 0, 1) := by decide +kernel
theorem d_P_merge_64 : decode prog_1_method_7_code 64 = .ok (.getfield 34, 3) := by decide +kernel
theorem d_P_merge_67 : decode prog_1_method_7_code 67 = .ok (.iload_n 1, 1) := by decide +kernel
theorem d_P_merge_68 : decode prog_1_method_7_code 68 = .ok (.aload_n 2, 1) := by decide +kernel
theorem d_P_merge_69 : decode prog_1_method_7_code 69 = .ok (.invokevirtual 153, 3) := by decide +kernel
theorem d_P_merge_72 : decode prog_1_method_7_code 72 = .ok (.aload_n 0, 1) := by decide +kernel
theorem d_P_merge_73 : decode prog_1_method_7_code 73 = .ok (.getfield 41, 3) := by decide +kernel
theorem d_P_merge_76 : decode prog_1_method_7_code 76 = .ok (.getfield 74, 3) := by decide +kernel
theorem d_P_merge_79 : decode prog_1_method_7_code 79 = .ok (.ifCond .eq 10, 3) := by decide +kernel
theorem d_P_merge_82 : decode prog_1_method_7_code 82 = .ok (.aload_n 0, 1) := by decide +kernel
theorem d_P_merge_83 : decode prog_1_method_7_code 83 = .ok (.invokevirtual 140, 3) := by decide +kernel
theorem d_P_merge_86 : decode prog_1_method_7_code 86 = .ok (.goto 13, 3) := by decide +kernel
theorem d_P_merge_89 : decode prog_1_method_7_code 89 = .ok (.aload_n 0, 1) := by decide +kernel
theorem d_P_merge_90 : decode prog_1_method_7_code 90 = .ok (.getfield 34, 3) := by decide +kernel
theorem d_P_merge_93 : decode prog_1_method_7_code 93 = .ok (.getfield 118, 3) := by decide +kernel
theorem d_P_merge_96 : decode prog_1_method_7_code 96 = .ok (.invokevirtual 121, 3) := by decide +kernel
theorem d_P_merge_99 : decode prog_1_method_7_code 99 = .ok (.ireturn, 1) := by decide +kernel
theorem d_Sh_joinedFrom_0 : decode prog_9_method_7_code 0 = .ok (.new 59, 3) := by decide +kernel
theorem d_Sh_joinedFrom_3 : decode prog_9_method_7_code 3 = .ok (.dup, 1) := by decide +kernel
theorem d_Sh_joinedFrom_4 : decode prog_9_method_7_code 4 = .ok (.invokespecial 67, 3) := by decide +kernel
theorem d_Sh_joinedFrom_7 : decode prog_9_method_7_code 7 = .ok (.astore_n 2, 1) := by decide +kernel
theorem d_Sh_joinedFrom_8 : decode prog_9_method_7_code 8 = .ok (.iload_n 1, 1) := by decide +kernel
theorem d_Sh_joinedFrom_9 : decode prog_9_method_7_code 9 = .ok (.istore_n 3, 1) := by decide +kernel
theorem d_Sh_joinedFrom_10 : decode prog_9_method_7_code 10 = .ok (.iload_n 3, 1) := by decide +kernel
theorem d_Sh_joinedFrom_11 : decode prog_9_method_7_code 11 = .ok (.aload_n 0, 1) := by decide +kernel
theorem d_Sh_joinedFrom_12 : decode prog_9_method_7_code 12 = .ok (.getfield 10, 3) := by decide +kernel
theorem d_Sh_joinedFrom_15 : decode prog_9_method_7_code 15 = .ok (.invokevirtual 19, 3) := by decide +kernel
theorem d_Sh_joinedFrom_18 : decode prog_9_method_7_code 18 = .ok (.if_icmp .ge 34, 3) := by decide +kernel
theorem d_Sh_joinedFrom_21 : decode prog_9_method_7_code 21 = .ok (.iload_n 3, 1) := by decide +kernel
theorem d_Sh_joinedFrom_22 : decode prog_9_method_7_code 22 = .ok (.iload_n 1, 1) := by decide +kernel
theorem d_Sh_joinedFrom_23 : decode prog_9_method_7_code 23 = .ok (.iconst 1, 1) := by decide +kernel
theorem d_Sh_joinedFrom_24 : decode prog_9_method_7_code 24 = .ok (.iadd, 1) := by decide +kernel
theorem d_Sh_joinedFrom_25 : decode prog_9_method_7_code 25 = .ok (.if_icmp .gt 27, 3) := by decide +kernel
theorem d_Sh_joinedFrom_28 : decode prog_9_method_7_code 28 = .ok (.aload_n 0, 1) := by decide +kernel
theorem d_Sh_joinedFrom_29 : decode prog_9_method_7_code 29 = .ok (.getfield 10, 3) := by decide +kernel
theorem d_Sh_joinedFrom_32 : decode prog_9_method_7_code 32 = .ok (.iload_n 3, 1) := by decide +kernel
theorem d_Sh_joinedFrom_33 : decode prog_9_method_7_code 33 = .ok (.invokevirtual 23, 3) := by decide +kernel
theorem d_Sh_joinedFrom_36 : decode prog_9_method_7_code 36 = .ok (.checkcast 59, 3) := by decide +kernel
theorem d_Sh_joinedFrom_39 : decode prog_9_method_7_code 39 = .ok (.aload_n 2, 1) := by decide +kernel
theorem d_Sh_joinedFrom_40 : decode prog_9_method_7_code 40 = .ok (.getfield 68, 3) := by decide +kernel
theorem d_Sh_joinedFrom_43 : decode prog_9_method_7_code 43 = .ok (.invokevirtual 80, 3) := by decide +kernel
theorem d_Sh_joinedFrom_46 : decode prog_9_method_7_code 46 = .ok (.iinc 3 1, 3) := by decide +kernel
theorem d_Sh_joinedFrom_49 : decode prog_9_method_7_code 49 = .ok (.goto (-39), 3) := by decide +kernel
theorem d_Sh_joinedFrom_52 : decode prog_9_method_7_code 52 = .ok (.aload_n 2, 1) := by decide +kernel
theorem d_Sh_joinedFrom_53 : decode prog_9_method_7_code 53 = .ok (.areturn, 1) := by decide +kernel
theorem d_Sg_copyLive_0 : decode prog_8_method_3_code 0 = .ok (.iconst 0, 1) := by decide +kernel
theorem d_Sg_copyLive_1 : decode prog_8_method_3_code 1 = .ok (.istore_n 2, 1) := by decide +kernel
theorem d_Sg_copyLive_2 : decode prog_8_method_3_code 2 = .ok (.iload_n 2, 1) := by decide +kernel
theorem d_Sg_copyLive_3 : decode prog_8_method_3_code 3 = .ok (.aload_n 0, 1) := by decide +kernel
theorem d_Sg_copyLive_4 : decode prog_8_method_3_code 4 = .ok (.getfield 10, 3) := by decide +kernel
theorem d_Sg_copyLive_7 : decode prog_8_method_3_code 7 = .ok (.invokevirtual 35, 3) := by decide +kernel
theorem d_Sg_copyLive_10 : decode prog_8_method_3_code 10 = .ok (.if_icmp .ge 33, 3) := by decide +kernel
theorem d_Sg_copyLive_13 : decode prog_8_method_3_code 13 = .ok (.aload_n 0, 1) := by decide +kernel
theorem d_Sg_copyLive_14 : decode prog_8_method_3_code 14 = .ok (.iload_n 2, 1) := by decide +kernel
theorem d_Sg_copyLive_15 : decode prog_8_method_3_code 15 = .ok (.invokevirtual 39, 3) := by decide +kernel
theorem d_Sg_copyLive_18 : decode prog_8_method_3_code 18 = .ok (.ifCond .eq 19, 3) := by decide +kernel
theorem d_Sg_copyLive_21 : decode prog_8_method_3_code 21 = .ok (.aload_n 1, 1) := by decide +kernel
theorem d_Sg_copyLive_22 : decode prog_8_method_3_code 22 = .ok (.aload_n 0, 1) := by decide +kernel
theorem d_Sg_copyLive_23 : decode prog_8_method_3_code 23 = .ok (.getfield 10, 3) := by decide +kernel
theorem d_Sg_copyLive_26 : decode prog_8_method_3_code 26 = .ok (.iload_n 2, 1) := by decide +kernel
theorem d_Sg_copyLive_27 : decode prog_8_method_3_code 27 = .ok (.invokevirtual 20, 3) := by decide +kernel
theorem d_Sg_copyLive_30 : decode prog_8_method_3_code 30 = .ok (.checkcast 24, 3) := by decide +kernel
theorem d_Sg_copyLive_33 : decode prog_8_method_3_code 33 = .ok (.invokevirtual 43, 3) := by decide +kernel
theorem d_Sg_copyLive_36 : decode prog_8_method_3_code 36 = .ok (.pop, 1) := by decide +kernel
theorem d_Sg_copyLive_37 : decode prog_8_method_3_code 37 = .ok (.iinc 2 1, 3) := by decide +kernel
theorem d_Sg_copyLive_40 : decode prog_8_method_3_code 40 = .ok (.goto (-38), 3) := by decide +kernel
theorem d_Sg_copyLive_43 : decode prog_8_method_3_code 43 = .ok (.return_, 1) := by decide +kernel
theorem d_Sg_isLive_0 : decode prog_8_method_2_code 0 = .ok (.aload_n 0, 1) := by decide +kernel
theorem d_Sg_isLive_1 : decode prog_8_method_2_code 1 = .ok (.getfield 10, 3) := by decide +kernel
theorem d_Sg_isLive_4 : decode prog_8_method_2_code 4 = .ok (.iload_n 1, 1) := by decide +kernel
theorem d_Sg_isLive_5 : decode prog_8_method_2_code 5 = .ok (.invokevirtual 20, 3) := by decide +kernel
theorem d_Sg_isLive_8 : decode prog_8_method_2_code 8 = .ok (.checkcast 24, 3) := by decide +kernel
theorem d_Sg_isLive_11 : decode prog_8_method_2_code 11 = .ok (.getfield 26, 3) := by decide +kernel
theorem d_Sg_isLive_14 : decode prog_8_method_2_code 14 = .ok (.aload_n 0, 1) := by decide +kernel
theorem d_Sg_isLive_15 : decode prog_8_method_2_code 15 = .ok (.getfield 16, 3) := by decide +kernel
theorem d_Sg_isLive_18 : decode prog_8_method_2_code 18 = .ok (.invokestatic 29, 3) := by decide +kernel
theorem d_Sg_isLive_21 : decode prog_8_method_2_code 21 = .ok (.ifCond .ne 7, 3) := by decide +kernel
theorem d_Sg_isLive_24 : decode prog_8_method_2_code 24 = .ok (.iconst 1, 1) := by decide +kernel
theorem d_Sg_isLive_25 : decode prog_8_method_2_code 25 = .ok (.goto 4, 3) := by decide +kernel
theorem d_Sg_isLive_28 : decode prog_8_method_2_code 28 = .ok (.iconst 0, 1) := by decide +kernel
theorem d_Sg_isLive_29 : decode prog_8_method_2_code 29 = .ok (.ireturn, 1) := by decide +kernel
theorem d_Sh_replaceTwo_0 : decode prog_9_method_8_code 0 = .ok (.aload_n 0, 1) := by decide +kernel
theorem d_Sh_replaceTwo_1 : decode prog_9_method_8_code 1 = .ok (.getfield 10, 3) := by decide +kernel
theorem d_Sh_replaceTwo_4 : decode prog_9_method_8_code 4 = .ok (.iload_n 1, 1) := by decide +kernel
theorem d_Sh_replaceTwo_5 : decode prog_9_method_8_code 5 = .ok (.iconst 1, 1) := by decide +kernel
theorem d_Sh_replaceTwo_6 : decode prog_9_method_8_code 6 = .ok (.iadd, 1) := by decide +kernel
theorem d_Sh_replaceTwo_7 : decode prog_9_method_8_code 7 = .ok (.invokevirtual 64, 3) := by decide +kernel
theorem d_Sh_replaceTwo_10 : decode prog_9_method_8_code 10 = .ok (.pop, 1) := by decide +kernel
theorem d_Sh_replaceTwo_11 : decode prog_9_method_8_code 11 = .ok (.aload_n 2, 1) := by decide +kernel
theorem d_Sh_replaceTwo_12 : decode prog_9_method_8_code 12 = .ok (.getfield 68, 3) := by decide +kernel
theorem d_Sh_replaceTwo_15 : decode prog_9_method_8_code 15 = .ok (.invokevirtual 51, 3) := by decide +kernel
theorem d_Sh_replaceTwo_18 : decode prog_9_method_8_code 18 = .ok (.ifCond .eq 15, 3) := by decide +kernel
theorem d_Sh_replaceTwo_21 : decode prog_9_method_8_code 21 = .ok (.aload_n 0, 1) := by decide +kernel
theorem d_Sh_replaceTwo_22 : decode prog_9_method_8_code 22 = .ok (.getfield 10, 3) := by decide +kernel
theorem d_Sh_replaceTwo_25 : decode prog_9_method_8_code 25 = .ok (.iload_n 1, 1) := by decide +kernel
theorem d_Sh_replaceTwo_26 : decode prog_9_method_8_code 26 = .ok (.invokevirtual 64, 3) := by decide +kernel
theorem d_Sh_replaceTwo_29 : decode prog_9_method_8_code 29 = .ok (.pop, 1) := by decide +kernel
theorem d_Sh_replaceTwo_30 : decode prog_9_method_8_code 30 = .ok (.goto 13, 3) := by decide +kernel
theorem d_Sh_replaceTwo_33 : decode prog_9_method_8_code 33 = .ok (.aload_n 0, 1) := by decide +kernel
theorem d_Sh_replaceTwo_34 : decode prog_9_method_8_code 34 = .ok (.getfield 10, 3) := by decide +kernel
theorem d_Sh_replaceTwo_37 : decode prog_9_method_8_code 37 = .ok (.iload_n 1, 1) := by decide +kernel
theorem d_Sh_replaceTwo_38 : decode prog_9_method_8_code 38 = .ok (.aload_n 2, 1) := by decide +kernel
theorem d_Sh_replaceTwo_39 : decode prog_9_method_8_code 39 = .ok (.invokevirtual 83, 3) := by decide +kernel
theorem d_Sh_replaceTwo_42 : decode prog_9_method_8_code 42 = .ok (.pop, 1) := by decide +kernel
theorem d_Sh_replaceTwo_43 : decode prog_9_method_8_code 43 = .ok (.return_, 1) := by decide +kernel
theorem d_P_fuse_0 : decode prog_1_method_8_code 0 = .ok (.aload_n 0, 1) := by decide +kernel
theorem d_P_fuse_1 : decode prog_1_method_8_code 1 = .ok (.getfield 41, 3) := by decide +kernel
theorem d_P_fuse_4 : decode prog_1_method_8_code 4 = .ok (.getfield 74, 3) := by decide +kernel
theorem d_P_fuse_7 : decode prog_1_method_8_code 7 = .ok (.ifCond .ne 14, 3) := by decide +kernel
theorem d_P_fuse_10 : decode prog_1_method_8_code 10 = .ok (.iload_n 1, 1) := by decide +kernel
theorem d_P_fuse_11 : decode prog_1_method_8_code 11 = .ok (.iconst 1, 1) := by decide +kernel
theorem d_P_fuse_12 : decode prog_1_method_8_code 12 = .ok (.if_icmp .lt 9, 3) := by decide +kernel
theorem d_P_fuse_15 : decode prog_1_method_8_code 15 = .ok (.iload_n 1, 1) := by decide +kernel
theorem d_P_fuse_16 : decode prog_1_method_8_code 16 = .ok (.bipush 100, 2) := by decide +kernel
theorem d_P_fuse_18 : decode prog_1_method_8_code 18 = .ok (.if_icmp .le 5, 3) := by decide +kernel
theorem d_P_fuse_21 : decode prog_1_method_8_code 21 = .ok (.iconst 0, 1) := by decide +kernel
theorem d_P_fuse_22 : decode prog_1_method_8_code 22 = .ok (.ireturn, 1) := by decide +kernel
theorem d_P_fuse_23 : decode prog_1_method_8_code 23 = .ok (.aload_n 0, 1) := by decide +kernel
theorem d_P_fuse_24 : decode prog_1_method_8_code 24 = .ok (.getfield 41, 3) := by decide +kernel
theorem d_P_fuse_27 : decode prog_1_method_8_code 27 = .ok (.iload_n 1, 1) := by decide +kernel
theorem d_P_fuse_28 : decode prog_1_method_8_code 28 = .ok (.putfield 157, 3) := by decide +kernel
theorem d_P_fuse_31 : decode prog_1_method_8_code 31 = .ok (.iconst 1, 1) := by decide +kernel
theorem d_P_fuse_32 : decode prog_1_method_8_code 32 = .ok (.ireturn, 1) := by decide +kernel
theorem d_P_restart_0 : decode prog_1_method_9_code 0 = .ok (.aload_n 0, 1) := by decide +kernel
theorem d_P_restart_1 : decode prog_1_method_9_code 1 = .ok (.getfield 41, 3) := by decide +kernel
theorem d_P_restart_4 : decode prog_1_method_9_code 4 = .ok (.getfield 74, 3) := by decide +kernel
theorem d_P_restart_7 : decode prog_1_method_9_code 7 = .ok (.istore_n 1, 1) := by decide +kernel
theorem d_P_restart_8 : decode prog_1_method_9_code 8 = .ok (.aload_n 0, 1) := by decide +kernel
theorem d_P_restart_9 : decode prog_1_method_9_code 9 = .ok (.getfield 41, 3) := by decide +kernel
theorem d_P_restart_12 : decode prog_1_method_9_code 12 = .ok (.iconst 0, 1) := by decide +kernel
theorem d_P_restart_13 : decode prog_1_method_9_code 13 = .ok (.putfield 74, 3) := by decide +kernel
theorem d_P_restart_16 : decode prog_1_method_9_code 16 = .ok (.iload_n 1, 1) := by decide +kernel
theorem d_P_restart_17 : decode prog_1_method_9_code 17 = .ok (.ireturn, 1) := by decide +kernel
theorem d_P_term_0 : decode prog_1_method_10_code 0 = .ok (.aload_n 0, 1) := by decide +kernel
theorem d_P_term_1 : decode prog_1_method_10_code 1 = .ok (.getfield 41, 3) := by decide +kernel
theorem d_P_term_4 : decode prog_1_method_10_code 4 = .ok (.getfield 74, 3) := by decide +kernel
theorem d_P_term_7 : decode prog_1_method_10_code 7 = .ok (.ifCond .eq 6, 3) := by decide +kernel
theorem d_P_term_10 : decode prog_1_method_10_code 10 = .ok (.bipush (-9), 2) := by decide +kernel
theorem d_P_term_12 : decode prog_1_method_10_code 12 = .ok (.ireturn, 1) := by decide +kernel
theorem d_P_term_13 : decode prog_1_method_10_code 13 = .ok (.lload_n 1, 1) := by decide +kernel
theorem d_P_term_14 : decode prog_1_method_10_code 14 = .ok (.invokestatic 66, 3) := by decide +kernel
theorem d_P_term_17 : decode prog_1_method_10_code 17 = .ok (.ifCond .eq 15, 3) := by decide +kernel
theorem d_P_term_20 : decode prog_1_method_10_code 20 = .ok (.aload_n 0, 1) := by decide +kernel
theorem d_P_term_21 : decode prog_1_method_10_code 21 = .ok (.getfield 48, 3) := by decide +kernel
theorem d_P_term_24 : decode prog_1_method_10_code 24 = .ok (.getfield 160, 3) := by decide +kernel
theorem d_P_term_27 : decode prog_1_method_10_code 27 = .ok (.bipush 8, 2) := by decide +kernel
theorem d_P_term_29 : decode prog_1_method_10_code 29 = .ok (.if_icmp .lt 5, 3) := by decide +kernel
theorem d_P_term_32 : decode prog_1_method_10_code 32 = .ok (.iconst (-1), 1) := by decide +kernel
theorem d_P_term_33 : decode prog_1_method_10_code 33 = .ok (.ireturn, 1) := by decide +kernel
theorem d_P_term_34 : decode prog_1_method_10_code 34 = .ok (.aload_n 0, 1) := by decide +kernel
theorem d_P_term_35 : decode prog_1_method_10_code 35 = .ok (.getfield 48, 3) := by decide +kernel
theorem d_P_term_38 : decode prog_1_method_10_code 38 = .ok (.aload_n 0, 1) := by decide +kernel
theorem d_P_term_39 : decode prog_1_method_10_code 39 = .ok (.getfield 10, 3) := by decide +kernel
theorem d_P_term_42 : decode prog_1_method_10_code 42 = .ok (.lload_n 1, 1) := by decide +kernel
theorem d_P_term_43 : decode prog_1_method_10_code 43 = .ok (.invokevirtual 78, 3) := by decide +kernel
theorem d_P_term_46 : decode prog_1_method_10_code 46 = .ok (.invokevirtual 163, 3) := by decide +kernel
theorem d_P_term_49 : decode prog_1_method_10_code 49 = .ok (.ireturn, 1) := by decide +kernel
theorem d_Qs_pushTerm_0 : decode prog_5_method_7_code 0 = .ok (.iconst 1, 1) := by decide +kernel
theorem d_Qs_pushTerm_1 : decode prog_5_method_7_code 1 = .ok (.newarray .long, 2) := by decide +kernel
theorem d_Qs_pushTerm_3 : decode prog_5_method_7_code 3 = .ok (.dup, 1) := by decide +kernel
theorem d_Qs_pushTerm_4 : decode prog_5_method_7_code 4 = .ok (.iconst 0, 1) := by decide +kernel
theorem d_Qs_pushTerm_5 : decode prog_5_method_7_code 5 = .ok (.lload_n 1, 1) := by decide +kernel
theorem d_Qs_pushTerm_6 : decode prog_5_method_7_code 6 = .ok (.lastore, 1) := by decide +kernel
theorem d_Qs_pushTerm_7 : decode prog_5_method_7_code 7 = .ok (.astore_n 3, 1) := by decide +kernel
theorem d_Qs_pushTerm_8 : decode prog_5_method_7_code 8 = .ok (.aload_n 0, 1) := by decide +kernel
theorem d_Qs_pushTerm_9 : decode prog_5_method_7_code 9 = .ok (.new 47, 3) := by decide +kernel
theorem d_Qs_pushTerm_12 : decode prog_5_method_7_code 12 = .ok (.dup, 1) := by decide +kernel
theorem d_Qs_pushTerm_13 : decode prog_5_method_7_code 13 = .ok (.iconst 3, 1) := by decide +kernel
theorem d_Qs_pushTerm_14 : decode prog_5_method_7_code 14 = .ok (.aload_n 3, 1) := by decide +kernel
theorem d_Qs_pushTerm_15 : decode prog_5_method_7_code 15 = .ok (.invokespecial 57, 3) := by decide +kernel
theorem d_Qs_pushTerm_18 : decode prog_5_method_7_code 18 = .ok (.iconst 0, 1) := by decide +kernel
theorem d_Qs_pushTerm_19 : decode prog_5_method_7_code 19 = .ok (.iconst 0, 1) := by decide +kernel
theorem d_Qs_pushTerm_20 : decode prog_5_method_7_code 20 = .ok (.invokevirtual 60, 3) := by decide +kernel
theorem d_Qs_pushTerm_23 : decode prog_5_method_7_code 23 = .ok (.ireturn, 1) := by decide +kernel
theorem d_Sp_init_0 : decode prog_11_method_1_code 0 = .ok (.aload_n 0, 1) := by decide +kernel
theorem d_Sp_init_1 : decode prog_11_method_1_code 1 = .ok (.invokespecial 1, 3) := by decide +kernel
theorem d_Sp_init_4 : decode prog_11_method_1_code 4 = .ok (.aload_n 0, 1) := by decide +kernel
theorem d_Sp_init_5 : decode prog_11_method_1_code 5 = .ok (.iload_n 1, 1) := by decide +kernel
theorem d_Sp_init_6 : decode prog_11_method_1_code 6 = .ok (.putfield 7, 3) := by decide +kernel
theorem d_Sp_init_9 : decode prog_11_method_1_code 9 = .ok (.aload_n 0, 1) := by decide +kernel
theorem d_Sp_init_10 : decode prog_11_method_1_code 10 = .ok (.aload_n 2, 1) := by decide +kernel
theorem d_Sp_init_11 : decode prog_11_method_1_code 11 = .ok (.putfield 13, 3) := by decide +kernel
theorem d_Sp_init_14 : decode prog_11_method_1_code 14 = .ok (.return_, 1) := by decide +kernel
theorem d_Qs_push_0 : decode prog_5_method_10_code 0 = .ok (.aload_n 0, 1) := by decide +kernel
theorem d_Qs_push_1 : decode prog_5_method_10_code 1 = .ok (.getfield 22, 3) := by decide +kernel
theorem d_Qs_push_4 : decode prog_5_method_10_code 4 = .ok (.iload_n 2, 1) := by decide +kernel
theorem d_Qs_push_5 : decode prog_5_method_10_code 5 = .ok (.isub, 1) := by decide +kernel
theorem d_Qs_push_6 : decode prog_5_method_10_code 6 = .ok (.istore 4, 2) := by decide +kernel
theorem d_Qs_push_8 : decode prog_5_method_10_code 8 = .ok (.iload 4, 2) := by decide +kernel
theorem d_Qs_push_10 : decode prog_5_method_10_code 10 = .ok (.ifCond .lt 10, 3) := by decide +kernel
theorem d_Qs_push_13 : decode prog_5_method_10_code 13 = .ok (.iload 4, 2) := by decide +kernel
theorem d_Qs_push_15 : decode prog_5_method_10_code 15 = .ok (.bipush 8, 2) := by decide +kernel
theorem d_Qs_push_17 : decode prog_5_method_10_code 17 = .ok (.if_icmp .lt 5, 3) := by decide +kernel
theorem d_Qs_push_20 : decode prog_5_method_10_code 20 = .ok (.iconst (-1), 1) := by decide +kernel
theorem d_Qs_push_21 : decode prog_5_method_10_code 21 = .ok (.ireturn, 1) := by decide +kernel
theorem d_Qs_push_22 : decode prog_5_method_10_code 22 = .ok (.aload_n 0, 1) := by decide +kernel
theorem d_Qs_push_23 : decode prog_5_method_10_code 23 = .ok (.getfield 12, 3) := by decide +kernel
theorem d_Qs_push_26 : decode prog_5_method_10_code 26 = .ok (.aload_n 1, 1) := by decide +kernel
theorem d_Qs_push_27 : decode prog_5_method_10_code 27 = .ok (.invokevirtual 71, 3) := by decide +kernel
theorem d_Qs_push_30 : decode prog_5_method_10_code 30 = .ok (.pop, 1) := by decide +kernel
theorem d_Qs_push_31 : decode prog_5_method_10_code 31 = .ok (.aload_n 0, 1) := by decide +kernel
theorem d_Qs_push_32 : decode prog_5_method_10_code 32 = .ok (.getfield 18, 3) := by decide +kernel
theorem d_Qs_push_35 : decode prog_5_method_10_code 35 = .ok (.iload 4, 2) := by decide +kernel
theorem d_Qs_push_37 : decode prog_5_method_10_code 37 = .ok (.iload_n 3, 1) := by decide +kernel
theorem d_Qs_push_38 : decode prog_5_method_10_code 38 = .ok (.iastore, 1) := by decide +kernel
theorem d_Qs_push_39 : decode prog_5_method_10_code 39 = .ok (.aload_n 0, 1) := by decide +kernel
theorem d_Qs_push_40 : decode prog_5_method_10_code 40 = .ok (.iload 4, 2) := by decide +kernel
theorem d_Qs_push_42 : decode prog_5_method_10_code 42 = .ok (.iconst 1, 1) := by decide +kernel
theorem d_Qs_push_43 : decode prog_5_method_10_code 43 = .ok (.iadd, 1) := by decide +kernel
theorem d_Qs_push_44 : decode prog_5_method_10_code 44 = .ok (.putfield 22, 3) := by decide +kernel
theorem d_Qs_push_47 : decode prog_5_method_10_code 47 = .ok (.aload_n 0, 1) := by decide +kernel
theorem d_Qs_push_48 : decode prog_5_method_10_code 48 = .ok (.getfield 22, 3) := by decide +kernel
theorem d_Qs_push_51 : decode prog_5_method_10_code 51 = .ok (.ireturn, 1) := by decide +kernel
theorem d_P_phrase_0 : decode prog_1_method_11_code 0 = .ok (.aload_n 0, 1) := by decide +kernel
theorem d_P_phrase_1 : decode prog_1_method_11_code 1 = .ok (.getfield 41, 3) := by decide +kernel
theorem d_P_phrase_4 : decode prog_1_method_11_code 4 = .ok (.getfield 74, 3) := by decide +kernel
theorem d_P_phrase_7 : decode prog_1_method_11_code 7 = .ok (.ifCond .eq 6, 3) := by decide +kernel
theorem d_P_phrase_10 : decode prog_1_method_11_code 10 = .ok (.bipush (-9), 2) := by decide +kernel
theorem d_P_phrase_12 : decode prog_1_method_11_code 12 = .ok (.ireturn, 1) := by decide +kernel
theorem d_P_phrase_13 : decode prog_1_method_11_code 13 = .ok (.iload_n 1, 1) := by decide +kernel
theorem d_P_phrase_14 : decode prog_1_method_11_code 14 = .ok (.iconst 2, 1) := by decide +kernel
theorem d_P_phrase_15 : decode prog_1_method_11_code 15 = .ok (.if_icmp .lt 25, 3) := by decide +kernel
theorem d_P_phrase_18 : decode prog_1_method_11_code 18 = .ok (.iload_n 1, 1) := by decide +kernel
theorem d_P_phrase_19 : decode prog_1_method_11_code 19 = .ok (.aload_n 0, 1) := by decide +kernel
theorem d_P_phrase_20 : decode prog_1_method_11_code 20 = .ok (.getfield 48, 3) := by decide +kernel
theorem d_P_phrase_23 : decode prog_1_method_11_code 23 = .ok (.getfield 160, 3) := by decide +kernel
theorem d_P_phrase_26 : decode prog_1_method_11_code 26 = .ok (.if_icmp .gt 14, 3) := by decide +kernel
theorem d_P_phrase_29 : decode prog_1_method_11_code 29 = .ok (.aload_n 0, 1) := by decide +kernel
theorem d_P_phrase_30 : decode prog_1_method_11_code 30 = .ok (.getfield 48, 3) := by decide +kernel
theorem d_P_phrase_33 : decode prog_1_method_11_code 33 = .ok (.iload_n 1, 1) := by decide +kernel
theorem d_P_phrase_34 : decode prog_1_method_11_code 34 = .ok (.invokevirtual 167, 3) := by decide +kernel
theorem d_P_phrase_37 : decode prog_1_method_11_code 37 = .ok (.ifCond .ne 5, 3) := by decide +kernel
theorem d_P_phrase_40 : decode prog_1_method_11_code 40 = .ok (.iconst (-1), 1) := by decide +kernel
theorem d_P_phrase_41 : decode prog_1_method_11_code 41 = .ok (.ireturn, 1) := by decide +kernel
theorem d_P_phrase_42 : decode prog_1_method_11_code 42 = .ok (.aload_n 0, 1) := by decide +kernel
theorem d_P_phrase_43 : decode prog_1_method_11_code 43 = .ok (.getfield 48, 3) := by decide +kernel
theorem d_P_phrase_46 : decode prog_1_method_11_code 46 = .ok (.iload_n 1, 1) := by decide +kernel
theorem d_P_phrase_47 : decode prog_1_method_11_code 47 = .ok (.invokevirtual 170, 3) := by decide +kernel
theorem d_P_phrase_50 : decode prog_1_method_11_code 50 = .ok (.ireturn, 1) := by decide +kernel
theorem d_Qs_areTerms_0 : decode prog_5_method_3_code 0 = .ok (.aload_n 0, 1) := by decide +kernel
theorem d_Qs_areTerms_1 : decode prog_5_method_3_code 1 = .ok (.iload_n 1, 1) := by decide +kernel
theorem d_Qs_areTerms_2 : decode prog_5_method_3_code 2 = .ok (.invokevirtual 29, 3) := by decide +kernel
theorem d_Qs_areTerms_5 : decode prog_5_method_3_code 5 = .ok (.ifCond .ne 7, 3) := by decide +kernel
theorem d_Qs_areTerms_8 : decode prog_5_method_3_code 8 = .ok (.iconst 1, 1) := by decide +kernel
theorem d_Qs_areTerms_9 : decode prog_5_method_3_code 9 = .ok (.goto 4, 3) := by decide +kernel
theorem d_Qs_areTerms_12 : decode prog_5_method_3_code 12 = .ok (.iconst 0, 1) := by decide +kernel
theorem d_Qs_areTerms_13 : decode prog_5_method_3_code 13 = .ok (.ireturn, 1) := by decide +kernel
theorem d_Qs_deepest_0 : decode prog_5_method_4_code 0 = .ok (.iconst 0, 1) := by decide +kernel
theorem d_Qs_deepest_1 : decode prog_5_method_4_code 1 = .ok (.istore_n 2, 1) := by decide +kernel
theorem d_Qs_deepest_2 : decode prog_5_method_4_code 2 = .ok (.iconst 0, 1) := by decide +kernel
theorem d_Qs_deepest_3 : decode prog_5_method_4_code 3 = .ok (.aload_n 0, 1) := by decide +kernel
theorem d_Qs_deepest_4 : decode prog_5_method_4_code 4 = .ok (.getfield 22, 3) := by decide +kernel
theorem d_Qs_deepest_7 : decode prog_5_method_4_code 7 = .ok (.iload_n 1, 1) := by decide +kernel
theorem d_Qs_deepest_8 : decode prog_5_method_4_code 8 = .ok (.isub, 1) := by decide +kernel
theorem d_Qs_deepest_9 : decode prog_5_method_4_code 9 = .ok (.invokestatic 33, 3) := by decide +kernel
theorem d_Qs_deepest_12 : decode prog_5_method_4_code 12 = .ok (.istore_n 3, 1) := by decide +kernel
theorem d_Qs_deepest_13 : decode prog_5_method_4_code 13 = .ok (.iload_n 3, 1) := by decide +kernel
theorem d_Qs_deepest_14 : decode prog_5_method_4_code 14 = .ok (.aload_n 0, 1) := by decide +kernel
theorem d_Qs_deepest_15 : decode prog_5_method_4_code 15 = .ok (.getfield 22, 3) := by decide +kernel
theorem d_Qs_deepest_18 : decode prog_5_method_4_code 18 = .ok (.if_icmp .ge 20, 3) := by decide +kernel
theorem d_Qs_deepest_21 : decode prog_5_method_4_code 21 = .ok (.iload_n 2, 1) := by decide +kernel
theorem d_Qs_deepest_22 : decode prog_5_method_4_code 22 = .ok (.aload_n 0, 1) := by decide +kernel
theorem d_Qs_deepest_23 : decode prog_5_method_4_code 23 = .ok (.getfield 18, 3) := by decide +kernel
theorem d_Qs_deepest_26 : decode prog_5_method_4_code 26 = .ok (.iload_n 3, 1) := by decide +kernel
theorem d_Qs_deepest_27 : decode prog_5_method_4_code 27 = .ok (.iaload, 1) := by decide +kernel
theorem d_Qs_deepest_28 : decode prog_5_method_4_code 28 = .ok (.invokestatic 33, 3) := by decide +kernel
theorem d_Qs_deepest_31 : decode prog_5_method_4_code 31 = .ok (.istore_n 2, 1) := by decide +kernel
theorem d_Qs_deepest_32 : decode prog_5_method_4_code 32 = .ok (.iinc 3 1, 3) := by decide +kernel
theorem d_Qs_deepest_35 : decode prog_5_method_4_code 35 = .ok (.goto (-22), 3) := by decide +kernel
theorem d_Qs_deepest_38 : decode prog_5_method_4_code 38 = .ok (.iload_n 2, 1) := by decide +kernel
theorem d_Qs_deepest_39 : decode prog_5_method_4_code 39 = .ok (.ireturn, 1) := by decide +kernel
theorem d_Qs_makePhrase_0 : decode prog_5_method_8_code 0 = .ok (.iload_n 1, 1) := by decide +kernel
theorem d_Qs_makePhrase_1 : decode prog_5_method_8_code 1 = .ok (.newarray .long, 2) := by decide +kernel
theorem d_Qs_makePhrase_3 : decode prog_5_method_8_code 3 = .ok (.astore_n 2, 1) := by decide +kernel
theorem d_Qs_makePhrase_4 : decode prog_5_method_8_code 4 = .ok (.iload_n 1, 1) := by decide +kernel
theorem d_Qs_makePhrase_5 : decode prog_5_method_8_code 5 = .ok (.iconst 1, 1) := by decide +kernel
theorem d_Qs_makePhrase_6 : decode prog_5_method_8_code 6 = .ok (.isub, 1) := by decide +kernel
theorem d_Qs_makePhrase_7 : decode prog_5_method_8_code 7 = .ok (.istore_n 3, 1) := by decide +kernel
theorem d_Qs_makePhrase_8 : decode prog_5_method_8_code 8 = .ok (.iload_n 3, 1) := by decide +kernel
theorem d_Qs_makePhrase_9 : decode prog_5_method_8_code 9 = .ok (.ifCond .lt 45, 3) := by decide +kernel
theorem d_Qs_makePhrase_12 : decode prog_5_method_8_code 12 = .ok (.aload_n 0, 1) := by decide +kernel
theorem d_Qs_makePhrase_13 : decode prog_5_method_8_code 13 = .ok (.getfield 12, 3) := by decide +kernel
theorem d_Qs_makePhrase_16 : decode prog_5_method_8_code 16 = .ok (.invokevirtual 64, 3) := by decide +kernel
theorem d_Qs_makePhrase_19 : decode prog_5_method_8_code 19 = .ok (.ifCond .ne 35, 3) := by decide +kernel
theorem d_Qs_makePhrase_22 : decode prog_5_method_8_code 22 = .ok (.aload_n 2, 1) := by decide +kernel
theorem d_Qs_makePhrase_23 : decode prog_5_method_8_code 23 = .ok (.iload_n 3, 1) := by decide +kernel
theorem d_Qs_makePhrase_24 : decode prog_5_method_8_code 24 = .ok (.aload_n 0, 1) := by decide +kernel
theorem d_Qs_makePhrase_25 : decode prog_5_method_8_code 25 = .ok (.aload_n 0, 1) := by decide +kernel
theorem d_Qs_makePhrase_26 : decode prog_5_method_8_code 26 = .ok (.getfield 12, 3) := by decide +kernel
theorem d_Qs_makePhrase_29 : decode prog_5_method_8_code 29 = .ok (.aload_n 0, 1) := by decide +kernel
theorem d_Qs_makePhrase_30 : decode prog_5_method_8_code 30 = .ok (.getfield 12, 3) := by decide +kernel
theorem d_Qs_makePhrase_33 : decode prog_5_method_8_code 33 = .ok (.invokevirtual 39, 3) := by decide +kernel
theorem d_Qs_makePhrase_36 : decode prog_5_method_8_code 36 = .ok (.iconst 1, 1) := by decide +kernel
theorem d_Qs_makePhrase_37 : decode prog_5_method_8_code 37 = .ok (.isub, 1) := by decide +kernel
theorem d_Qs_makePhrase_38 : decode prog_5_method_8_code 38 = .ok (.invokevirtual 68, 3) := by decide +kernel
theorem d_Qs_makePhrase_41 : decode prog_5_method_8_code 41 = .ok (.checkcast 47, 3) := by decide +kernel
theorem d_Qs_makePhrase_44 : decode prog_5_method_8_code 44 = .ok (.invokevirtual 49, 3) := by decide +kernel
theorem d_Qs_makePhrase_47 : decode prog_5_method_8_code 47 = .ok (.lastore, 1) := by decide +kernel
theorem d_Qs_makePhrase_48 : decode prog_5_method_8_code 48 = .ok (.iinc 3 (-1), 3) := by decide +kernel
theorem d_Qs_makePhrase_51 : decode prog_5_method_8_code 51 = .ok (.goto (-43), 3) := by decide +kernel
theorem d_Qs_makePhrase_54 : decode prog_5_method_8_code 54 = .ok (.aload_n 0, 1) := by decide +kernel
theorem d_Qs_makePhrase_55 : decode prog_5_method_8_code 55 = .ok (.new 47, 3) := by decide +kernel
theorem d_Qs_makePhrase_58 : decode prog_5_method_8_code 58 = .ok (.dup, 1) := by decide +kernel
theorem d_Qs_makePhrase_59 : decode prog_5_method_8_code 59 = .ok (.iconst 3, 1) := by decide +kernel
theorem d_Qs_makePhrase_60 : decode prog_5_method_8_code 60 = .ok (.aload_n 2, 1) := by decide +kernel
theorem d_Qs_makePhrase_61 : decode prog_5_method_8_code 61 = .ok (.invokespecial 57, 3) := by decide +kernel
theorem d_Qs_makePhrase_64 : decode prog_5_method_8_code 64 = .ok (.iload_n 1, 1) := by decide +kernel
theorem d_Qs_makePhrase_65 : decode prog_5_method_8_code 65 = .ok (.iconst 1, 1) := by decide +kernel
theorem d_Qs_makePhrase_66 : decode prog_5_method_8_code 66 = .ok (.invokevirtual 60, 3) := by decide +kernel
theorem d_Qs_makePhrase_69 : decode prog_5_method_8_code 69 = .ok (.ireturn, 1) := by decide +kernel
theorem d_Qs_firstTerm_0 : decode prog_5_method_6_code 0 = .ok (.aload_n 1, 1) := by decide +kernel
theorem d_Qs_firstTerm_1 : decode prog_5_method_6_code 1 = .ok (.getfield 53, 3) := by decide +kernel
theorem d_Qs_firstTerm_4 : decode prog_5_method_6_code 4 = .ok (.arraylength, 1) := by decide +kernel
theorem d_Qs_firstTerm_5 : decode prog_5_method_6_code 5 = .ok (.ifCond .le 12, 3) := by decide +kernel
theorem d_Qs_firstTerm_8 : decode prog_5_method_6_code 8 = .ok (.aload_n 1, 1) := by decide +kernel
theorem d_Qs_firstTerm_9 : decode prog_5_method_6_code 9 = .ok (.getfield 53, 3) := by decide +kernel
theorem d_Qs_firstTerm_12 : decode prog_5_method_6_code 12 = .ok (.iconst 0, 1) := by decide +kernel
theorem d_Qs_firstTerm_13 : decode prog_5_method_6_code 13 = .ok (.laload, 1) := by decide +kernel
theorem d_Qs_firstTerm_14 : decode prog_5_method_6_code 14 = .ok (.goto 4, 3) := by decide +kernel
theorem d_Qs_firstTerm_17 : decode prog_5_method_6_code 17 = .ok (.lconst 0, 1) := by decide +kernel
theorem d_Qs_firstTerm_18 : decode prog_5_method_6_code 18 = .ok (.lreturn, 1) := by decide +kernel
theorem d_P_join_0 : decode prog_1_method_12_code 0 = .ok (.aload_n 0, 1) := by decide +kernel
theorem d_P_join_1 : decode prog_1_method_12_code 1 = .ok (.getfield 41, 3) := by decide +kernel
theorem d_P_join_4 : decode prog_1_method_12_code 4 = .ok (.getfield 74, 3) := by decide +kernel
theorem d_P_join_7 : decode prog_1_method_12_code 7 = .ok (.ifCond .eq 6, 3) := by decide +kernel
theorem d_P_join_10 : decode prog_1_method_12_code 10 = .ok (.bipush (-9), 2) := by decide +kernel
theorem d_P_join_12 : decode prog_1_method_12_code 12 = .ok (.ireturn, 1) := by decide +kernel
theorem d_P_join_13 : decode prog_1_method_12_code 13 = .ok (.iload_n 1, 1) := by decide +kernel
theorem d_P_join_14 : decode prog_1_method_12_code 14 = .ok (.ifCond .lt 8, 3) := by decide +kernel
theorem d_P_join_17 : decode prog_1_method_12_code 17 = .ok (.iload_n 1, 1) := by decide +kernel
theorem d_P_join_18 : decode prog_1_method_12_code 18 = .ok (.iconst 2, 1) := by decide +kernel
theorem d_P_join_19 : decode prog_1_method_12_code 19 = .ok (.if_icmp .le 5, 3) := by decide +kernel
theorem d_P_join_22 : decode prog_1_method_12_code 22 = .ok (.iconst (-1), 1) := by decide +kernel
theorem d_P_join_23 : decode prog_1_method_12_code 23 = .ok (.ireturn, 1) := by decide +kernel
theorem d_P_join_24 : decode prog_1_method_12_code 24 = .ok (.iload_n 1, 1) := by decide +kernel
theorem d_P_join_25 : decode prog_1_method_12_code 25 = .ok (.iconst 2, 1) := by decide +kernel
theorem d_P_join_26 : decode prog_1_method_12_code 26 = .ok (.if_icmp .ne 7, 3) := by decide +kernel
theorem d_P_join_29 : decode prog_1_method_12_code 29 = .ok (.iconst 1, 1) := by decide +kernel
theorem d_P_join_30 : decode prog_1_method_12_code 30 = .ok (.goto 4, 3) := by decide +kernel
theorem d_P_join_33 : decode prog_1_method_12_code 33 = .ok (.iconst 2, 1) := by decide +kernel
theorem d_P_join_34 : decode prog_1_method_12_code 34 = .ok (.istore_n 2, 1) := by decide +kernel
theorem d_P_join_35 : decode prog_1_method_12_code 35 = .ok (.iload_n 2, 1) := by decide +kernel
theorem d_P_join_36 : decode prog_1_method_12_code 36 = .ok (.aload_n 0, 1) := by decide +kernel
theorem d_P_join_37 : decode prog_1_method_12_code 37 = .ok (.getfield 48, 3) := by decide +kernel
theorem d_P_join_40 : decode prog_1_method_12_code 40 = .ok (.getfield 160, 3) := by decide +kernel
theorem d_P_join_43 : decode prog_1_method_12_code 43 = .ok (.if_icmp .gt 16, 3) := by decide +kernel
theorem d_P_join_46 : decode prog_1_method_12_code 46 = .ok (.aload_n 0, 1) := by decide +kernel
theorem d_P_join_47 : decode prog_1_method_12_code 47 = .ok (.getfield 48, 3) := by decide +kernel
theorem d_P_join_50 : decode prog_1_method_12_code 50 = .ok (.iload_n 2, 1) := by decide +kernel
theorem d_P_join_51 : decode prog_1_method_12_code 51 = .ok (.invokevirtual 174, 3) := by decide +kernel
theorem d_P_join_54 : decode prog_1_method_12_code 54 = .ok (.bipush 6, 2) := by decide +kernel
theorem d_P_join_56 : decode prog_1_method_12_code 56 = .ok (.if_icmp .lt 5, 3) := by decide +kernel
theorem d_P_join_59 : decode prog_1_method_12_code 59 = .ok (.iconst (-1), 1) := by decide +kernel
theorem d_P_join_60 : decode prog_1_method_12_code 60 = .ok (.ireturn, 1) := by decide +kernel
theorem d_P_join_61 : decode prog_1_method_12_code 61 = .ok (.aload_n 0, 1) := by decide +kernel
theorem d_P_join_62 : decode prog_1_method_12_code 62 = .ok (.getfield 48, 3) := by decide +kernel
theorem d_P_join_65 : decode prog_1_method_12_code 65 = .ok (.iload_n 1, 1) := by decide +kernel
theorem d_P_join_66 : decode prog_1_method_12_code 66 = .ok (.iload_n 2, 1) := by decide +kernel
theorem d_P_join_67 : decode prog_1_method_12_code 67 = .ok (.invokevirtual 177, 3) := by decide +kernel
theorem d_P_join_70 : decode prog_1_method_12_code 70 = .ok (.ireturn, 1) := by decide +kernel
theorem d_Qs_makeJoin_0 : decode prog_5_method_9_code 0 = .ok (.aload_n 0, 1) := by decide +kernel
theorem d_Qs_makeJoin_1 : decode prog_5_method_9_code 1 = .ok (.new 47, 3) := by decide +kernel
theorem d_Qs_makeJoin_4 : decode prog_5_method_9_code 4 = .ok (.dup, 1) := by decide +kernel
theorem d_Qs_makeJoin_5 : decode prog_5_method_9_code 5 = .ok (.iload_n 1, 1) := by decide +kernel
theorem d_Qs_makeJoin_6 : decode prog_5_method_9_code 6 = .ok (.iconst 0, 1) := by decide +kernel
theorem d_Qs_makeJoin_7 : decode prog_5_method_9_code 7 = .ok (.newarray .long, 2) := by decide +kernel
theorem d_Qs_makeJoin_9 : decode prog_5_method_9_code 9 = .ok (.invokespecial 57, 3) := by decide +kernel
theorem d_Qs_makeJoin_12 : decode prog_5_method_9_code 12 = .ok (.iload_n 2, 1) := by decide +kernel
theorem d_Qs_makeJoin_13 : decode prog_5_method_9_code 13 = .ok (.aload_n 0, 1) := by decide +kernel
theorem d_Qs_makeJoin_14 : decode prog_5_method_9_code 14 = .ok (.iload_n 2, 1) := by decide +kernel
theorem d_Qs_makeJoin_15 : decode prog_5_method_9_code 15 = .ok (.invokevirtual 29, 3) := by decide +kernel
theorem d_Qs_makeJoin_18 : decode prog_5_method_9_code 18 = .ok (.iconst 1, 1) := by decide +kernel
theorem d_Qs_makeJoin_19 : decode prog_5_method_9_code 19 = .ok (.iadd, 1) := by decide +kernel
theorem d_Qs_makeJoin_20 : decode prog_5_method_9_code 20 = .ok (.invokevirtual 60, 3) := by decide +kernel
theorem d_Qs_makeJoin_23 : decode prog_5_method_9_code 23 = .ok (.ireturn, 1) := by decide +kernel
theorem d_P_find_0 : decode prog_1_method_13_code 0 = .ok (.aload_n 0, 1) := by decide +kernel
theorem d_P_find_1 : decode prog_1_method_13_code 1 = .ok (.getfield 41, 3) := by decide +kernel
theorem d_P_find_4 : decode prog_1_method_13_code 4 = .ok (.getfield 74, 3) := by decide +kernel
theorem d_P_find_7 : decode prog_1_method_13_code 7 = .ok (.ifCond .eq 6, 3) := by decide +kernel
theorem d_P_find_10 : decode prog_1_method_13_code 10 = .ok (.bipush (-9), 2) := by decide +kernel
theorem d_P_find_12 : decode prog_1_method_13_code 12 = .ok (.ireturn, 1) := by decide +kernel
theorem d_P_find_13 : decode prog_1_method_13_code 13 = .ok (.aload_n 0, 1) := by decide +kernel
theorem d_P_find_14 : decode prog_1_method_13_code 14 = .ok (.getfield 62, 3) := by decide +kernel
theorem d_P_find_17 : decode prog_1_method_13_code 17 = .ok (.invokevirtual 181, 3) := by decide +kernel
theorem d_P_find_20 : decode prog_1_method_13_code 20 = .ok (.aload_n 0, 1) := by decide +kernel
theorem d_P_find_21 : decode prog_1_method_13_code 21 = .ok (.getfield 48, 3) := by decide +kernel
theorem d_P_find_24 : decode prog_1_method_13_code 24 = .ok (.getfield 160, 3) := by decide +kernel
theorem d_P_find_27 : decode prog_1_method_13_code 27 = .ok (.iconst 1, 1) := by decide +kernel
theorem d_P_find_28 : decode prog_1_method_13_code 28 = .ok (.if_icmp .ne 7, 3) := by decide +kernel
theorem d_P_find_31 : decode prog_1_method_13_code 31 = .ok (.iconst 1, 1) := by decide +kernel
theorem d_P_find_32 : decode prog_1_method_13_code 32 = .ok (.goto 4, 3) := by decide +kernel
theorem d_P_find_35 : decode prog_1_method_13_code 35 = .ok (.iconst 0, 1) := by decide +kernel
theorem d_P_find_36 : decode prog_1_method_13_code 36 = .ok (.istore_n 1, 1) := by decide +kernel
theorem d_P_find_37 : decode prog_1_method_13_code 37 = .ok (.iload_n 1, 1) := by decide +kernel
theorem d_P_find_38 : decode prog_1_method_13_code 38 = .ok (.ifCond .eq 7, 3) := by decide +kernel
theorem d_P_find_41 : decode prog_1_method_13_code 41 = .ok (.aload_n 0, 1) := by decide +kernel
theorem d_P_find_42 : decode prog_1_method_13_code 42 = .ok (.invokevirtual 182, 3) := by decide +kernel
theorem d_P_find_45 : decode prog_1_method_13_code 45 = .ok (.aload_n 0, 1) := by decide +kernel
theorem d_P_find_46 : decode prog_1_method_13_code 46 = .ok (.getfield 48, 3) := by decide +kernel
theorem d_P_find_49 : decode prog_1_method_13_code 49 = .ok (.invokevirtual 185, 3) := by decide +kernel
theorem d_P_find_52 : decode prog_1_method_13_code 52 = .ok (.iload_n 1, 1) := by decide +kernel
theorem d_P_find_53 : decode prog_1_method_13_code 53 = .ok (.ifCond .eq 13, 3) := by decide +kernel
theorem d_P_find_56 : decode prog_1_method_13_code 56 = .ok (.aload_n 0, 1) := by decide +kernel
theorem d_P_find_57 : decode prog_1_method_13_code 57 = .ok (.getfield 62, 3) := by decide +kernel
theorem d_P_find_60 : decode prog_1_method_13_code 60 = .ok (.getfield 186, 3) := by decide +kernel
theorem d_P_find_63 : decode prog_1_method_13_code 63 = .ok (.goto 5, 3) := by decide +kernel
theorem d_P_find_66 : decode prog_1_method_13_code 66 = .ok (.bipush (-3), 2) := by decide +kernel
theorem d_P_find_68 : decode prog_1_method_13_code 68 = .ok (.ireturn, 1) := by decide +kernel
theorem d_Re_clear_0 : decode prog_7_method_2_code 0 = .ok (.aload_n 0, 1) := by decide +kernel
theorem d_Re_clear_1 : decode prog_7_method_2_code 1 = .ok (.iconst 0, 1) := by decide +kernel
theorem d_Re_clear_2 : decode prog_7_method_2_code 2 = .ok (.putfield 18, 3) := by decide +kernel
theorem d_Re_clear_5 : decode prog_7_method_2_code 5 = .ok (.return_, 1) := by decide +kernel
theorem d_P_collectMatches_0 : decode prog_1_method_23_code 0 = .ok (.iconst 0, 1) := by decide +kernel
theorem d_P_collectMatches_1 : decode prog_1_method_23_code 1 = .ok (.istore_n 1, 1) := by decide +kernel
theorem d_P_collectMatches_2 : decode prog_1_method_23_code 2 = .ok (.iload_n 1, 1) := by decide +kernel
theorem d_P_collectMatches_3 : decode prog_1_method_23_code 3 = .ok (.aload_n 0, 1) := by decide +kernel
theorem d_P_collectMatches_4 : decode prog_1_method_23_code 4 = .ok (.getfield 34, 3) := by decide +kernel
theorem d_P_collectMatches_7 : decode prog_1_method_23_code 7 = .ok (.getfield 143, 3) := by decide +kernel
theorem d_P_collectMatches_10 : decode prog_1_method_23_code 10 = .ok (.invokevirtual 121, 3) := by decide +kernel
theorem d_P_collectMatches_13 : decode prog_1_method_23_code 13 = .ok (.if_icmp .ge 49, 3) := by decide +kernel
theorem d_P_collectMatches_16 : decode prog_1_method_23_code 16 = .ok (.aload_n 0, 1) := by decide +kernel
theorem d_P_collectMatches_17 : decode prog_1_method_23_code 17 = .ok (.getfield 34, 3) := by decide +kernel
theorem d_P_collectMatches_20 : decode prog_1_method_23_code 20 = .ok (.getfield 143, 3) := by decide +kernel
theorem d_P_collectMatches_23 : decode prog_1_method_23_code 23 = .ok (.iload_n 1, 1) := by decide +kernel
theorem d_P_collectMatches_24 : decode prog_1_method_23_code 24 = .ok (.invokevirtual 223, 3) := by decide +kernel
theorem d_P_collectMatches_27 : decode prog_1_method_23_code 27 = .ok (.checkcast 85, 3) := by decide +kernel
theorem d_P_collectMatches_30 : decode prog_1_method_23_code 30 = .ok (.astore_n 2, 1) := by decide +kernel
theorem d_P_collectMatches_31 : decode prog_1_method_23_code 31 = .ok (.aload_n 0, 1) := by decide +kernel
theorem d_P_collectMatches_32 : decode prog_1_method_23_code 32 = .ok (.getfield 48, 3) := by decide +kernel
theorem d_P_collectMatches_35 : decode prog_1_method_23_code 35 = .ok (.aload_n 2, 1) := by decide +kernel
theorem d_P_collectMatches_36 : decode prog_1_method_23_code 36 = .ok (.invokevirtual 230, 3) := by decide +kernel
theorem d_P_collectMatches_39 : decode prog_1_method_23_code 39 = .ok (.ifCond .eq 17, 3) := by decide +kernel
theorem d_P_collectMatches_42 : decode prog_1_method_23_code 42 = .ok (.aload_n 0, 1) := by decide +kernel
theorem d_P_collectMatches_43 : decode prog_1_method_23_code 43 = .ok (.getfield 62, 3) := by decide +kernel
theorem d_P_collectMatches_46 : decode prog_1_method_23_code 46 = .ok (.aload_n 2, 1) := by decide +kernel
theorem d_P_collectMatches_47 : decode prog_1_method_23_code 47 = .ok (.getfield 234, 3) := by decide +kernel
theorem d_P_collectMatches_50 : decode prog_1_method_23_code 50 = .ok (.iconst 0, 1) := by decide +kernel
theorem d_P_collectMatches_51 : decode prog_1_method_23_code 51 = .ok (.bipush 12, 2) := by decide +kernel
theorem d_P_collectMatches_53 : decode prog_1_method_23_code 53 = .ok (.invokevirtual 237, 3) := by decide +kernel
theorem d_P_collectMatches_56 : decode prog_1_method_23_code 56 = .ok (.iinc 1 1, 3) := by decide +kernel
theorem d_P_collectMatches_59 : decode prog_1_method_23_code 59 = .ok (.goto (-57), 3) := by decide +kernel
theorem d_P_collectMatches_62 : decode prog_1_method_23_code 62 = .ok (.return_, 1) := by decide +kernel
theorem d_Qs_matches_0 : decode prog_5_method_11_code 0 = .ok (.iconst 0, 1) := by decide +kernel
theorem d_Qs_matches_1 : decode prog_5_method_11_code 1 = .ok (.istore_n 2, 1) := by decide +kernel
theorem d_Qs_matches_2 : decode prog_5_method_11_code 2 = .ok (.iconst 0, 1) := by decide +kernel
theorem d_Qs_matches_3 : decode prog_5_method_11_code 3 = .ok (.istore_n 3, 1) := by decide +kernel
theorem d_Qs_matches_4 : decode prog_5_method_11_code 4 = .ok (.iload_n 3, 1) := by decide +kernel
theorem d_Qs_matches_5 : decode prog_5_method_11_code 5 = .ok (.aload_n 0, 1) := by decide +kernel
theorem d_Qs_matches_6 : decode prog_5_method_11_code 6 = .ok (.getfield 12, 3) := by decide +kernel
theorem d_Qs_matches_9 : decode prog_5_method_11_code 9 = .ok (.invokevirtual 39, 3) := by decide +kernel
theorem d_Qs_matches_12 : decode prog_5_method_11_code 12 = .ok (.if_icmp .ge 26, 3) := by decide +kernel
theorem d_Qs_matches_15 : decode prog_5_method_11_code 15 = .ok (.aload_n 0, 1) := by decide +kernel
theorem d_Qs_matches_16 : decode prog_5_method_11_code 16 = .ok (.getfield 12, 3) := by decide +kernel
theorem d_Qs_matches_19 : decode prog_5_method_11_code 19 = .ok (.iload_n 3, 1) := by decide +kernel
theorem d_Qs_matches_20 : decode prog_5_method_11_code 20 = .ok (.invokevirtual 43, 3) := by decide +kernel
theorem d_Qs_matches_23 : decode prog_5_method_11_code 23 = .ok (.checkcast 47, 3) := by decide +kernel
theorem d_Qs_matches_26 : decode prog_5_method_11_code 26 = .ok (.iload_n 2, 1) := by decide +kernel
theorem d_Qs_matches_27 : decode prog_5_method_11_code 27 = .ok (.aload_n 1, 1) := by decide +kernel
theorem d_Qs_matches_28 : decode prog_5_method_11_code 28 = .ok (.invokestatic 75, 3) := by decide +kernel
theorem d_Qs_matches_31 : decode prog_5_method_11_code 31 = .ok (.istore_n 2, 1) := by decide +kernel
theorem d_Qs_matches_32 : decode prog_5_method_11_code 32 = .ok (.iinc 3 1, 3) := by decide +kernel
theorem d_Qs_matches_35 : decode prog_5_method_11_code 35 = .ok (.goto (-31), 3) := by decide +kernel
theorem d_Qs_matches_38 : decode prog_5_method_11_code 38 = .ok (.iload_n 2, 1) := by decide +kernel
theorem d_Qs_matches_39 : decode prog_5_method_11_code 39 = .ok (.iconst 1, 1) := by decide +kernel
theorem d_Qs_matches_40 : decode prog_5_method_11_code 40 = .ok (.iand, 1) := by decide +kernel
theorem d_Qs_matches_41 : decode prog_5_method_11_code 41 = .ok (.iconst 1, 1) := by decide +kernel
theorem d_Qs_matches_42 : decode prog_5_method_11_code 42 = .ok (.if_icmp .ne 7, 3) := by decide +kernel
theorem d_Qs_matches_45 : decode prog_5_method_11_code 45 = .ok (.iconst 1, 1) := by decide +kernel
theorem d_Qs_matches_46 : decode prog_5_method_11_code 46 = .ok (.goto 4, 3) := by decide +kernel
theorem d_Qs_matches_49 : decode prog_5_method_11_code 49 = .ok (.iconst 0, 1) := by decide +kernel
theorem d_Qs_matches_50 : decode prog_5_method_11_code 50 = .ok (.ireturn, 1) := by decide +kernel
theorem d_Qs_answersBehind_0 : decode prog_5_method_12_code 0 = .ok (.aload_n 0, 1) := by decide +kernel
theorem d_Qs_answersBehind_1 : decode prog_5_method_12_code 1 = .ok (.getfield 79, 3) := by decide +kernel
theorem d_Qs_answersBehind_4 : decode prog_5_method_12_code 4 = .ok (.tableswitch 49 0 2 #[28, 37, 45], 28) := by decide +kernel
theorem d_Qs_answersBehind_32 : decode prog_5_method_12_code 32 = .ok (.iload_n 1, 1) := by decide +kernel
theorem d_Qs_answersBehind_33 : decode prog_5_method_12_code 33 = .ok (.iconst 1, 1) := by decide +kernel
theorem d_Qs_answersBehind_34 : decode prog_5_method_12_code 34 = .ok (.ishr, 1) := by decide +kernel
theorem d_Qs_answersBehind_35 : decode prog_5_method_12_code 35 = .ok (.iload_n 1, 1) := by decide +kernel
theorem d_Qs_answersBehind_36 : decode prog_5_method_12_code 36 = .ok (.bipush (-2), 2) := by decide +kernel
theorem d_Qs_answersBehind_38 : decode prog_5_method_12_code 38 = .ok (.ior, 1) := by decide +kernel
theorem d_Qs_answersBehind_39 : decode prog_5_method_12_code 39 = .ok (.iand, 1) := by decide +kernel
theorem d_Qs_answersBehind_40 : decode prog_5_method_12_code 40 = .ok (.ireturn, 1) := by decide +kernel
theorem d_Qs_answersBehind_41 : decode prog_5_method_12_code 41 = .ok (.iload_n 1, 1) := by decide +kernel
theorem d_Qs_answersBehind_42 : decode prog_5_method_12_code 42 = .ok (.iconst 1, 1) := by decide +kernel
theorem d_Qs_answersBehind_43 : decode prog_5_method_12_code 43 = .ok (.ishr, 1) := by decide +kernel
theorem d_Qs_answersBehind_44 : decode prog_5_method_12_code 44 = .ok (.iload_n 1, 1) := by decide +kernel
theorem d_Qs_answersBehind_45 : decode prog_5_method_12_code 45 = .ok (.iconst 1, 1) := by decide +kernel
theorem d_Qs_answersBehind_46 : decode prog_5_method_12_code 46 = .ok (.iand, 1) := by decide +kernel
theorem d_Qs_answersBehind_47 : decode prog_5_method_12_code 47 = .ok (.ior, 1) := by decide +kernel
theorem d_Qs_answersBehind_48 : decode prog_5_method_12_code 48 = .ok (.ireturn, 1) := by decide +kernel
theorem d_Qs_answersBehind_49 : decode prog_5_method_12_code 49 = .ok (.iload_n 1, 1) := by decide +kernel
theorem d_Qs_answersBehind_50 : decode prog_5_method_12_code 50 = .ok (.iconst 1, 1) := by decide +kernel
theorem d_Qs_answersBehind_51 : decode prog_5_method_12_code 51 = .ok (.ixor, 1) := by decide +kernel
theorem d_Qs_answersBehind_52 : decode prog_5_method_12_code 52 = .ok (.ireturn, 1) := by decide +kernel
theorem d_Qs_answersBehind_53 : decode prog_5_method_12_code 53 = .ok (.iload_n 1, 1) := by decide +kernel
theorem d_Qs_answersBehind_54 : decode prog_5_method_12_code 54 = .ok (.iconst 1, 1) := by decide +kernel
theorem d_Qs_answersBehind_55 : decode prog_5_method_12_code 55 = .ok (.ishl, 1) := by decide +kernel
theorem d_Qs_answersBehind_56 : decode prog_5_method_12_code 56 = .ok (.aload_n 2, 1) := by decide +kernel
theorem d_Qs_answersBehind_57 : decode prog_5_method_12_code 57 = .ok (.aload_n 0, 1) := by decide +kernel
theorem d_Qs_answersBehind_58 : decode prog_5_method_12_code 58 = .ok (.getfield 53, 3) := by decide +kernel
theorem d_Qs_answersBehind_61 : decode prog_5_method_12_code 61 = .ok (.invokevirtual 82, 3) := by decide +kernel
theorem d_Qs_answersBehind_64 : decode prog_5_method_12_code 64 = .ok (.ifCond .eq 7, 3) := by decide +kernel
theorem d_Qs_answersBehind_67 : decode prog_5_method_12_code 67 = .ok (.iconst 1, 1) := by decide +kernel
theorem d_Qs_answersBehind_68 : decode prog_5_method_12_code 68 = .ok (.goto 4, 3) := by decide +kernel
theorem d_Qs_answersBehind_71 : decode prog_5_method_12_code 71 = .ok (.iconst 0, 1) := by decide +kernel
theorem d_Qs_answersBehind_72 : decode prog_5_method_12_code 72 = .ok (.ior, 1) := by decide +kernel
theorem d_Qs_answersBehind_73 : decode prog_5_method_12_code 73 = .ok (.ireturn, 1) := by decide +kernel
theorem d_D_hasRow_0 : decode prog_2_method_6_code 0 = .ok (.iconst 0, 1) := by decide +kernel
theorem d_D_hasRow_1 : decode prog_2_method_6_code 1 = .ok (.istore_n 2, 1) := by decide +kernel
theorem d_D_hasRow_2 : decode prog_2_method_6_code 2 = .ok (.iload_n 2, 1) := by decide +kernel
theorem d_D_hasRow_3 : decode prog_2_method_6_code 3 = .ok (.aload_n 1, 1) := by decide +kernel
theorem d_D_hasRow_4 : decode prog_2_method_6_code 4 = .ok (.arraylength, 1) := by decide +kernel
theorem d_D_hasRow_5 : decode prog_2_method_6_code 5 = .ok (.iadd, 1) := by decide +kernel
theorem d_D_hasRow_6 : decode prog_2_method_6_code 6 = .ok (.aload_n 0, 1) := by decide +kernel
theorem d_D_hasRow_7 : decode prog_2_method_6_code 7 = .ok (.getfield 15, 3) := by decide +kernel
theorem d_D_hasRow_10 : decode prog_2_method_6_code 10 = .ok (.arraylength, 1) := by decide +kernel
theorem d_D_hasRow_11 : decode prog_2_method_6_code 11 = .ok (.if_icmp .gt 20, 3) := by decide +kernel
theorem d_D_hasRow_14 : decode prog_2_method_6_code 14 = .ok (.aload_n 0, 1) := by decide +kernel
theorem d_D_hasRow_15 : decode prog_2_method_6_code 15 = .ok (.iload_n 2, 1) := by decide +kernel
theorem d_D_hasRow_16 : decode prog_2_method_6_code 16 = .ok (.aload_n 1, 1) := by decide +kernel
theorem d_D_hasRow_17 : decode prog_2_method_6_code 17 = .ok (.invokevirtual 23, 3) := by decide +kernel
theorem d_D_hasRow_20 : decode prog_2_method_6_code 20 = .ok (.ifCond .eq 5, 3) := by decide +kernel
theorem d_D_hasRow_23 : decode prog_2_method_6_code 23 = .ok (.iconst 1, 1) := by decide +kernel
theorem d_D_hasRow_24 : decode prog_2_method_6_code 24 = .ok (.ireturn, 1) := by decide +kernel
theorem d_D_hasRow_25 : decode prog_2_method_6_code 25 = .ok (.iinc 2 1, 3) := by decide +kernel
theorem d_D_hasRow_28 : decode prog_2_method_6_code 28 = .ok (.goto (-26), 3) := by decide +kernel
theorem d_D_hasRow_31 : decode prog_2_method_6_code 31 = .ok (.iconst 0, 1) := by decide +kernel
theorem d_D_hasRow_32 : decode prog_2_method_6_code 32 = .ok (.ireturn, 1) := by decide +kernel
theorem d_D_hasRowAt_0 : decode prog_2_method_7_code 0 = .ok (.iconst 0, 1) := by decide +kernel
theorem d_D_hasRowAt_1 : decode prog_2_method_7_code 1 = .ok (.istore_n 3, 1) := by decide +kernel
theorem d_D_hasRowAt_2 : decode prog_2_method_7_code 2 = .ok (.iload_n 3, 1) := by decide +kernel
theorem d_D_hasRowAt_3 : decode prog_2_method_7_code 3 = .ok (.aload_n 2, 1) := by decide +kernel
theorem d_D_hasRowAt_4 : decode prog_2_method_7_code 4 = .ok (.arraylength, 1) := by decide +kernel
theorem d_D_hasRowAt_5 : decode prog_2_method_7_code 5 = .ok (.if_icmp .ge 34, 3) := by decide +kernel
theorem d_D_hasRowAt_8 : decode prog_2_method_7_code 8 = .ok (.aload_n 2, 1) := by decide +kernel
theorem d_D_hasRowAt_9 : decode prog_2_method_7_code 9 = .ok (.iload_n 3, 1) := by decide +kernel
theorem d_D_hasRowAt_10 : decode prog_2_method_7_code 10 = .ok (.laload, 1) := by decide +kernel
theorem d_D_hasRowAt_11 : decode prog_2_method_7_code 11 = .ok (.lconst 0, 1) := by decide +kernel
theorem d_D_hasRowAt_12 : decode prog_2_method_7_code 12 = .ok (.lcmp, 1) := by decide +kernel
theorem d_D_hasRowAt_13 : decode prog_2_method_7_code 13 = .ok (.ifCond .eq 18, 3) := by decide +kernel
theorem d_D_hasRowAt_16 : decode prog_2_method_7_code 16 = .ok (.aload_n 2, 1) := by decide +kernel
theorem d_D_hasRowAt_17 : decode prog_2_method_7_code 17 = .ok (.iload_n 3, 1) := by decide +kernel
theorem d_D_hasRowAt_18 : decode prog_2_method_7_code 18 = .ok (.laload, 1) := by decide +kernel
theorem d_D_hasRowAt_19 : decode prog_2_method_7_code 19 = .ok (.aload_n 0, 1) := by decide +kernel
theorem d_D_hasRowAt_20 : decode prog_2_method_7_code 20 = .ok (.getfield 15, 3) := by decide +kernel
theorem d_D_hasRowAt_23 : decode prog_2_method_7_code 23 = .ok (.iload_n 1, 1) := by decide +kernel
theorem d_D_hasRowAt_24 : decode prog_2_method_7_code 24 = .ok (.iload_n 3, 1) := by decide +kernel
theorem d_D_hasRowAt_25 : decode prog_2_method_7_code 25 = .ok (.iadd, 1) := by decide +kernel
theorem d_D_hasRowAt_26 : decode prog_2_method_7_code 26 = .ok (.laload, 1) := by decide +kernel
theorem d_D_hasRowAt_27 : decode prog_2_method_7_code 27 = .ok (.lcmp, 1) := by decide +kernel
theorem d_D_hasRowAt_28 : decode prog_2_method_7_code 28 = .ok (.ifCond .eq 5, 3) := by decide +kernel
theorem d_D_hasRowAt_31 : decode prog_2_method_7_code 31 = .ok (.iconst 0, 1) := by decide +kernel
theorem d_D_hasRowAt_32 : decode prog_2_method_7_code 32 = .ok (.ireturn, 1) := by decide +kernel
theorem d_D_hasRowAt_33 : decode prog_2_method_7_code 33 = .ok (.iinc 3 1, 3) := by decide +kernel
theorem d_D_hasRowAt_36 : decode prog_2_method_7_code 36 = .ok (.goto (-34), 3) := by decide +kernel
theorem d_D_hasRowAt_39 : decode prog_2_method_7_code 39 = .ok (.iconst 1, 1) := by decide +kernel
theorem d_D_hasRowAt_40 : decode prog_2_method_7_code 40 = .ok (.ireturn, 1) := by decide +kernel
theorem d_Re_insert_0 : decode prog_7_method_5_code 0 = .ok (.aload_n 0, 1) := by decide +kernel
theorem d_Re_insert_1 : decode prog_7_method_5_code 1 = .ok (.getfield 18, 3) := by decide +kernel
theorem d_Re_insert_4 : decode prog_7_method_5_code 4 = .ok (.istore 4, 2) := by decide +kernel
theorem d_Re_insert_6 : decode prog_7_method_5_code 6 = .ok (.iload 4, 2) := by decide +kernel
theorem d_Re_insert_8 : decode prog_7_method_5_code 8 = .ok (.ifCond .le 22, 3) := by decide +kernel
theorem d_Re_insert_11 : decode prog_7_method_5_code 11 = .ok (.aload_n 0, 1) := by decide +kernel
theorem d_Re_insert_12 : decode prog_7_method_5_code 12 = .ok (.getfield 15, 3) := by decide +kernel
theorem d_Re_insert_15 : decode prog_7_method_5_code 15 = .ok (.iload 4, 2) := by decide +kernel
theorem d_Re_insert_17 : decode prog_7_method_5_code 17 = .ok (.iconst 1, 1) := by decide +kernel
theorem d_Re_insert_18 : decode prog_7_method_5_code 18 = .ok (.isub, 1) := by decide +kernel
theorem d_Re_insert_19 : decode prog_7_method_5_code 19 = .ok (.iaload, 1) := by decide +kernel
theorem d_Re_insert_20 : decode prog_7_method_5_code 20 = .ok (.iload_n 2, 1) := by decide +kernel
theorem d_Re_insert_21 : decode prog_7_method_5_code 21 = .ok (.if_icmp .ge 9, 3) := by decide +kernel
theorem d_Re_insert_24 : decode prog_7_method_5_code 24 = .ok (.iinc 4 (-1), 3) := by decide +kernel
theorem d_Re_insert_27 : decode prog_7_method_5_code 27 = .ok (.goto (-21), 3) := by decide +kernel
theorem d_Re_insert_30 : decode prog_7_method_5_code 30 = .ok (.iload 4, 2) := by decide +kernel
theorem d_Re_insert_32 : decode prog_7_method_5_code 32 = .ok (.iload_n 3, 1) := by decide +kernel
theorem d_Re_insert_33 : decode prog_7_method_5_code 33 = .ok (.if_icmp .ge 10, 3) := by decide +kernel
theorem d_Re_insert_36 : decode prog_7_method_5_code 36 = .ok (.iload 4, 2) := by decide +kernel
theorem d_Re_insert_38 : decode prog_7_method_5_code 38 = .ok (.bipush 12, 2) := by decide +kernel
theorem d_Re_insert_40 : decode prog_7_method_5_code 40 = .ok (.if_icmp .lt 4, 3) := by decide +kernel
theorem d_Re_insert_43 : decode prog_7_method_5_code 43 = .ok (.return_, 1) := by decide +kernel
theorem d_Re_insert_44 : decode prog_7_method_5_code 44 = .ok (.aload_n 0, 1) := by decide +kernel
theorem d_Re_insert_45 : decode prog_7_method_5_code 45 = .ok (.aload_n 0, 1) := by decide +kernel
theorem d_Re_insert_46 : decode prog_7_method_5_code 46 = .ok (.getfield 18, 3) := by decide +kernel
theorem d_Re_insert_49 : decode prog_7_method_5_code 49 = .ok (.iconst 1, 1) := by decide +kernel
theorem d_Re_insert_50 : decode prog_7_method_5_code 50 = .ok (.iadd, 1) := by decide +kernel
theorem d_Re_insert_51 : decode prog_7_method_5_code 51 = .ok (.iload_n 3, 1) := by decide +kernel
theorem d_Re_insert_52 : decode prog_7_method_5_code 52 = .ok (.bipush 12, 2) := by decide +kernel
theorem d_Re_insert_54 : decode prog_7_method_5_code 54 = .ok (.invokestatic 22, 3) := by decide +kernel
theorem d_Re_insert_57 : decode prog_7_method_5_code 57 = .ok (.invokestatic 22, 3) := by decide +kernel
theorem d_Re_insert_60 : decode prog_7_method_5_code 60 = .ok (.putfield 18, 3) := by decide +kernel
theorem d_Re_insert_63 : decode prog_7_method_5_code 63 = .ok (.aload_n 0, 1) := by decide +kernel
theorem d_Re_insert_64 : decode prog_7_method_5_code 64 = .ok (.getfield 18, 3) := by decide +kernel
theorem d_Re_insert_67 : decode prog_7_method_5_code 67 = .ok (.iconst 1, 1) := by decide +kernel
theorem d_Re_insert_68 : decode prog_7_method_5_code 68 = .ok (.isub, 1) := by decide +kernel
theorem d_Re_insert_69 : decode prog_7_method_5_code 69 = .ok (.istore 5, 2) := by decide +kernel
theorem d_Re_insert_71 : decode prog_7_method_5_code 71 = .ok (.iload 5, 2) := by decide +kernel
theorem d_Re_insert_73 : decode prog_7_method_5_code 73 = .ok (.iload 4, 2) := by decide +kernel
theorem d_Re_insert_75 : decode prog_7_method_5_code 75 = .ok (.if_icmp .le 41, 3) := by decide +kernel
theorem d_Re_insert_78 : decode prog_7_method_5_code 78 = .ok (.aload_n 0, 1) := by decide +kernel
theorem d_Re_insert_79 : decode prog_7_method_5_code 79 = .ok (.getfield 9, 3) := by decide +kernel
theorem d_Re_insert_82 : decode prog_7_method_5_code 82 = .ok (.iload 5, 2) := by decide +kernel
theorem d_Re_insert_84 : decode prog_7_method_5_code 84 = .ok (.aload_n 0, 1) := by decide +kernel
theorem d_Re_insert_85 : decode prog_7_method_5_code 85 = .ok (.getfield 9, 3) := by decide +kernel
theorem d_Re_insert_88 : decode prog_7_method_5_code 88 = .ok (.iload 5, 2) := by decide +kernel
theorem d_Re_insert_90 : decode prog_7_method_5_code 90 = .ok (.iconst 1, 1) := by decide +kernel
theorem d_Re_insert_91 : decode prog_7_method_5_code 91 = .ok (.isub, 1) := by decide +kernel
theorem d_Re_insert_92 : decode prog_7_method_5_code 92 = .ok (.iaload, 1) := by decide +kernel
theorem d_Re_insert_93 : decode prog_7_method_5_code 93 = .ok (.iastore, 1) := by decide +kernel
theorem d_Re_insert_94 : decode prog_7_method_5_code 94 = .ok (.aload_n 0, 1) := by decide +kernel
theorem d_Re_insert_95 : decode prog_7_method_5_code 95 = .ok (.getfield 15, 3) := by decide +kernel
theorem d_Re_insert_98 : decode prog_7_method_5_code 98 = .ok (.iload 5, 2) := by decide +kernel
theorem d_Re_insert_100 : decode prog_7_method_5_code 100 = .ok (.aload_n 0, 1) := by decide +kernel
theorem d_Re_insert_101 : decode prog_7_method_5_code 101 = .ok (.getfield 15, 3) := by decide +kernel
theorem d_Re_insert_104 : decode prog_7_method_5_code 104 = .ok (.iload 5, 2) := by decide +kernel
theorem d_Re_insert_106 : decode prog_7_method_5_code 106 = .ok (.iconst 1, 1) := by decide +kernel
theorem d_Re_insert_107 : decode prog_7_method_5_code 107 = .ok (.isub, 1) := by decide +kernel
theorem d_Re_insert_108 : decode prog_7_method_5_code 108 = .ok (.iaload, 1) := by decide +kernel
theorem d_Re_insert_109 : decode prog_7_method_5_code 109 = .ok (.iastore, 1) := by decide +kernel
theorem d_Re_insert_110 : decode prog_7_method_5_code 110 = .ok (.iinc 5 (-1), 3) := by decide +kernel
theorem d_Re_insert_113 : decode prog_7_method_5_code 113 = .ok (.goto (-42), 3) := by decide +kernel
theorem d_Re_insert_116 : decode prog_7_method_5_code 116 = .ok (.aload_n 0, 1) := by decide +kernel
theorem d_Re_insert_117 : decode prog_7_method_5_code 117 = .ok (.getfield 9, 3) := by decide +kernel
theorem d_Re_insert_120 : decode prog_7_method_5_code 120 = .ok (.iload 4, 2) := by decide +kernel
theorem d_Re_insert_122 : decode prog_7_method_5_code 122 = .ok (.iload_n 1, 1) := by decide +kernel
theorem d_Re_insert_123 : decode prog_7_method_5_code 123 = .ok (.iastore, 1) := by decide +kernel
theorem d_Re_insert_124 : decode prog_7_method_5_code 124 = .ok (.aload_n 0, 1) := by decide +kernel
theorem d_Re_insert_125 : decode prog_7_method_5_code 125 = .ok (.getfield 15, 3) := by decide +kernel
theorem d_Re_insert_128 : decode prog_7_method_5_code 128 = .ok (.iload 4, 2) := by decide +kernel
theorem d_Re_insert_130 : decode prog_7_method_5_code 130 = .ok (.iload_n 2, 1) := by decide +kernel
theorem d_Re_insert_131 : decode prog_7_method_5_code 131 = .ok (.iastore, 1) := by decide +kernel
theorem d_Re_insert_132 : decode prog_7_method_5_code 132 = .ok (.return_, 1) := by decide +kernel
theorem d_P_rank_0 : decode prog_1_method_14_code 0 = .ok (.aload_n 0, 1) := by decide +kernel
theorem d_P_rank_1 : decode prog_1_method_14_code 1 = .ok (.getfield 41, 3) := by decide +kernel
theorem d_P_rank_4 : decode prog_1_method_14_code 4 = .ok (.getfield 74, 3) := by decide +kernel
theorem d_P_rank_7 : decode prog_1_method_14_code 7 = .ok (.ifCond .eq 6, 3) := by decide +kernel
theorem d_P_rank_10 : decode prog_1_method_14_code 10 = .ok (.bipush (-9), 2) := by decide +kernel
theorem d_P_rank_12 : decode prog_1_method_14_code 12 = .ok (.ireturn, 1) := by decide +kernel
theorem d_P_rank_13 : decode prog_1_method_14_code 13 = .ok (.iload_n 1, 1) := by decide +kernel
theorem d_P_rank_14 : decode prog_1_method_14_code 14 = .ok (.iconst 1, 1) := by decide +kernel
theorem d_P_rank_15 : decode prog_1_method_14_code 15 = .ok (.if_icmp .lt 8, 3) := by decide +kernel
theorem d_P_rank_18 : decode prog_1_method_14_code 18 = .ok (.iload_n 1, 1) := by decide +kernel
theorem d_P_rank_19 : decode prog_1_method_14_code 19 = .ok (.iconst 5, 1) := by decide +kernel
theorem d_P_rank_20 : decode prog_1_method_14_code 20 = .ok (.if_icmp .le 5, 3) := by decide +kernel
theorem d_P_rank_23 : decode prog_1_method_14_code 23 = .ok (.iconst (-1), 1) := by decide +kernel
theorem d_P_rank_24 : decode prog_1_method_14_code 24 = .ok (.ireturn, 1) := by decide +kernel
theorem d_P_rank_25 : decode prog_1_method_14_code 25 = .ok (.aload_n 0, 1) := by decide +kernel
theorem d_P_rank_26 : decode prog_1_method_14_code 26 = .ok (.getfield 62, 3) := by decide +kernel
theorem d_P_rank_29 : decode prog_1_method_14_code 29 = .ok (.invokevirtual 181, 3) := by decide +kernel
theorem d_P_rank_32 : decode prog_1_method_14_code 32 = .ok (.aload_n 0, 1) := by decide +kernel
theorem d_P_rank_33 : decode prog_1_method_14_code 33 = .ok (.getfield 55, 3) := by decide +kernel
theorem d_P_rank_36 : decode prog_1_method_14_code 36 = .ok (.invokevirtual 189, 3) := by decide +kernel
theorem d_P_rank_39 : decode prog_1_method_14_code 39 = .ok (.aload_n 0, 1) := by decide +kernel
theorem d_P_rank_40 : decode prog_1_method_14_code 40 = .ok (.getfield 48, 3) := by decide +kernel
theorem d_P_rank_43 : decode prog_1_method_14_code 43 = .ok (.getfield 160, 3) := by decide +kernel
theorem d_P_rank_46 : decode prog_1_method_14_code 46 = .ok (.ifCond .le 24, 3) := by decide +kernel
theorem d_P_rank_49 : decode prog_1_method_14_code 49 = .ok (.aload_n 0, 1) := by decide +kernel
theorem d_P_rank_50 : decode prog_1_method_14_code 50 = .ok (.getfield 48, 3) := by decide +kernel
theorem d_P_rank_53 : decode prog_1_method_14_code 53 = .ok (.aload_n 0, 1) := by decide +kernel
theorem d_P_rank_54 : decode prog_1_method_14_code 54 = .ok (.getfield 48, 3) := by decide +kernel
theorem d_P_rank_57 : decode prog_1_method_14_code 57 = .ok (.getfield 160, 3) := by decide +kernel
theorem d_P_rank_60 : decode prog_1_method_14_code 60 = .ok (.invokevirtual 167, 3) := by decide +kernel
theorem d_P_rank_63 : decode prog_1_method_14_code 63 = .ok (.ifCond .eq 7, 3) := by decide +kernel
theorem d_P_rank_66 : decode prog_1_method_14_code 66 = .ok (.iconst 1, 1) := by decide +kernel
theorem d_P_rank_67 : decode prog_1_method_14_code 67 = .ok (.goto 4, 3) := by decide +kernel
theorem d_P_rank_70 : decode prog_1_method_14_code 70 = .ok (.iconst 0, 1) := by decide +kernel
theorem d_P_rank_71 : decode prog_1_method_14_code 71 = .ok (.istore_n 2, 1) := by decide +kernel
theorem d_P_rank_72 : decode prog_1_method_14_code 72 = .ok (.iload_n 2, 1) := by decide +kernel
theorem d_P_rank_73 : decode prog_1_method_14_code 73 = .ok (.ifCond .eq 40, 3) := by decide +kernel
theorem d_P_rank_76 : decode prog_1_method_14_code 76 = .ok (.aload_n 0, 1) := by decide +kernel
theorem d_P_rank_77 : decode prog_1_method_14_code 77 = .ok (.getfield 55, 3) := by decide +kernel
theorem d_P_rank_80 : decode prog_1_method_14_code 80 = .ok (.aload_n 0, 1) := by decide +kernel
theorem d_P_rank_81 : decode prog_1_method_14_code 81 = .ok (.getfield 48, 3) := by decide +kernel
theorem d_P_rank_84 : decode prog_1_method_14_code 84 = .ok (.aload_n 0, 1) := by decide +kernel
theorem d_P_rank_85 : decode prog_1_method_14_code 85 = .ok (.getfield 34, 3) := by decide +kernel
theorem d_P_rank_88 : decode prog_1_method_14_code 88 = .ok (.getfield 143, 3) := by decide +kernel
theorem d_P_rank_91 : decode prog_1_method_14_code 91 = .ok (.invokevirtual 190, 3) := by decide +kernel
theorem d_P_rank_94 : decode prog_1_method_14_code 94 = .ok (.aload_n 0, 1) := by decide +kernel
theorem d_P_rank_95 : decode prog_1_method_14_code 95 = .ok (.getfield 55, 3) := by decide +kernel
theorem d_P_rank_98 : decode prog_1_method_14_code 98 = .ok (.iload_n 1, 1) := by decide +kernel
theorem d_P_rank_99 : decode prog_1_method_14_code 99 = .ok (.aload_n 0, 1) := by decide +kernel
theorem d_P_rank_100 : decode prog_1_method_14_code 100 = .ok (.getfield 34, 3) := by decide +kernel
theorem d_P_rank_103 : decode prog_1_method_14_code 103 = .ok (.getfield 143, 3) := by decide +kernel
theorem d_P_rank_106 : decode prog_1_method_14_code 106 = .ok (.aload_n 0, 1) := by decide +kernel
theorem d_P_rank_107 : decode prog_1_method_14_code 107 = .ok (.getfield 62, 3) := by decide +kernel
theorem d_P_rank_110 : decode prog_1_method_14_code 110 = .ok (.invokevirtual 194, 3) := by decide +kernel
theorem d_P_rank_113 : decode prog_1_method_14_code 113 = .ok (.aload_n 0, 1) := by decide +kernel
theorem d_P_rank_114 : decode prog_1_method_14_code 114 = .ok (.getfield 48, 3) := by decide +kernel
theorem d_P_rank_117 : decode prog_1_method_14_code 117 = .ok (.invokevirtual 185, 3) := by decide +kernel
theorem d_P_rank_120 : decode prog_1_method_14_code 120 = .ok (.iload_n 2, 1) := by decide +kernel
theorem d_P_rank_121 : decode prog_1_method_14_code 121 = .ok (.ifCond .eq 13, 3) := by decide +kernel
theorem d_P_rank_124 : decode prog_1_method_14_code 124 = .ok (.aload_n 0, 1) := by decide +kernel
theorem d_P_rank_125 : decode prog_1_method_14_code 125 = .ok (.getfield 62, 3) := by decide +kernel
theorem d_P_rank_128 : decode prog_1_method_14_code 128 = .ok (.getfield 186, 3) := by decide +kernel
theorem d_P_rank_131 : decode prog_1_method_14_code 131 = .ok (.goto 5, 3) := by decide +kernel
theorem d_P_rank_134 : decode prog_1_method_14_code 134 = .ok (.bipush (-3), 2) := by decide +kernel
theorem d_P_rank_136 : decode prog_1_method_14_code 136 = .ok (.ireturn, 1) := by decide +kernel
theorem d_Ra_clear_0 : decode prog_6_method_2_code 0 = .ok (.aload_n 0, 1) := by decide +kernel
theorem d_Ra_clear_1 : decode prog_6_method_2_code 1 = .ok (.iconst 0, 1) := by decide +kernel
theorem d_Ra_clear_2 : decode prog_6_method_2_code 2 = .ok (.putfield 24, 3) := by decide +kernel
theorem d_Ra_clear_5 : decode prog_6_method_2_code 5 = .ok (.return_, 1) := by decide +kernel
theorem d_Ra_weighBag_0 : decode prog_6_method_3_code 0 = .ok (.aload_n 2, 1) := by decide +kernel
theorem d_Ra_weighBag_1 : decode prog_6_method_3_code 1 = .ok (.invokestatic 27, 3) := by decide +kernel
theorem d_Ra_weighBag_4 : decode prog_6_method_3_code 4 = .ok (.istore_n 3, 1) := by decide +kernel
theorem d_Ra_weighBag_5 : decode prog_6_method_3_code 5 = .ok (.aload_n 0, 1) := by decide +kernel
theorem d_Ra_weighBag_6 : decode prog_6_method_3_code 6 = .ok (.aload_n 1, 1) := by decide +kernel
theorem d_Ra_weighBag_7 : decode prog_6_method_3_code 7 = .ok (.getfield 31, 3) := by decide +kernel
theorem d_Ra_weighBag_10 : decode prog_6_method_3_code 10 = .ok (.bipush 8, 2) := by decide +kernel
theorem d_Ra_weighBag_12 : decode prog_6_method_3_code 12 = .ok (.invokestatic 36, 3) := by decide +kernel
theorem d_Ra_weighBag_15 : decode prog_6_method_3_code 15 = .ok (.putfield 20, 3) := by decide +kernel
theorem d_Ra_weighBag_18 : decode prog_6_method_3_code 18 = .ok (.iconst 0, 1) := by decide +kernel
theorem d_Ra_weighBag_19 : decode prog_6_method_3_code 19 = .ok (.istore 4, 2) := by decide +kernel
theorem d_Ra_weighBag_21 : decode prog_6_method_3_code 21 = .ok (.iload 4, 2) := by decide +kernel
theorem d_Ra_weighBag_23 : decode prog_6_method_3_code 23 = .ok (.aload_n 0, 1) := by decide +kernel
theorem d_Ra_weighBag_24 : decode prog_6_method_3_code 24 = .ok (.getfield 20, 3) := by decide +kernel
theorem d_Ra_weighBag_27 : decode prog_6_method_3_code 27 = .ok (.if_icmp .ge 23, 3) := by decide +kernel
theorem d_Ra_weighBag_30 : decode prog_6_method_3_code 30 = .ok (.aload_n 0, 1) := by decide +kernel
theorem d_Ra_weighBag_31 : decode prog_6_method_3_code 31 = .ok (.iload 4, 2) := by decide +kernel
theorem d_Ra_weighBag_33 : decode prog_6_method_3_code 33 = .ok (.aload_n 1, 1) := by decide +kernel
theorem d_Ra_weighBag_34 : decode prog_6_method_3_code 34 = .ok (.iload 4, 2) := by decide +kernel
theorem d_Ra_weighBag_36 : decode prog_6_method_3_code 36 = .ok (.invokevirtual 42, 3) := by decide +kernel
theorem d_Ra_weighBag_39 : decode prog_6_method_3_code 39 = .ok (.aload_n 2, 1) := by decide +kernel
theorem d_Ra_weighBag_40 : decode prog_6_method_3_code 40 = .ok (.iload_n 3, 1) := by decide +kernel
theorem d_Ra_weighBag_41 : decode prog_6_method_3_code 41 = .ok (.invokevirtual 46, 3) := by decide +kernel
theorem d_Ra_weighBag_44 : decode prog_6_method_3_code 44 = .ok (.iinc 4 1, 3) := by decide +kernel
theorem d_Ra_weighBag_47 : decode prog_6_method_3_code 47 = .ok (.goto (-26), 3) := by decide +kernel
theorem d_Ra_weighBag_50 : decode prog_6_method_3_code 50 = .ok (.return_, 1) := by decide +kernel
theorem d_P_totalLength_0 : decode prog_1_method_21_code 0 = .ok (.iconst 0, 1) := by decide +kernel
theorem d_P_totalLength_1 : decode prog_1_method_21_code 1 = .ok (.istore_n 1, 1) := by decide +kernel
theorem d_P_totalLength_2 : decode prog_1_method_21_code 2 = .ok (.iconst 0, 1) := by decide +kernel
theorem d_P_totalLength_3 : decode prog_1_method_21_code 3 = .ok (.istore_n 2, 1) := by decide +kernel
theorem d_P_totalLength_4 : decode prog_1_method_21_code 4 = .ok (.iload_n 2, 1) := by decide +kernel
theorem d_P_totalLength_5 : decode prog_1_method_21_code 5 = .ok (.aload_n 0, 1) := by decide +kernel
theorem d_P_totalLength_6 : decode prog_1_method_21_code 6 = .ok (.invokevirtual 121, 3) := by decide +kernel
theorem d_P_totalLength_9 : decode prog_1_method_21_code 9 = .ok (.if_icmp .ge 23, 3) := by decide +kernel
theorem d_P_totalLength_12 : decode prog_1_method_21_code 12 = .ok (.iload_n 1, 1) := by decide +kernel
theorem d_P_totalLength_13 : decode prog_1_method_21_code 13 = .ok (.aload_n 0, 1) := by decide +kernel
theorem d_P_totalLength_14 : decode prog_1_method_21_code 14 = .ok (.iload_n 2, 1) := by decide +kernel
theorem d_P_totalLength_15 : decode prog_1_method_21_code 15 = .ok (.invokevirtual 223, 3) := by decide +kernel
theorem d_P_totalLength_18 : decode prog_1_method_21_code 18 = .ok (.checkcast 85, 3) := by decide +kernel
theorem d_P_totalLength_21 : decode prog_1_method_21_code 21 = .ok (.invokevirtual 227, 3) := by decide +kernel
theorem d_P_totalLength_24 : decode prog_1_method_21_code 24 = .ok (.iadd, 1) := by decide +kernel
theorem d_P_totalLength_25 : decode prog_1_method_21_code 25 = .ok (.istore_n 1, 1) := by decide +kernel
theorem d_P_totalLength_26 : decode prog_1_method_21_code 26 = .ok (.iinc 2 1, 3) := by decide +kernel
theorem d_P_totalLength_29 : decode prog_1_method_21_code 29 = .ok (.goto (-25), 3) := by decide +kernel
theorem d_P_totalLength_32 : decode prog_1_method_21_code 32 = .ok (.iload_n 1, 1) := by decide +kernel
theorem d_P_totalLength_33 : decode prog_1_method_21_code 33 = .ok (.ireturn, 1) := by decide +kernel
theorem d_D_length_0 : decode prog_2_method_2_code 0 = .ok (.iconst 0, 1) := by decide +kernel
theorem d_D_length_1 : decode prog_2_method_2_code 1 = .ok (.istore_n 1, 1) := by decide +kernel
theorem d_D_length_2 : decode prog_2_method_2_code 2 = .ok (.iconst 0, 1) := by decide +kernel
theorem d_D_length_3 : decode prog_2_method_2_code 3 = .ok (.istore_n 2, 1) := by decide +kernel
theorem d_D_length_4 : decode prog_2_method_2_code 4 = .ok (.iload_n 2, 1) := by decide +kernel
theorem d_D_length_5 : decode prog_2_method_2_code 5 = .ok (.aload_n 0, 1) := by decide +kernel
theorem d_D_length_6 : decode prog_2_method_2_code 6 = .ok (.getfield 15, 3) := by decide +kernel
theorem d_D_length_9 : decode prog_2_method_2_code 9 = .ok (.arraylength, 1) := by decide +kernel
theorem d_D_length_10 : decode prog_2_method_2_code 10 = .ok (.if_icmp .ge 23, 3) := by decide +kernel
theorem d_D_length_13 : decode prog_2_method_2_code 13 = .ok (.aload_n 0, 1) := by decide +kernel
theorem d_D_length_14 : decode prog_2_method_2_code 14 = .ok (.getfield 15, 3) := by decide +kernel
theorem d_D_length_17 : decode prog_2_method_2_code 17 = .ok (.iload_n 2, 1) := by decide +kernel
theorem d_D_length_18 : decode prog_2_method_2_code 18 = .ok (.laload, 1) := by decide +kernel
theorem d_D_length_19 : decode prog_2_method_2_code 19 = .ok (.lconst 0, 1) := by decide +kernel
theorem d_D_length_20 : decode prog_2_method_2_code 20 = .ok (.lcmp, 1) := by decide +kernel
theorem d_D_length_21 : decode prog_2_method_2_code 21 = .ok (.ifCond .eq 6, 3) := by decide +kernel
theorem d_D_length_24 : decode prog_2_method_2_code 24 = .ok (.iinc 1 1, 3) := by decide +kernel
theorem d_D_length_27 : decode prog_2_method_2_code 27 = .ok (.iinc 2 1, 3) := by decide +kernel
theorem d_D_length_30 : decode prog_2_method_2_code 30 = .ok (.goto (-26), 3) := by decide +kernel
theorem d_D_length_33 : decode prog_2_method_2_code 33 = .ok (.iload_n 1, 1) := by decide +kernel
theorem d_D_length_34 : decode prog_2_method_2_code 34 = .ok (.ireturn, 1) := by decide +kernel
theorem d_Qs_termAt_0 : decode prog_5_method_5_code 0 = .ok (.iload_n 1, 1) := by decide +kernel
theorem d_Qs_termAt_1 : decode prog_5_method_5_code 1 = .ok (.aload_n 0, 1) := by decide +kernel
theorem d_Qs_termAt_2 : decode prog_5_method_5_code 2 = .ok (.getfield 12, 3) := by decide +kernel
theorem d_Qs_termAt_5 : decode prog_5_method_5_code 5 = .ok (.invokevirtual 39, 3) := by decide +kernel
theorem d_Qs_termAt_8 : decode prog_5_method_5_code 8 = .ok (.if_icmp .ge 21, 3) := by decide +kernel
theorem d_Qs_termAt_11 : decode prog_5_method_5_code 11 = .ok (.aload_n 0, 1) := by decide +kernel
theorem d_Qs_termAt_12 : decode prog_5_method_5_code 12 = .ok (.aload_n 0, 1) := by decide +kernel
theorem d_Qs_termAt_13 : decode prog_5_method_5_code 13 = .ok (.getfield 12, 3) := by decide +kernel
theorem d_Qs_termAt_16 : decode prog_5_method_5_code 16 = .ok (.iload_n 1, 1) := by decide +kernel
theorem d_Qs_termAt_17 : decode prog_5_method_5_code 17 = .ok (.invokevirtual 43, 3) := by decide +kernel
theorem d_Qs_termAt_20 : decode prog_5_method_5_code 20 = .ok (.checkcast 47, 3) := by decide +kernel
theorem d_Qs_termAt_23 : decode prog_5_method_5_code 23 = .ok (.invokevirtual 49, 3) := by decide +kernel
theorem d_Qs_termAt_26 : decode prog_5_method_5_code 26 = .ok (.goto 4, 3) := by decide +kernel
theorem d_Qs_termAt_29 : decode prog_5_method_5_code 29 = .ok (.lconst 0, 1) := by decide +kernel
theorem d_Qs_termAt_30 : decode prog_5_method_5_code 30 = .ok (.lreturn, 1) := by decide +kernel
theorem d_Ra_weighTerm_0 : decode prog_6_method_4_code 0 = .ok (.aload 4, 2) := by decide +kernel
theorem d_Ra_weighTerm_2 : decode prog_6_method_4_code 2 = .ok (.invokevirtual 50, 3) := by decide +kernel
theorem d_Ra_weighTerm_5 : decode prog_6_method_4_code 5 = .ok (.lload_n 2, 1) := by decide +kernel
theorem d_Ra_weighTerm_6 : decode prog_6_method_4_code 6 = .ok (.aload 4, 2) := by decide +kernel
theorem d_Ra_weighTerm_8 : decode prog_6_method_4_code 8 = .ok (.invokestatic 56, 3) := by decide +kernel
theorem d_Ra_weighTerm_11 : decode prog_6_method_4_code 11 = .ok (.invokestatic 60, 3) := by decide +kernel
theorem d_Ra_weighTerm_14 : decode prog_6_method_4_code 14 = .ok (.istore 6, 2) := by decide +kernel
theorem d_Ra_weighTerm_16 : decode prog_6_method_4_code 16 = .ok (.aload_n 0, 1) := by decide +kernel
theorem d_Ra_weighTerm_17 : decode prog_6_method_4_code 17 = .ok (.getfield 16, 3) := by decide +kernel
theorem d_Ra_weighTerm_20 : decode prog_6_method_4_code 20 = .ok (.iload_n 1, 1) := by decide +kernel
theorem d_Ra_weighTerm_21 : decode prog_6_method_4_code 21 = .ok (.iconst 0, 1) := by decide +kernel
theorem d_Ra_weighTerm_22 : decode prog_6_method_4_code 22 = .ok (.iastore, 1) := by decide +kernel
theorem d_Ra_weighTerm_23 : decode prog_6_method_4_code 23 = .ok (.iconst 0, 1) := by decide +kernel
theorem d_Ra_weighTerm_24 : decode prog_6_method_4_code 24 = .ok (.istore 7, 2) := by decide +kernel
theorem d_Ra_weighTerm_26 : decode prog_6_method_4_code 26 = .ok (.iload 7, 2) := by decide +kernel
theorem d_Ra_weighTerm_28 : decode prog_6_method_4_code 28 = .ok (.aload 4, 2) := by decide +kernel
theorem d_Ra_weighTerm_30 : decode prog_6_method_4_code 30 = .ok (.invokevirtual 50, 3) := by decide +kernel
theorem d_Ra_weighTerm_33 : decode prog_6_method_4_code 33 = .ok (.if_icmp .ge 130, 3) := by decide +kernel
theorem d_Ra_weighTerm_36 : decode prog_6_method_4_code 36 = .ok (.iload 7, 2) := by decide +kernel
theorem d_Ra_weighTerm_38 : decode prog_6_method_4_code 38 = .ok (.bipush 12, 2) := by decide +kernel
theorem d_Ra_weighTerm_40 : decode prog_6_method_4_code 40 = .ok (.if_icmp .ge 123, 3) := by decide +kernel
theorem d_Ra_weighTerm_43 : decode prog_6_method_4_code 43 = .ok (.aload 4, 2) := by decide +kernel
theorem d_Ra_weighTerm_45 : decode prog_6_method_4_code 45 = .ok (.iload 7, 2) := by decide +kernel
theorem d_Ra_weighTerm_47 : decode prog_6_method_4_code 47 = .ok (.invokevirtual 63, 3) := by decide +kernel
theorem d_Ra_weighTerm_50 : decode prog_6_method_4_code 50 = .ok (.checkcast 67, 3) := by decide +kernel
theorem d_Ra_weighTerm_53 : decode prog_6_method_4_code 53 = .ok (.astore 8, 2) := by decide +kernel
theorem d_Ra_weighTerm_55 : decode prog_6_method_4_code 55 = .ok (.aload 8, 2) := by decide +kernel
theorem d_Ra_weighTerm_57 : decode prog_6_method_4_code 57 = .ok (.lload_n 2, 1) := by decide +kernel
theorem d_Ra_weighTerm_58 : decode prog_6_method_4_code 58 = .ok (.invokevirtual 69, 3) := by decide +kernel
theorem d_Ra_weighTerm_61 : decode prog_6_method_4_code 61 = .ok (.istore 9, 2) := by decide +kernel
theorem d_Ra_weighTerm_63 : decode prog_6_method_4_code 63 = .ok (.iload 5, 2) := by decide +kernel
theorem d_Ra_weighTerm_65 : decode prog_6_method_4_code 65 = .ok (.ifCond .le 24, 3) := by decide +kernel
theorem d_Ra_weighTerm_68 : decode prog_6_method_4_code 68 = .ok (.sipush 900, 3) := by decide +kernel
theorem d_Ra_weighTerm_71 : decode prog_6_method_4_code 71 = .ok (.aload 8, 2) := by decide +kernel
theorem d_Ra_weighTerm_73 : decode prog_6_method_4_code 73 = .ok (.invokevirtual 73, 3) := by decide +kernel
theorem d_Ra_weighTerm_76 : decode prog_6_method_4_code 76 = .ok (.imul, 1) := by decide +kernel
theorem d_Ra_weighTerm_77 : decode prog_6_method_4_code 77 = .ok (.aload 4, 2) := by decide +kernel
theorem d_Ra_weighTerm_79 : decode prog_6_method_4_code 79 = .ok (.invokevirtual 50, 3) := by decide +kernel
theorem d_Ra_weighTerm_82 : decode prog_6_method_4_code 82 = .ok (.imul, 1) := by decide +kernel
theorem d_Ra_weighTerm_83 : decode prog_6_method_4_code 83 = .ok (.iload 5, 2) := by decide +kernel
theorem d_Ra_weighTerm_85 : decode prog_6_method_4_code 85 = .ok (.idiv, 1) := by decide +kernel
theorem d_Ra_weighTerm_86 : decode prog_6_method_4_code 86 = .ok (.goto 4, 3) := by decide +kernel
theorem d_Ra_weighTerm_89 : decode prog_6_method_4_code 89 = .ok (.iconst 0, 1) := by decide +kernel
theorem d_Ra_weighTerm_90 : decode prog_6_method_4_code 90 = .ok (.istore 10, 2) := by decide +kernel
theorem d_Ra_weighTerm_92 : decode prog_6_method_4_code 92 = .ok (.aload_n 0, 1) := by decide +kernel
theorem d_Ra_weighTerm_93 : decode prog_6_method_4_code 93 = .ok (.getfield 11, 3) := by decide +kernel
theorem d_Ra_weighTerm_96 : decode prog_6_method_4_code 96 = .ok (.iload_n 1, 1) := by decide +kernel
theorem d_Ra_weighTerm_97 : decode prog_6_method_4_code 97 = .ok (.aaload, 1) := by decide +kernel
theorem d_Ra_weighTerm_98 : decode prog_6_method_4_code 98 = .ok (.iload 7, 2) := by decide +kernel
theorem d_Ra_weighTerm_100 : decode prog_6_method_4_code 100 = .ok (.iload 9, 2) := by decide +kernel
theorem d_Ra_weighTerm_102 : decode prog_6_method_4_code 102 = .ok (.ifCond .le 29, 3) := by decide +kernel
theorem d_Ra_weighTerm_105 : decode prog_6_method_4_code 105 = .ok (.iload 6, 2) := by decide +kernel
theorem d_Ra_weighTerm_107 : decode prog_6_method_4_code 107 = .ok (.iload 9, 2) := by decide +kernel
theorem d_Ra_weighTerm_109 : decode prog_6_method_4_code 109 = .ok (.imul, 1) := by decide +kernel
theorem d_Ra_weighTerm_110 : decode prog_6_method_4_code 110 = .ok (.sipush 2200, 3) := by decide +kernel
theorem d_Ra_weighTerm_113 : decode prog_6_method_4_code 113 = .ok (.imul, 1) := by decide +kernel
theorem d_Ra_weighTerm_114 : decode prog_6_method_4_code 114 = .ok (.sipush 1000, 3) := by decide +kernel
theorem d_Ra_weighTerm_117 : decode prog_6_method_4_code 117 = .ok (.iload 9, 2) := by decide +kernel
theorem d_Ra_weighTerm_119 : decode prog_6_method_4_code 119 = .ok (.imul, 1) := by decide +kernel
theorem d_Ra_weighTerm_120 : decode prog_6_method_4_code 120 = .ok (.sipush 300, 3) := by decide +kernel
theorem d_Ra_weighTerm_123 : decode prog_6_method_4_code 123 = .ok (.iadd, 1) := by decide +kernel
theorem d_Ra_weighTerm_124 : decode prog_6_method_4_code 124 = .ok (.iload 10, 2) := by decide +kernel
theorem d_Ra_weighTerm_126 : decode prog_6_method_4_code 126 = .ok (.iadd, 1) := by decide +kernel
theorem d_Ra_weighTerm_127 : decode prog_6_method_4_code 127 = .ok (.idiv, 1) := by decide +kernel
theorem d_Ra_weighTerm_128 : decode prog_6_method_4_code 128 = .ok (.goto 4, 3) := by decide +kernel
theorem d_Ra_weighTerm_131 : decode prog_6_method_4_code 131 = .ok (.iconst (-1), 1) := by decide +kernel
theorem d_Ra_weighTerm_132 : decode prog_6_method_4_code 132 = .ok (.iastore, 1) := by decide +kernel
theorem d_Ra_weighTerm_133 : decode prog_6_method_4_code 133 = .ok (.aload_n 0, 1) := by decide +kernel
theorem d_Ra_weighTerm_134 : decode prog_6_method_4_code 134 = .ok (.getfield 16, 3) := by decide +kernel
theorem d_Ra_weighTerm_137 : decode prog_6_method_4_code 137 = .ok (.iload_n 1, 1) := by decide +kernel
theorem d_Ra_weighTerm_138 : decode prog_6_method_4_code 138 = .ok (.aload_n 0, 1) := by decide +kernel
theorem d_Ra_weighTerm_139 : decode prog_6_method_4_code 139 = .ok (.getfield 16, 3) := by decide +kernel
theorem d_Ra_weighTerm_142 : decode prog_6_method_4_code 142 = .ok (.iload_n 1, 1) := by decide +kernel
theorem d_Ra_weighTerm_143 : decode prog_6_method_4_code 143 = .ok (.iaload, 1) := by decide +kernel
theorem d_Ra_weighTerm_144 : decode prog_6_method_4_code 144 = .ok (.aload_n 0, 1) := by decide +kernel
theorem d_Ra_weighTerm_145 : decode prog_6_method_4_code 145 = .ok (.getfield 11, 3) := by decide +kernel
theorem d_Ra_weighTerm_148 : decode prog_6_method_4_code 148 = .ok (.iload_n 1, 1) := by decide +kernel
theorem d_Ra_weighTerm_149 : decode prog_6_method_4_code 149 = .ok (.aaload, 1) := by decide +kernel
theorem d_Ra_weighTerm_150 : decode prog_6_method_4_code 150 = .ok (.iload 7, 2) := by decide +kernel
theorem d_Ra_weighTerm_152 : decode prog_6_method_4_code 152 = .ok (.iaload, 1) := by decide +kernel
theorem d_Ra_weighTerm_153 : decode prog_6_method_4_code 153 = .ok (.invokestatic 76, 3) := by decide +kernel
theorem d_Ra_weighTerm_156 : decode prog_6_method_4_code 156 = .ok (.iastore, 1) := by decide +kernel
theorem d_Ra_weighTerm_157 : decode prog_6_method_4_code 157 = .ok (.iinc 7 1, 3) := by decide +kernel
theorem d_Ra_weighTerm_160 : decode prog_6_method_4_code 160 = .ok (.goto (-134), 3) := by decide +kernel
theorem d_Ra_weighTerm_163 : decode prog_6_method_4_code 163 = .ok (.return_, 1) := by decide +kernel
theorem d_Ra_holders_0 : decode prog_6_method_5_code 0 = .ok (.iconst 0, 1) := by decide +kernel
theorem d_Ra_holders_1 : decode prog_6_method_5_code 1 = .ok (.istore_n 3, 1) := by decide +kernel
theorem d_Ra_holders_2 : decode prog_6_method_5_code 2 = .ok (.iconst 0, 1) := by decide +kernel
theorem d_Ra_holders_3 : decode prog_6_method_5_code 3 = .ok (.istore 4, 2) := by decide +kernel
theorem d_Ra_holders_5 : decode prog_6_method_5_code 5 = .ok (.iload 4, 2) := by decide +kernel
theorem d_Ra_holders_7 : decode prog_6_method_5_code 7 = .ok (.aload_n 2, 1) := by decide +kernel
theorem d_Ra_holders_8 : decode prog_6_method_5_code 8 = .ok (.invokevirtual 50, 3) := by decide +kernel
theorem d_Ra_holders_11 : decode prog_6_method_5_code 11 = .ok (.if_icmp .ge 28, 3) := by decide +kernel
theorem d_Ra_holders_14 : decode prog_6_method_5_code 14 = .ok (.aload_n 2, 1) := by decide +kernel
theorem d_Ra_holders_15 : decode prog_6_method_5_code 15 = .ok (.iload 4, 2) := by decide +kernel
theorem d_Ra_holders_17 : decode prog_6_method_5_code 17 = .ok (.invokevirtual 63, 3) := by decide +kernel
theorem d_Ra_holders_20 : decode prog_6_method_5_code 20 = .ok (.checkcast 67, 3) := by decide +kernel
theorem d_Ra_holders_23 : decode prog_6_method_5_code 23 = .ok (.lload_n 0, 1) := by decide +kernel
theorem d_Ra_holders_24 : decode prog_6_method_5_code 24 = .ok (.invokevirtual 69, 3) := by decide +kernel
theorem d_Ra_holders_27 : decode prog_6_method_5_code 27 = .ok (.ifCond .le 6, 3) := by decide +kernel
theorem d_Ra_holders_30 : decode prog_6_method_5_code 30 = .ok (.iinc 3 1, 3) := by decide +kernel
theorem d_Ra_holders_33 : decode prog_6_method_5_code 33 = .ok (.iinc 4 1, 3) := by decide +kernel
theorem d_Ra_holders_36 : decode prog_6_method_5_code 36 = .ok (.goto (-31), 3) := by decide +kernel
theorem d_Ra_holders_39 : decode prog_6_method_5_code 39 = .ok (.iload_n 3, 1) := by decide +kernel
theorem d_Ra_holders_40 : decode prog_6_method_5_code 40 = .ok (.ireturn, 1) := by decide +kernel
theorem d_D_timesOf_0 : decode prog_2_method_3_code 0 = .ok (.iconst 0, 1) := by decide +kernel
theorem d_D_timesOf_1 : decode prog_2_method_3_code 1 = .ok (.istore_n 3, 1) := by decide +kernel
theorem d_D_timesOf_2 : decode prog_2_method_3_code 2 = .ok (.iconst 0, 1) := by decide +kernel
theorem d_D_timesOf_3 : decode prog_2_method_3_code 3 = .ok (.istore 4, 2) := by decide +kernel
theorem d_D_timesOf_5 : decode prog_2_method_3_code 5 = .ok (.iload 4, 2) := by decide +kernel
theorem d_D_timesOf_7 : decode prog_2_method_3_code 7 = .ok (.aload_n 0, 1) := by decide +kernel
theorem d_D_timesOf_8 : decode prog_2_method_3_code 8 = .ok (.getfield 15, 3) := by decide +kernel
theorem d_D_timesOf_11 : decode prog_2_method_3_code 11 = .ok (.arraylength, 1) := by decide +kernel
theorem d_D_timesOf_12 : decode prog_2_method_3_code 12 = .ok (.if_icmp .ge 30, 3) := by decide +kernel
theorem d_D_timesOf_15 : decode prog_2_method_3_code 15 = .ok (.aload_n 0, 1) := by decide +kernel
theorem d_D_timesOf_16 : decode prog_2_method_3_code 16 = .ok (.getfield 15, 3) := by decide +kernel
theorem d_D_timesOf_19 : decode prog_2_method_3_code 19 = .ok (.iload 4, 2) := by decide +kernel
theorem d_D_timesOf_21 : decode prog_2_method_3_code 21 = .ok (.laload, 1) := by decide +kernel
theorem d_D_timesOf_22 : decode prog_2_method_3_code 22 = .ok (.lload_n 1, 1) := by decide +kernel
theorem d_D_timesOf_23 : decode prog_2_method_3_code 23 = .ok (.lcmp, 1) := by decide +kernel
theorem d_D_timesOf_24 : decode prog_2_method_3_code 24 = .ok (.ifCond .ne 12, 3) := by decide +kernel
theorem d_D_timesOf_27 : decode prog_2_method_3_code 27 = .ok (.lload_n 1, 1) := by decide +kernel
theorem d_D_timesOf_28 : decode prog_2_method_3_code 28 = .ok (.lconst 0, 1) := by decide +kernel
theorem d_D_timesOf_29 : decode prog_2_method_3_code 29 = .ok (.lcmp, 1) := by decide +kernel
theorem d_D_timesOf_30 : decode prog_2_method_3_code 30 = .ok (.ifCond .eq 6, 3) := by decide +kernel
theorem d_D_timesOf_33 : decode prog_2_method_3_code 33 = .ok (.iinc 3 1, 3) := by decide +kernel
theorem d_D_timesOf_36 : decode prog_2_method_3_code 36 = .ok (.iinc 4 1, 3) := by decide +kernel
theorem d_D_timesOf_39 : decode prog_2_method_3_code 39 = .ok (.goto (-34), 3) := by decide +kernel
theorem d_D_timesOf_42 : decode prog_2_method_3_code 42 = .ok (.iload_n 3, 1) := by decide +kernel
theorem d_D_timesOf_43 : decode prog_2_method_3_code 43 = .ok (.ireturn, 1) := by decide +kernel
theorem d_Ra_rarity_0 : decode prog_6_method_6_code 0 = .ok (.iload_n 1, 1) := by decide +kernel
theorem d_Ra_rarity_1 : decode prog_6_method_6_code 1 = .ok (.ifCond .gt 5, 3) := by decide +kernel
theorem d_Ra_rarity_4 : decode prog_6_method_6_code 4 = .ok (.iconst 0, 1) := by decide +kernel
theorem d_Ra_rarity_5 : decode prog_6_method_6_code 5 = .ok (.ireturn, 1) := by decide +kernel
theorem d_Ra_rarity_6 : decode prog_6_method_6_code 6 = .ok (.iload_n 0, 1) := by decide +kernel
theorem d_Ra_rarity_7 : decode prog_6_method_6_code 7 = .ok (.iconst 1, 1) := by decide +kernel
theorem d_Ra_rarity_8 : decode prog_6_method_6_code 8 = .ok (.iadd, 1) := by decide +kernel
theorem d_Ra_rarity_9 : decode prog_6_method_6_code 9 = .ok (.sipush 256, 3) := by decide +kernel
theorem d_Ra_rarity_12 : decode prog_6_method_6_code 12 = .ok (.imul, 1) := by decide +kernel
theorem d_Ra_rarity_13 : decode prog_6_method_6_code 13 = .ok (.iload_n 1, 1) := by decide +kernel
theorem d_Ra_rarity_14 : decode prog_6_method_6_code 14 = .ok (.idiv, 1) := by decide +kernel
theorem d_Ra_rarity_15 : decode prog_6_method_6_code 15 = .ok (.istore_n 2, 1) := by decide +kernel
theorem d_Ra_rarity_16 : decode prog_6_method_6_code 16 = .ok (.iconst 0, 1) := by decide +kernel
theorem d_Ra_rarity_17 : decode prog_6_method_6_code 17 = .ok (.istore_n 3, 1) := by decide +kernel
theorem d_Ra_rarity_18 : decode prog_6_method_6_code 18 = .ok (.iload_n 3, 1) := by decide +kernel
theorem d_Ra_rarity_19 : decode prog_6_method_6_code 19 = .ok (.bipush 30, 2) := by decide +kernel
theorem d_Ra_rarity_21 : decode prog_6_method_6_code 21 = .ok (.if_icmp .ge 17, 3) := by decide +kernel
theorem d_Ra_rarity_24 : decode prog_6_method_6_code 24 = .ok (.iload_n 2, 1) := by decide +kernel
theorem d_Ra_rarity_25 : decode prog_6_method_6_code 25 = .ok (.iload_n 3, 1) := by decide +kernel
theorem d_Ra_rarity_26 : decode prog_6_method_6_code 26 = .ok (.iconst 1, 1) := by decide +kernel
theorem d_Ra_rarity_27 : decode prog_6_method_6_code 27 = .ok (.iadd, 1) := by decide +kernel
theorem d_Ra_rarity_28 : decode prog_6_method_6_code 28 = .ok (.ishr, 1) := by decide +kernel
theorem d_Ra_rarity_29 : decode prog_6_method_6_code 29 = .ok (.ifCond .le 9, 3) := by decide +kernel
theorem d_Ra_rarity_32 : decode prog_6_method_6_code 32 = .ok (.iinc 3 1, 3) := by decide +kernel
theorem d_Ra_rarity_35 : decode prog_6_method_6_code 35 = .ok (.goto (-17), 3) := by decide +kernel
theorem d_Ra_rarity_38 : decode prog_6_method_6_code 38 = .ok (.bipush 16, 2) := by decide +kernel
theorem d_Ra_rarity_40 : decode prog_6_method_6_code 40 = .ok (.iload_n 3, 1) := by decide +kernel
theorem d_Ra_rarity_41 : decode prog_6_method_6_code 41 = .ok (.imul, 1) := by decide +kernel
theorem d_Ra_rarity_42 : decode prog_6_method_6_code 42 = .ok (.iload_n 2, 1) := by decide +kernel
theorem d_Ra_rarity_43 : decode prog_6_method_6_code 43 = .ok (.bipush 16, 2) := by decide +kernel
theorem d_Ra_rarity_45 : decode prog_6_method_6_code 45 = .ok (.imul, 1) := by decide +kernel
theorem d_Ra_rarity_46 : decode prog_6_method_6_code 46 = .ok (.iload_n 3, 1) := by decide +kernel
theorem d_Ra_rarity_47 : decode prog_6_method_6_code 47 = .ok (.ishr, 1) := by decide +kernel
theorem d_Ra_rarity_48 : decode prog_6_method_6_code 48 = .ok (.iadd, 1) := by decide +kernel
theorem d_Ra_rarity_49 : decode prog_6_method_6_code 49 = .ok (.bipush 16, 2) := by decide +kernel
theorem d_Ra_rarity_51 : decode prog_6_method_6_code 51 = .ok (.isub, 1) := by decide +kernel
theorem d_Ra_rarity_52 : decode prog_6_method_6_code 52 = .ok (.ireturn, 1) := by decide +kernel
theorem d_Ra_chooseBest_0 : decode prog_6_method_7_code 0 = .ok (.iconst 0, 1) := by decide +kernel
theorem d_Ra_chooseBest_1 : decode prog_6_method_7_code 1 = .ok (.istore 4, 2) := by decide +kernel
theorem d_Ra_chooseBest_3 : decode prog_6_method_7_code 3 = .ok (.iload 4, 2) := by decide +kernel
theorem d_Ra_chooseBest_5 : decode prog_6_method_7_code 5 = .ok (.aload_n 2, 1) := by decide +kernel
theorem d_Ra_chooseBest_6 : decode prog_6_method_7_code 6 = .ok (.invokevirtual 50, 3) := by decide +kernel
theorem d_Ra_chooseBest_9 : decode prog_6_method_7_code 9 = .ok (.if_icmp .ge 79, 3) := by decide +kernel
theorem d_Ra_chooseBest_12 : decode prog_6_method_7_code 12 = .ok (.iload 4, 2) := by decide +kernel
theorem d_Ra_chooseBest_14 : decode prog_6_method_7_code 14 = .ok (.bipush 12, 2) := by decide +kernel
theorem d_Ra_chooseBest_16 : decode prog_6_method_7_code 16 = .ok (.if_icmp .ge 72, 3) := by decide +kernel
theorem d_Ra_chooseBest_19 : decode prog_6_method_7_code 19 = .ok (.aload_n 0, 1) := by decide +kernel
theorem d_Ra_chooseBest_20 : decode prog_6_method_7_code 20 = .ok (.iload 4, 2) := by decide +kernel
theorem d_Ra_chooseBest_22 : decode prog_6_method_7_code 22 = .ok (.invokevirtual 79, 3) := by decide +kernel
theorem d_Ra_chooseBest_25 : decode prog_6_method_7_code 25 = .ok (.ifCond .eq 57, 3) := by decide +kernel
theorem d_Ra_chooseBest_28 : decode prog_6_method_7_code 28 = .ok (.aload_n 0, 1) := by decide +kernel
theorem d_Ra_chooseBest_29 : decode prog_6_method_7_code 29 = .ok (.getfield 24, 3) := by decide +kernel
theorem d_Ra_chooseBest_32 : decode prog_6_method_7_code 32 = .ok (.iload_n 1, 1) := by decide +kernel
theorem d_Ra_chooseBest_33 : decode prog_6_method_7_code 33 = .ok (.if_icmp .lt 16, 3) := by decide +kernel
theorem d_Ra_chooseBest_36 : decode prog_6_method_7_code 36 = .ok (.aload_n 0, 1) := by decide +kernel
theorem d_Ra_chooseBest_37 : decode prog_6_method_7_code 37 = .ok (.iload 4, 2) := by decide +kernel
theorem d_Ra_chooseBest_39 : decode prog_6_method_7_code 39 = .ok (.invokevirtual 83, 3) := by decide +kernel
theorem d_Ra_chooseBest_42 : decode prog_6_method_7_code 42 = .ok (.aload_n 3, 1) := by decide +kernel
theorem d_Ra_chooseBest_43 : decode prog_6_method_7_code 43 = .ok (.invokevirtual 87, 3) := by decide +kernel
theorem d_Ra_chooseBest_46 : decode prog_6_method_7_code 46 = .ok (.if_icmp .le 36, 3) := by decide +kernel
theorem d_Ra_chooseBest_49 : decode prog_6_method_7_code 49 = .ok (.aload_n 0, 1) := by decide +kernel
theorem d_Ra_chooseBest_50 : decode prog_6_method_7_code 50 = .ok (.dup, 1) := by decide +kernel
theorem d_Ra_chooseBest_51 : decode prog_6_method_7_code 51 = .ok (.getfield 24, 3) := by decide +kernel
theorem d_Ra_chooseBest_54 : decode prog_6_method_7_code 54 = .ok (.iconst 1, 1) := by decide +kernel
theorem d_Ra_chooseBest_55 : decode prog_6_method_7_code 55 = .ok (.iadd, 1) := by decide +kernel
theorem d_Ra_chooseBest_56 : decode prog_6_method_7_code 56 = .ok (.putfield 24, 3) := by decide +kernel
theorem d_Ra_chooseBest_59 : decode prog_6_method_7_code 59 = .ok (.aload_n 3, 1) := by decide +kernel
theorem d_Ra_chooseBest_60 : decode prog_6_method_7_code 60 = .ok (.aload_n 2, 1) := by decide +kernel
theorem d_Ra_chooseBest_61 : decode prog_6_method_7_code 61 = .ok (.iload 4, 2) := by decide +kernel
theorem d_Ra_chooseBest_63 : decode prog_6_method_7_code 63 = .ok (.invokevirtual 63, 3) := by decide +kernel
theorem d_Ra_chooseBest_66 : decode prog_6_method_7_code 66 = .ok (.checkcast 67, 3) := by decide +kernel
theorem d_Ra_chooseBest_69 : decode prog_6_method_7_code 69 = .ok (.getfield 92, 3) := by decide +kernel
theorem d_Ra_chooseBest_72 : decode prog_6_method_7_code 72 = .ok (.aload_n 0, 1) := by decide +kernel
theorem d_Ra_chooseBest_73 : decode prog_6_method_7_code 73 = .ok (.iload 4, 2) := by decide +kernel
theorem d_Ra_chooseBest_75 : decode prog_6_method_7_code 75 = .ok (.invokevirtual 95, 3) := by decide +kernel
theorem d_Ra_chooseBest_78 : decode prog_6_method_7_code 78 = .ok (.iload_n 1, 1) := by decide +kernel
theorem d_Ra_chooseBest_79 : decode prog_6_method_7_code 79 = .ok (.invokevirtual 98, 3) := by decide +kernel
theorem d_Ra_chooseBest_82 : decode prog_6_method_7_code 82 = .ok (.iinc 4 1, 3) := by decide +kernel
theorem d_Ra_chooseBest_85 : decode prog_6_method_7_code 85 = .ok (.goto (-82), 3) := by decide +kernel
theorem d_Ra_chooseBest_88 : decode prog_6_method_7_code 88 = .ok (.return_, 1) := by decide +kernel
theorem d_Ra_hasTermOfBag_0 : decode prog_6_method_8_code 0 = .ok (.iconst 0, 1) := by decide +kernel
theorem d_Ra_hasTermOfBag_1 : decode prog_6_method_8_code 1 = .ok (.istore_n 2, 1) := by decide +kernel
theorem d_Ra_hasTermOfBag_2 : decode prog_6_method_8_code 2 = .ok (.iload_n 2, 1) := by decide +kernel
theorem d_Ra_hasTermOfBag_3 : decode prog_6_method_8_code 3 = .ok (.aload_n 0, 1) := by decide +kernel
theorem d_Ra_hasTermOfBag_4 : decode prog_6_method_8_code 4 = .ok (.getfield 20, 3) := by decide +kernel
theorem d_Ra_hasTermOfBag_7 : decode prog_6_method_8_code 7 = .ok (.if_icmp .ge 23, 3) := by decide +kernel
theorem d_Ra_hasTermOfBag_10 : decode prog_6_method_8_code 10 = .ok (.aload_n 0, 1) := by decide +kernel
theorem d_Ra_hasTermOfBag_11 : decode prog_6_method_8_code 11 = .ok (.getfield 11, 3) := by decide +kernel
theorem d_Ra_hasTermOfBag_14 : decode prog_6_method_8_code 14 = .ok (.iload_n 2, 1) := by decide +kernel
theorem d_Ra_hasTermOfBag_15 : decode prog_6_method_8_code 15 = .ok (.aaload, 1) := by decide +kernel
theorem d_Ra_hasTermOfBag_16 : decode prog_6_method_8_code 16 = .ok (.iload_n 1, 1) := by decide +kernel
theorem d_Ra_hasTermOfBag_17 : decode prog_6_method_8_code 17 = .ok (.iaload, 1) := by decide +kernel
theorem d_Ra_hasTermOfBag_18 : decode prog_6_method_8_code 18 = .ok (.iconst (-1), 1) := by decide +kernel
theorem d_Ra_hasTermOfBag_19 : decode prog_6_method_8_code 19 = .ok (.if_icmp .eq 5, 3) := by decide +kernel
theorem d_Ra_hasTermOfBag_22 : decode prog_6_method_8_code 22 = .ok (.iconst 1, 1) := by decide +kernel
theorem d_Ra_hasTermOfBag_23 : decode prog_6_method_8_code 23 = .ok (.ireturn, 1) := by decide +kernel
theorem d_Ra_hasTermOfBag_24 : decode prog_6_method_8_code 24 = .ok (.iinc 2 1, 3) := by decide +kernel
theorem d_Ra_hasTermOfBag_27 : decode prog_6_method_8_code 27 = .ok (.goto (-25), 3) := by decide +kernel
theorem d_Ra_hasTermOfBag_30 : decode prog_6_method_8_code 30 = .ok (.iconst 0, 1) := by decide +kernel
theorem d_Ra_hasTermOfBag_31 : decode prog_6_method_8_code 31 = .ok (.ireturn, 1) := by decide +kernel
theorem d_Ra_boundOf_0 : decode prog_6_method_10_code 0 = .ok (.iconst 0, 1) := by decide +kernel
theorem d_Ra_boundOf_1 : decode prog_6_method_10_code 1 = .ok (.istore_n 2, 1) := by decide +kernel
theorem d_Ra_boundOf_2 : decode prog_6_method_10_code 2 = .ok (.iconst 0, 1) := by decide +kernel
theorem d_Ra_boundOf_3 : decode prog_6_method_10_code 3 = .ok (.istore_n 3, 1) := by decide +kernel
theorem d_Ra_boundOf_4 : decode prog_6_method_10_code 4 = .ok (.iload_n 3, 1) := by decide +kernel
theorem d_Ra_boundOf_5 : decode prog_6_method_10_code 5 = .ok (.aload_n 0, 1) := by decide +kernel
theorem d_Ra_boundOf_6 : decode prog_6_method_10_code 6 = .ok (.getfield 20, 3) := by decide +kernel
theorem d_Ra_boundOf_9 : decode prog_6_method_10_code 9 = .ok (.if_icmp .ge 34, 3) := by decide +kernel
theorem d_Ra_boundOf_12 : decode prog_6_method_10_code 12 = .ok (.iload_n 2, 1) := by decide +kernel
theorem d_Ra_boundOf_13 : decode prog_6_method_10_code 13 = .ok (.aload_n 0, 1) := by decide +kernel
theorem d_Ra_boundOf_14 : decode prog_6_method_10_code 14 = .ok (.getfield 11, 3) := by decide +kernel
theorem d_Ra_boundOf_17 : decode prog_6_method_10_code 17 = .ok (.iload_n 3, 1) := by decide +kernel
theorem d_Ra_boundOf_18 : decode prog_6_method_10_code 18 = .ok (.aaload, 1) := by decide +kernel
theorem d_Ra_boundOf_19 : decode prog_6_method_10_code 19 = .ok (.iload_n 1, 1) := by decide +kernel
theorem d_Ra_boundOf_20 : decode prog_6_method_10_code 20 = .ok (.iaload, 1) := by decide +kernel
theorem d_Ra_boundOf_21 : decode prog_6_method_10_code 21 = .ok (.iconst (-1), 1) := by decide +kernel
theorem d_Ra_boundOf_22 : decode prog_6_method_10_code 22 = .ok (.if_icmp .eq 12, 3) := by decide +kernel
theorem d_Ra_boundOf_25 : decode prog_6_method_10_code 25 = .ok (.aload_n 0, 1) := by decide +kernel
theorem d_Ra_boundOf_26 : decode prog_6_method_10_code 26 = .ok (.getfield 16, 3) := by decide +kernel
theorem d_Ra_boundOf_29 : decode prog_6_method_10_code 29 = .ok (.iload_n 3, 1) := by decide +kernel
theorem d_Ra_boundOf_30 : decode prog_6_method_10_code 30 = .ok (.iaload, 1) := by decide +kernel
theorem d_Ra_boundOf_31 : decode prog_6_method_10_code 31 = .ok (.goto 4, 3) := by decide +kernel
theorem d_Ra_boundOf_34 : decode prog_6_method_10_code 34 = .ok (.iconst 0, 1) := by decide +kernel
theorem d_Ra_boundOf_35 : decode prog_6_method_10_code 35 = .ok (.iadd, 1) := by decide +kernel
theorem d_Ra_boundOf_36 : decode prog_6_method_10_code 36 = .ok (.istore_n 2, 1) := by decide +kernel
theorem d_Ra_boundOf_37 : decode prog_6_method_10_code 37 = .ok (.iinc 3 1, 3) := by decide +kernel
theorem d_Ra_boundOf_40 : decode prog_6_method_10_code 40 = .ok (.goto (-36), 3) := by decide +kernel
theorem d_Ra_boundOf_43 : decode prog_6_method_10_code 43 = .ok (.iload_n 2, 1) := by decide +kernel
theorem d_Ra_boundOf_44 : decode prog_6_method_10_code 44 = .ok (.ireturn, 1) := by decide +kernel
theorem d_Re_leastWeight_0 : decode prog_7_method_4_code 0 = .ok (.aload_n 0, 1) := by decide +kernel
theorem d_Re_leastWeight_1 : decode prog_7_method_4_code 1 = .ok (.getfield 18, 3) := by decide +kernel
theorem d_Re_leastWeight_4 : decode prog_7_method_4_code 4 = .ok (.ifCond .le 17, 3) := by decide +kernel
theorem d_Re_leastWeight_7 : decode prog_7_method_4_code 7 = .ok (.aload_n 0, 1) := by decide +kernel
theorem d_Re_leastWeight_8 : decode prog_7_method_4_code 8 = .ok (.getfield 15, 3) := by decide +kernel
theorem d_Re_leastWeight_11 : decode prog_7_method_4_code 11 = .ok (.aload_n 0, 1) := by decide +kernel
theorem d_Re_leastWeight_12 : decode prog_7_method_4_code 12 = .ok (.getfield 18, 3) := by decide +kernel
theorem d_Re_leastWeight_15 : decode prog_7_method_4_code 15 = .ok (.iconst 1, 1) := by decide +kernel
theorem d_Re_leastWeight_16 : decode prog_7_method_4_code 16 = .ok (.isub, 1) := by decide +kernel
theorem d_Re_leastWeight_17 : decode prog_7_method_4_code 17 = .ok (.iaload, 1) := by decide +kernel
theorem d_Re_leastWeight_18 : decode prog_7_method_4_code 18 = .ok (.goto 4, 3) := by decide +kernel
theorem d_Re_leastWeight_21 : decode prog_7_method_4_code 21 = .ok (.iconst 0, 1) := by decide +kernel
theorem d_Re_leastWeight_22 : decode prog_7_method_4_code 22 = .ok (.ireturn, 1) := by decide +kernel
theorem d_Ra_weightOf_0 : decode prog_6_method_9_code 0 = .ok (.iconst 0, 1) := by decide +kernel
theorem d_Ra_weightOf_1 : decode prog_6_method_9_code 1 = .ok (.istore_n 2, 1) := by decide +kernel
theorem d_Ra_weightOf_2 : decode prog_6_method_9_code 2 = .ok (.iconst 0, 1) := by decide +kernel
theorem d_Ra_weightOf_3 : decode prog_6_method_9_code 3 = .ok (.istore_n 3, 1) := by decide +kernel
theorem d_Ra_weightOf_4 : decode prog_6_method_9_code 4 = .ok (.iload_n 3, 1) := by decide +kernel
theorem d_Ra_weightOf_5 : decode prog_6_method_9_code 5 = .ok (.aload_n 0, 1) := by decide +kernel
theorem d_Ra_weightOf_6 : decode prog_6_method_9_code 6 = .ok (.getfield 20, 3) := by decide +kernel
theorem d_Ra_weightOf_9 : decode prog_6_method_9_code 9 = .ok (.if_icmp .ge 24, 3) := by decide +kernel
theorem d_Ra_weightOf_12 : decode prog_6_method_9_code 12 = .ok (.iload_n 2, 1) := by decide +kernel
theorem d_Ra_weightOf_13 : decode prog_6_method_9_code 13 = .ok (.iconst 0, 1) := by decide +kernel
theorem d_Ra_weightOf_14 : decode prog_6_method_9_code 14 = .ok (.aload_n 0, 1) := by decide +kernel
theorem d_Ra_weightOf_15 : decode prog_6_method_9_code 15 = .ok (.getfield 11, 3) := by decide +kernel
theorem d_Ra_weightOf_18 : decode prog_6_method_9_code 18 = .ok (.iload_n 3, 1) := by decide +kernel
theorem d_Ra_weightOf_19 : decode prog_6_method_9_code 19 = .ok (.aaload, 1) := by decide +kernel
theorem d_Ra_weightOf_20 : decode prog_6_method_9_code 20 = .ok (.iload_n 1, 1) := by decide +kernel
theorem d_Ra_weightOf_21 : decode prog_6_method_9_code 21 = .ok (.iaload, 1) := by decide +kernel
theorem d_Ra_weightOf_22 : decode prog_6_method_9_code 22 = .ok (.invokestatic 76, 3) := by decide +kernel
theorem d_Ra_weightOf_25 : decode prog_6_method_9_code 25 = .ok (.iadd, 1) := by decide +kernel
theorem d_Ra_weightOf_26 : decode prog_6_method_9_code 26 = .ok (.istore_n 2, 1) := by decide +kernel
theorem d_Ra_weightOf_27 : decode prog_6_method_9_code 27 = .ok (.iinc 3 1, 3) := by decide +kernel
theorem d_Ra_weightOf_30 : decode prog_6_method_9_code 30 = .ok (.goto (-26), 3) := by decide +kernel
theorem d_Ra_weightOf_33 : decode prog_6_method_9_code 33 = .ok (.iload_n 2, 1) := by decide +kernel
theorem d_Ra_weightOf_34 : decode prog_6_method_9_code 34 = .ok (.ireturn, 1) := by decide +kernel
theorem d_P_result_0 : decode prog_1_method_15_code 0 = .ok (.aload_n 0, 1) := by decide +kernel
theorem d_P_result_1 : decode prog_1_method_15_code 1 = .ok (.getfield 62, 3) := by decide +kernel
theorem d_P_result_4 : decode prog_1_method_15_code 4 = .ok (.iload_n 1, 1) := by decide +kernel
theorem d_P_result_5 : decode prog_1_method_15_code 5 = .ok (.invokevirtual 198, 3) := by decide +kernel
theorem d_P_result_8 : decode prog_1_method_15_code 8 = .ok (.ifCond .eq 15, 3) := by decide +kernel
theorem d_P_result_11 : decode prog_1_method_15_code 11 = .ok (.aload_n 0, 1) := by decide +kernel
theorem d_P_result_12 : decode prog_1_method_15_code 12 = .ok (.getfield 62, 3) := by decide +kernel
theorem d_P_result_15 : decode prog_1_method_15_code 15 = .ok (.getfield 201, 3) := by decide +kernel
theorem d_P_result_18 : decode prog_1_method_15_code 18 = .ok (.iload_n 1, 1) := by decide +kernel
theorem d_P_result_19 : decode prog_1_method_15_code 19 = .ok (.iaload, 1) := by decide +kernel
theorem d_P_result_20 : decode prog_1_method_15_code 20 = .ok (.goto 4, 3) := by decide +kernel
theorem d_P_result_23 : decode prog_1_method_15_code 23 = .ok (.iconst (-1), 1) := by decide +kernel
theorem d_P_result_24 : decode prog_1_method_15_code 24 = .ok (.ireturn, 1) := by decide +kernel
theorem d_Re_has_0 : decode prog_7_method_3_code 0 = .ok (.iload_n 1, 1) := by decide +kernel
theorem d_Re_has_1 : decode prog_7_method_3_code 1 = .ok (.ifCond .lt 15, 3) := by decide +kernel
theorem d_Re_has_4 : decode prog_7_method_3_code 4 = .ok (.iload_n 1, 1) := by decide +kernel
theorem d_Re_has_5 : decode prog_7_method_3_code 5 = .ok (.aload_n 0, 1) := by decide +kernel
theorem d_Re_has_6 : decode prog_7_method_3_code 6 = .ok (.getfield 18, 3) := by decide +kernel
theorem d_Re_has_9 : decode prog_7_method_3_code 9 = .ok (.if_icmp .ge 7, 3) := by decide +kernel
theorem d_Re_has_12 : decode prog_7_method_3_code 12 = .ok (.iconst 1, 1) := by decide +kernel
theorem d_Re_has_13 : decode prog_7_method_3_code 13 = .ok (.goto 4, 3) := by decide +kernel
theorem d_Re_has_16 : decode prog_7_method_3_code 16 = .ok (.iconst 0, 1) := by decide +kernel
theorem d_Re_has_17 : decode prog_7_method_3_code 17 = .ok (.ireturn, 1) := by decide +kernel
theorem d_P_weight_0 : decode prog_1_method_16_code 0 = .ok (.aload_n 0, 1) := by decide +kernel
theorem d_P_weight_1 : decode prog_1_method_16_code 1 = .ok (.getfield 62, 3) := by decide +kernel
theorem d_P_weight_4 : decode prog_1_method_16_code 4 = .ok (.iload_n 1, 1) := by decide +kernel
theorem d_P_weight_5 : decode prog_1_method_16_code 5 = .ok (.invokevirtual 198, 3) := by decide +kernel
theorem d_P_weight_8 : decode prog_1_method_16_code 8 = .ok (.ifCond .eq 15, 3) := by decide +kernel
theorem d_P_weight_11 : decode prog_1_method_16_code 11 = .ok (.aload_n 0, 1) := by decide +kernel
theorem d_P_weight_12 : decode prog_1_method_16_code 12 = .ok (.getfield 62, 3) := by decide +kernel
theorem d_P_weight_15 : decode prog_1_method_16_code 15 = .ok (.getfield 204, 3) := by decide +kernel
theorem d_P_weight_18 : decode prog_1_method_16_code 18 = .ok (.iload_n 1, 1) := by decide +kernel
theorem d_P_weight_19 : decode prog_1_method_16_code 19 = .ok (.iaload, 1) := by decide +kernel
theorem d_P_weight_20 : decode prog_1_method_16_code 20 = .ok (.goto 4, 3) := by decide +kernel
theorem d_P_weight_23 : decode prog_1_method_16_code 23 = .ok (.iconst (-1), 1) := by decide +kernel
theorem d_P_weight_24 : decode prog_1_method_16_code 24 = .ok (.ireturn, 1) := by decide +kernel
theorem d_P_weighed_0 : decode prog_1_method_17_code 0 = .ok (.aload_n 0, 1) := by decide +kernel
theorem d_P_weighed_1 : decode prog_1_method_17_code 1 = .ok (.getfield 55, 3) := by decide +kernel
theorem d_P_weighed_4 : decode prog_1_method_17_code 4 = .ok (.getfield 207, 3) := by decide +kernel
theorem d_P_weighed_7 : decode prog_1_method_17_code 7 = .ok (.ireturn, 1) := by decide +kernel
theorem d_P_size_0 : decode prog_1_method_18_code 0 = .ok (.iload_n 1, 1) := by decide +kernel
theorem d_P_size_1 : decode prog_1_method_18_code 1 = .ok (.tableswitch 149 0 9 #[55, 66, 77, 85, 93, 98, 106, 117, 125, 141], 55) := by decide +kernel
theorem d_P_size_56 : decode prog_1_method_18_code 56 = .ok (.aload_n 0, 1) := by decide +kernel
theorem d_P_size_57 : decode prog_1_method_18_code 57 = .ok (.getfield 34, 3) := by decide +kernel
theorem d_P_size_60 : decode prog_1_method_18_code 60 = .ok (.getfield 143, 3) := by decide +kernel
theorem d_P_size_63 : decode prog_1_method_18_code 63 = .ok (.invokevirtual 121, 3) := by decide +kernel
theorem d_P_size_66 : decode prog_1_method_18_code 66 = .ok (.ireturn, 1) := by decide +kernel
theorem d_P_size_67 : decode prog_1_method_18_code 67 = .ok (.aload_n 0, 1) := by decide +kernel
theorem d_P_size_68 : decode prog_1_method_18_code 68 = .ok (.getfield 34, 3) := by decide +kernel
theorem d_P_size_71 : decode prog_1_method_18_code 71 = .ok (.getfield 118, 3) := by decide +kernel
theorem d_P_size_74 : decode prog_1_method_18_code 74 = .ok (.invokevirtual 121, 3) := by decide +kernel
theorem d_P_size_77 : decode prog_1_method_18_code 77 = .ok (.ireturn, 1) := by decide +kernel
theorem d_P_size_78 : decode prog_1_method_18_code 78 = .ok (.aload_n 0, 1) := by decide +kernel
theorem d_P_size_79 : decode prog_1_method_18_code 79 = .ok (.getfield 34, 3) := by decide +kernel
theorem d_P_size_82 : decode prog_1_method_18_code 82 = .ok (.invokevirtual 210, 3) := by decide +kernel
theorem d_P_size_85 : decode prog_1_method_18_code 85 = .ok (.ireturn, 1) := by decide +kernel
theorem d_P_size_86 : decode prog_1_method_18_code 86 = .ok (.aload_n 0, 1) := by decide +kernel
theorem d_P_size_87 : decode prog_1_method_18_code 87 = .ok (.getfield 27, 3) := by decide +kernel
theorem d_P_size_90 : decode prog_1_method_18_code 90 = .ok (.invokevirtual 100, 3) := by decide +kernel
theorem d_P_size_93 : decode prog_1_method_18_code 93 = .ok (.ireturn, 1) := by decide +kernel
theorem d_P_size_94 : decode prog_1_method_18_code 94 = .ok (.aload_n 0, 1) := by decide +kernel
theorem d_P_size_95 : decode prog_1_method_18_code 95 = .ok (.getfield 20, 3) := by decide +kernel
theorem d_P_size_98 : decode prog_1_method_18_code 98 = .ok (.ireturn, 1) := by decide +kernel
theorem d_P_size_99 : decode prog_1_method_18_code 99 = .ok (.aload_n 0, 1) := by decide +kernel
theorem d_P_size_100 : decode prog_1_method_18_code 100 = .ok (.getfield 48, 3) := by decide +kernel
theorem d_P_size_103 : decode prog_1_method_18_code 103 = .ok (.getfield 160, 3) := by decide +kernel
theorem d_P_size_106 : decode prog_1_method_18_code 106 = .ok (.ireturn, 1) := by decide +kernel
theorem d_P_size_107 : decode prog_1_method_18_code 107 = .ok (.aload_n 0, 1) := by decide +kernel
theorem d_P_size_108 : decode prog_1_method_18_code 108 = .ok (.getfield 34, 3) := by decide +kernel
theorem d_P_size_111 : decode prog_1_method_18_code 111 = .ok (.getfield 143, 3) := by decide +kernel
theorem d_P_size_114 : decode prog_1_method_18_code 114 = .ok (.invokestatic 213, 3) := by decide +kernel
theorem d_P_size_117 : decode prog_1_method_18_code 117 = .ok (.ireturn, 1) := by decide +kernel
theorem d_P_size_118 : decode prog_1_method_18_code 118 = .ok (.aload_n 0, 1) := by decide +kernel
theorem d_P_size_119 : decode prog_1_method_18_code 119 = .ok (.getfield 41, 3) := by decide +kernel
theorem d_P_size_122 : decode prog_1_method_18_code 122 = .ok (.getfield 217, 3) := by decide +kernel
theorem d_P_size_125 : decode prog_1_method_18_code 125 = .ok (.ireturn, 1) := by decide +kernel
theorem d_P_size_126 : decode prog_1_method_18_code 126 = .ok (.aload_n 0, 1) := by decide +kernel
theorem d_P_size_127 : decode prog_1_method_18_code 127 = .ok (.getfield 41, 3) := by decide +kernel
theorem d_P_size_130 : decode prog_1_method_18_code 130 = .ok (.getfield 74, 3) := by decide +kernel
theorem d_P_size_133 : decode prog_1_method_18_code 133 = .ok (.ifCond .eq 7, 3) := by decide +kernel
theorem d_P_size_136 : decode prog_1_method_18_code 136 = .ok (.iconst 1, 1) := by decide +kernel
theorem d_P_size_137 : decode prog_1_method_18_code 137 = .ok (.goto 4, 3) := by decide +kernel
theorem d_P_size_140 : decode prog_1_method_18_code 140 = .ok (.iconst 0, 1) := by decide +kernel
theorem d_P_size_141 : decode prog_1_method_18_code 141 = .ok (.ireturn, 1) := by decide +kernel
theorem d_P_size_142 : decode prog_1_method_18_code 142 = .ok (.aload_n 0, 1) := by decide +kernel
theorem d_P_size_143 : decode prog_1_method_18_code 143 = .ok (.getfield 34, 3) := by decide +kernel
theorem d_P_size_146 : decode prog_1_method_18_code 146 = .ok (.invokevirtual 220, 3) := by decide +kernel
theorem d_P_size_149 : decode prog_1_method_18_code 149 = .ok (.ireturn, 1) := by decide +kernel
theorem d_P_size_150 : decode prog_1_method_18_code 150 = .ok (.iconst (-1), 1) := by decide +kernel
theorem d_P_size_151 : decode prog_1_method_18_code 151 = .ok (.ireturn, 1) := by decide +kernel
theorem d_Sh_documentCount_0 : decode prog_9_method_9_code 0 = .ok (.iconst 0, 1) := by decide +kernel
theorem d_Sh_documentCount_1 : decode prog_9_method_9_code 1 = .ok (.istore_n 1, 1) := by decide +kernel
theorem d_Sh_documentCount_2 : decode prog_9_method_9_code 2 = .ok (.iconst 0, 1) := by decide +kernel
theorem d_Sh_documentCount_3 : decode prog_9_method_9_code 3 = .ok (.istore_n 2, 1) := by decide +kernel
theorem d_Sh_documentCount_4 : decode prog_9_method_9_code 4 = .ok (.iload_n 2, 1) := by decide +kernel
theorem d_Sh_documentCount_5 : decode prog_9_method_9_code 5 = .ok (.aload_n 0, 1) := by decide +kernel
theorem d_Sh_documentCount_6 : decode prog_9_method_9_code 6 = .ok (.getfield 10, 3) := by decide +kernel
theorem d_Sh_documentCount_9 : decode prog_9_method_9_code 9 = .ok (.invokevirtual 19, 3) := by decide +kernel
theorem d_Sh_documentCount_12 : decode prog_9_method_9_code 12 = .ok (.if_icmp .ge 29, 3) := by decide +kernel
theorem d_Sh_documentCount_15 : decode prog_9_method_9_code 15 = .ok (.iload_n 1, 1) := by decide +kernel
theorem d_Sh_documentCount_16 : decode prog_9_method_9_code 16 = .ok (.aload_n 0, 1) := by decide +kernel
theorem d_Sh_documentCount_17 : decode prog_9_method_9_code 17 = .ok (.getfield 10, 3) := by decide +kernel
theorem d_Sh_documentCount_20 : decode prog_9_method_9_code 20 = .ok (.iload_n 2, 1) := by decide +kernel
theorem d_Sh_documentCount_21 : decode prog_9_method_9_code 21 = .ok (.invokevirtual 23, 3) := by decide +kernel
theorem d_Sh_documentCount_24 : decode prog_9_method_9_code 24 = .ok (.checkcast 59, 3) := by decide +kernel
theorem d_Sh_documentCount_27 : decode prog_9_method_9_code 27 = .ok (.getfield 68, 3) := by decide +kernel
theorem d_Sh_documentCount_30 : decode prog_9_method_9_code 30 = .ok (.invokevirtual 19, 3) := by decide +kernel
theorem d_Sh_documentCount_33 : decode prog_9_method_9_code 33 = .ok (.iadd, 1) := by decide +kernel
theorem d_Sh_documentCount_34 : decode prog_9_method_9_code 34 = .ok (.istore_n 1, 1) := by decide +kernel
theorem d_Sh_documentCount_35 : decode prog_9_method_9_code 35 = .ok (.iinc 2 1, 3) := by decide +kernel
theorem d_Sh_documentCount_38 : decode prog_9_method_9_code 38 = .ok (.goto (-34), 3) := by decide +kernel
theorem d_Sh_documentCount_41 : decode prog_9_method_9_code 41 = .ok (.iload_n 1, 1) := by decide +kernel
theorem d_Sh_documentCount_42 : decode prog_9_method_9_code 42 = .ok (.ireturn, 1) := by decide +kernel
theorem d_Sh_entryCount_0 : decode prog_9_method_10_code 0 = .ok (.iconst 0, 1) := by decide +kernel
theorem d_Sh_entryCount_1 : decode prog_9_method_10_code 1 = .ok (.istore_n 1, 1) := by decide +kernel
theorem d_Sh_entryCount_2 : decode prog_9_method_10_code 2 = .ok (.iconst 0, 1) := by decide +kernel
theorem d_Sh_entryCount_3 : decode prog_9_method_10_code 3 = .ok (.istore_n 2, 1) := by decide +kernel
theorem d_Sh_entryCount_4 : decode prog_9_method_10_code 4 = .ok (.iload_n 2, 1) := by decide +kernel
theorem d_Sh_entryCount_5 : decode prog_9_method_10_code 5 = .ok (.aload_n 0, 1) := by decide +kernel
theorem d_Sh_entryCount_6 : decode prog_9_method_10_code 6 = .ok (.getfield 10, 3) := by decide +kernel
theorem d_Sh_entryCount_9 : decode prog_9_method_10_code 9 = .ok (.invokevirtual 19, 3) := by decide +kernel
theorem d_Sh_entryCount_12 : decode prog_9_method_10_code 12 = .ok (.if_icmp .ge 26, 3) := by decide +kernel
theorem d_Sh_entryCount_15 : decode prog_9_method_10_code 15 = .ok (.iload_n 1, 1) := by decide +kernel
theorem d_Sh_entryCount_16 : decode prog_9_method_10_code 16 = .ok (.aload_n 0, 1) := by decide +kernel
theorem d_Sh_entryCount_17 : decode prog_9_method_10_code 17 = .ok (.getfield 10, 3) := by decide +kernel
theorem d_Sh_entryCount_20 : decode prog_9_method_10_code 20 = .ok (.iload_n 2, 1) := by decide +kernel
theorem d_Sh_entryCount_21 : decode prog_9_method_10_code 21 = .ok (.invokevirtual 23, 3) := by decide +kernel
theorem d_Sh_entryCount_24 : decode prog_9_method_10_code 24 = .ok (.checkcast 59, 3) := by decide +kernel
theorem d_Sh_entryCount_27 : decode prog_9_method_10_code 27 = .ok (.invokevirtual 87, 3) := by decide +kernel
theorem d_Sh_entryCount_30 : decode prog_9_method_10_code 30 = .ok (.iadd, 1) := by decide +kernel
theorem d_Sh_entryCount_31 : decode prog_9_method_10_code 31 = .ok (.istore_n 1, 1) := by decide +kernel
theorem d_Sh_entryCount_32 : decode prog_9_method_10_code 32 = .ok (.iinc 2 1, 3) := by decide +kernel
theorem d_Sh_entryCount_35 : decode prog_9_method_10_code 35 = .ok (.goto (-31), 3) := by decide +kernel
theorem d_Sh_entryCount_38 : decode prog_9_method_10_code 38 = .ok (.iload_n 1, 1) := by decide +kernel
theorem d_Sh_entryCount_39 : decode prog_9_method_10_code 39 = .ok (.ireturn, 1) := by decide +kernel
theorem d_Sg_entryCount_0 : decode prog_8_method_4_code 0 = .ok (.iconst 0, 1) := by decide +kernel
theorem d_Sg_entryCount_1 : decode prog_8_method_4_code 1 = .ok (.istore_n 1, 1) := by decide +kernel
theorem d_Sg_entryCount_2 : decode prog_8_method_4_code 2 = .ok (.iconst 0, 1) := by decide +kernel
theorem d_Sg_entryCount_3 : decode prog_8_method_4_code 3 = .ok (.istore_n 2, 1) := by decide +kernel
theorem d_Sg_entryCount_4 : decode prog_8_method_4_code 4 = .ok (.iload_n 2, 1) := by decide +kernel
theorem d_Sg_entryCount_5 : decode prog_8_method_4_code 5 = .ok (.aload_n 0, 1) := by decide +kernel
theorem d_Sg_entryCount_6 : decode prog_8_method_4_code 6 = .ok (.getfield 10, 3) := by decide +kernel
theorem d_Sg_entryCount_9 : decode prog_8_method_4_code 9 = .ok (.invokevirtual 35, 3) := by decide +kernel
theorem d_Sg_entryCount_12 : decode prog_8_method_4_code 12 = .ok (.if_icmp .ge 26, 3) := by decide +kernel
theorem d_Sg_entryCount_15 : decode prog_8_method_4_code 15 = .ok (.iload_n 1, 1) := by decide +kernel
theorem d_Sg_entryCount_16 : decode prog_8_method_4_code 16 = .ok (.aload_n 0, 1) := by decide +kernel
theorem d_Sg_entryCount_17 : decode prog_8_method_4_code 17 = .ok (.getfield 10, 3) := by decide +kernel
theorem d_Sg_entryCount_20 : decode prog_8_method_4_code 20 = .ok (.iload_n 2, 1) := by decide +kernel
theorem d_Sg_entryCount_21 : decode prog_8_method_4_code 21 = .ok (.invokevirtual 20, 3) := by decide +kernel
theorem d_Sg_entryCount_24 : decode prog_8_method_4_code 24 = .ok (.checkcast 24, 3) := by decide +kernel
theorem d_Sg_entryCount_27 : decode prog_8_method_4_code 27 = .ok (.invokevirtual 47, 3) := by decide +kernel
theorem d_Sg_entryCount_30 : decode prog_8_method_4_code 30 = .ok (.iadd, 1) := by decide +kernel
theorem d_Sg_entryCount_31 : decode prog_8_method_4_code 31 = .ok (.istore_n 1, 1) := by decide +kernel
theorem d_Sg_entryCount_32 : decode prog_8_method_4_code 32 = .ok (.iinc 2 1, 3) := by decide +kernel
theorem d_Sg_entryCount_35 : decode prog_8_method_4_code 35 = .ok (.goto (-31), 3) := by decide +kernel
theorem d_Sg_entryCount_38 : decode prog_8_method_4_code 38 = .ok (.iload_n 1, 1) := by decide +kernel
theorem d_Sg_entryCount_39 : decode prog_8_method_4_code 39 = .ok (.ireturn, 1) := by decide +kernel
theorem d_D_differentTerms_0 : decode prog_2_method_4_code 0 = .ok (.iconst 0, 1) := by decide +kernel
theorem d_D_differentTerms_1 : decode prog_2_method_4_code 1 = .ok (.istore_n 1, 1) := by decide +kernel
theorem d_D_differentTerms_2 : decode prog_2_method_4_code 2 = .ok (.iconst 0, 1) := by decide +kernel
theorem d_D_differentTerms_3 : decode prog_2_method_4_code 3 = .ok (.istore_n 2, 1) := by decide +kernel
theorem d_D_differentTerms_4 : decode prog_2_method_4_code 4 = .ok (.iload_n 2, 1) := by decide +kernel
theorem d_D_differentTerms_5 : decode prog_2_method_4_code 5 = .ok (.aload_n 0, 1) := by decide +kernel
theorem d_D_differentTerms_6 : decode prog_2_method_4_code 6 = .ok (.getfield 15, 3) := by decide +kernel
theorem d_D_differentTerms_9 : decode prog_2_method_4_code 9 = .ok (.arraylength, 1) := by decide +kernel
theorem d_D_differentTerms_10 : decode prog_2_method_4_code 10 = .ok (.if_icmp .ge 31, 3) := by decide +kernel
theorem d_D_differentTerms_13 : decode prog_2_method_4_code 13 = .ok (.aload_n 0, 1) := by decide +kernel
theorem d_D_differentTerms_14 : decode prog_2_method_4_code 14 = .ok (.getfield 15, 3) := by decide +kernel
theorem d_D_differentTerms_17 : decode prog_2_method_4_code 17 = .ok (.iload_n 2, 1) := by decide +kernel
theorem d_D_differentTerms_18 : decode prog_2_method_4_code 18 = .ok (.laload, 1) := by decide +kernel
theorem d_D_differentTerms_19 : decode prog_2_method_4_code 19 = .ok (.lconst 0, 1) := by decide +kernel
theorem d_D_differentTerms_20 : decode prog_2_method_4_code 20 = .ok (.lcmp, 1) := by decide +kernel
theorem d_D_differentTerms_21 : decode prog_2_method_4_code 21 = .ok (.ifCond .eq 14, 3) := by decide +kernel
theorem d_D_differentTerms_24 : decode prog_2_method_4_code 24 = .ok (.aload_n 0, 1) := by decide +kernel
theorem d_D_differentTerms_25 : decode prog_2_method_4_code 25 = .ok (.iload_n 2, 1) := by decide +kernel
theorem d_D_differentTerms_26 : decode prog_2_method_4_code 26 = .ok (.invokevirtual 19, 3) := by decide +kernel
theorem d_D_differentTerms_29 : decode prog_2_method_4_code 29 = .ok (.ifCond .eq 6, 3) := by decide +kernel
theorem d_D_differentTerms_32 : decode prog_2_method_4_code 32 = .ok (.iinc 1 1, 3) := by decide +kernel
theorem d_D_differentTerms_35 : decode prog_2_method_4_code 35 = .ok (.iinc 2 1, 3) := by decide +kernel
theorem d_D_differentTerms_38 : decode prog_2_method_4_code 38 = .ok (.goto (-34), 3) := by decide +kernel
theorem d_D_differentTerms_41 : decode prog_2_method_4_code 41 = .ok (.iload_n 1, 1) := by decide +kernel
theorem d_D_differentTerms_42 : decode prog_2_method_4_code 42 = .ok (.ireturn, 1) := by decide +kernel
theorem d_D_isFirst_0 : decode prog_2_method_5_code 0 = .ok (.iconst 0, 1) := by decide +kernel
theorem d_D_isFirst_1 : decode prog_2_method_5_code 1 = .ok (.istore_n 2, 1) := by decide +kernel
theorem d_D_isFirst_2 : decode prog_2_method_5_code 2 = .ok (.iload_n 2, 1) := by decide +kernel
theorem d_D_isFirst_3 : decode prog_2_method_5_code 3 = .ok (.iload_n 1, 1) := by decide +kernel
theorem d_D_isFirst_4 : decode prog_2_method_5_code 4 = .ok (.if_icmp .ge 27, 3) := by decide +kernel
theorem d_D_isFirst_7 : decode prog_2_method_5_code 7 = .ok (.aload_n 0, 1) := by decide +kernel
theorem d_D_isFirst_8 : decode prog_2_method_5_code 8 = .ok (.getfield 15, 3) := by decide +kernel
theorem d_D_isFirst_11 : decode prog_2_method_5_code 11 = .ok (.iload_n 2, 1) := by decide +kernel
theorem d_D_isFirst_12 : decode prog_2_method_5_code 12 = .ok (.laload, 1) := by decide +kernel
theorem d_D_isFirst_13 : decode prog_2_method_5_code 13 = .ok (.aload_n 0, 1) := by decide +kernel
theorem d_D_isFirst_14 : decode prog_2_method_5_code 14 = .ok (.getfield 15, 3) := by decide +kernel
theorem d_D_isFirst_17 : decode prog_2_method_5_code 17 = .ok (.iload_n 1, 1) := by decide +kernel
theorem d_D_isFirst_18 : decode prog_2_method_5_code 18 = .ok (.laload, 1) := by decide +kernel
theorem d_D_isFirst_19 : decode prog_2_method_5_code 19 = .ok (.lcmp, 1) := by decide +kernel
theorem d_D_isFirst_20 : decode prog_2_method_5_code 20 = .ok (.ifCond .ne 5, 3) := by decide +kernel
theorem d_D_isFirst_23 : decode prog_2_method_5_code 23 = .ok (.iconst 0, 1) := by decide +kernel
theorem d_D_isFirst_24 : decode prog_2_method_5_code 24 = .ok (.ireturn, 1) := by decide +kernel
theorem d_D_isFirst_25 : decode prog_2_method_5_code 25 = .ok (.iinc 2 1, 3) := by decide +kernel
theorem d_D_isFirst_28 : decode prog_2_method_5_code 28 = .ok (.goto (-26), 3) := by decide +kernel
theorem d_D_isFirst_31 : decode prog_2_method_5_code 31 = .ok (.iconst 1, 1) := by decide +kernel
theorem d_D_isFirst_32 : decode prog_2_method_5_code 32 = .ok (.ireturn, 1) := by decide +kernel
