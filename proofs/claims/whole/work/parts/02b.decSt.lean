theorem d_St_init_0 : decode prog_10_method_1_code 0 = .ok (.aload_n 0, 1) := by decide +kernel
theorem d_St_init_1 : decode prog_10_method_1_code 1 = .ok (.invokespecial 3, 3) := by decide +kernel
theorem d_St_init_4 : decode prog_10_method_1_code 4 = .ok (.aload_n 0, 1) := by decide +kernel
theorem d_St_init_5 : decode prog_10_method_1_code 5 = .ok (.bipush 12, 2) := by decide +kernel
theorem d_St_init_7 : decode prog_10_method_1_code 7 = .ok (.newarray .char, 2) := by decide +kernel
theorem d_St_init_9 : decode prog_10_method_1_code 9 = .ok (.putfield 9, 3) := by decide +kernel
theorem d_St_init_12 : decode prog_10_method_1_code 12 = .ok (.aload_n 0, 1) := by decide +kernel
theorem d_St_init_13 : decode prog_10_method_1_code 13 = .ok (.bipush 12, 2) := by decide +kernel
theorem d_St_init_15 : decode prog_10_method_1_code 15 = .ok (.newarray .boolean, 2) := by decide +kernel
theorem d_St_init_17 : decode prog_10_method_1_code 17 = .ok (.putfield 15, 3) := by decide +kernel
theorem d_St_init_20 : decode prog_10_method_1_code 20 = .ok (.aload_n 0, 1) := by decide +kernel
theorem d_St_init_21 : decode prog_10_method_1_code 21 = .ok (.iconst 0, 1) := by decide +kernel
theorem d_St_init_22 : decode prog_10_method_1_code 22 = .ok (.putfield 19, 3) := by decide +kernel
theorem d_St_init_25 : decode prog_10_method_1_code 25 = .ok (.return_, 1) := by decide +kernel
theorem d_St_isWord_0 : decode prog_10_method_2_code 0 = .ok (.lload_n 0, 1) := by decide +kernel
theorem d_St_isWord_1 : decode prog_10_method_2_code 1 = .ok (.lstore_n 2, 1) := by decide +kernel
theorem d_St_isWord_2 : decode prog_10_method_2_code 2 = .ok (.iconst 0, 1) := by decide +kernel
theorem d_St_isWord_3 : decode prog_10_method_2_code 3 = .ok (.istore 4, 2) := by decide +kernel
theorem d_St_isWord_5 : decode prog_10_method_2_code 5 = .ok (.iload 4, 2) := by decide +kernel
theorem d_St_isWord_7 : decode prog_10_method_2_code 7 = .ok (.bipush 12, 2) := by decide +kernel
theorem d_St_isWord_9 : decode prog_10_method_2_code 9 = .ok (.if_icmp .ge 44, 3) := by decide +kernel
theorem d_St_isWord_12 : decode prog_10_method_2_code 12 = .ok (.lload_n 2, 1) := by decide +kernel
theorem d_St_isWord_13 : decode prog_10_method_2_code 13 = .ok (.lconst 0, 1) := by decide +kernel
theorem d_St_isWord_14 : decode prog_10_method_2_code 14 = .ok (.lcmp, 1) := by decide +kernel
theorem d_St_isWord_15 : decode prog_10_method_2_code 15 = .ok (.ifCond .eq 38, 3) := by decide +kernel
theorem d_St_isWord_18 : decode prog_10_method_2_code 18 = .ok (.lload_n 2, 1) := by decide +kernel
theorem d_St_isWord_19 : decode prog_10_method_2_code 19 = .ok (.ldc2_w 23, 3) := by decide +kernel
theorem d_St_isWord_22 : decode prog_10_method_2_code 22 = .ok (.land, 1) := by decide +kernel
theorem d_St_isWord_23 : decode prog_10_method_2_code 23 = .ok (.lstore 5, 2) := by decide +kernel
theorem d_St_isWord_25 : decode prog_10_method_2_code 25 = .ok (.lload 5, 2) := by decide +kernel
theorem d_St_isWord_27 : decode prog_10_method_2_code 27 = .ok (.lconst 1, 1) := by decide +kernel
theorem d_St_isWord_28 : decode prog_10_method_2_code 28 = .ok (.lcmp, 1) := by decide +kernel
theorem d_St_isWord_29 : decode prog_10_method_2_code 29 = .ok (.ifCond .lt 12, 3) := by decide +kernel
theorem d_St_isWord_32 : decode prog_10_method_2_code 32 = .ok (.lload 5, 2) := by decide +kernel
theorem d_St_isWord_34 : decode prog_10_method_2_code 34 = .ok (.ldc2_w 25, 3) := by decide +kernel
theorem d_St_isWord_37 : decode prog_10_method_2_code 37 = .ok (.lcmp, 1) := by decide +kernel
theorem d_St_isWord_38 : decode prog_10_method_2_code 38 = .ok (.ifCond .le 5, 3) := by decide +kernel
theorem d_St_isWord_41 : decode prog_10_method_2_code 41 = .ok (.iconst 0, 1) := by decide +kernel
theorem d_St_isWord_42 : decode prog_10_method_2_code 42 = .ok (.ireturn, 1) := by decide +kernel
theorem d_St_isWord_43 : decode prog_10_method_2_code 43 = .ok (.lload_n 2, 1) := by decide +kernel
theorem d_St_isWord_44 : decode prog_10_method_2_code 44 = .ok (.iconst 5, 1) := by decide +kernel
theorem d_St_isWord_45 : decode prog_10_method_2_code 45 = .ok (.lushr, 1) := by decide +kernel
theorem d_St_isWord_46 : decode prog_10_method_2_code 46 = .ok (.lstore_n 2, 1) := by decide +kernel
theorem d_St_isWord_47 : decode prog_10_method_2_code 47 = .ok (.iinc 4 1, 3) := by decide +kernel
theorem d_St_isWord_50 : decode prog_10_method_2_code 50 = .ok (.goto (-45), 3) := by decide +kernel
theorem d_St_isWord_53 : decode prog_10_method_2_code 53 = .ok (.lload_n 0, 1) := by decide +kernel
theorem d_St_isWord_54 : decode prog_10_method_2_code 54 = .ok (.lconst 0, 1) := by decide +kernel
theorem d_St_isWord_55 : decode prog_10_method_2_code 55 = .ok (.lcmp, 1) := by decide +kernel
theorem d_St_isWord_56 : decode prog_10_method_2_code 56 = .ok (.ifCond .eq 13, 3) := by decide +kernel
theorem d_St_isWord_59 : decode prog_10_method_2_code 59 = .ok (.lload_n 2, 1) := by decide +kernel
theorem d_St_isWord_60 : decode prog_10_method_2_code 60 = .ok (.lconst 0, 1) := by decide +kernel
theorem d_St_isWord_61 : decode prog_10_method_2_code 61 = .ok (.lcmp, 1) := by decide +kernel
theorem d_St_isWord_62 : decode prog_10_method_2_code 62 = .ok (.ifCond .ne 7, 3) := by decide +kernel
theorem d_St_isWord_65 : decode prog_10_method_2_code 65 = .ok (.iconst 1, 1) := by decide +kernel
theorem d_St_isWord_66 : decode prog_10_method_2_code 66 = .ok (.goto 4, 3) := by decide +kernel
theorem d_St_isWord_69 : decode prog_10_method_2_code 69 = .ok (.iconst 0, 1) := by decide +kernel
theorem d_St_isWord_70 : decode prog_10_method_2_code 70 = .ok (.ireturn, 1) := by decide +kernel
theorem d_St_stemOf_0 : decode prog_10_method_5_code 0 = .ok (.aload_n 0, 1) := by decide +kernel
theorem d_St_stemOf_1 : decode prog_10_method_5_code 1 = .ok (.lload_n 1, 1) := by decide +kernel
theorem d_St_stemOf_2 : decode prog_10_method_5_code 2 = .ok (.invokevirtual 39, 3) := by decide +kernel
theorem d_St_stemOf_5 : decode prog_10_method_5_code 5 = .ok (.aload_n 0, 1) := by decide +kernel
theorem d_St_stemOf_6 : decode prog_10_method_5_code 6 = .ok (.getfield 19, 3) := by decide +kernel
theorem d_St_stemOf_9 : decode prog_10_method_5_code 9 = .ok (.iconst 2, 1) := by decide +kernel
theorem d_St_stemOf_10 : decode prog_10_method_5_code 10 = .ok (.if_icmp .le 15, 3) := by decide +kernel
theorem d_St_stemOf_13 : decode prog_10_method_5_code 13 = .ok (.aload_n 0, 1) := by decide +kernel
theorem d_St_stemOf_14 : decode prog_10_method_5_code 14 = .ok (.invokevirtual 43, 3) := by decide +kernel
theorem d_St_stemOf_17 : decode prog_10_method_5_code 17 = .ok (.aload_n 0, 1) := by decide +kernel
theorem d_St_stemOf_18 : decode prog_10_method_5_code 18 = .ok (.invokevirtual 46, 3) := by decide +kernel
theorem d_St_stemOf_21 : decode prog_10_method_5_code 21 = .ok (.aload_n 0, 1) := by decide +kernel
theorem d_St_stemOf_22 : decode prog_10_method_5_code 22 = .ok (.invokevirtual 49, 3) := by decide +kernel
theorem d_St_stemOf_25 : decode prog_10_method_5_code 25 = .ok (.aload_n 0, 1) := by decide +kernel
theorem d_St_stemOf_26 : decode prog_10_method_5_code 26 = .ok (.invokevirtual 52, 3) := by decide +kernel
theorem d_St_stemOf_29 : decode prog_10_method_5_code 29 = .ok (.lreturn, 1) := by decide +kernel
theorem d_St_unpack_0 : decode prog_10_method_6_code 0 = .ok (.aload_n 0, 1) := by decide +kernel
theorem d_St_unpack_1 : decode prog_10_method_6_code 1 = .ok (.iconst 0, 1) := by decide +kernel
theorem d_St_unpack_2 : decode prog_10_method_6_code 2 = .ok (.putfield 19, 3) := by decide +kernel
theorem d_St_unpack_5 : decode prog_10_method_6_code 5 = .ok (.lload_n 1, 1) := by decide +kernel
theorem d_St_unpack_6 : decode prog_10_method_6_code 6 = .ok (.lstore_n 3, 1) := by decide +kernel
theorem d_St_unpack_7 : decode prog_10_method_6_code 7 = .ok (.iconst 0, 1) := by decide +kernel
theorem d_St_unpack_8 : decode prog_10_method_6_code 8 = .ok (.istore 5, 2) := by decide +kernel
theorem d_St_unpack_10 : decode prog_10_method_6_code 10 = .ok (.iload 5, 2) := by decide +kernel
theorem d_St_unpack_12 : decode prog_10_method_6_code 12 = .ok (.bipush 12, 2) := by decide +kernel
theorem d_St_unpack_14 : decode prog_10_method_6_code 14 = .ok (.if_icmp .ge 34, 3) := by decide +kernel
theorem d_St_unpack_17 : decode prog_10_method_6_code 17 = .ok (.lload_n 3, 1) := by decide +kernel
theorem d_St_unpack_18 : decode prog_10_method_6_code 18 = .ok (.lconst 0, 1) := by decide +kernel
theorem d_St_unpack_19 : decode prog_10_method_6_code 19 = .ok (.lcmp, 1) := by decide +kernel
theorem d_St_unpack_20 : decode prog_10_method_6_code 20 = .ok (.ifCond .eq 28, 3) := by decide +kernel
theorem d_St_unpack_23 : decode prog_10_method_6_code 23 = .ok (.aload_n 0, 1) := by decide +kernel
theorem d_St_unpack_24 : decode prog_10_method_6_code 24 = .ok (.ldc2_w 56, 3) := by decide +kernel
theorem d_St_unpack_27 : decode prog_10_method_6_code 27 = .ok (.lload_n 3, 1) := by decide +kernel
theorem d_St_unpack_28 : decode prog_10_method_6_code 28 = .ok (.ldc2_w 23, 3) := by decide +kernel
theorem d_St_unpack_31 : decode prog_10_method_6_code 31 = .ok (.land, 1) := by decide +kernel
theorem d_St_unpack_32 : decode prog_10_method_6_code 32 = .ok (.ladd, 1) := by decide +kernel
theorem d_St_unpack_33 : decode prog_10_method_6_code 33 = .ok (.l2i, 1) := by decide +kernel
theorem d_St_unpack_34 : decode prog_10_method_6_code 34 = .ok (.i2c, 1) := by decide +kernel
theorem d_St_unpack_35 : decode prog_10_method_6_code 35 = .ok (.invokevirtual 58, 3) := by decide +kernel
theorem d_St_unpack_38 : decode prog_10_method_6_code 38 = .ok (.lload_n 3, 1) := by decide +kernel
theorem d_St_unpack_39 : decode prog_10_method_6_code 39 = .ok (.iconst 5, 1) := by decide +kernel
theorem d_St_unpack_40 : decode prog_10_method_6_code 40 = .ok (.lushr, 1) := by decide +kernel
theorem d_St_unpack_41 : decode prog_10_method_6_code 41 = .ok (.lstore_n 3, 1) := by decide +kernel
theorem d_St_unpack_42 : decode prog_10_method_6_code 42 = .ok (.iinc 5 1, 3) := by decide +kernel
theorem d_St_unpack_45 : decode prog_10_method_6_code 45 = .ok (.goto (-35), 3) := by decide +kernel
theorem d_St_unpack_48 : decode prog_10_method_6_code 48 = .ok (.return_, 1) := by decide +kernel
theorem d_St_append_0 : decode prog_10_method_8_code 0 = .ok (.aload_n 0, 1) := by decide +kernel
theorem d_St_append_1 : decode prog_10_method_8_code 1 = .ok (.getfield 19, 3) := by decide +kernel
theorem d_St_append_4 : decode prog_10_method_8_code 4 = .ok (.bipush 12, 2) := by decide +kernel
theorem d_St_append_6 : decode prog_10_method_8_code 6 = .ok (.if_icmp .lt 4, 3) := by decide +kernel
theorem d_St_append_9 : decode prog_10_method_8_code 9 = .ok (.return_, 1) := by decide +kernel
theorem d_St_append_10 : decode prog_10_method_8_code 10 = .ok (.aload_n 0, 1) := by decide +kernel
theorem d_St_append_11 : decode prog_10_method_8_code 11 = .ok (.getfield 19, 3) := by decide +kernel
theorem d_St_append_14 : decode prog_10_method_8_code 14 = .ok (.ifCond .le 21, 3) := by decide +kernel
theorem d_St_append_17 : decode prog_10_method_8_code 17 = .ok (.aload_n 0, 1) := by decide +kernel
theorem d_St_append_18 : decode prog_10_method_8_code 18 = .ok (.getfield 15, 3) := by decide +kernel
theorem d_St_append_21 : decode prog_10_method_8_code 21 = .ok (.aload_n 0, 1) := by decide +kernel
theorem d_St_append_22 : decode prog_10_method_8_code 22 = .ok (.getfield 19, 3) := by decide +kernel
theorem d_St_append_25 : decode prog_10_method_8_code 25 = .ok (.iconst 1, 1) := by decide +kernel
theorem d_St_append_26 : decode prog_10_method_8_code 26 = .ok (.isub, 1) := by decide +kernel
theorem d_St_append_27 : decode prog_10_method_8_code 27 = .ok (.baload, 1) := by decide +kernel
theorem d_St_append_28 : decode prog_10_method_8_code 28 = .ok (.ifCond .ne 7, 3) := by decide +kernel
theorem d_St_append_31 : decode prog_10_method_8_code 31 = .ok (.iconst 1, 1) := by decide +kernel
theorem d_St_append_32 : decode prog_10_method_8_code 32 = .ok (.goto 4, 3) := by decide +kernel
theorem d_St_append_35 : decode prog_10_method_8_code 35 = .ok (.iconst 0, 1) := by decide +kernel
theorem d_St_append_36 : decode prog_10_method_8_code 36 = .ok (.istore_n 2, 1) := by decide +kernel
theorem d_St_append_37 : decode prog_10_method_8_code 37 = .ok (.aload_n 0, 1) := by decide +kernel
theorem d_St_append_38 : decode prog_10_method_8_code 38 = .ok (.getfield 9, 3) := by decide +kernel
theorem d_St_append_41 : decode prog_10_method_8_code 41 = .ok (.aload_n 0, 1) := by decide +kernel
theorem d_St_append_42 : decode prog_10_method_8_code 42 = .ok (.getfield 19, 3) := by decide +kernel
theorem d_St_append_45 : decode prog_10_method_8_code 45 = .ok (.iload_n 1, 1) := by decide +kernel
theorem d_St_append_46 : decode prog_10_method_8_code 46 = .ok (.castore, 1) := by decide +kernel
theorem d_St_append_47 : decode prog_10_method_8_code 47 = .ok (.aload_n 0, 1) := by decide +kernel
theorem d_St_append_48 : decode prog_10_method_8_code 48 = .ok (.getfield 15, 3) := by decide +kernel
theorem d_St_append_51 : decode prog_10_method_8_code 51 = .ok (.aload_n 0, 1) := by decide +kernel
theorem d_St_append_52 : decode prog_10_method_8_code 52 = .ok (.getfield 19, 3) := by decide +kernel
theorem d_St_append_55 : decode prog_10_method_8_code 55 = .ok (.ldc 62, 2) := by decide +kernel
theorem d_St_append_57 : decode prog_10_method_8_code 57 = .ok (.iload_n 1, 1) := by decide +kernel
theorem d_St_append_58 : decode prog_10_method_8_code 58 = .ok (.invokevirtual 64, 3) := by decide +kernel
theorem d_St_append_61 : decode prog_10_method_8_code 61 = .ok (.ifCond .ge 13, 3) := by decide +kernel
theorem d_St_append_64 : decode prog_10_method_8_code 64 = .ok (.iload_n 1, 1) := by decide +kernel
theorem d_St_append_65 : decode prog_10_method_8_code 65 = .ok (.bipush 121, 2) := by decide +kernel
theorem d_St_append_67 : decode prog_10_method_8_code 67 = .ok (.if_icmp .ne 11, 3) := by decide +kernel
theorem d_St_append_70 : decode prog_10_method_8_code 70 = .ok (.iload_n 2, 1) := by decide +kernel
theorem d_St_append_71 : decode prog_10_method_8_code 71 = .ok (.ifCond .eq 7, 3) := by decide +kernel
theorem d_St_append_74 : decode prog_10_method_8_code 74 = .ok (.iconst 1, 1) := by decide +kernel
theorem d_St_append_75 : decode prog_10_method_8_code 75 = .ok (.goto 4, 3) := by decide +kernel
theorem d_St_append_78 : decode prog_10_method_8_code 78 = .ok (.iconst 0, 1) := by decide +kernel
theorem d_St_append_79 : decode prog_10_method_8_code 79 = .ok (.bastore, 1) := by decide +kernel
theorem d_St_append_80 : decode prog_10_method_8_code 80 = .ok (.aload_n 0, 1) := by decide +kernel
theorem d_St_append_81 : decode prog_10_method_8_code 81 = .ok (.dup, 1) := by decide +kernel
theorem d_St_append_82 : decode prog_10_method_8_code 82 = .ok (.getfield 19, 3) := by decide +kernel
theorem d_St_append_85 : decode prog_10_method_8_code 85 = .ok (.iconst 1, 1) := by decide +kernel
theorem d_St_append_86 : decode prog_10_method_8_code 86 = .ok (.iadd, 1) := by decide +kernel
theorem d_St_append_87 : decode prog_10_method_8_code 87 = .ok (.putfield 19, 3) := by decide +kernel
theorem d_St_append_90 : decode prog_10_method_8_code 90 = .ok (.return_, 1) := by decide +kernel
theorem d_St_dropPlural_0 : decode prog_10_method_9_code 0 = .ok (.aload_n 0, 1) := by decide +kernel
theorem d_St_dropPlural_1 : decode prog_10_method_9_code 1 = .ok (.ldc 70, 2) := by decide +kernel
theorem d_St_dropPlural_3 : decode prog_10_method_9_code 3 = .ok (.invokevirtual 72, 3) := by decide +kernel
theorem d_St_dropPlural_6 : decode prog_10_method_9_code 6 = .ok (.ifCond .ne 12, 3) := by decide +kernel
theorem d_St_dropPlural_9 : decode prog_10_method_9_code 9 = .ok (.aload_n 0, 1) := by decide +kernel
theorem d_St_dropPlural_10 : decode prog_10_method_9_code 10 = .ok (.ldc 76, 2) := by decide +kernel
theorem d_St_dropPlural_12 : decode prog_10_method_9_code 12 = .ok (.invokevirtual 72, 3) := by decide +kernel
theorem d_St_dropPlural_15 : decode prog_10_method_9_code 15 = .ok (.ifCond .eq 16, 3) := by decide +kernel
theorem d_St_dropPlural_18 : decode prog_10_method_9_code 18 = .ok (.aload_n 0, 1) := by decide +kernel
theorem d_St_dropPlural_19 : decode prog_10_method_9_code 19 = .ok (.dup, 1) := by decide +kernel
theorem d_St_dropPlural_20 : decode prog_10_method_9_code 20 = .ok (.getfield 19, 3) := by decide +kernel
theorem d_St_dropPlural_23 : decode prog_10_method_9_code 23 = .ok (.iconst 2, 1) := by decide +kernel
theorem d_St_dropPlural_24 : decode prog_10_method_9_code 24 = .ok (.isub, 1) := by decide +kernel
theorem d_St_dropPlural_25 : decode prog_10_method_9_code 25 = .ok (.putfield 19, 3) := by decide +kernel
theorem d_St_dropPlural_28 : decode prog_10_method_9_code 28 = .ok (.goto 31, 3) := by decide +kernel
theorem d_St_dropPlural_31 : decode prog_10_method_9_code 31 = .ok (.aload_n 0, 1) := by decide +kernel
theorem d_St_dropPlural_32 : decode prog_10_method_9_code 32 = .ok (.ldc 78, 2) := by decide +kernel
theorem d_St_dropPlural_34 : decode prog_10_method_9_code 34 = .ok (.invokevirtual 72, 3) := by decide +kernel
theorem d_St_dropPlural_37 : decode prog_10_method_9_code 37 = .ok (.ifCond .eq 22, 3) := by decide +kernel
theorem d_St_dropPlural_40 : decode prog_10_method_9_code 40 = .ok (.aload_n 0, 1) := by decide +kernel
theorem d_St_dropPlural_41 : decode prog_10_method_9_code 41 = .ok (.ldc 80, 2) := by decide +kernel
theorem d_St_dropPlural_43 : decode prog_10_method_9_code 43 = .ok (.invokevirtual 72, 3) := by decide +kernel
theorem d_St_dropPlural_46 : decode prog_10_method_9_code 46 = .ok (.ifCond .ne 13, 3) := by decide +kernel
theorem d_St_dropPlural_49 : decode prog_10_method_9_code 49 = .ok (.aload_n 0, 1) := by decide +kernel
theorem d_St_dropPlural_50 : decode prog_10_method_9_code 50 = .ok (.dup, 1) := by decide +kernel
theorem d_St_dropPlural_51 : decode prog_10_method_9_code 51 = .ok (.getfield 19, 3) := by decide +kernel
theorem d_St_dropPlural_54 : decode prog_10_method_9_code 54 = .ok (.iconst 1, 1) := by decide +kernel
theorem d_St_dropPlural_55 : decode prog_10_method_9_code 55 = .ok (.isub, 1) := by decide +kernel
theorem d_St_dropPlural_56 : decode prog_10_method_9_code 56 = .ok (.putfield 19, 3) := by decide +kernel
theorem d_St_dropPlural_59 : decode prog_10_method_9_code 59 = .ok (.return_, 1) := by decide +kernel
theorem d_St_endsIn_0 : decode prog_10_method_13_code 0 = .ok (.aload_n 0, 1) := by decide +kernel
theorem d_St_endsIn_1 : decode prog_10_method_13_code 1 = .ok (.getfield 19, 3) := by decide +kernel
theorem d_St_endsIn_4 : decode prog_10_method_13_code 4 = .ok (.aload_n 1, 1) := by decide +kernel
theorem d_St_endsIn_5 : decode prog_10_method_13_code 5 = .ok (.invokevirtual 113, 3) := by decide +kernel
theorem d_St_endsIn_8 : decode prog_10_method_13_code 8 = .ok (.isub, 1) := by decide +kernel
theorem d_St_endsIn_9 : decode prog_10_method_13_code 9 = .ok (.istore_n 2, 1) := by decide +kernel
theorem d_St_endsIn_10 : decode prog_10_method_13_code 10 = .ok (.iload_n 2, 1) := by decide +kernel
theorem d_St_endsIn_11 : decode prog_10_method_13_code 11 = .ok (.ifCond .ge 5, 3) := by decide +kernel
theorem d_St_endsIn_14 : decode prog_10_method_13_code 14 = .ok (.iconst 0, 1) := by decide +kernel
theorem d_St_endsIn_15 : decode prog_10_method_13_code 15 = .ok (.ireturn, 1) := by decide +kernel
theorem d_St_endsIn_16 : decode prog_10_method_13_code 16 = .ok (.iconst 0, 1) := by decide +kernel
theorem d_St_endsIn_17 : decode prog_10_method_13_code 17 = .ok (.istore_n 3, 1) := by decide +kernel
theorem d_St_endsIn_18 : decode prog_10_method_13_code 18 = .ok (.iload_n 3, 1) := by decide +kernel
theorem d_St_endsIn_19 : decode prog_10_method_13_code 19 = .ok (.aload_n 1, 1) := by decide +kernel
theorem d_St_endsIn_20 : decode prog_10_method_13_code 20 = .ok (.invokevirtual 113, 3) := by decide +kernel
theorem d_St_endsIn_23 : decode prog_10_method_13_code 23 = .ok (.if_icmp .ge 27, 3) := by decide +kernel
theorem d_St_endsIn_26 : decode prog_10_method_13_code 26 = .ok (.aload_n 0, 1) := by decide +kernel
theorem d_St_endsIn_27 : decode prog_10_method_13_code 27 = .ok (.getfield 9, 3) := by decide +kernel
theorem d_St_endsIn_30 : decode prog_10_method_13_code 30 = .ok (.iload_n 2, 1) := by decide +kernel
theorem d_St_endsIn_31 : decode prog_10_method_13_code 31 = .ok (.iload_n 3, 1) := by decide +kernel
theorem d_St_endsIn_32 : decode prog_10_method_13_code 32 = .ok (.iadd, 1) := by decide +kernel
theorem d_St_endsIn_33 : decode prog_10_method_13_code 33 = .ok (.caload, 1) := by decide +kernel
theorem d_St_endsIn_34 : decode prog_10_method_13_code 34 = .ok (.aload_n 1, 1) := by decide +kernel
theorem d_St_endsIn_35 : decode prog_10_method_13_code 35 = .ok (.iload_n 3, 1) := by decide +kernel
theorem d_St_endsIn_36 : decode prog_10_method_13_code 36 = .ok (.invokevirtual 116, 3) := by decide +kernel
theorem d_St_endsIn_39 : decode prog_10_method_13_code 39 = .ok (.if_icmp .eq 5, 3) := by decide +kernel
theorem d_St_endsIn_42 : decode prog_10_method_13_code 42 = .ok (.iconst 0, 1) := by decide +kernel
theorem d_St_endsIn_43 : decode prog_10_method_13_code 43 = .ok (.ireturn, 1) := by decide +kernel
theorem d_St_endsIn_44 : decode prog_10_method_13_code 44 = .ok (.iinc 3 1, 3) := by decide +kernel
theorem d_St_endsIn_47 : decode prog_10_method_13_code 47 = .ok (.goto (-29), 3) := by decide +kernel
theorem d_St_endsIn_50 : decode prog_10_method_13_code 50 = .ok (.iconst 1, 1) := by decide +kernel
theorem d_St_endsIn_51 : decode prog_10_method_13_code 51 = .ok (.ireturn, 1) := by decide +kernel
theorem d_St_dropPastOrGerund_0 : decode prog_10_method_10_code 0 = .ok (.aload_n 0, 1) := by decide +kernel
theorem d_St_dropPastOrGerund_1 : decode prog_10_method_10_code 1 = .ok (.ldc 82, 2) := by decide +kernel
theorem d_St_dropPastOrGerund_3 : decode prog_10_method_10_code 3 = .ok (.invokevirtual 72, 3) := by decide +kernel
theorem d_St_dropPastOrGerund_6 : decode prog_10_method_10_code 6 = .ok (.ifCond .eq 27, 3) := by decide +kernel
theorem d_St_dropPastOrGerund_9 : decode prog_10_method_10_code 9 = .ok (.aload_n 0, 1) := by decide +kernel
theorem d_St_dropPastOrGerund_10 : decode prog_10_method_10_code 10 = .ok (.aload_n 0, 1) := by decide +kernel
theorem d_St_dropPastOrGerund_11 : decode prog_10_method_10_code 11 = .ok (.getfield 19, 3) := by decide +kernel
theorem d_St_dropPastOrGerund_14 : decode prog_10_method_10_code 14 = .ok (.iconst 3, 1) := by decide +kernel
theorem d_St_dropPastOrGerund_15 : decode prog_10_method_10_code 15 = .ok (.isub, 1) := by decide +kernel
theorem d_St_dropPastOrGerund_16 : decode prog_10_method_10_code 16 = .ok (.invokevirtual 84, 3) := by decide +kernel
theorem d_St_dropPastOrGerund_19 : decode prog_10_method_10_code 19 = .ok (.ifCond .le 13, 3) := by decide +kernel
theorem d_St_dropPastOrGerund_22 : decode prog_10_method_10_code 22 = .ok (.aload_n 0, 1) := by decide +kernel
theorem d_St_dropPastOrGerund_23 : decode prog_10_method_10_code 23 = .ok (.dup, 1) := by decide +kernel
theorem d_St_dropPastOrGerund_24 : decode prog_10_method_10_code 24 = .ok (.getfield 19, 3) := by decide +kernel
theorem d_St_dropPastOrGerund_27 : decode prog_10_method_10_code 27 = .ok (.iconst 1, 1) := by decide +kernel
theorem d_St_dropPastOrGerund_28 : decode prog_10_method_10_code 28 = .ok (.isub, 1) := by decide +kernel
theorem d_St_dropPastOrGerund_29 : decode prog_10_method_10_code 29 = .ok (.putfield 19, 3) := by decide +kernel
theorem d_St_dropPastOrGerund_32 : decode prog_10_method_10_code 32 = .ok (.return_, 1) := by decide +kernel
theorem d_St_dropPastOrGerund_33 : decode prog_10_method_10_code 33 = .ok (.aload_n 0, 1) := by decide +kernel
theorem d_St_dropPastOrGerund_34 : decode prog_10_method_10_code 34 = .ok (.ldc 87, 2) := by decide +kernel
theorem d_St_dropPastOrGerund_36 : decode prog_10_method_10_code 36 = .ok (.invokevirtual 72, 3) := by decide +kernel
theorem d_St_dropPastOrGerund_39 : decode prog_10_method_10_code 39 = .ok (.ifCond .eq 7, 3) := by decide +kernel
theorem d_St_dropPastOrGerund_42 : decode prog_10_method_10_code 42 = .ok (.iconst 2, 1) := by decide +kernel
theorem d_St_dropPastOrGerund_43 : decode prog_10_method_10_code 43 = .ok (.goto 17, 3) := by decide +kernel
theorem d_St_dropPastOrGerund_46 : decode prog_10_method_10_code 46 = .ok (.aload_n 0, 1) := by decide +kernel
theorem d_St_dropPastOrGerund_47 : decode prog_10_method_10_code 47 = .ok (.ldc 89, 2) := by decide +kernel
theorem d_St_dropPastOrGerund_49 : decode prog_10_method_10_code 49 = .ok (.invokevirtual 72, 3) := by decide +kernel
theorem d_St_dropPastOrGerund_52 : decode prog_10_method_10_code 52 = .ok (.ifCond .eq 7, 3) := by decide +kernel
theorem d_St_dropPastOrGerund_55 : decode prog_10_method_10_code 55 = .ok (.iconst 3, 1) := by decide +kernel
theorem d_St_dropPastOrGerund_56 : decode prog_10_method_10_code 56 = .ok (.goto 4, 3) := by decide +kernel
theorem d_St_dropPastOrGerund_59 : decode prog_10_method_10_code 59 = .ok (.iconst 0, 1) := by decide +kernel
theorem d_St_dropPastOrGerund_60 : decode prog_10_method_10_code 60 = .ok (.istore_n 1, 1) := by decide +kernel
theorem d_St_dropPastOrGerund_61 : decode prog_10_method_10_code 61 = .ok (.iload_n 1, 1) := by decide +kernel
theorem d_St_dropPastOrGerund_62 : decode prog_10_method_10_code 62 = .ok (.ifCond .le 30, 3) := by decide +kernel
theorem d_St_dropPastOrGerund_65 : decode prog_10_method_10_code 65 = .ok (.aload_n 0, 1) := by decide +kernel
theorem d_St_dropPastOrGerund_66 : decode prog_10_method_10_code 66 = .ok (.aload_n 0, 1) := by decide +kernel
theorem d_St_dropPastOrGerund_67 : decode prog_10_method_10_code 67 = .ok (.getfield 19, 3) := by decide +kernel
theorem d_St_dropPastOrGerund_70 : decode prog_10_method_10_code 70 = .ok (.iload_n 1, 1) := by decide +kernel
theorem d_St_dropPastOrGerund_71 : decode prog_10_method_10_code 71 = .ok (.isub, 1) := by decide +kernel
theorem d_St_dropPastOrGerund_72 : decode prog_10_method_10_code 72 = .ok (.invokevirtual 91, 3) := by decide +kernel
theorem d_St_dropPastOrGerund_75 : decode prog_10_method_10_code 75 = .ok (.ifCond .eq 17, 3) := by decide +kernel
theorem d_St_dropPastOrGerund_78 : decode prog_10_method_10_code 78 = .ok (.aload_n 0, 1) := by decide +kernel
theorem d_St_dropPastOrGerund_79 : decode prog_10_method_10_code 79 = .ok (.dup, 1) := by decide +kernel
theorem d_St_dropPastOrGerund_80 : decode prog_10_method_10_code 80 = .ok (.getfield 19, 3) := by decide +kernel
theorem d_St_dropPastOrGerund_83 : decode prog_10_method_10_code 83 = .ok (.iload_n 1, 1) := by decide +kernel
theorem d_St_dropPastOrGerund_84 : decode prog_10_method_10_code 84 = .ok (.isub, 1) := by decide +kernel
theorem d_St_dropPastOrGerund_85 : decode prog_10_method_10_code 85 = .ok (.putfield 19, 3) := by decide +kernel
theorem d_St_dropPastOrGerund_88 : decode prog_10_method_10_code 88 = .ok (.aload_n 0, 1) := by decide +kernel
theorem d_St_dropPastOrGerund_89 : decode prog_10_method_10_code 89 = .ok (.invokevirtual 95, 3) := by decide +kernel
theorem d_St_dropPastOrGerund_92 : decode prog_10_method_10_code 92 = .ok (.return_, 1) := by decide +kernel
theorem d_St_measure_0 : decode prog_10_method_16_code 0 = .ok (.iconst 0, 1) := by decide +kernel
theorem d_St_measure_1 : decode prog_10_method_16_code 1 = .ok (.istore_n 2, 1) := by decide +kernel
theorem d_St_measure_2 : decode prog_10_method_16_code 2 = .ok (.iconst 0, 1) := by decide +kernel
theorem d_St_measure_3 : decode prog_10_method_16_code 3 = .ok (.istore_n 3, 1) := by decide +kernel
theorem d_St_measure_4 : decode prog_10_method_16_code 4 = .ok (.iload_n 3, 1) := by decide +kernel
theorem d_St_measure_5 : decode prog_10_method_16_code 5 = .ok (.iconst 1, 1) := by decide +kernel
theorem d_St_measure_6 : decode prog_10_method_16_code 6 = .ok (.iadd, 1) := by decide +kernel
theorem d_St_measure_7 : decode prog_10_method_16_code 7 = .ok (.iload_n 1, 1) := by decide +kernel
theorem d_St_measure_8 : decode prog_10_method_16_code 8 = .ok (.if_icmp .ge 32, 3) := by decide +kernel
theorem d_St_measure_11 : decode prog_10_method_16_code 11 = .ok (.aload_n 0, 1) := by decide +kernel
theorem d_St_measure_12 : decode prog_10_method_16_code 12 = .ok (.getfield 15, 3) := by decide +kernel
theorem d_St_measure_15 : decode prog_10_method_16_code 15 = .ok (.iload_n 3, 1) := by decide +kernel
theorem d_St_measure_16 : decode prog_10_method_16_code 16 = .ok (.baload, 1) := by decide +kernel
theorem d_St_measure_17 : decode prog_10_method_16_code 17 = .ok (.ifCond .eq 17, 3) := by decide +kernel
theorem d_St_measure_20 : decode prog_10_method_16_code 20 = .ok (.aload_n 0, 1) := by decide +kernel
theorem d_St_measure_21 : decode prog_10_method_16_code 21 = .ok (.getfield 15, 3) := by decide +kernel
theorem d_St_measure_24 : decode prog_10_method_16_code 24 = .ok (.iload_n 3, 1) := by decide +kernel
theorem d_St_measure_25 : decode prog_10_method_16_code 25 = .ok (.iconst 1, 1) := by decide +kernel
theorem d_St_measure_26 : decode prog_10_method_16_code 26 = .ok (.iadd, 1) := by decide +kernel
theorem d_St_measure_27 : decode prog_10_method_16_code 27 = .ok (.baload, 1) := by decide +kernel
theorem d_St_measure_28 : decode prog_10_method_16_code 28 = .ok (.ifCond .ne 6, 3) := by decide +kernel
theorem d_St_measure_31 : decode prog_10_method_16_code 31 = .ok (.iinc 2 1, 3) := by decide +kernel
theorem d_St_measure_34 : decode prog_10_method_16_code 34 = .ok (.iinc 3 1, 3) := by decide +kernel
theorem d_St_measure_37 : decode prog_10_method_16_code 37 = .ok (.goto (-33), 3) := by decide +kernel
theorem d_St_measure_40 : decode prog_10_method_16_code 40 = .ok (.iload_n 2, 1) := by decide +kernel
theorem d_St_measure_41 : decode prog_10_method_16_code 41 = .ok (.ireturn, 1) := by decide +kernel
theorem d_St_hasVowel_0 : decode prog_10_method_17_code 0 = .ok (.iconst 0, 1) := by decide +kernel
theorem d_St_hasVowel_1 : decode prog_10_method_17_code 1 = .ok (.istore_n 2, 1) := by decide +kernel
theorem d_St_hasVowel_2 : decode prog_10_method_17_code 2 = .ok (.iload_n 2, 1) := by decide +kernel
theorem d_St_hasVowel_3 : decode prog_10_method_17_code 3 = .ok (.iload_n 1, 1) := by decide +kernel
theorem d_St_hasVowel_4 : decode prog_10_method_17_code 4 = .ok (.if_icmp .ge 20, 3) := by decide +kernel
theorem d_St_hasVowel_7 : decode prog_10_method_17_code 7 = .ok (.aload_n 0, 1) := by decide +kernel
theorem d_St_hasVowel_8 : decode prog_10_method_17_code 8 = .ok (.getfield 15, 3) := by decide +kernel
theorem d_St_hasVowel_11 : decode prog_10_method_17_code 11 = .ok (.iload_n 2, 1) := by decide +kernel
theorem d_St_hasVowel_12 : decode prog_10_method_17_code 12 = .ok (.baload, 1) := by decide +kernel
theorem d_St_hasVowel_13 : decode prog_10_method_17_code 13 = .ok (.ifCond .eq 5, 3) := by decide +kernel
theorem d_St_hasVowel_16 : decode prog_10_method_17_code 16 = .ok (.iconst 1, 1) := by decide +kernel
theorem d_St_hasVowel_17 : decode prog_10_method_17_code 17 = .ok (.ireturn, 1) := by decide +kernel
theorem d_St_hasVowel_18 : decode prog_10_method_17_code 18 = .ok (.iinc 2 1, 3) := by decide +kernel
theorem d_St_hasVowel_21 : decode prog_10_method_17_code 21 = .ok (.goto (-19), 3) := by decide +kernel
theorem d_St_hasVowel_24 : decode prog_10_method_17_code 24 = .ok (.iconst 0, 1) := by decide +kernel
theorem d_St_hasVowel_25 : decode prog_10_method_17_code 25 = .ok (.ireturn, 1) := by decide +kernel
theorem d_St_mendEnd_0 : decode prog_10_method_11_code 0 = .ok (.aload_n 0, 1) := by decide +kernel
theorem d_St_mendEnd_1 : decode prog_10_method_11_code 1 = .ok (.ldc 98, 2) := by decide +kernel
theorem d_St_mendEnd_3 : decode prog_10_method_11_code 3 = .ok (.invokevirtual 72, 3) := by decide +kernel
theorem d_St_mendEnd_6 : decode prog_10_method_11_code 6 = .ok (.ifCond .ne 21, 3) := by decide +kernel
theorem d_St_mendEnd_9 : decode prog_10_method_11_code 9 = .ok (.aload_n 0, 1) := by decide +kernel
theorem d_St_mendEnd_10 : decode prog_10_method_11_code 10 = .ok (.ldc 100, 2) := by decide +kernel
theorem d_St_mendEnd_12 : decode prog_10_method_11_code 12 = .ok (.invokevirtual 72, 3) := by decide +kernel
theorem d_St_mendEnd_15 : decode prog_10_method_11_code 15 = .ok (.ifCond .ne 12, 3) := by decide +kernel
theorem d_St_mendEnd_18 : decode prog_10_method_11_code 18 = .ok (.aload_n 0, 1) := by decide +kernel
theorem d_St_mendEnd_19 : decode prog_10_method_11_code 19 = .ok (.ldc 102, 2) := by decide +kernel
theorem d_St_mendEnd_21 : decode prog_10_method_11_code 21 = .ok (.invokevirtual 72, 3) := by decide +kernel
theorem d_St_mendEnd_24 : decode prog_10_method_11_code 24 = .ok (.ifCond .eq 12, 3) := by decide +kernel
theorem d_St_mendEnd_27 : decode prog_10_method_11_code 27 = .ok (.aload_n 0, 1) := by decide +kernel
theorem d_St_mendEnd_28 : decode prog_10_method_11_code 28 = .ok (.bipush 101, 2) := by decide +kernel
theorem d_St_mendEnd_30 : decode prog_10_method_11_code 30 = .ok (.invokevirtual 58, 3) := by decide +kernel
theorem d_St_mendEnd_33 : decode prog_10_method_11_code 33 = .ok (.goto 48, 3) := by decide +kernel
theorem d_St_mendEnd_36 : decode prog_10_method_11_code 36 = .ok (.aload_n 0, 1) := by decide +kernel
theorem d_St_mendEnd_37 : decode prog_10_method_11_code 37 = .ok (.invokevirtual 104, 3) := by decide +kernel
theorem d_St_mendEnd_40 : decode prog_10_method_11_code 40 = .ok (.ifCond .eq 16, 3) := by decide +kernel
theorem d_St_mendEnd_43 : decode prog_10_method_11_code 43 = .ok (.aload_n 0, 1) := by decide +kernel
theorem d_St_mendEnd_44 : decode prog_10_method_11_code 44 = .ok (.dup, 1) := by decide +kernel
theorem d_St_mendEnd_45 : decode prog_10_method_11_code 45 = .ok (.getfield 19, 3) := by decide +kernel
theorem d_St_mendEnd_48 : decode prog_10_method_11_code 48 = .ok (.iconst 1, 1) := by decide +kernel
theorem d_St_mendEnd_49 : decode prog_10_method_11_code 49 = .ok (.isub, 1) := by decide +kernel
theorem d_St_mendEnd_50 : decode prog_10_method_11_code 50 = .ok (.putfield 19, 3) := by decide +kernel
theorem d_St_mendEnd_53 : decode prog_10_method_11_code 53 = .ok (.goto 28, 3) := by decide +kernel
theorem d_St_mendEnd_56 : decode prog_10_method_11_code 56 = .ok (.aload_n 0, 1) := by decide +kernel
theorem d_St_mendEnd_57 : decode prog_10_method_11_code 57 = .ok (.aload_n 0, 1) := by decide +kernel
theorem d_St_mendEnd_58 : decode prog_10_method_11_code 58 = .ok (.getfield 19, 3) := by decide +kernel
theorem d_St_mendEnd_61 : decode prog_10_method_11_code 61 = .ok (.invokevirtual 84, 3) := by decide +kernel
theorem d_St_mendEnd_64 : decode prog_10_method_11_code 64 = .ok (.iconst 1, 1) := by decide +kernel
theorem d_St_mendEnd_65 : decode prog_10_method_11_code 65 = .ok (.if_icmp .ne 16, 3) := by decide +kernel
theorem d_St_mendEnd_68 : decode prog_10_method_11_code 68 = .ok (.aload_n 0, 1) := by decide +kernel
theorem d_St_mendEnd_69 : decode prog_10_method_11_code 69 = .ok (.invokevirtual 108, 3) := by decide +kernel
theorem d_St_mendEnd_72 : decode prog_10_method_11_code 72 = .ok (.ifCond .eq 9, 3) := by decide +kernel
theorem d_St_mendEnd_75 : decode prog_10_method_11_code 75 = .ok (.aload_n 0, 1) := by decide +kernel
theorem d_St_mendEnd_76 : decode prog_10_method_11_code 76 = .ok (.bipush 101, 2) := by decide +kernel
theorem d_St_mendEnd_78 : decode prog_10_method_11_code 78 = .ok (.invokevirtual 58, 3) := by decide +kernel
theorem d_St_mendEnd_81 : decode prog_10_method_11_code 81 = .ok (.return_, 1) := by decide +kernel
theorem d_St_endsInDouble_0 : decode prog_10_method_14_code 0 = .ok (.aload_n 0, 1) := by decide +kernel
theorem d_St_endsInDouble_1 : decode prog_10_method_14_code 1 = .ok (.getfield 19, 3) := by decide +kernel
theorem d_St_endsInDouble_4 : decode prog_10_method_14_code 4 = .ok (.iconst 2, 1) := by decide +kernel
theorem d_St_endsInDouble_5 : decode prog_10_method_14_code 5 = .ok (.if_icmp .lt 31, 3) := by decide +kernel
theorem d_St_endsInDouble_8 : decode prog_10_method_14_code 8 = .ok (.aload_n 0, 1) := by decide +kernel
theorem d_St_endsInDouble_9 : decode prog_10_method_14_code 9 = .ok (.getfield 15, 3) := by decide +kernel
theorem d_St_endsInDouble_12 : decode prog_10_method_14_code 12 = .ok (.aload_n 0, 1) := by decide +kernel
theorem d_St_endsInDouble_13 : decode prog_10_method_14_code 13 = .ok (.getfield 19, 3) := by decide +kernel
theorem d_St_endsInDouble_16 : decode prog_10_method_14_code 16 = .ok (.iconst 1, 1) := by decide +kernel
theorem d_St_endsInDouble_17 : decode prog_10_method_14_code 17 = .ok (.isub, 1) := by decide +kernel
theorem d_St_endsInDouble_18 : decode prog_10_method_14_code 18 = .ok (.baload, 1) := by decide +kernel
theorem d_St_endsInDouble_19 : decode prog_10_method_14_code 19 = .ok (.ifCond .ne 17, 3) := by decide +kernel
theorem d_St_endsInDouble_22 : decode prog_10_method_14_code 22 = .ok (.aload_n 0, 1) := by decide +kernel
theorem d_St_endsInDouble_23 : decode prog_10_method_14_code 23 = .ok (.getfield 15, 3) := by decide +kernel
theorem d_St_endsInDouble_26 : decode prog_10_method_14_code 26 = .ok (.aload_n 0, 1) := by decide +kernel
theorem d_St_endsInDouble_27 : decode prog_10_method_14_code 27 = .ok (.getfield 19, 3) := by decide +kernel
theorem d_St_endsInDouble_30 : decode prog_10_method_14_code 30 = .ok (.iconst 2, 1) := by decide +kernel
theorem d_St_endsInDouble_31 : decode prog_10_method_14_code 31 = .ok (.isub, 1) := by decide +kernel
theorem d_St_endsInDouble_32 : decode prog_10_method_14_code 32 = .ok (.baload, 1) := by decide +kernel
theorem d_St_endsInDouble_33 : decode prog_10_method_14_code 33 = .ok (.ifCond .eq 5, 3) := by decide +kernel
theorem d_St_endsInDouble_36 : decode prog_10_method_14_code 36 = .ok (.iconst 0, 1) := by decide +kernel
theorem d_St_endsInDouble_37 : decode prog_10_method_14_code 37 = .ok (.ireturn, 1) := by decide +kernel
theorem d_St_endsInDouble_38 : decode prog_10_method_14_code 38 = .ok (.aload_n 0, 1) := by decide +kernel
theorem d_St_endsInDouble_39 : decode prog_10_method_14_code 39 = .ok (.getfield 9, 3) := by decide +kernel
theorem d_St_endsInDouble_42 : decode prog_10_method_14_code 42 = .ok (.aload_n 0, 1) := by decide +kernel
theorem d_St_endsInDouble_43 : decode prog_10_method_14_code 43 = .ok (.getfield 19, 3) := by decide +kernel
theorem d_St_endsInDouble_46 : decode prog_10_method_14_code 46 = .ok (.iconst 1, 1) := by decide +kernel
theorem d_St_endsInDouble_47 : decode prog_10_method_14_code 47 = .ok (.isub, 1) := by decide +kernel
theorem d_St_endsInDouble_48 : decode prog_10_method_14_code 48 = .ok (.caload, 1) := by decide +kernel
theorem d_St_endsInDouble_49 : decode prog_10_method_14_code 49 = .ok (.istore_n 1, 1) := by decide +kernel
theorem d_St_endsInDouble_50 : decode prog_10_method_14_code 50 = .ok (.iload_n 1, 1) := by decide +kernel
theorem d_St_endsInDouble_51 : decode prog_10_method_14_code 51 = .ok (.aload_n 0, 1) := by decide +kernel
theorem d_St_endsInDouble_52 : decode prog_10_method_14_code 52 = .ok (.getfield 9, 3) := by decide +kernel
theorem d_St_endsInDouble_55 : decode prog_10_method_14_code 55 = .ok (.aload_n 0, 1) := by decide +kernel
theorem d_St_endsInDouble_56 : decode prog_10_method_14_code 56 = .ok (.getfield 19, 3) := by decide +kernel
theorem d_St_endsInDouble_59 : decode prog_10_method_14_code 59 = .ok (.iconst 2, 1) := by decide +kernel
theorem d_St_endsInDouble_60 : decode prog_10_method_14_code 60 = .ok (.isub, 1) := by decide +kernel
theorem d_St_endsInDouble_61 : decode prog_10_method_14_code 61 = .ok (.caload, 1) := by decide +kernel
theorem d_St_endsInDouble_62 : decode prog_10_method_14_code 62 = .ok (.if_icmp .ne 16, 3) := by decide +kernel
theorem d_St_endsInDouble_65 : decode prog_10_method_14_code 65 = .ok (.ldc 120, 2) := by decide +kernel
theorem d_St_endsInDouble_67 : decode prog_10_method_14_code 67 = .ok (.iload_n 1, 1) := by decide +kernel
theorem d_St_endsInDouble_68 : decode prog_10_method_14_code 68 = .ok (.invokevirtual 64, 3) := by decide +kernel
theorem d_St_endsInDouble_71 : decode prog_10_method_14_code 71 = .ok (.ifCond .ge 7, 3) := by decide +kernel
theorem d_St_endsInDouble_74 : decode prog_10_method_14_code 74 = .ok (.iconst 1, 1) := by decide +kernel
theorem d_St_endsInDouble_75 : decode prog_10_method_14_code 75 = .ok (.goto 4, 3) := by decide +kernel
theorem d_St_endsInDouble_78 : decode prog_10_method_14_code 78 = .ok (.iconst 0, 1) := by decide +kernel
theorem d_St_endsInDouble_79 : decode prog_10_method_14_code 79 = .ok (.ireturn, 1) := by decide +kernel
theorem d_St_endsShort_0 : decode prog_10_method_15_code 0 = .ok (.aload_n 0, 1) := by decide +kernel
theorem d_St_endsShort_1 : decode prog_10_method_15_code 1 = .ok (.getfield 19, 3) := by decide +kernel
theorem d_St_endsShort_4 : decode prog_10_method_15_code 4 = .ok (.iconst 3, 1) := by decide +kernel
theorem d_St_endsShort_5 : decode prog_10_method_15_code 5 = .ok (.if_icmp .lt 68, 3) := by decide +kernel
theorem d_St_endsShort_8 : decode prog_10_method_15_code 8 = .ok (.aload_n 0, 1) := by decide +kernel
theorem d_St_endsShort_9 : decode prog_10_method_15_code 9 = .ok (.getfield 15, 3) := by decide +kernel
theorem d_St_endsShort_12 : decode prog_10_method_15_code 12 = .ok (.aload_n 0, 1) := by decide +kernel
theorem d_St_endsShort_13 : decode prog_10_method_15_code 13 = .ok (.getfield 19, 3) := by decide +kernel
theorem d_St_endsShort_16 : decode prog_10_method_15_code 16 = .ok (.iconst 3, 1) := by decide +kernel
theorem d_St_endsShort_17 : decode prog_10_method_15_code 17 = .ok (.isub, 1) := by decide +kernel
theorem d_St_endsShort_18 : decode prog_10_method_15_code 18 = .ok (.baload, 1) := by decide +kernel
theorem d_St_endsShort_19 : decode prog_10_method_15_code 19 = .ok (.ifCond .ne 54, 3) := by decide +kernel
theorem d_St_endsShort_22 : decode prog_10_method_15_code 22 = .ok (.aload_n 0, 1) := by decide +kernel
theorem d_St_endsShort_23 : decode prog_10_method_15_code 23 = .ok (.getfield 15, 3) := by decide +kernel
theorem d_St_endsShort_26 : decode prog_10_method_15_code 26 = .ok (.aload_n 0, 1) := by decide +kernel
theorem d_St_endsShort_27 : decode prog_10_method_15_code 27 = .ok (.getfield 19, 3) := by decide +kernel
theorem d_St_endsShort_30 : decode prog_10_method_15_code 30 = .ok (.iconst 2, 1) := by decide +kernel
theorem d_St_endsShort_31 : decode prog_10_method_15_code 31 = .ok (.isub, 1) := by decide +kernel
theorem d_St_endsShort_32 : decode prog_10_method_15_code 32 = .ok (.baload, 1) := by decide +kernel
theorem d_St_endsShort_33 : decode prog_10_method_15_code 33 = .ok (.ifCond .eq 40, 3) := by decide +kernel
theorem d_St_endsShort_36 : decode prog_10_method_15_code 36 = .ok (.aload_n 0, 1) := by decide +kernel
theorem d_St_endsShort_37 : decode prog_10_method_15_code 37 = .ok (.getfield 15, 3) := by decide +kernel
theorem d_St_endsShort_40 : decode prog_10_method_15_code 40 = .ok (.aload_n 0, 1) := by decide +kernel
theorem d_St_endsShort_41 : decode prog_10_method_15_code 41 = .ok (.getfield 19, 3) := by decide +kernel
theorem d_St_endsShort_44 : decode prog_10_method_15_code 44 = .ok (.iconst 1, 1) := by decide +kernel
theorem d_St_endsShort_45 : decode prog_10_method_15_code 45 = .ok (.isub, 1) := by decide +kernel
theorem d_St_endsShort_46 : decode prog_10_method_15_code 46 = .ok (.baload, 1) := by decide +kernel
theorem d_St_endsShort_47 : decode prog_10_method_15_code 47 = .ok (.ifCond .ne 26, 3) := by decide +kernel
theorem d_St_endsShort_50 : decode prog_10_method_15_code 50 = .ok (.ldc 122, 2) := by decide +kernel
theorem d_St_endsShort_52 : decode prog_10_method_15_code 52 = .ok (.aload_n 0, 1) := by decide +kernel
theorem d_St_endsShort_53 : decode prog_10_method_15_code 53 = .ok (.getfield 9, 3) := by decide +kernel
theorem d_St_endsShort_56 : decode prog_10_method_15_code 56 = .ok (.aload_n 0, 1) := by decide +kernel
theorem d_St_endsShort_57 : decode prog_10_method_15_code 57 = .ok (.getfield 19, 3) := by decide +kernel
theorem d_St_endsShort_60 : decode prog_10_method_15_code 60 = .ok (.iconst 1, 1) := by decide +kernel
theorem d_St_endsShort_61 : decode prog_10_method_15_code 61 = .ok (.isub, 1) := by decide +kernel
theorem d_St_endsShort_62 : decode prog_10_method_15_code 62 = .ok (.caload, 1) := by decide +kernel
theorem d_St_endsShort_63 : decode prog_10_method_15_code 63 = .ok (.invokevirtual 64, 3) := by decide +kernel
theorem d_St_endsShort_66 : decode prog_10_method_15_code 66 = .ok (.ifCond .ge 7, 3) := by decide +kernel
theorem d_St_endsShort_69 : decode prog_10_method_15_code 69 = .ok (.iconst 1, 1) := by decide +kernel
theorem d_St_endsShort_70 : decode prog_10_method_15_code 70 = .ok (.goto 4, 3) := by decide +kernel
theorem d_St_endsShort_73 : decode prog_10_method_15_code 73 = .ok (.iconst 0, 1) := by decide +kernel
theorem d_St_endsShort_74 : decode prog_10_method_15_code 74 = .ok (.ireturn, 1) := by decide +kernel
theorem d_St_turnFinalY_0 : decode prog_10_method_12_code 0 = .ok (.aload_n 0, 1) := by decide +kernel
theorem d_St_turnFinalY_1 : decode prog_10_method_12_code 1 = .ok (.ldc 111, 2) := by decide +kernel
theorem d_St_turnFinalY_3 : decode prog_10_method_12_code 3 = .ok (.invokevirtual 72, 3) := by decide +kernel
theorem d_St_turnFinalY_6 : decode prog_10_method_12_code 6 = .ok (.ifCond .eq 32, 3) := by decide +kernel
theorem d_St_turnFinalY_9 : decode prog_10_method_12_code 9 = .ok (.aload_n 0, 1) := by decide +kernel
theorem d_St_turnFinalY_10 : decode prog_10_method_12_code 10 = .ok (.aload_n 0, 1) := by decide +kernel
theorem d_St_turnFinalY_11 : decode prog_10_method_12_code 11 = .ok (.getfield 19, 3) := by decide +kernel
theorem d_St_turnFinalY_14 : decode prog_10_method_12_code 14 = .ok (.iconst 1, 1) := by decide +kernel
theorem d_St_turnFinalY_15 : decode prog_10_method_12_code 15 = .ok (.isub, 1) := by decide +kernel
theorem d_St_turnFinalY_16 : decode prog_10_method_12_code 16 = .ok (.invokevirtual 91, 3) := by decide +kernel
theorem d_St_turnFinalY_19 : decode prog_10_method_12_code 19 = .ok (.ifCond .eq 19, 3) := by decide +kernel
theorem d_St_turnFinalY_22 : decode prog_10_method_12_code 22 = .ok (.aload_n 0, 1) := by decide +kernel
theorem d_St_turnFinalY_23 : decode prog_10_method_12_code 23 = .ok (.dup, 1) := by decide +kernel
theorem d_St_turnFinalY_24 : decode prog_10_method_12_code 24 = .ok (.getfield 19, 3) := by decide +kernel
theorem d_St_turnFinalY_27 : decode prog_10_method_12_code 27 = .ok (.iconst 1, 1) := by decide +kernel
theorem d_St_turnFinalY_28 : decode prog_10_method_12_code 28 = .ok (.isub, 1) := by decide +kernel
theorem d_St_turnFinalY_29 : decode prog_10_method_12_code 29 = .ok (.putfield 19, 3) := by decide +kernel
theorem d_St_turnFinalY_32 : decode prog_10_method_12_code 32 = .ok (.aload_n 0, 1) := by decide +kernel
theorem d_St_turnFinalY_33 : decode prog_10_method_12_code 33 = .ok (.bipush 105, 2) := by decide +kernel
theorem d_St_turnFinalY_35 : decode prog_10_method_12_code 35 = .ok (.invokevirtual 58, 3) := by decide +kernel
theorem d_St_turnFinalY_38 : decode prog_10_method_12_code 38 = .ok (.return_, 1) := by decide +kernel
theorem d_St_packed_0 : decode prog_10_method_7_code 0 = .ok (.lconst 0, 1) := by decide +kernel
theorem d_St_packed_1 : decode prog_10_method_7_code 1 = .ok (.lstore_n 1, 1) := by decide +kernel
theorem d_St_packed_2 : decode prog_10_method_7_code 2 = .ok (.aload_n 0, 1) := by decide +kernel
theorem d_St_packed_3 : decode prog_10_method_7_code 3 = .ok (.getfield 19, 3) := by decide +kernel
theorem d_St_packed_6 : decode prog_10_method_7_code 6 = .ok (.iconst 1, 1) := by decide +kernel
theorem d_St_packed_7 : decode prog_10_method_7_code 7 = .ok (.isub, 1) := by decide +kernel
theorem d_St_packed_8 : decode prog_10_method_7_code 8 = .ok (.istore_n 3, 1) := by decide +kernel
theorem d_St_packed_9 : decode prog_10_method_7_code 9 = .ok (.iload_n 3, 1) := by decide +kernel
theorem d_St_packed_10 : decode prog_10_method_7_code 10 = .ok (.ifCond .lt 26, 3) := by decide +kernel
theorem d_St_packed_13 : decode prog_10_method_7_code 13 = .ok (.lload_n 1, 1) := by decide +kernel
theorem d_St_packed_14 : decode prog_10_method_7_code 14 = .ok (.iconst 5, 1) := by decide +kernel
theorem d_St_packed_15 : decode prog_10_method_7_code 15 = .ok (.lshl, 1) := by decide +kernel
theorem d_St_packed_16 : decode prog_10_method_7_code 16 = .ok (.aload_n 0, 1) := by decide +kernel
theorem d_St_packed_17 : decode prog_10_method_7_code 17 = .ok (.getfield 9, 3) := by decide +kernel
theorem d_St_packed_20 : decode prog_10_method_7_code 20 = .ok (.iload_n 3, 1) := by decide +kernel
theorem d_St_packed_21 : decode prog_10_method_7_code 21 = .ok (.caload, 1) := by decide +kernel
theorem d_St_packed_22 : decode prog_10_method_7_code 22 = .ok (.bipush 97, 2) := by decide +kernel
theorem d_St_packed_24 : decode prog_10_method_7_code 24 = .ok (.isub, 1) := by decide +kernel
theorem d_St_packed_25 : decode prog_10_method_7_code 25 = .ok (.iconst 1, 1) := by decide +kernel
theorem d_St_packed_26 : decode prog_10_method_7_code 26 = .ok (.iadd, 1) := by decide +kernel
theorem d_St_packed_27 : decode prog_10_method_7_code 27 = .ok (.i2l, 1) := by decide +kernel
theorem d_St_packed_28 : decode prog_10_method_7_code 28 = .ok (.lor, 1) := by decide +kernel
theorem d_St_packed_29 : decode prog_10_method_7_code 29 = .ok (.lstore_n 1, 1) := by decide +kernel
theorem d_St_packed_30 : decode prog_10_method_7_code 30 = .ok (.iinc 3 (-1), 3) := by decide +kernel
theorem d_St_packed_33 : decode prog_10_method_7_code 33 = .ok (.goto (-24), 3) := by decide +kernel
theorem d_St_packed_36 : decode prog_10_method_7_code 36 = .ok (.lload_n 1, 1) := by decide +kernel
theorem d_St_packed_37 : decode prog_10_method_7_code 37 = .ok (.lreturn, 1) := by decide +kernel
theorem d_St_termOf_0 : decode prog_10_method_4_code 0 = .ok (.lload_n 1, 1) := by decide +kernel
theorem d_St_termOf_1 : decode prog_10_method_4_code 1 = .ok (.invokestatic 31, 3) := by decide +kernel
theorem d_St_termOf_4 : decode prog_10_method_4_code 4 = .ok (.ifCond .eq 7, 3) := by decide +kernel
theorem d_St_termOf_7 : decode prog_10_method_4_code 7 = .ok (.lconst 0, 1) := by decide +kernel
theorem d_St_termOf_8 : decode prog_10_method_4_code 8 = .ok (.goto 8, 3) := by decide +kernel
theorem d_St_termOf_11 : decode prog_10_method_4_code 11 = .ok (.aload_n 0, 1) := by decide +kernel
theorem d_St_termOf_12 : decode prog_10_method_4_code 12 = .ok (.lload_n 1, 1) := by decide +kernel
theorem d_St_termOf_13 : decode prog_10_method_4_code 13 = .ok (.invokevirtual 35, 3) := by decide +kernel
theorem d_St_termOf_16 : decode prog_10_method_4_code 16 = .ok (.lreturn, 1) := by decide +kernel
theorem d_St_isStopWord_0 : decode prog_10_method_3_code 0 = .ok (.iconst 0, 1) := by decide +kernel
theorem d_St_isStopWord_1 : decode prog_10_method_3_code 1 = .ok (.istore_n 2, 1) := by decide +kernel
theorem d_St_isStopWord_2 : decode prog_10_method_3_code 2 = .ok (.iload_n 2, 1) := by decide +kernel
theorem d_St_isStopWord_3 : decode prog_10_method_3_code 3 = .ok (.getstatic 27, 3) := by decide +kernel
theorem d_St_isStopWord_6 : decode prog_10_method_3_code 6 = .ok (.arraylength, 1) := by decide +kernel
theorem d_St_isStopWord_7 : decode prog_10_method_3_code 7 = .ok (.if_icmp .ge 21, 3) := by decide +kernel
theorem d_St_isStopWord_10 : decode prog_10_method_3_code 10 = .ok (.getstatic 27, 3) := by decide +kernel
theorem d_St_isStopWord_13 : decode prog_10_method_3_code 13 = .ok (.iload_n 2, 1) := by decide +kernel
theorem d_St_isStopWord_14 : decode prog_10_method_3_code 14 = .ok (.laload, 1) := by decide +kernel
theorem d_St_isStopWord_15 : decode prog_10_method_3_code 15 = .ok (.lload_n 0, 1) := by decide +kernel
theorem d_St_isStopWord_16 : decode prog_10_method_3_code 16 = .ok (.lcmp, 1) := by decide +kernel
theorem d_St_isStopWord_17 : decode prog_10_method_3_code 17 = .ok (.ifCond .ne 5, 3) := by decide +kernel
theorem d_St_isStopWord_20 : decode prog_10_method_3_code 20 = .ok (.iconst 1, 1) := by decide +kernel
theorem d_St_isStopWord_21 : decode prog_10_method_3_code 21 = .ok (.ireturn, 1) := by decide +kernel
theorem d_St_isStopWord_22 : decode prog_10_method_3_code 22 = .ok (.iinc 2 1, 3) := by decide +kernel
theorem d_St_isStopWord_25 : decode prog_10_method_3_code 25 = .ok (.goto (-23), 3) := by decide +kernel
theorem d_St_isStopWord_28 : decode prog_10_method_3_code 28 = .ok (.iconst 0, 1) := by decide +kernel
theorem d_St_isStopWord_29 : decode prog_10_method_3_code 29 = .ok (.ireturn, 1) := by decide +kernel
