theorem d_Mo_init_0 : decode prog_13_method_1_code 0 = .ok (.aload_n 0, 1) := by decide +kernel
theorem d_Mo_init_1 : decode prog_13_method_1_code 1 = .ok (.invokespecial 1, 3) := by decide +kernel
theorem d_Mo_init_4 : decode prog_13_method_1_code 4 = .ok (.aload_n 0, 1) := by decide +kernel
theorem d_Mo_init_5 : decode prog_13_method_1_code 5 = .ok (.bipush 12, 2) := by decide +kernel
theorem d_Mo_init_7 : decode prog_13_method_1_code 7 = .ok (.newarray .long, 2) := by decide +kernel
theorem d_Mo_init_9 : decode prog_13_method_1_code 9 = .ok (.putfield 7, 3) := by decide +kernel
theorem d_Mo_init_12 : decode prog_13_method_1_code 12 = .ok (.aload_n 0, 1) := by decide +kernel
theorem d_Mo_init_13 : decode prog_13_method_1_code 13 = .ok (.bipush 12, 2) := by decide +kernel
theorem d_Mo_init_15 : decode prog_13_method_1_code 15 = .ok (.newarray .int, 2) := by decide +kernel
theorem d_Mo_init_17 : decode prog_13_method_1_code 17 = .ok (.putfield 13, 3) := by decide +kernel
theorem d_Mo_init_20 : decode prog_13_method_1_code 20 = .ok (.aload_n 0, 1) := by decide +kernel
theorem d_Mo_init_21 : decode prog_13_method_1_code 21 = .ok (.bipush 12, 2) := by decide +kernel
theorem d_Mo_init_23 : decode prog_13_method_1_code 23 = .ok (.newarray .int, 2) := by decide +kernel
theorem d_Mo_init_25 : decode prog_13_method_1_code 25 = .ok (.putfield 17, 3) := by decide +kernel
theorem d_Mo_init_28 : decode prog_13_method_1_code 28 = .ok (.aload_n 0, 1) := by decide +kernel
theorem d_Mo_init_29 : decode prog_13_method_1_code 29 = .ok (.sipush 144, 3) := by decide +kernel
theorem d_Mo_init_32 : decode prog_13_method_1_code 32 = .ok (.newarray .long, 2) := by decide +kernel
theorem d_Mo_init_34 : decode prog_13_method_1_code 34 = .ok (.putfield 20, 3) := by decide +kernel
theorem d_Mo_init_37 : decode prog_13_method_1_code 37 = .ok (.aload_n 0, 1) := by decide +kernel
theorem d_Mo_init_38 : decode prog_13_method_1_code 38 = .ok (.bipush 80, 2) := by decide +kernel
theorem d_Mo_init_40 : decode prog_13_method_1_code 40 = .ok (.newarray .int, 2) := by decide +kernel
theorem d_Mo_init_42 : decode prog_13_method_1_code 42 = .ok (.putfield 23, 3) := by decide +kernel
theorem d_Mo_init_45 : decode prog_13_method_1_code 45 = .ok (.aload_n 0, 1) := by decide +kernel
theorem d_Mo_init_46 : decode prog_13_method_1_code 46 = .ok (.bipush 80, 2) := by decide +kernel
theorem d_Mo_init_48 : decode prog_13_method_1_code 48 = .ok (.newarray .int, 2) := by decide +kernel
theorem d_Mo_init_50 : decode prog_13_method_1_code 50 = .ok (.putfield 26, 3) := by decide +kernel
theorem d_Mo_init_53 : decode prog_13_method_1_code 53 = .ok (.aload_n 0, 1) := by decide +kernel
theorem d_Mo_init_54 : decode prog_13_method_1_code 54 = .ok (.bipush 80, 2) := by decide +kernel
theorem d_Mo_init_56 : decode prog_13_method_1_code 56 = .ok (.newarray .boolean, 2) := by decide +kernel
theorem d_Mo_init_58 : decode prog_13_method_1_code 58 = .ok (.putfield 29, 3) := by decide +kernel
theorem d_Mo_init_61 : decode prog_13_method_1_code 61 = .ok (.aload_n 0, 1) := by decide +kernel
theorem d_Mo_init_62 : decode prog_13_method_1_code 62 = .ok (.bipush 80, 2) := by decide +kernel
theorem d_Mo_init_64 : decode prog_13_method_1_code 64 = .ok (.newarray .int, 2) := by decide +kernel
theorem d_Mo_init_66 : decode prog_13_method_1_code 66 = .ok (.putfield 33, 3) := by decide +kernel
theorem d_Mo_init_69 : decode prog_13_method_1_code 69 = .ok (.aload_n 0, 1) := by decide +kernel
theorem d_Mo_init_70 : decode prog_13_method_1_code 70 = .ok (.sipush 960, 3) := by decide +kernel
theorem d_Mo_init_73 : decode prog_13_method_1_code 73 = .ok (.newarray .long, 2) := by decide +kernel
theorem d_Mo_init_75 : decode prog_13_method_1_code 75 = .ok (.putfield 36, 3) := by decide +kernel
theorem d_Mo_init_78 : decode prog_13_method_1_code 78 = .ok (.aload_n 0, 1) := by decide +kernel
theorem d_Mo_init_79 : decode prog_13_method_1_code 79 = .ok (.sipush 520, 3) := by decide +kernel
theorem d_Mo_init_82 : decode prog_13_method_1_code 82 = .ok (.newarray .int, 2) := by decide +kernel
theorem d_Mo_init_84 : decode prog_13_method_1_code 84 = .ok (.putfield 39, 3) := by decide +kernel
theorem d_Mo_init_87 : decode prog_13_method_1_code 87 = .ok (.aload_n 0, 1) := by decide +kernel
theorem d_Mo_init_88 : decode prog_13_method_1_code 88 = .ok (.sipush 520, 3) := by decide +kernel
theorem d_Mo_init_91 : decode prog_13_method_1_code 91 = .ok (.newarray .long, 2) := by decide +kernel
theorem d_Mo_init_93 : decode prog_13_method_1_code 93 = .ok (.putfield 42, 3) := by decide +kernel
theorem d_Mo_init_96 : decode prog_13_method_1_code 96 = .ok (.aload_n 0, 1) := by decide +kernel
theorem d_Mo_init_97 : decode prog_13_method_1_code 97 = .ok (.bipush 8, 2) := by decide +kernel
theorem d_Mo_init_99 : decode prog_13_method_1_code 99 = .ok (.newarray .boolean, 2) := by decide +kernel
theorem d_Mo_init_101 : decode prog_13_method_1_code 101 = .ok (.putfield 45, 3) := by decide +kernel
theorem d_Mo_init_104 : decode prog_13_method_1_code 104 = .ok (.aload_n 0, 1) := by decide +kernel
theorem d_Mo_init_105 : decode prog_13_method_1_code 105 = .ok (.bipush 8, 2) := by decide +kernel
theorem d_Mo_init_107 : decode prog_13_method_1_code 107 = .ok (.newarray .int, 2) := by decide +kernel
theorem d_Mo_init_109 : decode prog_13_method_1_code 109 = .ok (.putfield 48, 3) := by decide +kernel
theorem d_Mo_init_112 : decode prog_13_method_1_code 112 = .ok (.aload_n 0, 1) := by decide +kernel
theorem d_Mo_init_113 : decode prog_13_method_1_code 113 = .ok (.bipush 8, 2) := by decide +kernel
theorem d_Mo_init_115 : decode prog_13_method_1_code 115 = .ok (.newarray .boolean, 2) := by decide +kernel
theorem d_Mo_init_117 : decode prog_13_method_1_code 117 = .ok (.putfield 51, 3) := by decide +kernel
theorem d_Mo_init_120 : decode prog_13_method_1_code 120 = .ok (.aload_n 0, 1) := by decide +kernel
theorem d_Mo_init_121 : decode prog_13_method_1_code 121 = .ok (.bipush 12, 2) := by decide +kernel
theorem d_Mo_init_123 : decode prog_13_method_1_code 123 = .ok (.newarray .int, 2) := by decide +kernel
theorem d_Mo_init_125 : decode prog_13_method_1_code 125 = .ok (.putfield 54, 3) := by decide +kernel
theorem d_Mo_init_128 : decode prog_13_method_1_code 128 = .ok (.aload_n 0, 1) := by decide +kernel
theorem d_Mo_init_129 : decode prog_13_method_1_code 129 = .ok (.bipush 12, 2) := by decide +kernel
theorem d_Mo_init_131 : decode prog_13_method_1_code 131 = .ok (.newarray .long, 2) := by decide +kernel
theorem d_Mo_init_133 : decode prog_13_method_1_code 133 = .ok (.putfield 57, 3) := by decide +kernel
theorem d_Mo_init_136 : decode prog_13_method_1_code 136 = .ok (.aload_n 0, 1) := by decide +kernel
theorem d_Mo_init_137 : decode prog_13_method_1_code 137 = .ok (.bipush 12, 2) := by decide +kernel
theorem d_Mo_init_139 : decode prog_13_method_1_code 139 = .ok (.newarray .int, 2) := by decide +kernel
theorem d_Mo_init_141 : decode prog_13_method_1_code 141 = .ok (.putfield 60, 3) := by decide +kernel
theorem d_Mo_init_144 : decode prog_13_method_1_code 144 = .ok (.aload_n 0, 1) := by decide +kernel
theorem d_Mo_init_145 : decode prog_13_method_1_code 145 = .ok (.bipush 12, 2) := by decide +kernel
theorem d_Mo_init_147 : decode prog_13_method_1_code 147 = .ok (.newarray .long, 2) := by decide +kernel
theorem d_Mo_init_149 : decode prog_13_method_1_code 149 = .ok (.putfield 63, 3) := by decide +kernel
theorem d_Mo_init_152 : decode prog_13_method_1_code 152 = .ok (.aload_n 0, 1) := by decide +kernel
theorem d_Mo_init_153 : decode prog_13_method_1_code 153 = .ok (.bipush 12, 2) := by decide +kernel
theorem d_Mo_init_155 : decode prog_13_method_1_code 155 = .ok (.newarray .boolean, 2) := by decide +kernel
theorem d_Mo_init_157 : decode prog_13_method_1_code 157 = .ok (.putfield 66, 3) := by decide +kernel
theorem d_Mo_init_160 : decode prog_13_method_1_code 160 = .ok (.return_, 1) := by decide +kernel
theorem d_Mo_stem_0 : decode prog_13_method_18_code 0 = .ok (.lload_n 1, 1) := by decide +kernel
theorem d_Mo_stem_1 : decode prog_13_method_18_code 1 = .ok (.invokestatic 122, 3) := by decide +kernel
theorem d_Mo_stem_4 : decode prog_13_method_18_code 4 = .ok (.ifCond .eq 10, 3) := by decide +kernel
theorem d_Mo_stem_7 : decode prog_13_method_18_code 7 = .ok (.lload_n 1, 1) := by decide +kernel
theorem d_Mo_stem_8 : decode prog_13_method_18_code 8 = .ok (.invokestatic 125, 3) := by decide +kernel
theorem d_Mo_stem_11 : decode prog_13_method_18_code 11 = .ok (.goto 4, 3) := by decide +kernel
theorem d_Mo_stem_14 : decode prog_13_method_18_code 14 = .ok (.lconst 0, 1) := by decide +kernel
theorem d_Mo_stem_15 : decode prog_13_method_18_code 15 = .ok (.lreturn, 1) := by decide +kernel
theorem d_Mo_feed_0 : decode prog_13_method_20_code 0 = .ok (.aload_n 0, 1) := by decide +kernel
theorem d_Mo_feed_1 : decode prog_13_method_20_code 1 = .ok (.getfield 131, 3) := by decide +kernel
theorem d_Mo_feed_4 : decode prog_13_method_20_code 4 = .ok (.ifCond .eq 6, 3) := by decide +kernel
theorem d_Mo_feed_7 : decode prog_13_method_20_code 7 = .ok (.bipush (-9), 2) := by decide +kernel
theorem d_Mo_feed_9 : decode prog_13_method_20_code 9 = .ok (.ireturn, 1) := by decide +kernel
theorem d_Mo_feed_10 : decode prog_13_method_20_code 10 = .ok (.lload_n 1, 1) := by decide +kernel
theorem d_Mo_feed_11 : decode prog_13_method_20_code 11 = .ok (.invokestatic 122, 3) := by decide +kernel
theorem d_Mo_feed_14 : decode prog_13_method_20_code 14 = .ok (.ifCond .eq 12, 3) := by decide +kernel
theorem d_Mo_feed_17 : decode prog_13_method_20_code 17 = .ok (.aload_n 0, 1) := by decide +kernel
theorem d_Mo_feed_18 : decode prog_13_method_20_code 18 = .ok (.getfield 135, 3) := by decide +kernel
theorem d_Mo_feed_21 : decode prog_13_method_20_code 21 = .ok (.bipush 12, 2) := by decide +kernel
theorem d_Mo_feed_23 : decode prog_13_method_20_code 23 = .ok (.if_icmp .ne 5, 3) := by decide +kernel
theorem d_Mo_feed_26 : decode prog_13_method_20_code 26 = .ok (.iconst (-1), 1) := by decide +kernel
theorem d_Mo_feed_27 : decode prog_13_method_20_code 27 = .ok (.ireturn, 1) := by decide +kernel
theorem d_Mo_feed_28 : decode prog_13_method_20_code 28 = .ok (.aload_n 0, 1) := by decide +kernel
theorem d_Mo_feed_29 : decode prog_13_method_20_code 29 = .ok (.getfield 7, 3) := by decide +kernel
theorem d_Mo_feed_32 : decode prog_13_method_20_code 32 = .ok (.aload_n 0, 1) := by decide +kernel
theorem d_Mo_feed_33 : decode prog_13_method_20_code 33 = .ok (.getfield 135, 3) := by decide +kernel
theorem d_Mo_feed_36 : decode prog_13_method_20_code 36 = .ok (.lload_n 1, 1) := by decide +kernel
theorem d_Mo_feed_37 : decode prog_13_method_20_code 37 = .ok (.invokestatic 139, 3) := by decide +kernel
theorem d_Mo_feed_40 : decode prog_13_method_20_code 40 = .ok (.lastore, 1) := by decide +kernel
theorem d_Mo_feed_41 : decode prog_13_method_20_code 41 = .ok (.aload_n 0, 1) := by decide +kernel
theorem d_Mo_feed_42 : decode prog_13_method_20_code 42 = .ok (.dup, 1) := by decide +kernel
theorem d_Mo_feed_43 : decode prog_13_method_20_code 43 = .ok (.getfield 135, 3) := by decide +kernel
theorem d_Mo_feed_46 : decode prog_13_method_20_code 46 = .ok (.iconst 1, 1) := by decide +kernel
theorem d_Mo_feed_47 : decode prog_13_method_20_code 47 = .ok (.iadd, 1) := by decide +kernel
theorem d_Mo_feed_48 : decode prog_13_method_20_code 48 = .ok (.putfield 135, 3) := by decide +kernel
theorem d_Mo_feed_51 : decode prog_13_method_20_code 51 = .ok (.aload_n 0, 1) := by decide +kernel
theorem d_Mo_feed_52 : decode prog_13_method_20_code 52 = .ok (.getfield 135, 3) := by decide +kernel
theorem d_Mo_feed_55 : decode prog_13_method_20_code 55 = .ok (.ireturn, 1) := by decide +kernel
theorem d_Mo_add_0 : decode prog_13_method_23_code 0 = .ok (.aload_n 0, 1) := by decide +kernel
theorem d_Mo_add_1 : decode prog_13_method_23_code 1 = .ok (.getfield 131, 3) := by decide +kernel
theorem d_Mo_add_4 : decode prog_13_method_23_code 4 = .ok (.ifCond .eq 6, 3) := by decide +kernel
theorem d_Mo_add_7 : decode prog_13_method_23_code 7 = .ok (.bipush (-9), 2) := by decide +kernel
theorem d_Mo_add_9 : decode prog_13_method_23_code 9 = .ok (.ireturn, 1) := by decide +kernel
theorem d_Mo_add_10 : decode prog_13_method_23_code 10 = .ok (.iload_n 1, 1) := by decide +kernel
theorem d_Mo_add_11 : decode prog_13_method_23_code 11 = .ok (.ifCond .lt 9, 3) := by decide +kernel
theorem d_Mo_add_14 : decode prog_13_method_23_code 14 = .ok (.iload_n 1, 1) := by decide +kernel
theorem d_Mo_add_15 : decode prog_13_method_23_code 15 = .ok (.bipush 11, 2) := by decide +kernel
theorem d_Mo_add_17 : decode prog_13_method_23_code 17 = .ok (.if_icmp .le 5, 3) := by decide +kernel
theorem d_Mo_add_20 : decode prog_13_method_23_code 20 = .ok (.iconst (-1), 1) := by decide +kernel
theorem d_Mo_add_21 : decode prog_13_method_23_code 21 = .ok (.ireturn, 1) := by decide +kernel
theorem d_Mo_add_22 : decode prog_13_method_23_code 22 = .ok (.aload_n 0, 1) := by decide +kernel
theorem d_Mo_add_23 : decode prog_13_method_23_code 23 = .ok (.getfield 13, 3) := by decide +kernel
theorem d_Mo_add_26 : decode prog_13_method_23_code 26 = .ok (.iload_n 1, 1) := by decide +kernel
theorem d_Mo_add_27 : decode prog_13_method_23_code 27 = .ok (.iconst 1, 1) := by decide +kernel
theorem d_Mo_add_28 : decode prog_13_method_23_code 28 = .ok (.iastore, 1) := by decide +kernel
theorem d_Mo_add_29 : decode prog_13_method_23_code 29 = .ok (.aload_n 0, 1) := by decide +kernel
theorem d_Mo_add_30 : decode prog_13_method_23_code 30 = .ok (.getfield 17, 3) := by decide +kernel
theorem d_Mo_add_33 : decode prog_13_method_23_code 33 = .ok (.iload_n 1, 1) := by decide +kernel
theorem d_Mo_add_34 : decode prog_13_method_23_code 34 = .ok (.aload_n 0, 1) := by decide +kernel
theorem d_Mo_add_35 : decode prog_13_method_23_code 35 = .ok (.getfield 135, 3) := by decide +kernel
theorem d_Mo_add_38 : decode prog_13_method_23_code 38 = .ok (.iastore, 1) := by decide +kernel
theorem d_Mo_add_39 : decode prog_13_method_23_code 39 = .ok (.iconst 0, 1) := by decide +kernel
theorem d_Mo_add_40 : decode prog_13_method_23_code 40 = .ok (.istore_n 2, 1) := by decide +kernel
theorem d_Mo_add_41 : decode prog_13_method_23_code 41 = .ok (.iload_n 2, 1) := by decide +kernel
theorem d_Mo_add_42 : decode prog_13_method_23_code 42 = .ok (.aload_n 0, 1) := by decide +kernel
theorem d_Mo_add_43 : decode prog_13_method_23_code 43 = .ok (.getfield 135, 3) := by decide +kernel
theorem d_Mo_add_46 : decode prog_13_method_23_code 46 = .ok (.if_icmp .ge 26, 3) := by decide +kernel
theorem d_Mo_add_49 : decode prog_13_method_23_code 49 = .ok (.aload_n 0, 1) := by decide +kernel
theorem d_Mo_add_50 : decode prog_13_method_23_code 50 = .ok (.getfield 20, 3) := by decide +kernel
theorem d_Mo_add_53 : decode prog_13_method_23_code 53 = .ok (.bipush 12, 2) := by decide +kernel
theorem d_Mo_add_55 : decode prog_13_method_23_code 55 = .ok (.iload_n 1, 1) := by decide +kernel
theorem d_Mo_add_56 : decode prog_13_method_23_code 56 = .ok (.imul, 1) := by decide +kernel
theorem d_Mo_add_57 : decode prog_13_method_23_code 57 = .ok (.iload_n 2, 1) := by decide +kernel
theorem d_Mo_add_58 : decode prog_13_method_23_code 58 = .ok (.iadd, 1) := by decide +kernel
theorem d_Mo_add_59 : decode prog_13_method_23_code 59 = .ok (.aload_n 0, 1) := by decide +kernel
theorem d_Mo_add_60 : decode prog_13_method_23_code 60 = .ok (.getfield 7, 3) := by decide +kernel
theorem d_Mo_add_63 : decode prog_13_method_23_code 63 = .ok (.iload_n 2, 1) := by decide +kernel
theorem d_Mo_add_64 : decode prog_13_method_23_code 64 = .ok (.laload, 1) := by decide +kernel
theorem d_Mo_add_65 : decode prog_13_method_23_code 65 = .ok (.lastore, 1) := by decide +kernel
theorem d_Mo_add_66 : decode prog_13_method_23_code 66 = .ok (.iinc 2 1, 3) := by decide +kernel
theorem d_Mo_add_69 : decode prog_13_method_23_code 69 = .ok (.goto (-28), 3) := by decide +kernel
theorem d_Mo_add_72 : decode prog_13_method_23_code 72 = .ok (.aload_n 0, 1) := by decide +kernel
theorem d_Mo_add_73 : decode prog_13_method_23_code 73 = .ok (.iconst 0, 1) := by decide +kernel
theorem d_Mo_add_74 : decode prog_13_method_23_code 74 = .ok (.putfield 135, 3) := by decide +kernel
theorem d_Mo_add_77 : decode prog_13_method_23_code 77 = .ok (.bipush 12, 2) := by decide +kernel
theorem d_Mo_add_79 : decode prog_13_method_23_code 79 = .ok (.aload_n 0, 1) := by decide +kernel
theorem d_Mo_add_80 : decode prog_13_method_23_code 80 = .ok (.invokevirtual 142, 3) := by decide +kernel
theorem d_Mo_add_83 : decode prog_13_method_23_code 83 = .ok (.isub, 1) := by decide +kernel
theorem d_Mo_add_84 : decode prog_13_method_23_code 84 = .ok (.ireturn, 1) := by decide +kernel
theorem d_Mo_idle_0 : decode prog_13_method_22_code 0 = .ok (.iconst 0, 1) := by decide +kernel
theorem d_Mo_idle_1 : decode prog_13_method_22_code 1 = .ok (.istore_n 1, 1) := by decide +kernel
theorem d_Mo_idle_2 : decode prog_13_method_22_code 2 = .ok (.iconst 0, 1) := by decide +kernel
theorem d_Mo_idle_3 : decode prog_13_method_22_code 3 = .ok (.istore_n 2, 1) := by decide +kernel
theorem d_Mo_idle_4 : decode prog_13_method_22_code 4 = .ok (.iload_n 2, 1) := by decide +kernel
theorem d_Mo_idle_5 : decode prog_13_method_22_code 5 = .ok (.bipush 12, 2) := by decide +kernel
theorem d_Mo_idle_7 : decode prog_13_method_22_code 7 = .ok (.if_icmp .ge 26, 3) := by decide +kernel
theorem d_Mo_idle_10 : decode prog_13_method_22_code 10 = .ok (.aload_n 0, 1) := by decide +kernel
theorem d_Mo_idle_11 : decode prog_13_method_22_code 11 = .ok (.getfield 13, 3) := by decide +kernel
theorem d_Mo_idle_14 : decode prog_13_method_22_code 14 = .ok (.iload_n 2, 1) := by decide +kernel
theorem d_Mo_idle_15 : decode prog_13_method_22_code 15 = .ok (.iaload, 1) := by decide +kernel
theorem d_Mo_idle_16 : decode prog_13_method_22_code 16 = .ok (.ifCond .ne 9, 3) := by decide +kernel
theorem d_Mo_idle_19 : decode prog_13_method_22_code 19 = .ok (.iload_n 1, 1) := by decide +kernel
theorem d_Mo_idle_20 : decode prog_13_method_22_code 20 = .ok (.iconst 1, 1) := by decide +kernel
theorem d_Mo_idle_21 : decode prog_13_method_22_code 21 = .ok (.iadd, 1) := by decide +kernel
theorem d_Mo_idle_22 : decode prog_13_method_22_code 22 = .ok (.goto 4, 3) := by decide +kernel
theorem d_Mo_idle_25 : decode prog_13_method_22_code 25 = .ok (.iload_n 1, 1) := by decide +kernel
theorem d_Mo_idle_26 : decode prog_13_method_22_code 26 = .ok (.istore_n 1, 1) := by decide +kernel
theorem d_Mo_idle_27 : decode prog_13_method_22_code 27 = .ok (.iinc 2 1, 3) := by decide +kernel
theorem d_Mo_idle_30 : decode prog_13_method_22_code 30 = .ok (.goto (-26), 3) := by decide +kernel
theorem d_Mo_idle_33 : decode prog_13_method_22_code 33 = .ok (.iload_n 1, 1) := by decide +kernel
theorem d_Mo_idle_34 : decode prog_13_method_22_code 34 = .ok (.ireturn, 1) := by decide +kernel
theorem d_Mo_delete_0 : decode prog_13_method_24_code 0 = .ok (.aload_n 0, 1) := by decide +kernel
theorem d_Mo_delete_1 : decode prog_13_method_24_code 1 = .ok (.getfield 131, 3) := by decide +kernel
theorem d_Mo_delete_4 : decode prog_13_method_24_code 4 = .ok (.ifCond .eq 6, 3) := by decide +kernel
theorem d_Mo_delete_7 : decode prog_13_method_24_code 7 = .ok (.bipush (-9), 2) := by decide +kernel
theorem d_Mo_delete_9 : decode prog_13_method_24_code 9 = .ok (.ireturn, 1) := by decide +kernel
theorem d_Mo_delete_10 : decode prog_13_method_24_code 10 = .ok (.iload_n 1, 1) := by decide +kernel
theorem d_Mo_delete_11 : decode prog_13_method_24_code 11 = .ok (.ifCond .lt 9, 3) := by decide +kernel
theorem d_Mo_delete_14 : decode prog_13_method_24_code 14 = .ok (.iload_n 1, 1) := by decide +kernel
theorem d_Mo_delete_15 : decode prog_13_method_24_code 15 = .ok (.bipush 11, 2) := by decide +kernel
theorem d_Mo_delete_17 : decode prog_13_method_24_code 17 = .ok (.if_icmp .le 5, 3) := by decide +kernel
theorem d_Mo_delete_20 : decode prog_13_method_24_code 20 = .ok (.iconst (-1), 1) := by decide +kernel
theorem d_Mo_delete_21 : decode prog_13_method_24_code 21 = .ok (.ireturn, 1) := by decide +kernel
theorem d_Mo_delete_22 : decode prog_13_method_24_code 22 = .ok (.aload_n 0, 1) := by decide +kernel
theorem d_Mo_delete_23 : decode prog_13_method_24_code 23 = .ok (.getfield 13, 3) := by decide +kernel
theorem d_Mo_delete_26 : decode prog_13_method_24_code 26 = .ok (.iload_n 1, 1) := by decide +kernel
theorem d_Mo_delete_27 : decode prog_13_method_24_code 27 = .ok (.iconst 2, 1) := by decide +kernel
theorem d_Mo_delete_28 : decode prog_13_method_24_code 28 = .ok (.iastore, 1) := by decide +kernel
theorem d_Mo_delete_29 : decode prog_13_method_24_code 29 = .ok (.bipush 12, 2) := by decide +kernel
theorem d_Mo_delete_31 : decode prog_13_method_24_code 31 = .ok (.aload_n 0, 1) := by decide +kernel
theorem d_Mo_delete_32 : decode prog_13_method_24_code 32 = .ok (.invokevirtual 142, 3) := by decide +kernel
theorem d_Mo_delete_35 : decode prog_13_method_24_code 35 = .ok (.isub, 1) := by decide +kernel
theorem d_Mo_delete_36 : decode prog_13_method_24_code 36 = .ok (.ireturn, 1) := by decide +kernel
theorem d_Mo_commit_0 : decode prog_13_method_30_code 0 = .ok (.aload_n 0, 1) := by decide +kernel
theorem d_Mo_commit_1 : decode prog_13_method_30_code 1 = .ok (.getfield 131, 3) := by decide +kernel
theorem d_Mo_commit_4 : decode prog_13_method_30_code 4 = .ok (.ifCond .eq 6, 3) := by decide +kernel
theorem d_Mo_commit_7 : decode prog_13_method_30_code 7 = .ok (.bipush (-9), 2) := by decide +kernel
theorem d_Mo_commit_9 : decode prog_13_method_30_code 9 = .ok (.ireturn, 1) := by decide +kernel
theorem d_Mo_commit_10 : decode prog_13_method_30_code 10 = .ok (.aload_n 0, 1) := by decide +kernel
theorem d_Mo_commit_11 : decode prog_13_method_30_code 11 = .ok (.invokevirtual 142, 3) := by decide +kernel
theorem d_Mo_commit_14 : decode prog_13_method_30_code 14 = .ok (.bipush 12, 2) := by decide +kernel
theorem d_Mo_commit_16 : decode prog_13_method_30_code 16 = .ok (.if_icmp .ne 5, 3) := by decide +kernel
theorem d_Mo_commit_19 : decode prog_13_method_30_code 19 = .ok (.iconst (-1), 1) := by decide +kernel
theorem d_Mo_commit_20 : decode prog_13_method_30_code 20 = .ok (.ireturn, 1) := by decide +kernel
theorem d_Mo_commit_21 : decode prog_13_method_30_code 21 = .ok (.aload_n 0, 1) := by decide +kernel
theorem d_Mo_commit_22 : decode prog_13_method_30_code 22 = .ok (.invokevirtual 164, 3) := by decide +kernel
theorem d_Mo_commit_25 : decode prog_13_method_30_code 25 = .ok (.istore_n 1, 1) := by decide +kernel
theorem d_Mo_commit_26 : decode prog_13_method_30_code 26 = .ok (.iload_n 1, 1) := by decide +kernel
theorem d_Mo_commit_27 : decode prog_13_method_30_code 27 = .ok (.ifCond .le 15, 3) := by decide +kernel
theorem d_Mo_commit_30 : decode prog_13_method_30_code 30 = .ok (.aload_n 0, 1) := by decide +kernel
theorem d_Mo_commit_31 : decode prog_13_method_30_code 31 = .ok (.getfield 161, 3) := by decide +kernel
theorem d_Mo_commit_34 : decode prog_13_method_30_code 34 = .ok (.bipush 6, 2) := by decide +kernel
theorem d_Mo_commit_36 : decode prog_13_method_30_code 36 = .ok (.if_icmp .ne 6, 3) := by decide +kernel
theorem d_Mo_commit_39 : decode prog_13_method_30_code 39 = .ok (.bipush (-2), 2) := by decide +kernel
theorem d_Mo_commit_41 : decode prog_13_method_30_code 41 = .ok (.ireturn, 1) := by decide +kernel
theorem d_Mo_commit_42 : decode prog_13_method_30_code 42 = .ok (.iconst 0, 1) := by decide +kernel
theorem d_Mo_commit_43 : decode prog_13_method_30_code 43 = .ok (.istore_n 2, 1) := by decide +kernel
theorem d_Mo_commit_44 : decode prog_13_method_30_code 44 = .ok (.iconst 0, 1) := by decide +kernel
theorem d_Mo_commit_45 : decode prog_13_method_30_code 45 = .ok (.istore_n 3, 1) := by decide +kernel
theorem d_Mo_commit_46 : decode prog_13_method_30_code 46 = .ok (.iload_n 3, 1) := by decide +kernel
theorem d_Mo_commit_47 : decode prog_13_method_30_code 47 = .ok (.aload_n 0, 1) := by decide +kernel
theorem d_Mo_commit_48 : decode prog_13_method_30_code 48 = .ok (.getfield 158, 3) := by decide +kernel
theorem d_Mo_commit_51 : decode prog_13_method_30_code 51 = .ok (.if_icmp .ge 42, 3) := by decide +kernel
theorem d_Mo_commit_54 : decode prog_13_method_30_code 54 = .ok (.iload_n 2, 1) := by decide +kernel
theorem d_Mo_commit_55 : decode prog_13_method_30_code 55 = .ok (.ifCond .ne 26, 3) := by decide +kernel
theorem d_Mo_commit_58 : decode prog_13_method_30_code 58 = .ok (.aload_n 0, 1) := by decide +kernel
theorem d_Mo_commit_59 : decode prog_13_method_30_code 59 = .ok (.getfield 29, 3) := by decide +kernel
theorem d_Mo_commit_62 : decode prog_13_method_30_code 62 = .ok (.iload_n 3, 1) := by decide +kernel
theorem d_Mo_commit_63 : decode prog_13_method_30_code 63 = .ok (.baload, 1) := by decide +kernel
theorem d_Mo_commit_64 : decode prog_13_method_30_code 64 = .ok (.ifCond .ne 21, 3) := by decide +kernel
theorem d_Mo_commit_67 : decode prog_13_method_30_code 67 = .ok (.aload_n 0, 1) := by decide +kernel
theorem d_Mo_commit_68 : decode prog_13_method_30_code 68 = .ok (.getfield 13, 3) := by decide +kernel
theorem d_Mo_commit_71 : decode prog_13_method_30_code 71 = .ok (.aload_n 0, 1) := by decide +kernel
theorem d_Mo_commit_72 : decode prog_13_method_30_code 72 = .ok (.getfield 23, 3) := by decide +kernel
theorem d_Mo_commit_75 : decode prog_13_method_30_code 75 = .ok (.iload_n 3, 1) := by decide +kernel
theorem d_Mo_commit_76 : decode prog_13_method_30_code 76 = .ok (.iaload, 1) := by decide +kernel
theorem d_Mo_commit_77 : decode prog_13_method_30_code 77 = .ok (.iaload, 1) := by decide +kernel
theorem d_Mo_commit_78 : decode prog_13_method_30_code 78 = .ok (.ifCond .eq 7, 3) := by decide +kernel
theorem d_Mo_commit_81 : decode prog_13_method_30_code 81 = .ok (.iconst 1, 1) := by decide +kernel
theorem d_Mo_commit_82 : decode prog_13_method_30_code 82 = .ok (.goto 4, 3) := by decide +kernel
theorem d_Mo_commit_85 : decode prog_13_method_30_code 85 = .ok (.iconst 0, 1) := by decide +kernel
theorem d_Mo_commit_86 : decode prog_13_method_30_code 86 = .ok (.istore_n 2, 1) := by decide +kernel
theorem d_Mo_commit_87 : decode prog_13_method_30_code 87 = .ok (.iinc 3 1, 3) := by decide +kernel
theorem d_Mo_commit_90 : decode prog_13_method_30_code 90 = .ok (.goto (-44), 3) := by decide +kernel
theorem d_Mo_commit_93 : decode prog_13_method_30_code 93 = .ok (.iload_n 1, 1) := by decide +kernel
theorem d_Mo_commit_94 : decode prog_13_method_30_code 94 = .ok (.iload_n 2, 1) := by decide +kernel
theorem d_Mo_commit_95 : decode prog_13_method_30_code 95 = .ok (.ifCond .eq 7, 3) := by decide +kernel
theorem d_Mo_commit_98 : decode prog_13_method_30_code 98 = .ok (.iconst 2, 1) := by decide +kernel
theorem d_Mo_commit_99 : decode prog_13_method_30_code 99 = .ok (.goto 4, 3) := by decide +kernel
theorem d_Mo_commit_102 : decode prog_13_method_30_code 102 = .ok (.iconst 1, 1) := by decide +kernel
theorem d_Mo_commit_103 : decode prog_13_method_30_code 103 = .ok (.iadd, 1) := by decide +kernel
theorem d_Mo_commit_104 : decode prog_13_method_30_code 104 = .ok (.istore_n 3, 1) := by decide +kernel
theorem d_Mo_commit_105 : decode prog_13_method_30_code 105 = .ok (.aload_n 0, 1) := by decide +kernel
theorem d_Mo_commit_106 : decode prog_13_method_30_code 106 = .ok (.getfield 152, 3) := by decide +kernel
theorem d_Mo_commit_109 : decode prog_13_method_30_code 109 = .ok (.ifCond .eq 11, 3) := by decide +kernel
theorem d_Mo_commit_112 : decode prog_13_method_30_code 112 = .ok (.aload_n 0, 1) := by decide +kernel
theorem d_Mo_commit_113 : decode prog_13_method_30_code 113 = .ok (.getfield 152, 3) := by decide +kernel
theorem d_Mo_commit_116 : decode prog_13_method_30_code 116 = .ok (.iload_n 3, 1) := by decide +kernel
theorem d_Mo_commit_117 : decode prog_13_method_30_code 117 = .ok (.if_icmp .le 7, 3) := by decide +kernel
theorem d_Mo_commit_120 : decode prog_13_method_30_code 120 = .ok (.iconst 1, 1) := by decide +kernel
theorem d_Mo_commit_121 : decode prog_13_method_30_code 121 = .ok (.goto 4, 3) := by decide +kernel
theorem d_Mo_commit_124 : decode prog_13_method_30_code 124 = .ok (.iconst 0, 1) := by decide +kernel
theorem d_Mo_commit_125 : decode prog_13_method_30_code 125 = .ok (.istore 4, 2) := by decide +kernel
theorem d_Mo_commit_127 : decode prog_13_method_30_code 127 = .ok (.aload_n 0, 1) := by decide +kernel
theorem d_Mo_commit_128 : decode prog_13_method_30_code 128 = .ok (.iload_n 3, 1) := by decide +kernel
theorem d_Mo_commit_129 : decode prog_13_method_30_code 129 = .ok (.invokevirtual 167, 3) := by decide +kernel
theorem d_Mo_commit_132 : decode prog_13_method_30_code 132 = .ok (.iload_n 3, 1) := by decide +kernel
theorem d_Mo_commit_133 : decode prog_13_method_30_code 133 = .ok (.if_icmp .ne 7, 3) := by decide +kernel
theorem d_Mo_commit_136 : decode prog_13_method_30_code 136 = .ok (.aload_n 0, 1) := by decide +kernel
theorem d_Mo_commit_137 : decode prog_13_method_30_code 137 = .ok (.invokevirtual 171, 3) := by decide +kernel
theorem d_Mo_commit_140 : decode prog_13_method_30_code 140 = .ok (.iload 4, 2) := by decide +kernel
theorem d_Mo_commit_142 : decode prog_13_method_30_code 142 = .ok (.ifCond .ne 10, 3) := by decide +kernel
theorem d_Mo_commit_145 : decode prog_13_method_30_code 145 = .ok (.aload_n 0, 1) := by decide +kernel
theorem d_Mo_commit_146 : decode prog_13_method_30_code 146 = .ok (.invokevirtual 174, 3) := by decide +kernel
theorem d_Mo_commit_149 : decode prog_13_method_30_code 149 = .ok (.bipush (-9), 2) := by decide +kernel
theorem d_Mo_commit_151 : decode prog_13_method_30_code 151 = .ok (.ireturn, 1) := by decide +kernel
theorem d_Mo_commit_152 : decode prog_13_method_30_code 152 = .ok (.aload_n 0, 1) := by decide +kernel
theorem d_Mo_commit_153 : decode prog_13_method_30_code 153 = .ok (.invokevirtual 177, 3) := by decide +kernel
theorem d_Mo_commit_156 : decode prog_13_method_30_code 156 = .ok (.ireturn, 1) := by decide +kernel
theorem d_Mo_documents_0 : decode prog_13_method_21_code 0 = .ok (.iconst 0, 1) := by decide +kernel
theorem d_Mo_documents_1 : decode prog_13_method_21_code 1 = .ok (.istore_n 1, 1) := by decide +kernel
theorem d_Mo_documents_2 : decode prog_13_method_21_code 2 = .ok (.iconst 0, 1) := by decide +kernel
theorem d_Mo_documents_3 : decode prog_13_method_21_code 3 = .ok (.istore_n 2, 1) := by decide +kernel
theorem d_Mo_documents_4 : decode prog_13_method_21_code 4 = .ok (.iload_n 2, 1) := by decide +kernel
theorem d_Mo_documents_5 : decode prog_13_method_21_code 5 = .ok (.bipush 12, 2) := by decide +kernel
theorem d_Mo_documents_7 : decode prog_13_method_21_code 7 = .ok (.if_icmp .ge 27, 3) := by decide +kernel
theorem d_Mo_documents_10 : decode prog_13_method_21_code 10 = .ok (.aload_n 0, 1) := by decide +kernel
theorem d_Mo_documents_11 : decode prog_13_method_21_code 11 = .ok (.getfield 13, 3) := by decide +kernel
theorem d_Mo_documents_14 : decode prog_13_method_21_code 14 = .ok (.iload_n 2, 1) := by decide +kernel
theorem d_Mo_documents_15 : decode prog_13_method_21_code 15 = .ok (.iaload, 1) := by decide +kernel
theorem d_Mo_documents_16 : decode prog_13_method_21_code 16 = .ok (.iconst 1, 1) := by decide +kernel
theorem d_Mo_documents_17 : decode prog_13_method_21_code 17 = .ok (.if_icmp .ne 9, 3) := by decide +kernel
theorem d_Mo_documents_20 : decode prog_13_method_21_code 20 = .ok (.iload_n 1, 1) := by decide +kernel
theorem d_Mo_documents_21 : decode prog_13_method_21_code 21 = .ok (.iconst 1, 1) := by decide +kernel
theorem d_Mo_documents_22 : decode prog_13_method_21_code 22 = .ok (.iadd, 1) := by decide +kernel
theorem d_Mo_documents_23 : decode prog_13_method_21_code 23 = .ok (.goto 4, 3) := by decide +kernel
theorem d_Mo_documents_26 : decode prog_13_method_21_code 26 = .ok (.iload_n 1, 1) := by decide +kernel
theorem d_Mo_documents_27 : decode prog_13_method_21_code 27 = .ok (.istore_n 1, 1) := by decide +kernel
theorem d_Mo_documents_28 : decode prog_13_method_21_code 28 = .ok (.iinc 2 1, 3) := by decide +kernel
theorem d_Mo_documents_31 : decode prog_13_method_21_code 31 = .ok (.goto (-27), 3) := by decide +kernel
theorem d_Mo_documents_34 : decode prog_13_method_21_code 34 = .ok (.iload_n 1, 1) := by decide +kernel
theorem d_Mo_documents_35 : decode prog_13_method_21_code 35 = .ok (.ireturn, 1) := by decide +kernel
theorem d_Mo_write_0 : decode prog_13_method_26_code 0 = .ok (.iload_n 1, 1) := by decide +kernel
theorem d_Mo_write_1 : decode prog_13_method_26_code 1 = .ok (.istore_n 2, 1) := by decide +kernel
theorem d_Mo_write_2 : decode prog_13_method_26_code 2 = .ok (.aload_n 0, 1) := by decide +kernel
theorem d_Mo_write_3 : decode prog_13_method_26_code 3 = .ok (.getfield 152, 3) := by decide +kernel
theorem d_Mo_write_6 : decode prog_13_method_26_code 6 = .ok (.ifCond .le 24, 3) := by decide +kernel
theorem d_Mo_write_9 : decode prog_13_method_26_code 9 = .ok (.aload_n 0, 1) := by decide +kernel
theorem d_Mo_write_10 : decode prog_13_method_26_code 10 = .ok (.getfield 152, 3) := by decide +kernel
theorem d_Mo_write_13 : decode prog_13_method_26_code 13 = .ok (.iload_n 1, 1) := by decide +kernel
theorem d_Mo_write_14 : decode prog_13_method_26_code 14 = .ok (.if_icmp .gt 16, 3) := by decide +kernel
theorem d_Mo_write_17 : decode prog_13_method_26_code 17 = .ok (.aload_n 0, 1) := by decide +kernel
theorem d_Mo_write_18 : decode prog_13_method_26_code 18 = .ok (.getfield 152, 3) := by decide +kernel
theorem d_Mo_write_21 : decode prog_13_method_26_code 21 = .ok (.istore_n 2, 1) := by decide +kernel
theorem d_Mo_write_22 : decode prog_13_method_26_code 22 = .ok (.aload_n 0, 1) := by decide +kernel
theorem d_Mo_write_23 : decode prog_13_method_26_code 23 = .ok (.iconst 0, 1) := by decide +kernel
theorem d_Mo_write_24 : decode prog_13_method_26_code 24 = .ok (.putfield 152, 3) := by decide +kernel
theorem d_Mo_write_27 : decode prog_13_method_26_code 27 = .ok (.goto 20, 3) := by decide +kernel
theorem d_Mo_write_30 : decode prog_13_method_26_code 30 = .ok (.aload_n 0, 1) := by decide +kernel
theorem d_Mo_write_31 : decode prog_13_method_26_code 31 = .ok (.getfield 152, 3) := by decide +kernel
theorem d_Mo_write_34 : decode prog_13_method_26_code 34 = .ok (.ifCond .le 13, 3) := by decide +kernel
theorem d_Mo_write_37 : decode prog_13_method_26_code 37 = .ok (.aload_n 0, 1) := by decide +kernel
theorem d_Mo_write_38 : decode prog_13_method_26_code 38 = .ok (.dup, 1) := by decide +kernel
theorem d_Mo_write_39 : decode prog_13_method_26_code 39 = .ok (.getfield 152, 3) := by decide +kernel
theorem d_Mo_write_42 : decode prog_13_method_26_code 42 = .ok (.iload_n 1, 1) := by decide +kernel
theorem d_Mo_write_43 : decode prog_13_method_26_code 43 = .ok (.isub, 1) := by decide +kernel
theorem d_Mo_write_44 : decode prog_13_method_26_code 44 = .ok (.putfield 152, 3) := by decide +kernel
theorem d_Mo_write_47 : decode prog_13_method_26_code 47 = .ok (.aload_n 0, 1) := by decide +kernel
theorem d_Mo_write_48 : decode prog_13_method_26_code 48 = .ok (.dup, 1) := by decide +kernel
theorem d_Mo_write_49 : decode prog_13_method_26_code 49 = .ok (.getfield 155, 3) := by decide +kernel
theorem d_Mo_write_52 : decode prog_13_method_26_code 52 = .ok (.iload_n 2, 1) := by decide +kernel
theorem d_Mo_write_53 : decode prog_13_method_26_code 53 = .ok (.iadd, 1) := by decide +kernel
theorem d_Mo_write_54 : decode prog_13_method_26_code 54 = .ok (.putfield 155, 3) := by decide +kernel
theorem d_Mo_write_57 : decode prog_13_method_26_code 57 = .ok (.iload_n 2, 1) := by decide +kernel
theorem d_Mo_write_58 : decode prog_13_method_26_code 58 = .ok (.ireturn, 1) := by decide +kernel
theorem d_Mo_happen_0 : decode prog_13_method_29_code 0 = .ok (.iconst 0, 1) := by decide +kernel
theorem d_Mo_happen_1 : decode prog_13_method_29_code 1 = .ok (.istore_n 1, 1) := by decide +kernel
theorem d_Mo_happen_2 : decode prog_13_method_29_code 2 = .ok (.iload_n 1, 1) := by decide +kernel
theorem d_Mo_happen_3 : decode prog_13_method_29_code 3 = .ok (.aload_n 0, 1) := by decide +kernel
theorem d_Mo_happen_4 : decode prog_13_method_29_code 4 = .ok (.getfield 158, 3) := by decide +kernel
theorem d_Mo_happen_7 : decode prog_13_method_29_code 7 = .ok (.if_icmp .ge 43, 3) := by decide +kernel
theorem d_Mo_happen_10 : decode prog_13_method_29_code 10 = .ok (.aload_n 0, 1) := by decide +kernel
theorem d_Mo_happen_11 : decode prog_13_method_29_code 11 = .ok (.getfield 29, 3) := by decide +kernel
theorem d_Mo_happen_14 : decode prog_13_method_29_code 14 = .ok (.iload_n 1, 1) := by decide +kernel
theorem d_Mo_happen_15 : decode prog_13_method_29_code 15 = .ok (.aload_n 0, 1) := by decide +kernel
theorem d_Mo_happen_16 : decode prog_13_method_29_code 16 = .ok (.getfield 29, 3) := by decide +kernel
theorem d_Mo_happen_19 : decode prog_13_method_29_code 19 = .ok (.iload_n 1, 1) := by decide +kernel
theorem d_Mo_happen_20 : decode prog_13_method_29_code 20 = .ok (.baload, 1) := by decide +kernel
theorem d_Mo_happen_21 : decode prog_13_method_29_code 21 = .ok (.ifCond .ne 17, 3) := by decide +kernel
theorem d_Mo_happen_24 : decode prog_13_method_29_code 24 = .ok (.aload_n 0, 1) := by decide +kernel
theorem d_Mo_happen_25 : decode prog_13_method_29_code 25 = .ok (.getfield 13, 3) := by decide +kernel
theorem d_Mo_happen_28 : decode prog_13_method_29_code 28 = .ok (.aload_n 0, 1) := by decide +kernel
theorem d_Mo_happen_29 : decode prog_13_method_29_code 29 = .ok (.getfield 23, 3) := by decide +kernel
theorem d_Mo_happen_32 : decode prog_13_method_29_code 32 = .ok (.iload_n 1, 1) := by decide +kernel
theorem d_Mo_happen_33 : decode prog_13_method_29_code 33 = .ok (.iaload, 1) := by decide +kernel
theorem d_Mo_happen_34 : decode prog_13_method_29_code 34 = .ok (.iaload, 1) := by decide +kernel
theorem d_Mo_happen_35 : decode prog_13_method_29_code 35 = .ok (.ifCond .eq 7, 3) := by decide +kernel
theorem d_Mo_happen_38 : decode prog_13_method_29_code 38 = .ok (.iconst 1, 1) := by decide +kernel
theorem d_Mo_happen_39 : decode prog_13_method_29_code 39 = .ok (.goto 4, 3) := by decide +kernel
theorem d_Mo_happen_42 : decode prog_13_method_29_code 42 = .ok (.iconst 0, 1) := by decide +kernel
theorem d_Mo_happen_43 : decode prog_13_method_29_code 43 = .ok (.bastore, 1) := by decide +kernel
theorem d_Mo_happen_44 : decode prog_13_method_29_code 44 = .ok (.iinc 1 1, 3) := by decide +kernel
theorem d_Mo_happen_47 : decode prog_13_method_29_code 47 = .ok (.goto (-45), 3) := by decide +kernel
theorem d_Mo_happen_50 : decode prog_13_method_29_code 50 = .ok (.iconst 0, 1) := by decide +kernel
theorem d_Mo_happen_51 : decode prog_13_method_29_code 51 = .ok (.istore_n 1, 1) := by decide +kernel
theorem d_Mo_happen_52 : decode prog_13_method_29_code 52 = .ok (.iconst 0, 1) := by decide +kernel
theorem d_Mo_happen_53 : decode prog_13_method_29_code 53 = .ok (.istore_n 2, 1) := by decide +kernel
theorem d_Mo_happen_54 : decode prog_13_method_29_code 54 = .ok (.iload_n 2, 1) := by decide +kernel
theorem d_Mo_happen_55 : decode prog_13_method_29_code 55 = .ok (.bipush 12, 2) := by decide +kernel
theorem d_Mo_happen_57 : decode prog_13_method_29_code 57 = .ok (.if_icmp .ge 129, 3) := by decide +kernel
theorem d_Mo_happen_60 : decode prog_13_method_29_code 60 = .ok (.aload_n 0, 1) := by decide +kernel
theorem d_Mo_happen_61 : decode prog_13_method_29_code 61 = .ok (.getfield 13, 3) := by decide +kernel
theorem d_Mo_happen_64 : decode prog_13_method_29_code 64 = .ok (.iload_n 2, 1) := by decide +kernel
theorem d_Mo_happen_65 : decode prog_13_method_29_code 65 = .ok (.iaload, 1) := by decide +kernel
theorem d_Mo_happen_66 : decode prog_13_method_29_code 66 = .ok (.iconst 1, 1) := by decide +kernel
theorem d_Mo_happen_67 : decode prog_13_method_29_code 67 = .ok (.if_icmp .ne 106, 3) := by decide +kernel
theorem d_Mo_happen_70 : decode prog_13_method_29_code 70 = .ok (.iconst 1, 1) := by decide +kernel
theorem d_Mo_happen_71 : decode prog_13_method_29_code 71 = .ok (.istore_n 1, 1) := by decide +kernel
theorem d_Mo_happen_72 : decode prog_13_method_29_code 72 = .ok (.aload_n 0, 1) := by decide +kernel
theorem d_Mo_happen_73 : decode prog_13_method_29_code 73 = .ok (.getfield 23, 3) := by decide +kernel
theorem d_Mo_happen_76 : decode prog_13_method_29_code 76 = .ok (.aload_n 0, 1) := by decide +kernel
theorem d_Mo_happen_77 : decode prog_13_method_29_code 77 = .ok (.getfield 158, 3) := by decide +kernel
theorem d_Mo_happen_80 : decode prog_13_method_29_code 80 = .ok (.iload_n 2, 1) := by decide +kernel
theorem d_Mo_happen_81 : decode prog_13_method_29_code 81 = .ok (.iastore, 1) := by decide +kernel
theorem d_Mo_happen_82 : decode prog_13_method_29_code 82 = .ok (.aload_n 0, 1) := by decide +kernel
theorem d_Mo_happen_83 : decode prog_13_method_29_code 83 = .ok (.getfield 26, 3) := by decide +kernel
theorem d_Mo_happen_86 : decode prog_13_method_29_code 86 = .ok (.aload_n 0, 1) := by decide +kernel
theorem d_Mo_happen_87 : decode prog_13_method_29_code 87 = .ok (.getfield 158, 3) := by decide +kernel
theorem d_Mo_happen_90 : decode prog_13_method_29_code 90 = .ok (.aload_n 0, 1) := by decide +kernel
theorem d_Mo_happen_91 : decode prog_13_method_29_code 91 = .ok (.getfield 161, 3) := by decide +kernel
theorem d_Mo_happen_94 : decode prog_13_method_29_code 94 = .ok (.iastore, 1) := by decide +kernel
theorem d_Mo_happen_95 : decode prog_13_method_29_code 95 = .ok (.aload_n 0, 1) := by decide +kernel
theorem d_Mo_happen_96 : decode prog_13_method_29_code 96 = .ok (.getfield 29, 3) := by decide +kernel
theorem d_Mo_happen_99 : decode prog_13_method_29_code 99 = .ok (.aload_n 0, 1) := by decide +kernel
theorem d_Mo_happen_100 : decode prog_13_method_29_code 100 = .ok (.getfield 158, 3) := by decide +kernel
theorem d_Mo_happen_103 : decode prog_13_method_29_code 103 = .ok (.iconst 0, 1) := by decide +kernel
theorem d_Mo_happen_104 : decode prog_13_method_29_code 104 = .ok (.bastore, 1) := by decide +kernel
theorem d_Mo_happen_105 : decode prog_13_method_29_code 105 = .ok (.aload_n 0, 1) := by decide +kernel
theorem d_Mo_happen_106 : decode prog_13_method_29_code 106 = .ok (.getfield 33, 3) := by decide +kernel
theorem d_Mo_happen_109 : decode prog_13_method_29_code 109 = .ok (.aload_n 0, 1) := by decide +kernel
theorem d_Mo_happen_110 : decode prog_13_method_29_code 110 = .ok (.getfield 158, 3) := by decide +kernel
theorem d_Mo_happen_113 : decode prog_13_method_29_code 113 = .ok (.aload_n 0, 1) := by decide +kernel
theorem d_Mo_happen_114 : decode prog_13_method_29_code 114 = .ok (.getfield 17, 3) := by decide +kernel
theorem d_Mo_happen_117 : decode prog_13_method_29_code 117 = .ok (.iload_n 2, 1) := by decide +kernel
theorem d_Mo_happen_118 : decode prog_13_method_29_code 118 = .ok (.iaload, 1) := by decide +kernel
theorem d_Mo_happen_119 : decode prog_13_method_29_code 119 = .ok (.iastore, 1) := by decide +kernel
theorem d_Mo_happen_120 : decode prog_13_method_29_code 120 = .ok (.iconst 0, 1) := by decide +kernel
theorem d_Mo_happen_121 : decode prog_13_method_29_code 121 = .ok (.istore_n 3, 1) := by decide +kernel
theorem d_Mo_happen_122 : decode prog_13_method_29_code 122 = .ok (.iload_n 3, 1) := by decide +kernel
theorem d_Mo_happen_123 : decode prog_13_method_29_code 123 = .ok (.aload_n 0, 1) := by decide +kernel
theorem d_Mo_happen_124 : decode prog_13_method_29_code 124 = .ok (.getfield 17, 3) := by decide +kernel
theorem d_Mo_happen_127 : decode prog_13_method_29_code 127 = .ok (.iload_n 2, 1) := by decide +kernel
theorem d_Mo_happen_128 : decode prog_13_method_29_code 128 = .ok (.iaload, 1) := by decide +kernel
theorem d_Mo_happen_129 : decode prog_13_method_29_code 129 = .ok (.if_icmp .ge 34, 3) := by decide +kernel
theorem d_Mo_happen_132 : decode prog_13_method_29_code 132 = .ok (.aload_n 0, 1) := by decide +kernel
theorem d_Mo_happen_133 : decode prog_13_method_29_code 133 = .ok (.getfield 36, 3) := by decide +kernel
theorem d_Mo_happen_136 : decode prog_13_method_29_code 136 = .ok (.bipush 12, 2) := by decide +kernel
theorem d_Mo_happen_138 : decode prog_13_method_29_code 138 = .ok (.aload_n 0, 1) := by decide +kernel
theorem d_Mo_happen_139 : decode prog_13_method_29_code 139 = .ok (.getfield 158, 3) := by decide +kernel
theorem d_Mo_happen_142 : decode prog_13_method_29_code 142 = .ok (.imul, 1) := by decide +kernel
theorem d_Mo_happen_143 : decode prog_13_method_29_code 143 = .ok (.iload_n 3, 1) := by decide +kernel
theorem d_Mo_happen_144 : decode prog_13_method_29_code 144 = .ok (.iadd, 1) := by decide +kernel
theorem d_Mo_happen_145 : decode prog_13_method_29_code 145 = .ok (.aload_n 0, 1) := by decide +kernel
theorem d_Mo_happen_146 : decode prog_13_method_29_code 146 = .ok (.getfield 20, 3) := by decide +kernel
theorem d_Mo_happen_149 : decode prog_13_method_29_code 149 = .ok (.bipush 12, 2) := by decide +kernel
theorem d_Mo_happen_151 : decode prog_13_method_29_code 151 = .ok (.iload_n 2, 1) := by decide +kernel
theorem d_Mo_happen_152 : decode prog_13_method_29_code 152 = .ok (.imul, 1) := by decide +kernel
theorem d_Mo_happen_153 : decode prog_13_method_29_code 153 = .ok (.iload_n 3, 1) := by decide +kernel
theorem d_Mo_happen_154 : decode prog_13_method_29_code 154 = .ok (.iadd, 1) := by decide +kernel
theorem d_Mo_happen_155 : decode prog_13_method_29_code 155 = .ok (.laload, 1) := by decide +kernel
theorem d_Mo_happen_156 : decode prog_13_method_29_code 156 = .ok (.lastore, 1) := by decide +kernel
theorem d_Mo_happen_157 : decode prog_13_method_29_code 157 = .ok (.iinc 3 1, 3) := by decide +kernel
theorem d_Mo_happen_160 : decode prog_13_method_29_code 160 = .ok (.goto (-38), 3) := by decide +kernel
theorem d_Mo_happen_163 : decode prog_13_method_29_code 163 = .ok (.aload_n 0, 1) := by decide +kernel
theorem d_Mo_happen_164 : decode prog_13_method_29_code 164 = .ok (.dup, 1) := by decide +kernel
theorem d_Mo_happen_165 : decode prog_13_method_29_code 165 = .ok (.getfield 158, 3) := by decide +kernel
theorem d_Mo_happen_168 : decode prog_13_method_29_code 168 = .ok (.iconst 1, 1) := by decide +kernel
theorem d_Mo_happen_169 : decode prog_13_method_29_code 169 = .ok (.iadd, 1) := by decide +kernel
theorem d_Mo_happen_170 : decode prog_13_method_29_code 170 = .ok (.putfield 158, 3) := by decide +kernel
theorem d_Mo_happen_173 : decode prog_13_method_29_code 173 = .ok (.aload_n 0, 1) := by decide +kernel
theorem d_Mo_happen_174 : decode prog_13_method_29_code 174 = .ok (.getfield 13, 3) := by decide +kernel
theorem d_Mo_happen_177 : decode prog_13_method_29_code 177 = .ok (.iload_n 2, 1) := by decide +kernel
theorem d_Mo_happen_178 : decode prog_13_method_29_code 178 = .ok (.iconst 0, 1) := by decide +kernel
theorem d_Mo_happen_179 : decode prog_13_method_29_code 179 = .ok (.iastore, 1) := by decide +kernel
theorem d_Mo_happen_180 : decode prog_13_method_29_code 180 = .ok (.iinc 2 1, 3) := by decide +kernel
theorem d_Mo_happen_183 : decode prog_13_method_29_code 183 = .ok (.goto (-129), 3) := by decide +kernel
theorem d_Mo_happen_186 : decode prog_13_method_29_code 186 = .ok (.aload_n 0, 1) := by decide +kernel
theorem d_Mo_happen_187 : decode prog_13_method_29_code 187 = .ok (.iload_n 1, 1) := by decide +kernel
theorem d_Mo_happen_188 : decode prog_13_method_29_code 188 = .ok (.ifCond .eq 12, 3) := by decide +kernel
theorem d_Mo_happen_191 : decode prog_13_method_29_code 191 = .ok (.aload_n 0, 1) := by decide +kernel
theorem d_Mo_happen_192 : decode prog_13_method_29_code 192 = .ok (.getfield 161, 3) := by decide +kernel
theorem d_Mo_happen_195 : decode prog_13_method_29_code 195 = .ok (.iconst 1, 1) := by decide +kernel
theorem d_Mo_happen_196 : decode prog_13_method_29_code 196 = .ok (.iadd, 1) := by decide +kernel
theorem d_Mo_happen_197 : decode prog_13_method_29_code 197 = .ok (.goto 7, 3) := by decide +kernel
theorem d_Mo_happen_200 : decode prog_13_method_29_code 200 = .ok (.aload_n 0, 1) := by decide +kernel
theorem d_Mo_happen_201 : decode prog_13_method_29_code 201 = .ok (.getfield 161, 3) := by decide +kernel
theorem d_Mo_happen_204 : decode prog_13_method_29_code 204 = .ok (.putfield 161, 3) := by decide +kernel
theorem d_Mo_happen_207 : decode prog_13_method_29_code 207 = .ok (.return_, 1) := by decide +kernel
theorem d_Mo_stop_0 : decode prog_13_method_25_code 0 = .ok (.aload_n 0, 1) := by decide +kernel
theorem d_Mo_stop_1 : decode prog_13_method_25_code 1 = .ok (.iconst 1, 1) := by decide +kernel
theorem d_Mo_stop_2 : decode prog_13_method_25_code 2 = .ok (.putfield 131, 3) := by decide +kernel
theorem d_Mo_stop_5 : decode prog_13_method_25_code 5 = .ok (.aload_n 0, 1) := by decide +kernel
theorem d_Mo_stop_6 : decode prog_13_method_25_code 6 = .ok (.iconst 0, 1) := by decide +kernel
theorem d_Mo_stop_7 : decode prog_13_method_25_code 7 = .ok (.putfield 135, 3) := by decide +kernel
theorem d_Mo_stop_10 : decode prog_13_method_25_code 10 = .ok (.iconst 0, 1) := by decide +kernel
theorem d_Mo_stop_11 : decode prog_13_method_25_code 11 = .ok (.istore_n 1, 1) := by decide +kernel
theorem d_Mo_stop_12 : decode prog_13_method_25_code 12 = .ok (.iload_n 1, 1) := by decide +kernel
theorem d_Mo_stop_13 : decode prog_13_method_25_code 13 = .ok (.bipush 12, 2) := by decide +kernel
theorem d_Mo_stop_15 : decode prog_13_method_25_code 15 = .ok (.if_icmp .ge 16, 3) := by decide +kernel
theorem d_Mo_stop_18 : decode prog_13_method_25_code 18 = .ok (.aload_n 0, 1) := by decide +kernel
theorem d_Mo_stop_19 : decode prog_13_method_25_code 19 = .ok (.getfield 13, 3) := by decide +kernel
theorem d_Mo_stop_22 : decode prog_13_method_25_code 22 = .ok (.iload_n 1, 1) := by decide +kernel
theorem d_Mo_stop_23 : decode prog_13_method_25_code 23 = .ok (.iconst 0, 1) := by decide +kernel
theorem d_Mo_stop_24 : decode prog_13_method_25_code 24 = .ok (.iastore, 1) := by decide +kernel
theorem d_Mo_stop_25 : decode prog_13_method_25_code 25 = .ok (.iinc 1 1, 3) := by decide +kernel
theorem d_Mo_stop_28 : decode prog_13_method_25_code 28 = .ok (.goto (-16), 3) := by decide +kernel
theorem d_Mo_stop_31 : decode prog_13_method_25_code 31 = .ok (.aload_n 0, 1) := by decide +kernel
theorem d_Mo_stop_32 : decode prog_13_method_25_code 32 = .ok (.iconst 0, 1) := by decide +kernel
theorem d_Mo_stop_33 : decode prog_13_method_25_code 33 = .ok (.putfield 146, 3) := by decide +kernel
theorem d_Mo_stop_36 : decode prog_13_method_25_code 36 = .ok (.aload_n 0, 1) := by decide +kernel
theorem d_Mo_stop_37 : decode prog_13_method_25_code 37 = .ok (.iconst 0, 1) := by decide +kernel
theorem d_Mo_stop_38 : decode prog_13_method_25_code 38 = .ok (.putfield 149, 3) := by decide +kernel
theorem d_Mo_stop_41 : decode prog_13_method_25_code 41 = .ok (.return_, 1) := by decide +kernel
theorem d_Mo_live_0 : decode prog_13_method_28_code 0 = .ok (.iconst 0, 1) := by decide +kernel
theorem d_Mo_live_1 : decode prog_13_method_28_code 1 = .ok (.istore_n 1, 1) := by decide +kernel
theorem d_Mo_live_2 : decode prog_13_method_28_code 2 = .ok (.iconst 0, 1) := by decide +kernel
theorem d_Mo_live_3 : decode prog_13_method_28_code 3 = .ok (.istore_n 2, 1) := by decide +kernel
theorem d_Mo_live_4 : decode prog_13_method_28_code 4 = .ok (.iload_n 2, 1) := by decide +kernel
theorem d_Mo_live_5 : decode prog_13_method_28_code 5 = .ok (.aload_n 0, 1) := by decide +kernel
theorem d_Mo_live_6 : decode prog_13_method_28_code 6 = .ok (.getfield 158, 3) := by decide +kernel
theorem d_Mo_live_9 : decode prog_13_method_28_code 9 = .ok (.if_icmp .ge 26, 3) := by decide +kernel
theorem d_Mo_live_12 : decode prog_13_method_28_code 12 = .ok (.aload_n 0, 1) := by decide +kernel
theorem d_Mo_live_13 : decode prog_13_method_28_code 13 = .ok (.getfield 29, 3) := by decide +kernel
theorem d_Mo_live_16 : decode prog_13_method_28_code 16 = .ok (.iload_n 2, 1) := by decide +kernel
theorem d_Mo_live_17 : decode prog_13_method_28_code 17 = .ok (.baload, 1) := by decide +kernel
theorem d_Mo_live_18 : decode prog_13_method_28_code 18 = .ok (.ifCond .eq 7, 3) := by decide +kernel
theorem d_Mo_live_21 : decode prog_13_method_28_code 21 = .ok (.iload_n 1, 1) := by decide +kernel
theorem d_Mo_live_22 : decode prog_13_method_28_code 22 = .ok (.goto 6, 3) := by decide +kernel
theorem d_Mo_live_25 : decode prog_13_method_28_code 25 = .ok (.iload_n 1, 1) := by decide +kernel
theorem d_Mo_live_26 : decode prog_13_method_28_code 26 = .ok (.iconst 1, 1) := by decide +kernel
theorem d_Mo_live_27 : decode prog_13_method_28_code 27 = .ok (.iadd, 1) := by decide +kernel
theorem d_Mo_live_28 : decode prog_13_method_28_code 28 = .ok (.istore_n 1, 1) := by decide +kernel
theorem d_Mo_live_29 : decode prog_13_method_28_code 29 = .ok (.iinc 2 1, 3) := by decide +kernel
theorem d_Mo_live_32 : decode prog_13_method_28_code 32 = .ok (.goto (-28), 3) := by decide +kernel
theorem d_Mo_live_35 : decode prog_13_method_28_code 35 = .ok (.iload_n 1, 1) := by decide +kernel
theorem d_Mo_live_36 : decode prog_13_method_28_code 36 = .ok (.ireturn, 1) := by decide +kernel
theorem d_Mo_merge_0 : decode prog_13_method_32_code 0 = .ok (.aload_n 0, 1) := by decide +kernel
theorem d_Mo_merge_1 : decode prog_13_method_32_code 1 = .ok (.getfield 131, 3) := by decide +kernel
theorem d_Mo_merge_4 : decode prog_13_method_32_code 4 = .ok (.ifCond .eq 6, 3) := by decide +kernel
theorem d_Mo_merge_7 : decode prog_13_method_32_code 7 = .ok (.bipush (-9), 2) := by decide +kernel
theorem d_Mo_merge_9 : decode prog_13_method_32_code 9 = .ok (.ireturn, 1) := by decide +kernel
theorem d_Mo_merge_10 : decode prog_13_method_32_code 10 = .ok (.iload_n 1, 1) := by decide +kernel
theorem d_Mo_merge_11 : decode prog_13_method_32_code 11 = .ok (.ifCond .lt 13, 3) := by decide +kernel
theorem d_Mo_merge_14 : decode prog_13_method_32_code 14 = .ok (.iload_n 1, 1) := by decide +kernel
theorem d_Mo_merge_15 : decode prog_13_method_32_code 15 = .ok (.aload_n 0, 1) := by decide +kernel
theorem d_Mo_merge_16 : decode prog_13_method_32_code 16 = .ok (.getfield 161, 3) := by decide +kernel
theorem d_Mo_merge_19 : decode prog_13_method_32_code 19 = .ok (.iconst 1, 1) := by decide +kernel
theorem d_Mo_merge_20 : decode prog_13_method_32_code 20 = .ok (.isub, 1) := by decide +kernel
theorem d_Mo_merge_21 : decode prog_13_method_32_code 21 = .ok (.if_icmp .lt 5, 3) := by decide +kernel
theorem d_Mo_merge_24 : decode prog_13_method_32_code 24 = .ok (.iconst (-1), 1) := by decide +kernel
theorem d_Mo_merge_25 : decode prog_13_method_32_code 25 = .ok (.ireturn, 1) := by decide +kernel
theorem d_Mo_merge_26 : decode prog_13_method_32_code 26 = .ok (.iconst 1, 1) := by decide +kernel
theorem d_Mo_merge_27 : decode prog_13_method_32_code 27 = .ok (.istore_n 2, 1) := by decide +kernel
theorem d_Mo_merge_28 : decode prog_13_method_32_code 28 = .ok (.iconst 0, 1) := by decide +kernel
theorem d_Mo_merge_29 : decode prog_13_method_32_code 29 = .ok (.istore_n 3, 1) := by decide +kernel
theorem d_Mo_merge_30 : decode prog_13_method_32_code 30 = .ok (.iload_n 3, 1) := by decide +kernel
theorem d_Mo_merge_31 : decode prog_13_method_32_code 31 = .ok (.aload_n 0, 1) := by decide +kernel
theorem d_Mo_merge_32 : decode prog_13_method_32_code 32 = .ok (.getfield 158, 3) := by decide +kernel
theorem d_Mo_merge_35 : decode prog_13_method_32_code 35 = .ok (.if_icmp .ge 60, 3) := by decide +kernel
theorem d_Mo_merge_38 : decode prog_13_method_32_code 38 = .ok (.aload_n 0, 1) := by decide +kernel
theorem d_Mo_merge_39 : decode prog_13_method_32_code 39 = .ok (.getfield 26, 3) := by decide +kernel
theorem d_Mo_merge_42 : decode prog_13_method_32_code 42 = .ok (.iload_n 3, 1) := by decide +kernel
theorem d_Mo_merge_43 : decode prog_13_method_32_code 43 = .ok (.iaload, 1) := by decide +kernel
theorem d_Mo_merge_44 : decode prog_13_method_32_code 44 = .ok (.iload_n 1, 1) := by decide +kernel
theorem d_Mo_merge_45 : decode prog_13_method_32_code 45 = .ok (.if_icmp .eq 15, 3) := by decide +kernel
theorem d_Mo_merge_48 : decode prog_13_method_32_code 48 = .ok (.aload_n 0, 1) := by decide +kernel
theorem d_Mo_merge_49 : decode prog_13_method_32_code 49 = .ok (.getfield 26, 3) := by decide +kernel
theorem d_Mo_merge_52 : decode prog_13_method_32_code 52 = .ok (.iload_n 3, 1) := by decide +kernel
theorem d_Mo_merge_53 : decode prog_13_method_32_code 53 = .ok (.iaload, 1) := by decide +kernel
theorem d_Mo_merge_54 : decode prog_13_method_32_code 54 = .ok (.iload_n 1, 1) := by decide +kernel
theorem d_Mo_merge_55 : decode prog_13_method_32_code 55 = .ok (.iconst 1, 1) := by decide +kernel
theorem d_Mo_merge_56 : decode prog_13_method_32_code 56 = .ok (.iadd, 1) := by decide +kernel
theorem d_Mo_merge_57 : decode prog_13_method_32_code 57 = .ok (.if_icmp .ne 7, 3) := by decide +kernel
theorem d_Mo_merge_60 : decode prog_13_method_32_code 60 = .ok (.iconst 1, 1) := by decide +kernel
theorem d_Mo_merge_61 : decode prog_13_method_32_code 61 = .ok (.goto 4, 3) := by decide +kernel
theorem d_Mo_merge_64 : decode prog_13_method_32_code 64 = .ok (.iconst 0, 1) := by decide +kernel
theorem d_Mo_merge_65 : decode prog_13_method_32_code 65 = .ok (.istore 4, 2) := by decide +kernel
theorem d_Mo_merge_67 : decode prog_13_method_32_code 67 = .ok (.iload 4, 2) := by decide +kernel
theorem d_Mo_merge_69 : decode prog_13_method_32_code 69 = .ok (.ifCond .eq 18, 3) := by decide +kernel
theorem d_Mo_merge_72 : decode prog_13_method_32_code 72 = .ok (.aload_n 0, 1) := by decide +kernel
theorem d_Mo_merge_73 : decode prog_13_method_32_code 73 = .ok (.getfield 29, 3) := by decide +kernel
theorem d_Mo_merge_76 : decode prog_13_method_32_code 76 = .ok (.iload_n 3, 1) := by decide +kernel
theorem d_Mo_merge_77 : decode prog_13_method_32_code 77 = .ok (.baload, 1) := by decide +kernel
theorem d_Mo_merge_78 : decode prog_13_method_32_code 78 = .ok (.ifCond .ne 9, 3) := by decide +kernel
theorem d_Mo_merge_81 : decode prog_13_method_32_code 81 = .ok (.iload_n 2, 1) := by decide +kernel
theorem d_Mo_merge_82 : decode prog_13_method_32_code 82 = .ok (.iconst 1, 1) := by decide +kernel
theorem d_Mo_merge_83 : decode prog_13_method_32_code 83 = .ok (.iadd, 1) := by decide +kernel
theorem d_Mo_merge_84 : decode prog_13_method_32_code 84 = .ok (.goto 4, 3) := by decide +kernel
theorem d_Mo_merge_87 : decode prog_13_method_32_code 87 = .ok (.iload_n 2, 1) := by decide +kernel
theorem d_Mo_merge_88 : decode prog_13_method_32_code 88 = .ok (.istore_n 2, 1) := by decide +kernel
theorem d_Mo_merge_89 : decode prog_13_method_32_code 89 = .ok (.iinc 3 1, 3) := by decide +kernel
theorem d_Mo_merge_92 : decode prog_13_method_32_code 92 = .ok (.goto (-62), 3) := by decide +kernel
theorem d_Mo_merge_95 : decode prog_13_method_32_code 95 = .ok (.aload_n 0, 1) := by decide +kernel
theorem d_Mo_merge_96 : decode prog_13_method_32_code 96 = .ok (.getfield 152, 3) := by decide +kernel
theorem d_Mo_merge_99 : decode prog_13_method_32_code 99 = .ok (.ifCond .eq 11, 3) := by decide +kernel
theorem d_Mo_merge_102 : decode prog_13_method_32_code 102 = .ok (.aload_n 0, 1) := by decide +kernel
theorem d_Mo_merge_103 : decode prog_13_method_32_code 103 = .ok (.getfield 152, 3) := by decide +kernel
theorem d_Mo_merge_106 : decode prog_13_method_32_code 106 = .ok (.iload_n 2, 1) := by decide +kernel
theorem d_Mo_merge_107 : decode prog_13_method_32_code 107 = .ok (.if_icmp .le 7, 3) := by decide +kernel
theorem d_Mo_merge_110 : decode prog_13_method_32_code 110 = .ok (.iconst 1, 1) := by decide +kernel
theorem d_Mo_merge_111 : decode prog_13_method_32_code 111 = .ok (.goto 4, 3) := by decide +kernel
theorem d_Mo_merge_114 : decode prog_13_method_32_code 114 = .ok (.iconst 0, 1) := by decide +kernel
theorem d_Mo_merge_115 : decode prog_13_method_32_code 115 = .ok (.istore_n 3, 1) := by decide +kernel
theorem d_Mo_merge_116 : decode prog_13_method_32_code 116 = .ok (.aload_n 0, 1) := by decide +kernel
theorem d_Mo_merge_117 : decode prog_13_method_32_code 117 = .ok (.iload_n 2, 1) := by decide +kernel
theorem d_Mo_merge_118 : decode prog_13_method_32_code 118 = .ok (.invokevirtual 167, 3) := by decide +kernel
theorem d_Mo_merge_121 : decode prog_13_method_32_code 121 = .ok (.iload_n 2, 1) := by decide +kernel
theorem d_Mo_merge_122 : decode prog_13_method_32_code 122 = .ok (.if_icmp .ne 8, 3) := by decide +kernel
theorem d_Mo_merge_125 : decode prog_13_method_32_code 125 = .ok (.aload_n 0, 1) := by decide +kernel
theorem d_Mo_merge_126 : decode prog_13_method_32_code 126 = .ok (.iload_n 1, 1) := by decide +kernel
theorem d_Mo_merge_127 : decode prog_13_method_32_code 127 = .ok (.invokevirtual 184, 3) := by decide +kernel
theorem d_Mo_merge_130 : decode prog_13_method_32_code 130 = .ok (.iload_n 3, 1) := by decide +kernel
theorem d_Mo_merge_131 : decode prog_13_method_32_code 131 = .ok (.ifCond .ne 10, 3) := by decide +kernel
theorem d_Mo_merge_134 : decode prog_13_method_32_code 134 = .ok (.aload_n 0, 1) := by decide +kernel
theorem d_Mo_merge_135 : decode prog_13_method_32_code 135 = .ok (.invokevirtual 174, 3) := by decide +kernel
theorem d_Mo_merge_138 : decode prog_13_method_32_code 138 = .ok (.bipush (-9), 2) := by decide +kernel
theorem d_Mo_merge_140 : decode prog_13_method_32_code 140 = .ok (.ireturn, 1) := by decide +kernel
theorem d_Mo_merge_141 : decode prog_13_method_32_code 141 = .ok (.aload_n 0, 1) := by decide +kernel
theorem d_Mo_merge_142 : decode prog_13_method_32_code 142 = .ok (.getfield 161, 3) := by decide +kernel
theorem d_Mo_merge_145 : decode prog_13_method_32_code 145 = .ok (.ireturn, 1) := by decide +kernel
theorem d_Mo_join2_0 : decode prog_13_method_31_code 0 = .ok (.iconst 0, 1) := by decide +kernel
theorem d_Mo_join2_1 : decode prog_13_method_31_code 1 = .ok (.istore_n 2, 1) := by decide +kernel
theorem d_Mo_join2_2 : decode prog_13_method_31_code 2 = .ok (.iconst 0, 1) := by decide +kernel
theorem d_Mo_join2_3 : decode prog_13_method_31_code 3 = .ok (.istore_n 3, 1) := by decide +kernel
theorem d_Mo_join2_4 : decode prog_13_method_31_code 4 = .ok (.iconst 0, 1) := by decide +kernel
theorem d_Mo_join2_5 : decode prog_13_method_31_code 5 = .ok (.istore 4, 2) := by decide +kernel
theorem d_Mo_join2_7 : decode prog_13_method_31_code 7 = .ok (.iload 4, 2) := by decide +kernel
theorem d_Mo_join2_9 : decode prog_13_method_31_code 9 = .ok (.aload_n 0, 1) := by decide +kernel
theorem d_Mo_join2_10 : decode prog_13_method_31_code 10 = .ok (.getfield 158, 3) := by decide +kernel
theorem d_Mo_join2_13 : decode prog_13_method_31_code 13 = .ok (.if_icmp .ge 100, 3) := by decide +kernel
theorem d_Mo_join2_16 : decode prog_13_method_31_code 16 = .ok (.aload_n 0, 1) := by decide +kernel
theorem d_Mo_join2_17 : decode prog_13_method_31_code 17 = .ok (.getfield 26, 3) := by decide +kernel
theorem d_Mo_join2_20 : decode prog_13_method_31_code 20 = .ok (.iload 4, 2) := by decide +kernel
theorem d_Mo_join2_22 : decode prog_13_method_31_code 22 = .ok (.iaload, 1) := by decide +kernel
theorem d_Mo_join2_23 : decode prog_13_method_31_code 23 = .ok (.iload_n 1, 1) := by decide +kernel
theorem d_Mo_join2_24 : decode prog_13_method_31_code 24 = .ok (.if_icmp .eq 16, 3) := by decide +kernel
theorem d_Mo_join2_27 : decode prog_13_method_31_code 27 = .ok (.aload_n 0, 1) := by decide +kernel
theorem d_Mo_join2_28 : decode prog_13_method_31_code 28 = .ok (.getfield 26, 3) := by decide +kernel
theorem d_Mo_join2_31 : decode prog_13_method_31_code 31 = .ok (.iload 4, 2) := by decide +kernel
theorem d_Mo_join2_33 : decode prog_13_method_31_code 33 = .ok (.iaload, 1) := by decide +kernel
theorem d_Mo_join2_34 : decode prog_13_method_31_code 34 = .ok (.iload_n 1, 1) := by decide +kernel
theorem d_Mo_join2_35 : decode prog_13_method_31_code 35 = .ok (.iconst 1, 1) := by decide +kernel
theorem d_Mo_join2_36 : decode prog_13_method_31_code 36 = .ok (.iadd, 1) := by decide +kernel
theorem d_Mo_join2_37 : decode prog_13_method_31_code 37 = .ok (.if_icmp .ne 7, 3) := by decide +kernel
theorem d_Mo_join2_40 : decode prog_13_method_31_code 40 = .ok (.iconst 1, 1) := by decide +kernel
theorem d_Mo_join2_41 : decode prog_13_method_31_code 41 = .ok (.goto 4, 3) := by decide +kernel
theorem d_Mo_join2_44 : decode prog_13_method_31_code 44 = .ok (.iconst 0, 1) := by decide +kernel
theorem d_Mo_join2_45 : decode prog_13_method_31_code 45 = .ok (.istore 5, 2) := by decide +kernel
theorem d_Mo_join2_47 : decode prog_13_method_31_code 47 = .ok (.iload 5, 2) := by decide +kernel
theorem d_Mo_join2_49 : decode prog_13_method_31_code 49 = .ok (.ifCond .eq 13, 3) := by decide +kernel
theorem d_Mo_join2_52 : decode prog_13_method_31_code 52 = .ok (.aload_n 0, 1) := by decide +kernel
theorem d_Mo_join2_53 : decode prog_13_method_31_code 53 = .ok (.getfield 29, 3) := by decide +kernel
theorem d_Mo_join2_56 : decode prog_13_method_31_code 56 = .ok (.iload 4, 2) := by decide +kernel
theorem d_Mo_join2_58 : decode prog_13_method_31_code 58 = .ok (.baload, 1) := by decide +kernel
theorem d_Mo_join2_59 : decode prog_13_method_31_code 59 = .ok (.ifCond .ne 48, 3) := by decide +kernel
theorem d_Mo_join2_62 : decode prog_13_method_31_code 62 = .ok (.aload_n 0, 1) := by decide +kernel
theorem d_Mo_join2_63 : decode prog_13_method_31_code 63 = .ok (.iload 4, 2) := by decide +kernel
theorem d_Mo_join2_65 : decode prog_13_method_31_code 65 = .ok (.iload_n 2, 1) := by decide +kernel
theorem d_Mo_join2_66 : decode prog_13_method_31_code 66 = .ok (.invokevirtual 180, 3) := by decide +kernel
theorem d_Mo_join2_69 : decode prog_13_method_31_code 69 = .ok (.aload_n 0, 1) := by decide +kernel
theorem d_Mo_join2_70 : decode prog_13_method_31_code 70 = .ok (.getfield 26, 3) := by decide +kernel
theorem d_Mo_join2_73 : decode prog_13_method_31_code 73 = .ok (.iload_n 2, 1) := by decide +kernel
theorem d_Mo_join2_74 : decode prog_13_method_31_code 74 = .ok (.iload 5, 2) := by decide +kernel
theorem d_Mo_join2_76 : decode prog_13_method_31_code 76 = .ok (.ifCond .eq 7, 3) := by decide +kernel
theorem d_Mo_join2_79 : decode prog_13_method_31_code 79 = .ok (.iload_n 1, 1) := by decide +kernel
theorem d_Mo_join2_80 : decode prog_13_method_31_code 80 = .ok (.goto 10, 3) := by decide +kernel
theorem d_Mo_join2_83 : decode prog_13_method_31_code 83 = .ok (.aload_n 0, 1) := by decide +kernel
theorem d_Mo_join2_84 : decode prog_13_method_31_code 84 = .ok (.getfield 26, 3) := by decide +kernel
theorem d_Mo_join2_87 : decode prog_13_method_31_code 87 = .ok (.iload 4, 2) := by decide +kernel
theorem d_Mo_join2_89 : decode prog_13_method_31_code 89 = .ok (.iaload, 1) := by decide +kernel
theorem d_Mo_join2_90 : decode prog_13_method_31_code 90 = .ok (.iastore, 1) := by decide +kernel
theorem d_Mo_join2_91 : decode prog_13_method_31_code 91 = .ok (.iload 5, 2) := by decide +kernel
theorem d_Mo_join2_93 : decode prog_13_method_31_code 93 = .ok (.ifCond .eq 9, 3) := by decide +kernel
theorem d_Mo_join2_96 : decode prog_13_method_31_code 96 = .ok (.iload_n 3, 1) := by decide +kernel
theorem d_Mo_join2_97 : decode prog_13_method_31_code 97 = .ok (.iconst 1, 1) := by decide +kernel
theorem d_Mo_join2_98 : decode prog_13_method_31_code 98 = .ok (.iadd, 1) := by decide +kernel
theorem d_Mo_join2_99 : decode prog_13_method_31_code 99 = .ok (.goto 4, 3) := by decide +kernel
theorem d_Mo_join2_102 : decode prog_13_method_31_code 102 = .ok (.iload_n 3, 1) := by decide +kernel
theorem d_Mo_join2_103 : decode prog_13_method_31_code 103 = .ok (.istore_n 3, 1) := by decide +kernel
theorem d_Mo_join2_104 : decode prog_13_method_31_code 104 = .ok (.iinc 2 1, 3) := by decide +kernel
theorem d_Mo_join2_107 : decode prog_13_method_31_code 107 = .ok (.iinc 4 1, 3) := by decide +kernel
theorem d_Mo_join2_110 : decode prog_13_method_31_code 110 = .ok (.goto (-103), 3) := by decide +kernel
theorem d_Mo_join2_113 : decode prog_13_method_31_code 113 = .ok (.aload_n 0, 1) := by decide +kernel
theorem d_Mo_join2_114 : decode prog_13_method_31_code 114 = .ok (.iload_n 2, 1) := by decide +kernel
theorem d_Mo_join2_115 : decode prog_13_method_31_code 115 = .ok (.putfield 158, 3) := by decide +kernel
theorem d_Mo_join2_118 : decode prog_13_method_31_code 118 = .ok (.iload_n 3, 1) := by decide +kernel
theorem d_Mo_join2_119 : decode prog_13_method_31_code 119 = .ok (.ifCond .le 7, 3) := by decide +kernel
theorem d_Mo_join2_122 : decode prog_13_method_31_code 122 = .ok (.iconst 1, 1) := by decide +kernel
theorem d_Mo_join2_123 : decode prog_13_method_31_code 123 = .ok (.goto 4, 3) := by decide +kernel
theorem d_Mo_join2_126 : decode prog_13_method_31_code 126 = .ok (.iconst 2, 1) := by decide +kernel
theorem d_Mo_join2_127 : decode prog_13_method_31_code 127 = .ok (.istore 4, 2) := by decide +kernel
theorem d_Mo_join2_129 : decode prog_13_method_31_code 129 = .ok (.iconst 0, 1) := by decide +kernel
theorem d_Mo_join2_130 : decode prog_13_method_31_code 130 = .ok (.istore 5, 2) := by decide +kernel
theorem d_Mo_join2_132 : decode prog_13_method_31_code 132 = .ok (.iload 5, 2) := by decide +kernel
theorem d_Mo_join2_134 : decode prog_13_method_31_code 134 = .ok (.aload_n 0, 1) := by decide +kernel
theorem d_Mo_join2_135 : decode prog_13_method_31_code 135 = .ok (.getfield 158, 3) := by decide +kernel
theorem d_Mo_join2_138 : decode prog_13_method_31_code 138 = .ok (.if_icmp .ge 49, 3) := by decide +kernel
theorem d_Mo_join2_141 : decode prog_13_method_31_code 141 = .ok (.aload_n 0, 1) := by decide +kernel
theorem d_Mo_join2_142 : decode prog_13_method_31_code 142 = .ok (.getfield 26, 3) := by decide +kernel
theorem d_Mo_join2_145 : decode prog_13_method_31_code 145 = .ok (.iload 5, 2) := by decide +kernel
theorem d_Mo_join2_147 : decode prog_13_method_31_code 147 = .ok (.aload_n 0, 1) := by decide +kernel
theorem d_Mo_join2_148 : decode prog_13_method_31_code 148 = .ok (.getfield 26, 3) := by decide +kernel
theorem d_Mo_join2_151 : decode prog_13_method_31_code 151 = .ok (.iload 5, 2) := by decide +kernel
theorem d_Mo_join2_153 : decode prog_13_method_31_code 153 = .ok (.iaload, 1) := by decide +kernel
theorem d_Mo_join2_154 : decode prog_13_method_31_code 154 = .ok (.iload_n 1, 1) := by decide +kernel
theorem d_Mo_join2_155 : decode prog_13_method_31_code 155 = .ok (.iconst 1, 1) := by decide +kernel
theorem d_Mo_join2_156 : decode prog_13_method_31_code 156 = .ok (.iadd, 1) := by decide +kernel
theorem d_Mo_join2_157 : decode prog_13_method_31_code 157 = .ok (.if_icmp .le 16, 3) := by decide +kernel
theorem d_Mo_join2_160 : decode prog_13_method_31_code 160 = .ok (.aload_n 0, 1) := by decide +kernel
theorem d_Mo_join2_161 : decode prog_13_method_31_code 161 = .ok (.getfield 26, 3) := by decide +kernel
theorem d_Mo_join2_164 : decode prog_13_method_31_code 164 = .ok (.iload 5, 2) := by decide +kernel
theorem d_Mo_join2_166 : decode prog_13_method_31_code 166 = .ok (.iaload, 1) := by decide +kernel
theorem d_Mo_join2_167 : decode prog_13_method_31_code 167 = .ok (.iload 4, 2) := by decide +kernel
theorem d_Mo_join2_169 : decode prog_13_method_31_code 169 = .ok (.isub, 1) := by decide +kernel
theorem d_Mo_join2_170 : decode prog_13_method_31_code 170 = .ok (.goto 10, 3) := by decide +kernel
theorem d_Mo_join2_173 : decode prog_13_method_31_code 173 = .ok (.aload_n 0, 1) := by decide +kernel
theorem d_Mo_join2_174 : decode prog_13_method_31_code 174 = .ok (.getfield 26, 3) := by decide +kernel
theorem d_Mo_join2_177 : decode prog_13_method_31_code 177 = .ok (.iload 5, 2) := by decide +kernel
theorem d_Mo_join2_179 : decode prog_13_method_31_code 179 = .ok (.iaload, 1) := by decide +kernel
theorem d_Mo_join2_180 : decode prog_13_method_31_code 180 = .ok (.iastore, 1) := by decide +kernel
theorem d_Mo_join2_181 : decode prog_13_method_31_code 181 = .ok (.iinc 5 1, 3) := by decide +kernel
theorem d_Mo_join2_184 : decode prog_13_method_31_code 184 = .ok (.goto (-52), 3) := by decide +kernel
theorem d_Mo_join2_187 : decode prog_13_method_31_code 187 = .ok (.aload_n 0, 1) := by decide +kernel
theorem d_Mo_join2_188 : decode prog_13_method_31_code 188 = .ok (.dup, 1) := by decide +kernel
theorem d_Mo_join2_189 : decode prog_13_method_31_code 189 = .ok (.getfield 161, 3) := by decide +kernel
theorem d_Mo_join2_192 : decode prog_13_method_31_code 192 = .ok (.iload 4, 2) := by decide +kernel
theorem d_Mo_join2_194 : decode prog_13_method_31_code 194 = .ok (.isub, 1) := by decide +kernel
theorem d_Mo_join2_195 : decode prog_13_method_31_code 195 = .ok (.putfield 161, 3) := by decide +kernel
theorem d_Mo_join2_198 : decode prog_13_method_31_code 198 = .ok (.return_, 1) := by decide +kernel
theorem d_Mo_copyRow_0 : decode prog_13_method_27_code 0 = .ok (.aload_n 0, 1) := by decide +kernel
theorem d_Mo_copyRow_1 : decode prog_13_method_27_code 1 = .ok (.getfield 23, 3) := by decide +kernel
theorem d_Mo_copyRow_4 : decode prog_13_method_27_code 4 = .ok (.iload_n 2, 1) := by decide +kernel
theorem d_Mo_copyRow_5 : decode prog_13_method_27_code 5 = .ok (.aload_n 0, 1) := by decide +kernel
theorem d_Mo_copyRow_6 : decode prog_13_method_27_code 6 = .ok (.getfield 23, 3) := by decide +kernel
theorem d_Mo_copyRow_9 : decode prog_13_method_27_code 9 = .ok (.iload_n 1, 1) := by decide +kernel
theorem d_Mo_copyRow_10 : decode prog_13_method_27_code 10 = .ok (.iaload, 1) := by decide +kernel
theorem d_Mo_copyRow_11 : decode prog_13_method_27_code 11 = .ok (.iastore, 1) := by decide +kernel
theorem d_Mo_copyRow_12 : decode prog_13_method_27_code 12 = .ok (.aload_n 0, 1) := by decide +kernel
theorem d_Mo_copyRow_13 : decode prog_13_method_27_code 13 = .ok (.getfield 26, 3) := by decide +kernel
theorem d_Mo_copyRow_16 : decode prog_13_method_27_code 16 = .ok (.iload_n 2, 1) := by decide +kernel
theorem d_Mo_copyRow_17 : decode prog_13_method_27_code 17 = .ok (.aload_n 0, 1) := by decide +kernel
theorem d_Mo_copyRow_18 : decode prog_13_method_27_code 18 = .ok (.getfield 26, 3) := by decide +kernel
theorem d_Mo_copyRow_21 : decode prog_13_method_27_code 21 = .ok (.iload_n 1, 1) := by decide +kernel
theorem d_Mo_copyRow_22 : decode prog_13_method_27_code 22 = .ok (.iaload, 1) := by decide +kernel
theorem d_Mo_copyRow_23 : decode prog_13_method_27_code 23 = .ok (.iastore, 1) := by decide +kernel
theorem d_Mo_copyRow_24 : decode prog_13_method_27_code 24 = .ok (.aload_n 0, 1) := by decide +kernel
theorem d_Mo_copyRow_25 : decode prog_13_method_27_code 25 = .ok (.getfield 29, 3) := by decide +kernel
theorem d_Mo_copyRow_28 : decode prog_13_method_27_code 28 = .ok (.iload_n 2, 1) := by decide +kernel
theorem d_Mo_copyRow_29 : decode prog_13_method_27_code 29 = .ok (.aload_n 0, 1) := by decide +kernel
theorem d_Mo_copyRow_30 : decode prog_13_method_27_code 30 = .ok (.getfield 29, 3) := by decide +kernel
theorem d_Mo_copyRow_33 : decode prog_13_method_27_code 33 = .ok (.iload_n 1, 1) := by decide +kernel
theorem d_Mo_copyRow_34 : decode prog_13_method_27_code 34 = .ok (.baload, 1) := by decide +kernel
theorem d_Mo_copyRow_35 : decode prog_13_method_27_code 35 = .ok (.bastore, 1) := by decide +kernel
theorem d_Mo_copyRow_36 : decode prog_13_method_27_code 36 = .ok (.aload_n 0, 1) := by decide +kernel
theorem d_Mo_copyRow_37 : decode prog_13_method_27_code 37 = .ok (.getfield 33, 3) := by decide +kernel
theorem d_Mo_copyRow_40 : decode prog_13_method_27_code 40 = .ok (.iload_n 2, 1) := by decide +kernel
theorem d_Mo_copyRow_41 : decode prog_13_method_27_code 41 = .ok (.aload_n 0, 1) := by decide +kernel
theorem d_Mo_copyRow_42 : decode prog_13_method_27_code 42 = .ok (.getfield 33, 3) := by decide +kernel
theorem d_Mo_copyRow_45 : decode prog_13_method_27_code 45 = .ok (.iload_n 1, 1) := by decide +kernel
theorem d_Mo_copyRow_46 : decode prog_13_method_27_code 46 = .ok (.iaload, 1) := by decide +kernel
theorem d_Mo_copyRow_47 : decode prog_13_method_27_code 47 = .ok (.iastore, 1) := by decide +kernel
theorem d_Mo_copyRow_48 : decode prog_13_method_27_code 48 = .ok (.iconst 0, 1) := by decide +kernel
theorem d_Mo_copyRow_49 : decode prog_13_method_27_code 49 = .ok (.istore_n 3, 1) := by decide +kernel
theorem d_Mo_copyRow_50 : decode prog_13_method_27_code 50 = .ok (.iload_n 3, 1) := by decide +kernel
theorem d_Mo_copyRow_51 : decode prog_13_method_27_code 51 = .ok (.bipush 12, 2) := by decide +kernel
theorem d_Mo_copyRow_53 : decode prog_13_method_27_code 53 = .ok (.if_icmp .ge 31, 3) := by decide +kernel
theorem d_Mo_copyRow_56 : decode prog_13_method_27_code 56 = .ok (.aload_n 0, 1) := by decide +kernel
theorem d_Mo_copyRow_57 : decode prog_13_method_27_code 57 = .ok (.getfield 36, 3) := by decide +kernel
theorem d_Mo_copyRow_60 : decode prog_13_method_27_code 60 = .ok (.bipush 12, 2) := by decide +kernel
theorem d_Mo_copyRow_62 : decode prog_13_method_27_code 62 = .ok (.iload_n 2, 1) := by decide +kernel
theorem d_Mo_copyRow_63 : decode prog_13_method_27_code 63 = .ok (.imul, 1) := by decide +kernel
theorem d_Mo_copyRow_64 : decode prog_13_method_27_code 64 = .ok (.iload_n 3, 1) := by decide +kernel
theorem d_Mo_copyRow_65 : decode prog_13_method_27_code 65 = .ok (.iadd, 1) := by decide +kernel
theorem d_Mo_copyRow_66 : decode prog_13_method_27_code 66 = .ok (.aload_n 0, 1) := by decide +kernel
theorem d_Mo_copyRow_67 : decode prog_13_method_27_code 67 = .ok (.getfield 36, 3) := by decide +kernel
theorem d_Mo_copyRow_70 : decode prog_13_method_27_code 70 = .ok (.bipush 12, 2) := by decide +kernel
theorem d_Mo_copyRow_72 : decode prog_13_method_27_code 72 = .ok (.iload_n 1, 1) := by decide +kernel
theorem d_Mo_copyRow_73 : decode prog_13_method_27_code 73 = .ok (.imul, 1) := by decide +kernel
theorem d_Mo_copyRow_74 : decode prog_13_method_27_code 74 = .ok (.iload_n 3, 1) := by decide +kernel
theorem d_Mo_copyRow_75 : decode prog_13_method_27_code 75 = .ok (.iadd, 1) := by decide +kernel
theorem d_Mo_copyRow_76 : decode prog_13_method_27_code 76 = .ok (.laload, 1) := by decide +kernel
theorem d_Mo_copyRow_77 : decode prog_13_method_27_code 77 = .ok (.lastore, 1) := by decide +kernel
theorem d_Mo_copyRow_78 : decode prog_13_method_27_code 78 = .ok (.iinc 3 1, 3) := by decide +kernel
theorem d_Mo_copyRow_81 : decode prog_13_method_27_code 81 = .ok (.goto (-31), 3) := by decide +kernel
theorem d_Mo_copyRow_84 : decode prog_13_method_27_code 84 = .ok (.return_, 1) := by decide +kernel
theorem d_Mo_fuse_0 : decode prog_13_method_33_code 0 = .ok (.aload_n 0, 1) := by decide +kernel
theorem d_Mo_fuse_1 : decode prog_13_method_33_code 1 = .ok (.getfield 131, 3) := by decide +kernel
theorem d_Mo_fuse_4 : decode prog_13_method_33_code 4 = .ok (.ifCond .ne 14, 3) := by decide +kernel
theorem d_Mo_fuse_7 : decode prog_13_method_33_code 7 = .ok (.iload_n 1, 1) := by decide +kernel
theorem d_Mo_fuse_8 : decode prog_13_method_33_code 8 = .ok (.iconst 1, 1) := by decide +kernel
theorem d_Mo_fuse_9 : decode prog_13_method_33_code 9 = .ok (.if_icmp .lt 9, 3) := by decide +kernel
theorem d_Mo_fuse_12 : decode prog_13_method_33_code 12 = .ok (.iload_n 1, 1) := by decide +kernel
theorem d_Mo_fuse_13 : decode prog_13_method_33_code 13 = .ok (.bipush 100, 2) := by decide +kernel
theorem d_Mo_fuse_15 : decode prog_13_method_33_code 15 = .ok (.if_icmp .le 5, 3) := by decide +kernel
theorem d_Mo_fuse_18 : decode prog_13_method_33_code 18 = .ok (.iconst 0, 1) := by decide +kernel
theorem d_Mo_fuse_19 : decode prog_13_method_33_code 19 = .ok (.ireturn, 1) := by decide +kernel
theorem d_Mo_fuse_20 : decode prog_13_method_33_code 20 = .ok (.aload_n 0, 1) := by decide +kernel
theorem d_Mo_fuse_21 : decode prog_13_method_33_code 21 = .ok (.iload_n 1, 1) := by decide +kernel
theorem d_Mo_fuse_22 : decode prog_13_method_33_code 22 = .ok (.putfield 152, 3) := by decide +kernel
theorem d_Mo_fuse_25 : decode prog_13_method_33_code 25 = .ok (.iconst 1, 1) := by decide +kernel
theorem d_Mo_fuse_26 : decode prog_13_method_33_code 26 = .ok (.ireturn, 1) := by decide +kernel
theorem d_Mo_restart_0 : decode prog_13_method_34_code 0 = .ok (.aload_n 0, 1) := by decide +kernel
theorem d_Mo_restart_1 : decode prog_13_method_34_code 1 = .ok (.getfield 131, 3) := by decide +kernel
theorem d_Mo_restart_4 : decode prog_13_method_34_code 4 = .ok (.istore_n 1, 1) := by decide +kernel
theorem d_Mo_restart_5 : decode prog_13_method_34_code 5 = .ok (.aload_n 0, 1) := by decide +kernel
theorem d_Mo_restart_6 : decode prog_13_method_34_code 6 = .ok (.iconst 0, 1) := by decide +kernel
theorem d_Mo_restart_7 : decode prog_13_method_34_code 7 = .ok (.putfield 131, 3) := by decide +kernel
theorem d_Mo_restart_10 : decode prog_13_method_34_code 10 = .ok (.iload_n 1, 1) := by decide +kernel
theorem d_Mo_restart_11 : decode prog_13_method_34_code 11 = .ok (.ireturn, 1) := by decide +kernel
theorem d_Mo_term_0 : decode prog_13_method_36_code 0 = .ok (.aload_n 0, 1) := by decide +kernel
theorem d_Mo_term_1 : decode prog_13_method_36_code 1 = .ok (.getfield 131, 3) := by decide +kernel
theorem d_Mo_term_4 : decode prog_13_method_36_code 4 = .ok (.ifCond .eq 6, 3) := by decide +kernel
theorem d_Mo_term_7 : decode prog_13_method_36_code 7 = .ok (.bipush (-9), 2) := by decide +kernel
theorem d_Mo_term_9 : decode prog_13_method_36_code 9 = .ok (.ireturn, 1) := by decide +kernel
theorem d_Mo_term_10 : decode prog_13_method_36_code 10 = .ok (.lload_n 1, 1) := by decide +kernel
theorem d_Mo_term_11 : decode prog_13_method_36_code 11 = .ok (.invokestatic 122, 3) := by decide +kernel
theorem d_Mo_term_14 : decode prog_13_method_36_code 14 = .ok (.ifCond .eq 12, 3) := by decide +kernel
theorem d_Mo_term_17 : decode prog_13_method_36_code 17 = .ok (.aload_n 0, 1) := by decide +kernel
theorem d_Mo_term_18 : decode prog_13_method_36_code 18 = .ok (.getfield 149, 3) := by decide +kernel
theorem d_Mo_term_21 : decode prog_13_method_36_code 21 = .ok (.bipush 8, 2) := by decide +kernel
theorem d_Mo_term_23 : decode prog_13_method_36_code 23 = .ok (.if_icmp .ne 5, 3) := by decide +kernel
theorem d_Mo_term_26 : decode prog_13_method_36_code 26 = .ok (.iconst (-1), 1) := by decide +kernel
theorem d_Mo_term_27 : decode prog_13_method_36_code 27 = .ok (.ireturn, 1) := by decide +kernel
theorem d_Mo_term_28 : decode prog_13_method_36_code 28 = .ok (.aload_n 0, 1) := by decide +kernel
theorem d_Mo_term_29 : decode prog_13_method_36_code 29 = .ok (.iconst 0, 1) := by decide +kernel
theorem d_Mo_term_30 : decode prog_13_method_36_code 30 = .ok (.lload_n 1, 1) := by decide +kernel
theorem d_Mo_term_31 : decode prog_13_method_36_code 31 = .ok (.invokestatic 139, 3) := by decide +kernel
theorem d_Mo_term_34 : decode prog_13_method_36_code 34 = .ok (.iconst 1, 1) := by decide +kernel
theorem d_Mo_term_35 : decode prog_13_method_36_code 35 = .ok (.invokevirtual 188, 3) := by decide +kernel
theorem d_Mo_term_38 : decode prog_13_method_36_code 38 = .ok (.aload_n 0, 1) := by decide +kernel
theorem d_Mo_term_39 : decode prog_13_method_36_code 39 = .ok (.getfield 149, 3) := by decide +kernel
theorem d_Mo_term_42 : decode prog_13_method_36_code 42 = .ok (.ireturn, 1) := by decide +kernel
theorem d_Mo_push_0 : decode prog_13_method_35_code 0 = .ok (.aload_n 0, 1) := by decide +kernel
theorem d_Mo_push_1 : decode prog_13_method_35_code 1 = .ok (.getfield 39, 3) := by decide +kernel
theorem d_Mo_push_4 : decode prog_13_method_35_code 4 = .ok (.aload_n 0, 1) := by decide +kernel
theorem d_Mo_push_5 : decode prog_13_method_35_code 5 = .ok (.getfield 146, 3) := by decide +kernel
theorem d_Mo_push_8 : decode prog_13_method_35_code 8 = .ok (.iload_n 1, 1) := by decide +kernel
theorem d_Mo_push_9 : decode prog_13_method_35_code 9 = .ok (.iastore, 1) := by decide +kernel
theorem d_Mo_push_10 : decode prog_13_method_35_code 10 = .ok (.aload_n 0, 1) := by decide +kernel
theorem d_Mo_push_11 : decode prog_13_method_35_code 11 = .ok (.getfield 42, 3) := by decide +kernel
theorem d_Mo_push_14 : decode prog_13_method_35_code 14 = .ok (.aload_n 0, 1) := by decide +kernel
theorem d_Mo_push_15 : decode prog_13_method_35_code 15 = .ok (.getfield 146, 3) := by decide +kernel
theorem d_Mo_push_18 : decode prog_13_method_35_code 18 = .ok (.lload_n 2, 1) := by decide +kernel
theorem d_Mo_push_19 : decode prog_13_method_35_code 19 = .ok (.lastore, 1) := by decide +kernel
theorem d_Mo_push_20 : decode prog_13_method_35_code 20 = .ok (.aload_n 0, 1) := by decide +kernel
theorem d_Mo_push_21 : decode prog_13_method_35_code 21 = .ok (.dup, 1) := by decide +kernel
theorem d_Mo_push_22 : decode prog_13_method_35_code 22 = .ok (.getfield 146, 3) := by decide +kernel
theorem d_Mo_push_25 : decode prog_13_method_35_code 25 = .ok (.iconst 1, 1) := by decide +kernel
theorem d_Mo_push_26 : decode prog_13_method_35_code 26 = .ok (.iadd, 1) := by decide +kernel
theorem d_Mo_push_27 : decode prog_13_method_35_code 27 = .ok (.putfield 146, 3) := by decide +kernel
theorem d_Mo_push_30 : decode prog_13_method_35_code 30 = .ok (.aload_n 0, 1) := by decide +kernel
theorem d_Mo_push_31 : decode prog_13_method_35_code 31 = .ok (.getfield 45, 3) := by decide +kernel
theorem d_Mo_push_34 : decode prog_13_method_35_code 34 = .ok (.aload_n 0, 1) := by decide +kernel
theorem d_Mo_push_35 : decode prog_13_method_35_code 35 = .ok (.getfield 149, 3) := by decide +kernel
theorem d_Mo_push_38 : decode prog_13_method_35_code 38 = .ok (.iload 4, 2) := by decide +kernel
theorem d_Mo_push_40 : decode prog_13_method_35_code 40 = .ok (.bastore, 1) := by decide +kernel
theorem d_Mo_push_41 : decode prog_13_method_35_code 41 = .ok (.aload_n 0, 1) := by decide +kernel
theorem d_Mo_push_42 : decode prog_13_method_35_code 42 = .ok (.getfield 48, 3) := by decide +kernel
theorem d_Mo_push_45 : decode prog_13_method_35_code 45 = .ok (.aload_n 0, 1) := by decide +kernel
theorem d_Mo_push_46 : decode prog_13_method_35_code 46 = .ok (.getfield 149, 3) := by decide +kernel
theorem d_Mo_push_49 : decode prog_13_method_35_code 49 = .ok (.iload 4, 2) := by decide +kernel
theorem d_Mo_push_51 : decode prog_13_method_35_code 51 = .ok (.ifCond .eq 7, 3) := by decide +kernel
theorem d_Mo_push_54 : decode prog_13_method_35_code 54 = .ok (.iconst 0, 1) := by decide +kernel
theorem d_Mo_push_55 : decode prog_13_method_35_code 55 = .ok (.goto 4, 3) := by decide +kernel
theorem d_Mo_push_58 : decode prog_13_method_35_code 58 = .ok (.iconst 1, 1) := by decide +kernel
theorem d_Mo_push_59 : decode prog_13_method_35_code 59 = .ok (.iastore, 1) := by decide +kernel
theorem d_Mo_push_60 : decode prog_13_method_35_code 60 = .ok (.aload_n 0, 1) := by decide +kernel
theorem d_Mo_push_61 : decode prog_13_method_35_code 61 = .ok (.dup, 1) := by decide +kernel
theorem d_Mo_push_62 : decode prog_13_method_35_code 62 = .ok (.getfield 149, 3) := by decide +kernel
theorem d_Mo_push_65 : decode prog_13_method_35_code 65 = .ok (.iconst 1, 1) := by decide +kernel
theorem d_Mo_push_66 : decode prog_13_method_35_code 66 = .ok (.iadd, 1) := by decide +kernel
theorem d_Mo_push_67 : decode prog_13_method_35_code 67 = .ok (.putfield 149, 3) := by decide +kernel
theorem d_Mo_push_70 : decode prog_13_method_35_code 70 = .ok (.return_, 1) := by decide +kernel
theorem d_Mo_phrase_0 : decode prog_13_method_37_code 0 = .ok (.aload_n 0, 1) := by decide +kernel
theorem d_Mo_phrase_1 : decode prog_13_method_37_code 1 = .ok (.getfield 131, 3) := by decide +kernel
theorem d_Mo_phrase_4 : decode prog_13_method_37_code 4 = .ok (.ifCond .eq 6, 3) := by decide +kernel
theorem d_Mo_phrase_7 : decode prog_13_method_37_code 7 = .ok (.bipush (-9), 2) := by decide +kernel
theorem d_Mo_phrase_9 : decode prog_13_method_37_code 9 = .ok (.ireturn, 1) := by decide +kernel
theorem d_Mo_phrase_10 : decode prog_13_method_37_code 10 = .ok (.iload_n 1, 1) := by decide +kernel
theorem d_Mo_phrase_11 : decode prog_13_method_37_code 11 = .ok (.iconst 2, 1) := by decide +kernel
theorem d_Mo_phrase_12 : decode prog_13_method_37_code 12 = .ok (.if_icmp .lt 11, 3) := by decide +kernel
theorem d_Mo_phrase_15 : decode prog_13_method_37_code 15 = .ok (.iload_n 1, 1) := by decide +kernel
theorem d_Mo_phrase_16 : decode prog_13_method_37_code 16 = .ok (.aload_n 0, 1) := by decide +kernel
theorem d_Mo_phrase_17 : decode prog_13_method_37_code 17 = .ok (.getfield 149, 3) := by decide +kernel
theorem d_Mo_phrase_20 : decode prog_13_method_37_code 20 = .ok (.if_icmp .le 5, 3) := by decide +kernel
theorem d_Mo_phrase_23 : decode prog_13_method_37_code 23 = .ok (.iconst (-1), 1) := by decide +kernel
theorem d_Mo_phrase_24 : decode prog_13_method_37_code 24 = .ok (.ireturn, 1) := by decide +kernel
theorem d_Mo_phrase_25 : decode prog_13_method_37_code 25 = .ok (.aload_n 0, 1) := by decide +kernel
theorem d_Mo_phrase_26 : decode prog_13_method_37_code 26 = .ok (.getfield 149, 3) := by decide +kernel
theorem d_Mo_phrase_29 : decode prog_13_method_37_code 29 = .ok (.iload_n 1, 1) := by decide +kernel
theorem d_Mo_phrase_30 : decode prog_13_method_37_code 30 = .ok (.isub, 1) := by decide +kernel
theorem d_Mo_phrase_31 : decode prog_13_method_37_code 31 = .ok (.istore_n 2, 1) := by decide +kernel
theorem d_Mo_phrase_32 : decode prog_13_method_37_code 32 = .ok (.iload_n 2, 1) := by decide +kernel
theorem d_Mo_phrase_33 : decode prog_13_method_37_code 33 = .ok (.aload_n 0, 1) := by decide +kernel
theorem d_Mo_phrase_34 : decode prog_13_method_37_code 34 = .ok (.getfield 149, 3) := by decide +kernel
theorem d_Mo_phrase_37 : decode prog_13_method_37_code 37 = .ok (.if_icmp .ge 20, 3) := by decide +kernel
theorem d_Mo_phrase_40 : decode prog_13_method_37_code 40 = .ok (.aload_n 0, 1) := by decide +kernel
theorem d_Mo_phrase_41 : decode prog_13_method_37_code 41 = .ok (.getfield 45, 3) := by decide +kernel
theorem d_Mo_phrase_44 : decode prog_13_method_37_code 44 = .ok (.iload_n 2, 1) := by decide +kernel
theorem d_Mo_phrase_45 : decode prog_13_method_37_code 45 = .ok (.baload, 1) := by decide +kernel
theorem d_Mo_phrase_46 : decode prog_13_method_37_code 46 = .ok (.ifCond .ne 5, 3) := by decide +kernel
theorem d_Mo_phrase_49 : decode prog_13_method_37_code 49 = .ok (.iconst (-1), 1) := by decide +kernel
theorem d_Mo_phrase_50 : decode prog_13_method_37_code 50 = .ok (.ireturn, 1) := by decide +kernel
theorem d_Mo_phrase_51 : decode prog_13_method_37_code 51 = .ok (.iinc 2 1, 3) := by decide +kernel
theorem d_Mo_phrase_54 : decode prog_13_method_37_code 54 = .ok (.goto (-22), 3) := by decide +kernel
theorem d_Mo_phrase_57 : decode prog_13_method_37_code 57 = .ok (.aload_n 0, 1) := by decide +kernel
theorem d_Mo_phrase_58 : decode prog_13_method_37_code 58 = .ok (.dup, 1) := by decide +kernel
theorem d_Mo_phrase_59 : decode prog_13_method_37_code 59 = .ok (.getfield 149, 3) := by decide +kernel
theorem d_Mo_phrase_62 : decode prog_13_method_37_code 62 = .ok (.iload_n 1, 1) := by decide +kernel
theorem d_Mo_phrase_63 : decode prog_13_method_37_code 63 = .ok (.isub, 1) := by decide +kernel
theorem d_Mo_phrase_64 : decode prog_13_method_37_code 64 = .ok (.putfield 149, 3) := by decide +kernel
theorem d_Mo_phrase_67 : decode prog_13_method_37_code 67 = .ok (.aload_n 0, 1) := by decide +kernel
theorem d_Mo_phrase_68 : decode prog_13_method_37_code 68 = .ok (.iconst 1, 1) := by decide +kernel
theorem d_Mo_phrase_69 : decode prog_13_method_37_code 69 = .ok (.iload_n 1, 1) := by decide +kernel
theorem d_Mo_phrase_70 : decode prog_13_method_37_code 70 = .ok (.i2l, 1) := by decide +kernel
theorem d_Mo_phrase_71 : decode prog_13_method_37_code 71 = .ok (.iconst 0, 1) := by decide +kernel
theorem d_Mo_phrase_72 : decode prog_13_method_37_code 72 = .ok (.invokevirtual 188, 3) := by decide +kernel
theorem d_Mo_phrase_75 : decode prog_13_method_37_code 75 = .ok (.aload_n 0, 1) := by decide +kernel
theorem d_Mo_phrase_76 : decode prog_13_method_37_code 76 = .ok (.getfield 149, 3) := by decide +kernel
theorem d_Mo_phrase_79 : decode prog_13_method_37_code 79 = .ok (.ireturn, 1) := by decide +kernel
theorem d_Mo_join_0 : decode prog_13_method_38_code 0 = .ok (.aload_n 0, 1) := by decide +kernel
theorem d_Mo_join_1 : decode prog_13_method_38_code 1 = .ok (.getfield 131, 3) := by decide +kernel
theorem d_Mo_join_4 : decode prog_13_method_38_code 4 = .ok (.ifCond .eq 6, 3) := by decide +kernel
theorem d_Mo_join_7 : decode prog_13_method_38_code 7 = .ok (.bipush (-9), 2) := by decide +kernel
theorem d_Mo_join_9 : decode prog_13_method_38_code 9 = .ok (.ireturn, 1) := by decide +kernel
theorem d_Mo_join_10 : decode prog_13_method_38_code 10 = .ok (.iload_n 1, 1) := by decide +kernel
theorem d_Mo_join_11 : decode prog_13_method_38_code 11 = .ok (.ifCond .lt 25, 3) := by decide +kernel
theorem d_Mo_join_14 : decode prog_13_method_38_code 14 = .ok (.iload_n 1, 1) := by decide +kernel
theorem d_Mo_join_15 : decode prog_13_method_38_code 15 = .ok (.iconst 2, 1) := by decide +kernel
theorem d_Mo_join_16 : decode prog_13_method_38_code 16 = .ok (.if_icmp .gt 20, 3) := by decide +kernel
theorem d_Mo_join_19 : decode prog_13_method_38_code 19 = .ok (.aload_n 0, 1) := by decide +kernel
theorem d_Mo_join_20 : decode prog_13_method_38_code 20 = .ok (.getfield 149, 3) := by decide +kernel
theorem d_Mo_join_23 : decode prog_13_method_38_code 23 = .ok (.iload_n 1, 1) := by decide +kernel
theorem d_Mo_join_24 : decode prog_13_method_38_code 24 = .ok (.iconst 2, 1) := by decide +kernel
theorem d_Mo_join_25 : decode prog_13_method_38_code 25 = .ok (.if_icmp .ne 7, 3) := by decide +kernel
theorem d_Mo_join_28 : decode prog_13_method_38_code 28 = .ok (.iconst 1, 1) := by decide +kernel
theorem d_Mo_join_29 : decode prog_13_method_38_code 29 = .ok (.goto 4, 3) := by decide +kernel
theorem d_Mo_join_32 : decode prog_13_method_38_code 32 = .ok (.iconst 2, 1) := by decide +kernel
theorem d_Mo_join_33 : decode prog_13_method_38_code 33 = .ok (.if_icmp .ge 5, 3) := by decide +kernel
theorem d_Mo_join_36 : decode prog_13_method_38_code 36 = .ok (.iconst (-1), 1) := by decide +kernel
theorem d_Mo_join_37 : decode prog_13_method_38_code 37 = .ok (.ireturn, 1) := by decide +kernel
theorem d_Mo_join_38 : decode prog_13_method_38_code 38 = .ok (.aload_n 0, 1) := by decide +kernel
theorem d_Mo_join_39 : decode prog_13_method_38_code 39 = .ok (.getfield 48, 3) := by decide +kernel
theorem d_Mo_join_42 : decode prog_13_method_38_code 42 = .ok (.aload_n 0, 1) := by decide +kernel
theorem d_Mo_join_43 : decode prog_13_method_38_code 43 = .ok (.getfield 149, 3) := by decide +kernel
theorem d_Mo_join_46 : decode prog_13_method_38_code 46 = .ok (.iconst 1, 1) := by decide +kernel
theorem d_Mo_join_47 : decode prog_13_method_38_code 47 = .ok (.isub, 1) := by decide +kernel
theorem d_Mo_join_48 : decode prog_13_method_38_code 48 = .ok (.iaload, 1) := by decide +kernel
theorem d_Mo_join_49 : decode prog_13_method_38_code 49 = .ok (.istore_n 2, 1) := by decide +kernel
theorem d_Mo_join_50 : decode prog_13_method_38_code 50 = .ok (.iload_n 1, 1) := by decide +kernel
theorem d_Mo_join_51 : decode prog_13_method_38_code 51 = .ok (.iconst 2, 1) := by decide +kernel
theorem d_Mo_join_52 : decode prog_13_method_38_code 52 = .ok (.if_icmp .ge 32, 3) := by decide +kernel
theorem d_Mo_join_55 : decode prog_13_method_38_code 55 = .ok (.aload_n 0, 1) := by decide +kernel
theorem d_Mo_join_56 : decode prog_13_method_38_code 56 = .ok (.getfield 48, 3) := by decide +kernel
theorem d_Mo_join_59 : decode prog_13_method_38_code 59 = .ok (.aload_n 0, 1) := by decide +kernel
theorem d_Mo_join_60 : decode prog_13_method_38_code 60 = .ok (.getfield 149, 3) := by decide +kernel
theorem d_Mo_join_63 : decode prog_13_method_38_code 63 = .ok (.iconst 2, 1) := by decide +kernel
theorem d_Mo_join_64 : decode prog_13_method_38_code 64 = .ok (.isub, 1) := by decide +kernel
theorem d_Mo_join_65 : decode prog_13_method_38_code 65 = .ok (.iaload, 1) := by decide +kernel
theorem d_Mo_join_66 : decode prog_13_method_38_code 66 = .ok (.iload_n 2, 1) := by decide +kernel
theorem d_Mo_join_67 : decode prog_13_method_38_code 67 = .ok (.if_icmp .le 17, 3) := by decide +kernel
theorem d_Mo_join_70 : decode prog_13_method_38_code 70 = .ok (.aload_n 0, 1) := by decide +kernel
theorem d_Mo_join_71 : decode prog_13_method_38_code 71 = .ok (.getfield 48, 3) := by decide +kernel
theorem d_Mo_join_74 : decode prog_13_method_38_code 74 = .ok (.aload_n 0, 1) := by decide +kernel
theorem d_Mo_join_75 : decode prog_13_method_38_code 75 = .ok (.getfield 149, 3) := by decide +kernel
theorem d_Mo_join_78 : decode prog_13_method_38_code 78 = .ok (.iconst 2, 1) := by decide +kernel
theorem d_Mo_join_79 : decode prog_13_method_38_code 79 = .ok (.isub, 1) := by decide +kernel
theorem d_Mo_join_80 : decode prog_13_method_38_code 80 = .ok (.iaload, 1) := by decide +kernel
theorem d_Mo_join_81 : decode prog_13_method_38_code 81 = .ok (.goto 4, 3) := by decide +kernel
theorem d_Mo_join_84 : decode prog_13_method_38_code 84 = .ok (.iload_n 2, 1) := by decide +kernel
theorem d_Mo_join_85 : decode prog_13_method_38_code 85 = .ok (.istore_n 2, 1) := by decide +kernel
theorem d_Mo_join_86 : decode prog_13_method_38_code 86 = .ok (.iload_n 2, 1) := by decide +kernel
theorem d_Mo_join_87 : decode prog_13_method_38_code 87 = .ok (.bipush 6, 2) := by decide +kernel
theorem d_Mo_join_89 : decode prog_13_method_38_code 89 = .ok (.if_icmp .ne 5, 3) := by decide +kernel
theorem d_Mo_join_92 : decode prog_13_method_38_code 92 = .ok (.iconst (-1), 1) := by decide +kernel
theorem d_Mo_join_93 : decode prog_13_method_38_code 93 = .ok (.ireturn, 1) := by decide +kernel
theorem d_Mo_join_94 : decode prog_13_method_38_code 94 = .ok (.aload_n 0, 1) := by decide +kernel
theorem d_Mo_join_95 : decode prog_13_method_38_code 95 = .ok (.dup, 1) := by decide +kernel
theorem d_Mo_join_96 : decode prog_13_method_38_code 96 = .ok (.getfield 149, 3) := by decide +kernel
theorem d_Mo_join_99 : decode prog_13_method_38_code 99 = .ok (.iload_n 1, 1) := by decide +kernel
theorem d_Mo_join_100 : decode prog_13_method_38_code 100 = .ok (.iconst 2, 1) := by decide +kernel
theorem d_Mo_join_101 : decode prog_13_method_38_code 101 = .ok (.if_icmp .ne 7, 3) := by decide +kernel
theorem d_Mo_join_104 : decode prog_13_method_38_code 104 = .ok (.iconst 1, 1) := by decide +kernel
theorem d_Mo_join_105 : decode prog_13_method_38_code 105 = .ok (.goto 4, 3) := by decide +kernel
theorem d_Mo_join_108 : decode prog_13_method_38_code 108 = .ok (.iconst 2, 1) := by decide +kernel
theorem d_Mo_join_109 : decode prog_13_method_38_code 109 = .ok (.isub, 1) := by decide +kernel
theorem d_Mo_join_110 : decode prog_13_method_38_code 110 = .ok (.putfield 149, 3) := by decide +kernel
theorem d_Mo_join_113 : decode prog_13_method_38_code 113 = .ok (.aload_n 0, 1) := by decide +kernel
theorem d_Mo_join_114 : decode prog_13_method_38_code 114 = .ok (.iconst 2, 1) := by decide +kernel
theorem d_Mo_join_115 : decode prog_13_method_38_code 115 = .ok (.iload_n 1, 1) := by decide +kernel
theorem d_Mo_join_116 : decode prog_13_method_38_code 116 = .ok (.iadd, 1) := by decide +kernel
theorem d_Mo_join_117 : decode prog_13_method_38_code 117 = .ok (.lconst 0, 1) := by decide +kernel
theorem d_Mo_join_118 : decode prog_13_method_38_code 118 = .ok (.iconst 0, 1) := by decide +kernel
theorem d_Mo_join_119 : decode prog_13_method_38_code 119 = .ok (.invokevirtual 188, 3) := by decide +kernel
theorem d_Mo_join_122 : decode prog_13_method_38_code 122 = .ok (.aload_n 0, 1) := by decide +kernel
theorem d_Mo_join_123 : decode prog_13_method_38_code 123 = .ok (.getfield 48, 3) := by decide +kernel
theorem d_Mo_join_126 : decode prog_13_method_38_code 126 = .ok (.aload_n 0, 1) := by decide +kernel
theorem d_Mo_join_127 : decode prog_13_method_38_code 127 = .ok (.getfield 149, 3) := by decide +kernel
theorem d_Mo_join_130 : decode prog_13_method_38_code 130 = .ok (.iconst 1, 1) := by decide +kernel
theorem d_Mo_join_131 : decode prog_13_method_38_code 131 = .ok (.isub, 1) := by decide +kernel
theorem d_Mo_join_132 : decode prog_13_method_38_code 132 = .ok (.iload_n 2, 1) := by decide +kernel
theorem d_Mo_join_133 : decode prog_13_method_38_code 133 = .ok (.iconst 1, 1) := by decide +kernel
theorem d_Mo_join_134 : decode prog_13_method_38_code 134 = .ok (.iadd, 1) := by decide +kernel
theorem d_Mo_join_135 : decode prog_13_method_38_code 135 = .ok (.iastore, 1) := by decide +kernel
theorem d_Mo_join_136 : decode prog_13_method_38_code 136 = .ok (.aload_n 0, 1) := by decide +kernel
theorem d_Mo_join_137 : decode prog_13_method_38_code 137 = .ok (.getfield 149, 3) := by decide +kernel
theorem d_Mo_join_140 : decode prog_13_method_38_code 140 = .ok (.ireturn, 1) := by decide +kernel
theorem d_Mo_find_0 : decode prog_13_method_43_code 0 = .ok (.aload_n 0, 1) := by decide +kernel
theorem d_Mo_find_1 : decode prog_13_method_43_code 1 = .ok (.getfield 131, 3) := by decide +kernel
theorem d_Mo_find_4 : decode prog_13_method_43_code 4 = .ok (.ifCond .eq 6, 3) := by decide +kernel
theorem d_Mo_find_7 : decode prog_13_method_43_code 7 = .ok (.bipush (-9), 2) := by decide +kernel
theorem d_Mo_find_9 : decode prog_13_method_43_code 9 = .ok (.ireturn, 1) := by decide +kernel
theorem d_Mo_find_10 : decode prog_13_method_43_code 10 = .ok (.aload_n 0, 1) := by decide +kernel
theorem d_Mo_find_11 : decode prog_13_method_43_code 11 = .ok (.iconst 0, 1) := by decide +kernel
theorem d_Mo_find_12 : decode prog_13_method_43_code 12 = .ok (.putfield 200, 3) := by decide +kernel
theorem d_Mo_find_15 : decode prog_13_method_43_code 15 = .ok (.aload_n 0, 1) := by decide +kernel
theorem d_Mo_find_16 : decode prog_13_method_43_code 16 = .ok (.getfield 149, 3) := by decide +kernel
theorem d_Mo_find_19 : decode prog_13_method_43_code 19 = .ok (.iconst 1, 1) := by decide +kernel
theorem d_Mo_find_20 : decode prog_13_method_43_code 20 = .ok (.if_icmp .ne 7, 3) := by decide +kernel
theorem d_Mo_find_23 : decode prog_13_method_43_code 23 = .ok (.iconst 1, 1) := by decide +kernel
theorem d_Mo_find_24 : decode prog_13_method_43_code 24 = .ok (.goto 4, 3) := by decide +kernel
theorem d_Mo_find_27 : decode prog_13_method_43_code 27 = .ok (.iconst 0, 1) := by decide +kernel
theorem d_Mo_find_28 : decode prog_13_method_43_code 28 = .ok (.istore_n 1, 1) := by decide +kernel
theorem d_Mo_find_29 : decode prog_13_method_43_code 29 = .ok (.aload_n 0, 1) := by decide +kernel
theorem d_Mo_find_30 : decode prog_13_method_43_code 30 = .ok (.invokevirtual 203, 3) := by decide +kernel
theorem d_Mo_find_33 : decode prog_13_method_43_code 33 = .ok (.iconst 0, 1) := by decide +kernel
theorem d_Mo_find_34 : decode prog_13_method_43_code 34 = .ok (.istore_n 2, 1) := by decide +kernel
theorem d_Mo_find_35 : decode prog_13_method_43_code 35 = .ok (.iload_n 2, 1) := by decide +kernel
theorem d_Mo_find_36 : decode prog_13_method_43_code 36 = .ok (.bipush 12, 2) := by decide +kernel
theorem d_Mo_find_38 : decode prog_13_method_43_code 38 = .ok (.if_icmp .ge 65, 3) := by decide +kernel
theorem d_Mo_find_41 : decode prog_13_method_43_code 41 = .ok (.iload_n 1, 1) := by decide +kernel
theorem d_Mo_find_42 : decode prog_13_method_43_code 42 = .ok (.ifCond .eq 61, 3) := by decide +kernel
theorem d_Mo_find_45 : decode prog_13_method_43_code 45 = .ok (.aload_n 0, 1) := by decide +kernel
theorem d_Mo_find_46 : decode prog_13_method_43_code 46 = .ok (.getfield 60, 3) := by decide +kernel
theorem d_Mo_find_49 : decode prog_13_method_43_code 49 = .ok (.iload_n 2, 1) := by decide +kernel
theorem d_Mo_find_50 : decode prog_13_method_43_code 50 = .ok (.iaload, 1) := by decide +kernel
theorem d_Mo_find_51 : decode prog_13_method_43_code 51 = .ok (.ifCond .lt 46, 3) := by decide +kernel
theorem d_Mo_find_54 : decode prog_13_method_43_code 54 = .ok (.aload_n 0, 1) := by decide +kernel
theorem d_Mo_find_55 : decode prog_13_method_43_code 55 = .ok (.aload_n 0, 1) := by decide +kernel
theorem d_Mo_find_56 : decode prog_13_method_43_code 56 = .ok (.getfield 60, 3) := by decide +kernel
theorem d_Mo_find_59 : decode prog_13_method_43_code 59 = .ok (.iload_n 2, 1) := by decide +kernel
theorem d_Mo_find_60 : decode prog_13_method_43_code 60 = .ok (.iaload, 1) := by decide +kernel
theorem d_Mo_find_61 : decode prog_13_method_43_code 61 = .ok (.invokevirtual 206, 3) := by decide +kernel
theorem d_Mo_find_64 : decode prog_13_method_43_code 64 = .ok (.ifCond .eq 33, 3) := by decide +kernel
theorem d_Mo_find_67 : decode prog_13_method_43_code 67 = .ok (.aload_n 0, 1) := by decide +kernel
theorem d_Mo_find_68 : decode prog_13_method_43_code 68 = .ok (.getfield 54, 3) := by decide +kernel
theorem d_Mo_find_71 : decode prog_13_method_43_code 71 = .ok (.aload_n 0, 1) := by decide +kernel
theorem d_Mo_find_72 : decode prog_13_method_43_code 72 = .ok (.getfield 200, 3) := by decide +kernel
theorem d_Mo_find_75 : decode prog_13_method_43_code 75 = .ok (.iload_n 2, 1) := by decide +kernel
theorem d_Mo_find_76 : decode prog_13_method_43_code 76 = .ok (.iastore, 1) := by decide +kernel
theorem d_Mo_find_77 : decode prog_13_method_43_code 77 = .ok (.aload_n 0, 1) := by decide +kernel
theorem d_Mo_find_78 : decode prog_13_method_43_code 78 = .ok (.getfield 57, 3) := by decide +kernel
theorem d_Mo_find_81 : decode prog_13_method_43_code 81 = .ok (.aload_n 0, 1) := by decide +kernel
theorem d_Mo_find_82 : decode prog_13_method_43_code 82 = .ok (.getfield 200, 3) := by decide +kernel
theorem d_Mo_find_85 : decode prog_13_method_43_code 85 = .ok (.lconst 0, 1) := by decide +kernel
theorem d_Mo_find_86 : decode prog_13_method_43_code 86 = .ok (.lastore, 1) := by decide +kernel
theorem d_Mo_find_87 : decode prog_13_method_43_code 87 = .ok (.aload_n 0, 1) := by decide +kernel
theorem d_Mo_find_88 : decode prog_13_method_43_code 88 = .ok (.dup, 1) := by decide +kernel
theorem d_Mo_find_89 : decode prog_13_method_43_code 89 = .ok (.getfield 200, 3) := by decide +kernel
theorem d_Mo_find_92 : decode prog_13_method_43_code 92 = .ok (.iconst 1, 1) := by decide +kernel
theorem d_Mo_find_93 : decode prog_13_method_43_code 93 = .ok (.iadd, 1) := by decide +kernel
theorem d_Mo_find_94 : decode prog_13_method_43_code 94 = .ok (.putfield 200, 3) := by decide +kernel
theorem d_Mo_find_97 : decode prog_13_method_43_code 97 = .ok (.iinc 2 1, 3) := by decide +kernel
theorem d_Mo_find_100 : decode prog_13_method_43_code 100 = .ok (.goto (-65), 3) := by decide +kernel
theorem d_Mo_find_103 : decode prog_13_method_43_code 103 = .ok (.aload_n 0, 1) := by decide +kernel
theorem d_Mo_find_104 : decode prog_13_method_43_code 104 = .ok (.iconst 0, 1) := by decide +kernel
theorem d_Mo_find_105 : decode prog_13_method_43_code 105 = .ok (.putfield 146, 3) := by decide +kernel
theorem d_Mo_find_108 : decode prog_13_method_43_code 108 = .ok (.aload_n 0, 1) := by decide +kernel
theorem d_Mo_find_109 : decode prog_13_method_43_code 109 = .ok (.iconst 0, 1) := by decide +kernel
theorem d_Mo_find_110 : decode prog_13_method_43_code 110 = .ok (.putfield 149, 3) := by decide +kernel
theorem d_Mo_find_113 : decode prog_13_method_43_code 113 = .ok (.iload_n 1, 1) := by decide +kernel
theorem d_Mo_find_114 : decode prog_13_method_43_code 114 = .ok (.ifCond .eq 10, 3) := by decide +kernel
theorem d_Mo_find_117 : decode prog_13_method_43_code 117 = .ok (.aload_n 0, 1) := by decide +kernel
theorem d_Mo_find_118 : decode prog_13_method_43_code 118 = .ok (.getfield 200, 3) := by decide +kernel
theorem d_Mo_find_121 : decode prog_13_method_43_code 121 = .ok (.goto 5, 3) := by decide +kernel
theorem d_Mo_find_124 : decode prog_13_method_43_code 124 = .ok (.bipush (-3), 2) := by decide +kernel
theorem d_Mo_find_126 : decode prog_13_method_43_code 126 = .ok (.ireturn, 1) := by decide +kernel
theorem d_Mo_lookUp_0 : decode prog_13_method_42_code 0 = .ok (.iconst 0, 1) := by decide +kernel
theorem d_Mo_lookUp_1 : decode prog_13_method_42_code 1 = .ok (.istore_n 1, 1) := by decide +kernel
theorem d_Mo_lookUp_2 : decode prog_13_method_42_code 2 = .ok (.iload_n 1, 1) := by decide +kernel
theorem d_Mo_lookUp_3 : decode prog_13_method_42_code 3 = .ok (.bipush 12, 2) := by decide +kernel
theorem d_Mo_lookUp_5 : decode prog_13_method_42_code 5 = .ok (.if_icmp .ge 16, 3) := by decide +kernel
theorem d_Mo_lookUp_8 : decode prog_13_method_42_code 8 = .ok (.aload_n 0, 1) := by decide +kernel
theorem d_Mo_lookUp_9 : decode prog_13_method_42_code 9 = .ok (.getfield 60, 3) := by decide +kernel
theorem d_Mo_lookUp_12 : decode prog_13_method_42_code 12 = .ok (.iload_n 1, 1) := by decide +kernel
theorem d_Mo_lookUp_13 : decode prog_13_method_42_code 13 = .ok (.iconst (-1), 1) := by decide +kernel
theorem d_Mo_lookUp_14 : decode prog_13_method_42_code 14 = .ok (.iastore, 1) := by decide +kernel
theorem d_Mo_lookUp_15 : decode prog_13_method_42_code 15 = .ok (.iinc 1 1, 3) := by decide +kernel
theorem d_Mo_lookUp_18 : decode prog_13_method_42_code 18 = .ok (.goto (-16), 3) := by decide +kernel
theorem d_Mo_lookUp_21 : decode prog_13_method_42_code 21 = .ok (.iconst 0, 1) := by decide +kernel
theorem d_Mo_lookUp_22 : decode prog_13_method_42_code 22 = .ok (.istore_n 1, 1) := by decide +kernel
theorem d_Mo_lookUp_23 : decode prog_13_method_42_code 23 = .ok (.iload_n 1, 1) := by decide +kernel
theorem d_Mo_lookUp_24 : decode prog_13_method_42_code 24 = .ok (.aload_n 0, 1) := by decide +kernel
theorem d_Mo_lookUp_25 : decode prog_13_method_42_code 25 = .ok (.getfield 158, 3) := by decide +kernel
theorem d_Mo_lookUp_28 : decode prog_13_method_42_code 28 = .ok (.if_icmp .ge 30, 3) := by decide +kernel
theorem d_Mo_lookUp_31 : decode prog_13_method_42_code 31 = .ok (.aload_n 0, 1) := by decide +kernel
theorem d_Mo_lookUp_32 : decode prog_13_method_42_code 32 = .ok (.getfield 29, 3) := by decide +kernel
theorem d_Mo_lookUp_35 : decode prog_13_method_42_code 35 = .ok (.iload_n 1, 1) := by decide +kernel
theorem d_Mo_lookUp_36 : decode prog_13_method_42_code 36 = .ok (.baload, 1) := by decide +kernel
theorem d_Mo_lookUp_37 : decode prog_13_method_42_code 37 = .ok (.ifCond .ne 15, 3) := by decide +kernel
theorem d_Mo_lookUp_40 : decode prog_13_method_42_code 40 = .ok (.aload_n 0, 1) := by decide +kernel
theorem d_Mo_lookUp_41 : decode prog_13_method_42_code 41 = .ok (.getfield 60, 3) := by decide +kernel
theorem d_Mo_lookUp_44 : decode prog_13_method_42_code 44 = .ok (.aload_n 0, 1) := by decide +kernel
theorem d_Mo_lookUp_45 : decode prog_13_method_42_code 45 = .ok (.getfield 23, 3) := by decide +kernel
theorem d_Mo_lookUp_48 : decode prog_13_method_42_code 48 = .ok (.iload_n 1, 1) := by decide +kernel
theorem d_Mo_lookUp_49 : decode prog_13_method_42_code 49 = .ok (.iaload, 1) := by decide +kernel
theorem d_Mo_lookUp_50 : decode prog_13_method_42_code 50 = .ok (.iload_n 1, 1) := by decide +kernel
theorem d_Mo_lookUp_51 : decode prog_13_method_42_code 51 = .ok (.iastore, 1) := by decide +kernel
theorem d_Mo_lookUp_52 : decode prog_13_method_42_code 52 = .ok (.iinc 1 1, 3) := by decide +kernel
theorem d_Mo_lookUp_55 : decode prog_13_method_42_code 55 = .ok (.goto (-32), 3) := by decide +kernel
theorem d_Mo_lookUp_58 : decode prog_13_method_42_code 58 = .ok (.return_, 1) := by decide +kernel
theorem d_Mo_matches_0 : decode prog_13_method_41_code 0 = .ok (.iconst 0, 1) := by decide +kernel
theorem d_Mo_matches_1 : decode prog_13_method_41_code 1 = .ok (.istore_n 2, 1) := by decide +kernel
theorem d_Mo_matches_2 : decode prog_13_method_41_code 2 = .ok (.iconst 0, 1) := by decide +kernel
theorem d_Mo_matches_3 : decode prog_13_method_41_code 3 = .ok (.istore_n 3, 1) := by decide +kernel
theorem d_Mo_matches_4 : decode prog_13_method_41_code 4 = .ok (.iload_n 3, 1) := by decide +kernel
theorem d_Mo_matches_5 : decode prog_13_method_41_code 5 = .ok (.aload_n 0, 1) := by decide +kernel
theorem d_Mo_matches_6 : decode prog_13_method_41_code 6 = .ok (.getfield 146, 3) := by decide +kernel
theorem d_Mo_matches_9 : decode prog_13_method_41_code 9 = .ok (.if_icmp .ge 205, 3) := by decide +kernel
theorem d_Mo_matches_12 : decode prog_13_method_41_code 12 = .ok (.aload_n 0, 1) := by decide +kernel
theorem d_Mo_matches_13 : decode prog_13_method_41_code 13 = .ok (.getfield 39, 3) := by decide +kernel
theorem d_Mo_matches_16 : decode prog_13_method_41_code 16 = .ok (.iload_n 3, 1) := by decide +kernel
theorem d_Mo_matches_17 : decode prog_13_method_41_code 17 = .ok (.iaload, 1) := by decide +kernel
theorem d_Mo_matches_18 : decode prog_13_method_41_code 18 = .ok (.ifCond .ne 34, 3) := by decide +kernel
theorem d_Mo_matches_21 : decode prog_13_method_41_code 21 = .ok (.aload_n 0, 1) := by decide +kernel
theorem d_Mo_matches_22 : decode prog_13_method_41_code 22 = .ok (.getfield 51, 3) := by decide +kernel
theorem d_Mo_matches_25 : decode prog_13_method_41_code 25 = .ok (.iload_n 2, 1) := by decide +kernel
theorem d_Mo_matches_26 : decode prog_13_method_41_code 26 = .ok (.aload_n 0, 1) := by decide +kernel
theorem d_Mo_matches_27 : decode prog_13_method_41_code 27 = .ok (.iload_n 1, 1) := by decide +kernel
theorem d_Mo_matches_28 : decode prog_13_method_41_code 28 = .ok (.aload_n 0, 1) := by decide +kernel
theorem d_Mo_matches_29 : decode prog_13_method_41_code 29 = .ok (.getfield 42, 3) := by decide +kernel
theorem d_Mo_matches_32 : decode prog_13_method_41_code 32 = .ok (.iload_n 3, 1) := by decide +kernel
theorem d_Mo_matches_33 : decode prog_13_method_41_code 33 = .ok (.laload, 1) := by decide +kernel
theorem d_Mo_matches_34 : decode prog_13_method_41_code 34 = .ok (.invokevirtual 192, 3) := by decide +kernel
theorem d_Mo_matches_37 : decode prog_13_method_41_code 37 = .ok (.ifCond .le 7, 3) := by decide +kernel
theorem d_Mo_matches_40 : decode prog_13_method_41_code 40 = .ok (.iconst 1, 1) := by decide +kernel
theorem d_Mo_matches_41 : decode prog_13_method_41_code 41 = .ok (.goto 4, 3) := by decide +kernel
theorem d_Mo_matches_44 : decode prog_13_method_41_code 44 = .ok (.iconst 0, 1) := by decide +kernel
theorem d_Mo_matches_45 : decode prog_13_method_41_code 45 = .ok (.bastore, 1) := by decide +kernel
theorem d_Mo_matches_46 : decode prog_13_method_41_code 46 = .ok (.iinc 2 1, 3) := by decide +kernel
theorem d_Mo_matches_49 : decode prog_13_method_41_code 49 = .ok (.goto 159, 3) := by decide +kernel
theorem d_Mo_matches_52 : decode prog_13_method_41_code 52 = .ok (.aload_n 0, 1) := by decide +kernel
theorem d_Mo_matches_53 : decode prog_13_method_41_code 53 = .ok (.getfield 39, 3) := by decide +kernel
theorem d_Mo_matches_56 : decode prog_13_method_41_code 56 = .ok (.iload_n 3, 1) := by decide +kernel
theorem d_Mo_matches_57 : decode prog_13_method_41_code 57 = .ok (.iaload, 1) := by decide +kernel
theorem d_Mo_matches_58 : decode prog_13_method_41_code 58 = .ok (.iconst 1, 1) := by decide +kernel
theorem d_Mo_matches_59 : decode prog_13_method_41_code 59 = .ok (.if_icmp .ne 38, 3) := by decide +kernel
theorem d_Mo_matches_62 : decode prog_13_method_41_code 62 = .ok (.aload_n 0, 1) := by decide +kernel
theorem d_Mo_matches_63 : decode prog_13_method_41_code 63 = .ok (.getfield 42, 3) := by decide +kernel
theorem d_Mo_matches_66 : decode prog_13_method_41_code 66 = .ok (.iload_n 3, 1) := by decide +kernel
theorem d_Mo_matches_67 : decode prog_13_method_41_code 67 = .ok (.laload, 1) := by decide +kernel
theorem d_Mo_matches_68 : decode prog_13_method_41_code 68 = .ok (.l2i, 1) := by decide +kernel
theorem d_Mo_matches_69 : decode prog_13_method_41_code 69 = .ok (.istore 4, 2) := by decide +kernel
theorem d_Mo_matches_71 : decode prog_13_method_41_code 71 = .ok (.iload_n 2, 1) := by decide +kernel
theorem d_Mo_matches_72 : decode prog_13_method_41_code 72 = .ok (.iload 4, 2) := by decide +kernel
theorem d_Mo_matches_74 : decode prog_13_method_41_code 74 = .ok (.isub, 1) := by decide +kernel
theorem d_Mo_matches_75 : decode prog_13_method_41_code 75 = .ok (.iconst 1, 1) := by decide +kernel
theorem d_Mo_matches_76 : decode prog_13_method_41_code 76 = .ok (.iadd, 1) := by decide +kernel
theorem d_Mo_matches_77 : decode prog_13_method_41_code 77 = .ok (.istore_n 2, 1) := by decide +kernel
theorem d_Mo_matches_78 : decode prog_13_method_41_code 78 = .ok (.aload_n 0, 1) := by decide +kernel
theorem d_Mo_matches_79 : decode prog_13_method_41_code 79 = .ok (.getfield 51, 3) := by decide +kernel
theorem d_Mo_matches_82 : decode prog_13_method_41_code 82 = .ok (.iload_n 2, 1) := by decide +kernel
theorem d_Mo_matches_83 : decode prog_13_method_41_code 83 = .ok (.iconst 1, 1) := by decide +kernel
theorem d_Mo_matches_84 : decode prog_13_method_41_code 84 = .ok (.isub, 1) := by decide +kernel
theorem d_Mo_matches_85 : decode prog_13_method_41_code 85 = .ok (.aload_n 0, 1) := by decide +kernel
theorem d_Mo_matches_86 : decode prog_13_method_41_code 86 = .ok (.iload_n 1, 1) := by decide +kernel
theorem d_Mo_matches_87 : decode prog_13_method_41_code 87 = .ok (.iload_n 3, 1) := by decide +kernel
theorem d_Mo_matches_88 : decode prog_13_method_41_code 88 = .ok (.iload 4, 2) := by decide +kernel
theorem d_Mo_matches_90 : decode prog_13_method_41_code 90 = .ok (.invokevirtual 196, 3) := by decide +kernel
theorem d_Mo_matches_93 : decode prog_13_method_41_code 93 = .ok (.bastore, 1) := by decide +kernel
theorem d_Mo_matches_94 : decode prog_13_method_41_code 94 = .ok (.goto 114, 3) := by decide +kernel
theorem d_Mo_matches_97 : decode prog_13_method_41_code 97 = .ok (.aload_n 0, 1) := by decide +kernel
theorem d_Mo_matches_98 : decode prog_13_method_41_code 98 = .ok (.getfield 39, 3) := by decide +kernel
theorem d_Mo_matches_101 : decode prog_13_method_41_code 101 = .ok (.iload_n 3, 1) := by decide +kernel
theorem d_Mo_matches_102 : decode prog_13_method_41_code 102 = .ok (.iaload, 1) := by decide +kernel
theorem d_Mo_matches_103 : decode prog_13_method_41_code 103 = .ok (.iconst 4, 1) := by decide +kernel
theorem d_Mo_matches_104 : decode prog_13_method_41_code 104 = .ok (.if_icmp .ne 30, 3) := by decide +kernel
theorem d_Mo_matches_107 : decode prog_13_method_41_code 107 = .ok (.aload_n 0, 1) := by decide +kernel
theorem d_Mo_matches_108 : decode prog_13_method_41_code 108 = .ok (.getfield 51, 3) := by decide +kernel
theorem d_Mo_matches_111 : decode prog_13_method_41_code 111 = .ok (.iload_n 2, 1) := by decide +kernel
theorem d_Mo_matches_112 : decode prog_13_method_41_code 112 = .ok (.iconst 1, 1) := by decide +kernel
theorem d_Mo_matches_113 : decode prog_13_method_41_code 113 = .ok (.isub, 1) := by decide +kernel
theorem d_Mo_matches_114 : decode prog_13_method_41_code 114 = .ok (.aload_n 0, 1) := by decide +kernel
theorem d_Mo_matches_115 : decode prog_13_method_41_code 115 = .ok (.getfield 51, 3) := by decide +kernel
theorem d_Mo_matches_118 : decode prog_13_method_41_code 118 = .ok (.iload_n 2, 1) := by decide +kernel
theorem d_Mo_matches_119 : decode prog_13_method_41_code 119 = .ok (.iconst 1, 1) := by decide +kernel
theorem d_Mo_matches_120 : decode prog_13_method_41_code 120 = .ok (.isub, 1) := by decide +kernel
theorem d_Mo_matches_121 : decode prog_13_method_41_code 121 = .ok (.baload, 1) := by decide +kernel
theorem d_Mo_matches_122 : decode prog_13_method_41_code 122 = .ok (.ifCond .ne 7, 3) := by decide +kernel
theorem d_Mo_matches_125 : decode prog_13_method_41_code 125 = .ok (.iconst 1, 1) := by decide +kernel
theorem d_Mo_matches_126 : decode prog_13_method_41_code 126 = .ok (.goto 4, 3) := by decide +kernel
theorem d_Mo_matches_129 : decode prog_13_method_41_code 129 = .ok (.iconst 0, 1) := by decide +kernel
theorem d_Mo_matches_130 : decode prog_13_method_41_code 130 = .ok (.bastore, 1) := by decide +kernel
theorem d_Mo_matches_131 : decode prog_13_method_41_code 131 = .ok (.goto 77, 3) := by decide +kernel
theorem d_Mo_matches_134 : decode prog_13_method_41_code 134 = .ok (.iinc 2 (-1), 3) := by decide +kernel
theorem d_Mo_matches_137 : decode prog_13_method_41_code 137 = .ok (.aload_n 0, 1) := by decide +kernel
theorem d_Mo_matches_138 : decode prog_13_method_41_code 138 = .ok (.getfield 51, 3) := by decide +kernel
theorem d_Mo_matches_141 : decode prog_13_method_41_code 141 = .ok (.iload_n 2, 1) := by decide +kernel
theorem d_Mo_matches_142 : decode prog_13_method_41_code 142 = .ok (.iconst 1, 1) := by decide +kernel
theorem d_Mo_matches_143 : decode prog_13_method_41_code 143 = .ok (.isub, 1) := by decide +kernel
theorem d_Mo_matches_144 : decode prog_13_method_41_code 144 = .ok (.aload_n 0, 1) := by decide +kernel
theorem d_Mo_matches_145 : decode prog_13_method_41_code 145 = .ok (.getfield 39, 3) := by decide +kernel
theorem d_Mo_matches_148 : decode prog_13_method_41_code 148 = .ok (.iload_n 3, 1) := by decide +kernel
theorem d_Mo_matches_149 : decode prog_13_method_41_code 149 = .ok (.iaload, 1) := by decide +kernel
theorem d_Mo_matches_150 : decode prog_13_method_41_code 150 = .ok (.iconst 2, 1) := by decide +kernel
theorem d_Mo_matches_151 : decode prog_13_method_41_code 151 = .ok (.if_icmp .ne 31, 3) := by decide +kernel
theorem d_Mo_matches_154 : decode prog_13_method_41_code 154 = .ok (.aload_n 0, 1) := by decide +kernel
theorem d_Mo_matches_155 : decode prog_13_method_41_code 155 = .ok (.getfield 51, 3) := by decide +kernel
theorem d_Mo_matches_158 : decode prog_13_method_41_code 158 = .ok (.iload_n 2, 1) := by decide +kernel
theorem d_Mo_matches_159 : decode prog_13_method_41_code 159 = .ok (.iconst 1, 1) := by decide +kernel
theorem d_Mo_matches_160 : decode prog_13_method_41_code 160 = .ok (.isub, 1) := by decide +kernel
theorem d_Mo_matches_161 : decode prog_13_method_41_code 161 = .ok (.baload, 1) := by decide +kernel
theorem d_Mo_matches_162 : decode prog_13_method_41_code 162 = .ok (.ifCond .eq 16, 3) := by decide +kernel
theorem d_Mo_matches_165 : decode prog_13_method_41_code 165 = .ok (.aload_n 0, 1) := by decide +kernel
theorem d_Mo_matches_166 : decode prog_13_method_41_code 166 = .ok (.getfield 51, 3) := by decide +kernel
theorem d_Mo_matches_169 : decode prog_13_method_41_code 169 = .ok (.iload_n 2, 1) := by decide +kernel
theorem d_Mo_matches_170 : decode prog_13_method_41_code 170 = .ok (.baload, 1) := by decide +kernel
theorem d_Mo_matches_171 : decode prog_13_method_41_code 171 = .ok (.ifCond .eq 7, 3) := by decide +kernel
theorem d_Mo_matches_174 : decode prog_13_method_41_code 174 = .ok (.iconst 1, 1) := by decide +kernel
theorem d_Mo_matches_175 : decode prog_13_method_41_code 175 = .ok (.goto 32, 3) := by decide +kernel
theorem d_Mo_matches_178 : decode prog_13_method_41_code 178 = .ok (.iconst 0, 1) := by decide +kernel
theorem d_Mo_matches_179 : decode prog_13_method_41_code 179 = .ok (.goto 28, 3) := by decide +kernel
theorem d_Mo_matches_182 : decode prog_13_method_41_code 182 = .ok (.aload_n 0, 1) := by decide +kernel
theorem d_Mo_matches_183 : decode prog_13_method_41_code 183 = .ok (.getfield 51, 3) := by decide +kernel
theorem d_Mo_matches_186 : decode prog_13_method_41_code 186 = .ok (.iload_n 2, 1) := by decide +kernel
theorem d_Mo_matches_187 : decode prog_13_method_41_code 187 = .ok (.iconst 1, 1) := by decide +kernel
theorem d_Mo_matches_188 : decode prog_13_method_41_code 188 = .ok (.isub, 1) := by decide +kernel
theorem d_Mo_matches_189 : decode prog_13_method_41_code 189 = .ok (.baload, 1) := by decide +kernel
theorem d_Mo_matches_190 : decode prog_13_method_41_code 190 = .ok (.ifCond .ne 12, 3) := by decide +kernel
theorem d_Mo_matches_193 : decode prog_13_method_41_code 193 = .ok (.aload_n 0, 1) := by decide +kernel
theorem d_Mo_matches_194 : decode prog_13_method_41_code 194 = .ok (.getfield 51, 3) := by decide +kernel
theorem d_Mo_matches_197 : decode prog_13_method_41_code 197 = .ok (.iload_n 2, 1) := by decide +kernel
theorem d_Mo_matches_198 : decode prog_13_method_41_code 198 = .ok (.baload, 1) := by decide +kernel
theorem d_Mo_matches_199 : decode prog_13_method_41_code 199 = .ok (.ifCond .eq 7, 3) := by decide +kernel
theorem d_Mo_matches_202 : decode prog_13_method_41_code 202 = .ok (.iconst 1, 1) := by decide +kernel
theorem d_Mo_matches_203 : decode prog_13_method_41_code 203 = .ok (.goto 4, 3) := by decide +kernel
theorem d_Mo_matches_206 : decode prog_13_method_41_code 206 = .ok (.iconst 0, 1) := by decide +kernel
theorem d_Mo_matches_207 : decode prog_13_method_41_code 207 = .ok (.bastore, 1) := by decide +kernel
theorem d_Mo_matches_208 : decode prog_13_method_41_code 208 = .ok (.iinc 3 1, 3) := by decide +kernel
theorem d_Mo_matches_211 : decode prog_13_method_41_code 211 = .ok (.goto (-207), 3) := by decide +kernel
theorem d_Mo_matches_214 : decode prog_13_method_41_code 214 = .ok (.aload_n 0, 1) := by decide +kernel
theorem d_Mo_matches_215 : decode prog_13_method_41_code 215 = .ok (.getfield 51, 3) := by decide +kernel
theorem d_Mo_matches_218 : decode prog_13_method_41_code 218 = .ok (.iconst 0, 1) := by decide +kernel
theorem d_Mo_matches_219 : decode prog_13_method_41_code 219 = .ok (.baload, 1) := by decide +kernel
theorem d_Mo_matches_220 : decode prog_13_method_41_code 220 = .ok (.ireturn, 1) := by decide +kernel
theorem d_Mo_times_0 : decode prog_13_method_39_code 0 = .ok (.iconst 0, 1) := by decide +kernel
theorem d_Mo_times_1 : decode prog_13_method_39_code 1 = .ok (.istore 4, 2) := by decide +kernel
theorem d_Mo_times_3 : decode prog_13_method_39_code 3 = .ok (.iconst 0, 1) := by decide +kernel
theorem d_Mo_times_4 : decode prog_13_method_39_code 4 = .ok (.istore 5, 2) := by decide +kernel
theorem d_Mo_times_6 : decode prog_13_method_39_code 6 = .ok (.iload 5, 2) := by decide +kernel
theorem d_Mo_times_8 : decode prog_13_method_39_code 8 = .ok (.aload_n 0, 1) := by decide +kernel
theorem d_Mo_times_9 : decode prog_13_method_39_code 9 = .ok (.getfield 33, 3) := by decide +kernel
theorem d_Mo_times_12 : decode prog_13_method_39_code 12 = .ok (.iload_n 1, 1) := by decide +kernel
theorem d_Mo_times_13 : decode prog_13_method_39_code 13 = .ok (.iaload, 1) := by decide +kernel
theorem d_Mo_times_14 : decode prog_13_method_39_code 14 = .ok (.if_icmp .ge 43, 3) := by decide +kernel
theorem d_Mo_times_17 : decode prog_13_method_39_code 17 = .ok (.lload_n 2, 1) := by decide +kernel
theorem d_Mo_times_18 : decode prog_13_method_39_code 18 = .ok (.lconst 0, 1) := by decide +kernel
theorem d_Mo_times_19 : decode prog_13_method_39_code 19 = .ok (.lcmp, 1) := by decide +kernel
theorem d_Mo_times_20 : decode prog_13_method_39_code 20 = .ok (.ifCond .eq 27, 3) := by decide +kernel
theorem d_Mo_times_23 : decode prog_13_method_39_code 23 = .ok (.aload_n 0, 1) := by decide +kernel
theorem d_Mo_times_24 : decode prog_13_method_39_code 24 = .ok (.getfield 36, 3) := by decide +kernel
theorem d_Mo_times_27 : decode prog_13_method_39_code 27 = .ok (.bipush 12, 2) := by decide +kernel
theorem d_Mo_times_29 : decode prog_13_method_39_code 29 = .ok (.iload_n 1, 1) := by decide +kernel
theorem d_Mo_times_30 : decode prog_13_method_39_code 30 = .ok (.imul, 1) := by decide +kernel
theorem d_Mo_times_31 : decode prog_13_method_39_code 31 = .ok (.iload 5, 2) := by decide +kernel
theorem d_Mo_times_33 : decode prog_13_method_39_code 33 = .ok (.iadd, 1) := by decide +kernel
theorem d_Mo_times_34 : decode prog_13_method_39_code 34 = .ok (.laload, 1) := by decide +kernel
theorem d_Mo_times_35 : decode prog_13_method_39_code 35 = .ok (.lload_n 2, 1) := by decide +kernel
theorem d_Mo_times_36 : decode prog_13_method_39_code 36 = .ok (.lcmp, 1) := by decide +kernel
theorem d_Mo_times_37 : decode prog_13_method_39_code 37 = .ok (.ifCond .ne 10, 3) := by decide +kernel
theorem d_Mo_times_40 : decode prog_13_method_39_code 40 = .ok (.iload 4, 2) := by decide +kernel
theorem d_Mo_times_42 : decode prog_13_method_39_code 42 = .ok (.iconst 1, 1) := by decide +kernel
theorem d_Mo_times_43 : decode prog_13_method_39_code 43 = .ok (.iadd, 1) := by decide +kernel
theorem d_Mo_times_44 : decode prog_13_method_39_code 44 = .ok (.goto 5, 3) := by decide +kernel
theorem d_Mo_times_47 : decode prog_13_method_39_code 47 = .ok (.iload 4, 2) := by decide +kernel
theorem d_Mo_times_49 : decode prog_13_method_39_code 49 = .ok (.istore 4, 2) := by decide +kernel
theorem d_Mo_times_51 : decode prog_13_method_39_code 51 = .ok (.iinc 5 1, 3) := by decide +kernel
theorem d_Mo_times_54 : decode prog_13_method_39_code 54 = .ok (.goto (-48), 3) := by decide +kernel
theorem d_Mo_times_57 : decode prog_13_method_39_code 57 = .ok (.iload 4, 2) := by decide +kernel
theorem d_Mo_times_59 : decode prog_13_method_39_code 59 = .ok (.ireturn, 1) := by decide +kernel
theorem d_Mo_phraseIn_0 : decode prog_13_method_40_code 0 = .ok (.iconst 0, 1) := by decide +kernel
theorem d_Mo_phraseIn_1 : decode prog_13_method_40_code 1 = .ok (.istore 4, 2) := by decide +kernel
theorem d_Mo_phraseIn_3 : decode prog_13_method_40_code 3 = .ok (.iload 4, 2) := by decide +kernel
theorem d_Mo_phraseIn_5 : decode prog_13_method_40_code 5 = .ok (.iload_n 3, 1) := by decide +kernel
theorem d_Mo_phraseIn_6 : decode prog_13_method_40_code 6 = .ok (.iadd, 1) := by decide +kernel
theorem d_Mo_phraseIn_7 : decode prog_13_method_40_code 7 = .ok (.aload_n 0, 1) := by decide +kernel
theorem d_Mo_phraseIn_8 : decode prog_13_method_40_code 8 = .ok (.getfield 33, 3) := by decide +kernel
theorem d_Mo_phraseIn_11 : decode prog_13_method_40_code 11 = .ok (.iload_n 1, 1) := by decide +kernel
theorem d_Mo_phraseIn_12 : decode prog_13_method_40_code 12 = .ok (.iaload, 1) := by decide +kernel
theorem d_Mo_phraseIn_13 : decode prog_13_method_40_code 13 = .ok (.if_icmp .gt 87, 3) := by decide +kernel
theorem d_Mo_phraseIn_16 : decode prog_13_method_40_code 16 = .ok (.iconst 1, 1) := by decide +kernel
theorem d_Mo_phraseIn_17 : decode prog_13_method_40_code 17 = .ok (.istore 5, 2) := by decide +kernel
theorem d_Mo_phraseIn_19 : decode prog_13_method_40_code 19 = .ok (.iconst 0, 1) := by decide +kernel
theorem d_Mo_phraseIn_20 : decode prog_13_method_40_code 20 = .ok (.istore 6, 2) := by decide +kernel
theorem d_Mo_phraseIn_22 : decode prog_13_method_40_code 22 = .ok (.iload 6, 2) := by decide +kernel
theorem d_Mo_phraseIn_24 : decode prog_13_method_40_code 24 = .ok (.iload_n 3, 1) := by decide +kernel
theorem d_Mo_phraseIn_25 : decode prog_13_method_40_code 25 = .ok (.if_icmp .ge 62, 3) := by decide +kernel
theorem d_Mo_phraseIn_28 : decode prog_13_method_40_code 28 = .ok (.aload_n 0, 1) := by decide +kernel
theorem d_Mo_phraseIn_29 : decode prog_13_method_40_code 29 = .ok (.getfield 42, 3) := by decide +kernel
theorem d_Mo_phraseIn_32 : decode prog_13_method_40_code 32 = .ok (.iload_n 2, 1) := by decide +kernel
theorem d_Mo_phraseIn_33 : decode prog_13_method_40_code 33 = .ok (.iload_n 3, 1) := by decide +kernel
theorem d_Mo_phraseIn_34 : decode prog_13_method_40_code 34 = .ok (.isub, 1) := by decide +kernel
theorem d_Mo_phraseIn_35 : decode prog_13_method_40_code 35 = .ok (.iload 6, 2) := by decide +kernel
theorem d_Mo_phraseIn_37 : decode prog_13_method_40_code 37 = .ok (.iadd, 1) := by decide +kernel
theorem d_Mo_phraseIn_38 : decode prog_13_method_40_code 38 = .ok (.laload, 1) := by decide +kernel
theorem d_Mo_phraseIn_39 : decode prog_13_method_40_code 39 = .ok (.lstore 7, 2) := by decide +kernel
theorem d_Mo_phraseIn_41 : decode prog_13_method_40_code 41 = .ok (.iload 5, 2) := by decide +kernel
theorem d_Mo_phraseIn_43 : decode prog_13_method_40_code 43 = .ok (.ifCond .eq 35, 3) := by decide +kernel
theorem d_Mo_phraseIn_46 : decode prog_13_method_40_code 46 = .ok (.lload 7, 2) := by decide +kernel
theorem d_Mo_phraseIn_48 : decode prog_13_method_40_code 48 = .ok (.lconst 0, 1) := by decide +kernel
theorem d_Mo_phraseIn_49 : decode prog_13_method_40_code 49 = .ok (.lcmp, 1) := by decide +kernel
theorem d_Mo_phraseIn_50 : decode prog_13_method_40_code 50 = .ok (.ifCond .eq 28, 3) := by decide +kernel
theorem d_Mo_phraseIn_53 : decode prog_13_method_40_code 53 = .ok (.aload_n 0, 1) := by decide +kernel
theorem d_Mo_phraseIn_54 : decode prog_13_method_40_code 54 = .ok (.getfield 36, 3) := by decide +kernel
theorem d_Mo_phraseIn_57 : decode prog_13_method_40_code 57 = .ok (.bipush 12, 2) := by decide +kernel
theorem d_Mo_phraseIn_59 : decode prog_13_method_40_code 59 = .ok (.iload_n 1, 1) := by decide +kernel
theorem d_Mo_phraseIn_60 : decode prog_13_method_40_code 60 = .ok (.imul, 1) := by decide +kernel
theorem d_Mo_phraseIn_61 : decode prog_13_method_40_code 61 = .ok (.iload 4, 2) := by decide +kernel
theorem d_Mo_phraseIn_63 : decode prog_13_method_40_code 63 = .ok (.iadd, 1) := by decide +kernel
theorem d_Mo_phraseIn_64 : decode prog_13_method_40_code 64 = .ok (.iload 6, 2) := by decide +kernel
theorem d_Mo_phraseIn_66 : decode prog_13_method_40_code 66 = .ok (.iadd, 1) := by decide +kernel
theorem d_Mo_phraseIn_67 : decode prog_13_method_40_code 67 = .ok (.laload, 1) := by decide +kernel
theorem d_Mo_phraseIn_68 : decode prog_13_method_40_code 68 = .ok (.lload 7, 2) := by decide +kernel
theorem d_Mo_phraseIn_70 : decode prog_13_method_40_code 70 = .ok (.lcmp, 1) := by decide +kernel
theorem d_Mo_phraseIn_71 : decode prog_13_method_40_code 71 = .ok (.ifCond .ne 7, 3) := by decide +kernel
theorem d_Mo_phraseIn_74 : decode prog_13_method_40_code 74 = .ok (.iconst 1, 1) := by decide +kernel
theorem d_Mo_phraseIn_75 : decode prog_13_method_40_code 75 = .ok (.goto 4, 3) := by decide +kernel
theorem d_Mo_phraseIn_78 : decode prog_13_method_40_code 78 = .ok (.iconst 0, 1) := by decide +kernel
theorem d_Mo_phraseIn_79 : decode prog_13_method_40_code 79 = .ok (.istore 5, 2) := by decide +kernel
theorem d_Mo_phraseIn_81 : decode prog_13_method_40_code 81 = .ok (.iinc 6 1, 3) := by decide +kernel
theorem d_Mo_phraseIn_84 : decode prog_13_method_40_code 84 = .ok (.goto (-62), 3) := by decide +kernel
theorem d_Mo_phraseIn_87 : decode prog_13_method_40_code 87 = .ok (.iload 5, 2) := by decide +kernel
theorem d_Mo_phraseIn_89 : decode prog_13_method_40_code 89 = .ok (.ifCond .eq 5, 3) := by decide +kernel
theorem d_Mo_phraseIn_92 : decode prog_13_method_40_code 92 = .ok (.iconst 1, 1) := by decide +kernel
theorem d_Mo_phraseIn_93 : decode prog_13_method_40_code 93 = .ok (.ireturn, 1) := by decide +kernel
theorem d_Mo_phraseIn_94 : decode prog_13_method_40_code 94 = .ok (.iinc 4 1, 3) := by decide +kernel
theorem d_Mo_phraseIn_97 : decode prog_13_method_40_code 97 = .ok (.goto (-94), 3) := by decide +kernel
theorem d_Mo_phraseIn_100 : decode prog_13_method_40_code 100 = .ok (.iconst 0, 1) := by decide +kernel
theorem d_Mo_phraseIn_101 : decode prog_13_method_40_code 101 = .ok (.ireturn, 1) := by decide +kernel
theorem d_Mo_rank_0 : decode prog_13_method_52_code 0 = .ok (.aload_n 0, 1) := by decide +kernel
theorem d_Mo_rank_1 : decode prog_13_method_52_code 1 = .ok (.getfield 131, 3) := by decide +kernel
theorem d_Mo_rank_4 : decode prog_13_method_52_code 4 = .ok (.ifCond .eq 6, 3) := by decide +kernel
theorem d_Mo_rank_7 : decode prog_13_method_52_code 7 = .ok (.bipush (-9), 2) := by decide +kernel
theorem d_Mo_rank_9 : decode prog_13_method_52_code 9 = .ok (.ireturn, 1) := by decide +kernel
theorem d_Mo_rank_10 : decode prog_13_method_52_code 10 = .ok (.iload_n 1, 1) := by decide +kernel
theorem d_Mo_rank_11 : decode prog_13_method_52_code 11 = .ok (.iconst 1, 1) := by decide +kernel
theorem d_Mo_rank_12 : decode prog_13_method_52_code 12 = .ok (.if_icmp .lt 8, 3) := by decide +kernel
theorem d_Mo_rank_15 : decode prog_13_method_52_code 15 = .ok (.iload_n 1, 1) := by decide +kernel
theorem d_Mo_rank_16 : decode prog_13_method_52_code 16 = .ok (.iconst 5, 1) := by decide +kernel
theorem d_Mo_rank_17 : decode prog_13_method_52_code 17 = .ok (.if_icmp .le 5, 3) := by decide +kernel
theorem d_Mo_rank_20 : decode prog_13_method_52_code 20 = .ok (.iconst (-1), 1) := by decide +kernel
theorem d_Mo_rank_21 : decode prog_13_method_52_code 21 = .ok (.ireturn, 1) := by decide +kernel
theorem d_Mo_rank_22 : decode prog_13_method_52_code 22 = .ok (.aload_n 0, 1) := by decide +kernel
theorem d_Mo_rank_23 : decode prog_13_method_52_code 23 = .ok (.getfield 149, 3) := by decide +kernel
theorem d_Mo_rank_26 : decode prog_13_method_52_code 26 = .ok (.ifCond .le 7, 3) := by decide +kernel
theorem d_Mo_rank_29 : decode prog_13_method_52_code 29 = .ok (.iconst 1, 1) := by decide +kernel
theorem d_Mo_rank_30 : decode prog_13_method_52_code 30 = .ok (.goto 4, 3) := by decide +kernel
theorem d_Mo_rank_33 : decode prog_13_method_52_code 33 = .ok (.iconst 0, 1) := by decide +kernel
theorem d_Mo_rank_34 : decode prog_13_method_52_code 34 = .ok (.istore_n 2, 1) := by decide +kernel
theorem d_Mo_rank_35 : decode prog_13_method_52_code 35 = .ok (.iconst 0, 1) := by decide +kernel
theorem d_Mo_rank_36 : decode prog_13_method_52_code 36 = .ok (.istore_n 3, 1) := by decide +kernel
theorem d_Mo_rank_37 : decode prog_13_method_52_code 37 = .ok (.iload_n 3, 1) := by decide +kernel
theorem d_Mo_rank_38 : decode prog_13_method_52_code 38 = .ok (.aload_n 0, 1) := by decide +kernel
theorem d_Mo_rank_39 : decode prog_13_method_52_code 39 = .ok (.getfield 149, 3) := by decide +kernel
theorem d_Mo_rank_42 : decode prog_13_method_52_code 42 = .ok (.if_icmp .ge 28, 3) := by decide +kernel
theorem d_Mo_rank_45 : decode prog_13_method_52_code 45 = .ok (.iload_n 2, 1) := by decide +kernel
theorem d_Mo_rank_46 : decode prog_13_method_52_code 46 = .ok (.ifCond .eq 16, 3) := by decide +kernel
theorem d_Mo_rank_49 : decode prog_13_method_52_code 49 = .ok (.aload_n 0, 1) := by decide +kernel
theorem d_Mo_rank_50 : decode prog_13_method_52_code 50 = .ok (.getfield 45, 3) := by decide +kernel
theorem d_Mo_rank_53 : decode prog_13_method_52_code 53 = .ok (.iload_n 3, 1) := by decide +kernel
theorem d_Mo_rank_54 : decode prog_13_method_52_code 54 = .ok (.baload, 1) := by decide +kernel
theorem d_Mo_rank_55 : decode prog_13_method_52_code 55 = .ok (.ifCond .eq 7, 3) := by decide +kernel
theorem d_Mo_rank_58 : decode prog_13_method_52_code 58 = .ok (.iconst 1, 1) := by decide +kernel
theorem d_Mo_rank_59 : decode prog_13_method_52_code 59 = .ok (.goto 4, 3) := by decide +kernel
theorem d_Mo_rank_62 : decode prog_13_method_52_code 62 = .ok (.iconst 0, 1) := by decide +kernel
theorem d_Mo_rank_63 : decode prog_13_method_52_code 63 = .ok (.istore_n 2, 1) := by decide +kernel
theorem d_Mo_rank_64 : decode prog_13_method_52_code 64 = .ok (.iinc 3 1, 3) := by decide +kernel
theorem d_Mo_rank_67 : decode prog_13_method_52_code 67 = .ok (.goto (-30), 3) := by decide +kernel
theorem d_Mo_rank_70 : decode prog_13_method_52_code 70 = .ok (.aload_n 0, 1) := by decide +kernel
theorem d_Mo_rank_71 : decode prog_13_method_52_code 71 = .ok (.iconst 0, 1) := by decide +kernel
theorem d_Mo_rank_72 : decode prog_13_method_52_code 72 = .ok (.putfield 200, 3) := by decide +kernel
theorem d_Mo_rank_75 : decode prog_13_method_52_code 75 = .ok (.aload_n 0, 1) := by decide +kernel
theorem d_Mo_rank_76 : decode prog_13_method_52_code 76 = .ok (.iconst 0, 1) := by decide +kernel
theorem d_Mo_rank_77 : decode prog_13_method_52_code 77 = .ok (.putfield 239, 3) := by decide +kernel
theorem d_Mo_rank_80 : decode prog_13_method_52_code 80 = .ok (.iload_n 2, 1) := by decide +kernel
theorem d_Mo_rank_81 : decode prog_13_method_52_code 81 = .ok (.ifCond .eq 17, 3) := by decide +kernel
theorem d_Mo_rank_84 : decode prog_13_method_52_code 84 = .ok (.aload_n 0, 1) := by decide +kernel
theorem d_Mo_rank_85 : decode prog_13_method_52_code 85 = .ok (.invokevirtual 203, 3) := by decide +kernel
theorem d_Mo_rank_88 : decode prog_13_method_52_code 88 = .ok (.aload_n 0, 1) := by decide +kernel
theorem d_Mo_rank_89 : decode prog_13_method_52_code 89 = .ok (.iload_n 1, 1) := by decide +kernel
theorem d_Mo_rank_90 : decode prog_13_method_52_code 90 = .ok (.invokevirtual 250, 3) := by decide +kernel
theorem d_Mo_rank_93 : decode prog_13_method_52_code 93 = .ok (.aload_n 0, 1) := by decide +kernel
theorem d_Mo_rank_94 : decode prog_13_method_52_code 94 = .ok (.iload_n 1, 1) := by decide +kernel
theorem d_Mo_rank_95 : decode prog_13_method_52_code 95 = .ok (.invokevirtual 253, 3) := by decide +kernel
theorem d_Mo_rank_98 : decode prog_13_method_52_code 98 = .ok (.aload_n 0, 1) := by decide +kernel
theorem d_Mo_rank_99 : decode prog_13_method_52_code 99 = .ok (.iconst 0, 1) := by decide +kernel
theorem d_Mo_rank_100 : decode prog_13_method_52_code 100 = .ok (.putfield 146, 3) := by decide +kernel
theorem d_Mo_rank_103 : decode prog_13_method_52_code 103 = .ok (.aload_n 0, 1) := by decide +kernel
theorem d_Mo_rank_104 : decode prog_13_method_52_code 104 = .ok (.iconst 0, 1) := by decide +kernel
theorem d_Mo_rank_105 : decode prog_13_method_52_code 105 = .ok (.putfield 149, 3) := by decide +kernel
theorem d_Mo_rank_108 : decode prog_13_method_52_code 108 = .ok (.iload_n 2, 1) := by decide +kernel
theorem d_Mo_rank_109 : decode prog_13_method_52_code 109 = .ok (.ifCond .eq 10, 3) := by decide +kernel
theorem d_Mo_rank_112 : decode prog_13_method_52_code 112 = .ok (.aload_n 0, 1) := by decide +kernel
theorem d_Mo_rank_113 : decode prog_13_method_52_code 113 = .ok (.getfield 200, 3) := by decide +kernel
theorem d_Mo_rank_116 : decode prog_13_method_52_code 116 = .ok (.goto 5, 3) := by decide +kernel
theorem d_Mo_rank_119 : decode prog_13_method_52_code 119 = .ok (.bipush (-3), 2) := by decide +kernel
theorem d_Mo_rank_121 : decode prog_13_method_52_code 121 = .ok (.ireturn, 1) := by decide +kernel
theorem d_Mo_weighAll_0 : decode prog_13_method_50_code 0 = .ok (.aload_n 0, 1) := by decide +kernel
theorem d_Mo_weighAll_1 : decode prog_13_method_50_code 1 = .ok (.iconst 0, 1) := by decide +kernel
theorem d_Mo_weighAll_2 : decode prog_13_method_50_code 2 = .ok (.putfield 239, 3) := by decide +kernel
theorem d_Mo_weighAll_5 : decode prog_13_method_50_code 5 = .ok (.iconst 0, 1) := by decide +kernel
theorem d_Mo_weighAll_6 : decode prog_13_method_50_code 6 = .ok (.istore_n 2, 1) := by decide +kernel
theorem d_Mo_weighAll_7 : decode prog_13_method_50_code 7 = .ok (.iload_n 2, 1) := by decide +kernel
theorem d_Mo_weighAll_8 : decode prog_13_method_50_code 8 = .ok (.bipush 12, 2) := by decide +kernel
theorem d_Mo_weighAll_10 : decode prog_13_method_50_code 10 = .ok (.if_icmp .ge 16, 3) := by decide +kernel
theorem d_Mo_weighAll_13 : decode prog_13_method_50_code 13 = .ok (.aload_n 0, 1) := by decide +kernel
theorem d_Mo_weighAll_14 : decode prog_13_method_50_code 14 = .ok (.getfield 66, 3) := by decide +kernel
theorem d_Mo_weighAll_17 : decode prog_13_method_50_code 17 = .ok (.iload_n 2, 1) := by decide +kernel
theorem d_Mo_weighAll_18 : decode prog_13_method_50_code 18 = .ok (.iconst 0, 1) := by decide +kernel
theorem d_Mo_weighAll_19 : decode prog_13_method_50_code 19 = .ok (.bastore, 1) := by decide +kernel
theorem d_Mo_weighAll_20 : decode prog_13_method_50_code 20 = .ok (.iinc 2 1, 3) := by decide +kernel
theorem d_Mo_weighAll_23 : decode prog_13_method_50_code 23 = .ok (.goto (-16), 3) := by decide +kernel
theorem d_Mo_weighAll_26 : decode prog_13_method_50_code 26 = .ok (.iconst 0, 1) := by decide +kernel
theorem d_Mo_weighAll_27 : decode prog_13_method_50_code 27 = .ok (.istore_n 2, 1) := by decide +kernel
theorem d_Mo_weighAll_28 : decode prog_13_method_50_code 28 = .ok (.iload_n 2, 1) := by decide +kernel
theorem d_Mo_weighAll_29 : decode prog_13_method_50_code 29 = .ok (.bipush 12, 2) := by decide +kernel
theorem d_Mo_weighAll_31 : decode prog_13_method_50_code 31 = .ok (.if_icmp .ge 94, 3) := by decide +kernel
theorem d_Mo_weighAll_34 : decode prog_13_method_50_code 34 = .ok (.aload_n 0, 1) := by decide +kernel
theorem d_Mo_weighAll_35 : decode prog_13_method_50_code 35 = .ok (.getfield 60, 3) := by decide +kernel
theorem d_Mo_weighAll_38 : decode prog_13_method_50_code 38 = .ok (.iload_n 2, 1) := by decide +kernel
theorem d_Mo_weighAll_39 : decode prog_13_method_50_code 39 = .ok (.iaload, 1) := by decide +kernel
theorem d_Mo_weighAll_40 : decode prog_13_method_50_code 40 = .ok (.ifCond .ge 9, 3) := by decide +kernel
theorem d_Mo_weighAll_43 : decode prog_13_method_50_code 43 = .ok (.ldc2_w 237, 3) := by decide +kernel
theorem d_Mo_weighAll_46 : decode prog_13_method_50_code 46 = .ok (.goto 14, 3) := by decide +kernel
theorem d_Mo_weighAll_49 : decode prog_13_method_50_code 49 = .ok (.aload_n 0, 1) := by decide +kernel
theorem d_Mo_weighAll_50 : decode prog_13_method_50_code 50 = .ok (.aload_n 0, 1) := by decide +kernel
theorem d_Mo_weighAll_51 : decode prog_13_method_50_code 51 = .ok (.getfield 60, 3) := by decide +kernel
theorem d_Mo_weighAll_54 : decode prog_13_method_50_code 54 = .ok (.iload_n 2, 1) := by decide +kernel
theorem d_Mo_weighAll_55 : decode prog_13_method_50_code 55 = .ok (.iaload, 1) := by decide +kernel
theorem d_Mo_weighAll_56 : decode prog_13_method_50_code 56 = .ok (.iconst 0, 1) := by decide +kernel
theorem d_Mo_weighAll_57 : decode prog_13_method_50_code 57 = .ok (.invokevirtual 242, 3) := by decide +kernel
theorem d_Mo_weighAll_60 : decode prog_13_method_50_code 60 = .ok (.lstore_n 3, 1) := by decide +kernel
theorem d_Mo_weighAll_61 : decode prog_13_method_50_code 61 = .ok (.lload_n 3, 1) := by decide +kernel
theorem d_Mo_weighAll_62 : decode prog_13_method_50_code 62 = .ok (.lconst 0, 1) := by decide +kernel
theorem d_Mo_weighAll_63 : decode prog_13_method_50_code 63 = .ok (.lcmp, 1) := by decide +kernel
theorem d_Mo_weighAll_64 : decode prog_13_method_50_code 64 = .ok (.ifCond .lt 55, 3) := by decide +kernel
theorem d_Mo_weighAll_67 : decode prog_13_method_50_code 67 = .ok (.aload_n 0, 1) := by decide +kernel
theorem d_Mo_weighAll_68 : decode prog_13_method_50_code 68 = .ok (.getfield 239, 3) := by decide +kernel
theorem d_Mo_weighAll_71 : decode prog_13_method_50_code 71 = .ok (.iload_n 1, 1) := by decide +kernel
theorem d_Mo_weighAll_72 : decode prog_13_method_50_code 72 = .ok (.if_icmp .lt 23, 3) := by decide +kernel
theorem d_Mo_weighAll_75 : decode prog_13_method_50_code 75 = .ok (.aload_n 0, 1) := by decide +kernel
theorem d_Mo_weighAll_76 : decode prog_13_method_50_code 76 = .ok (.aload_n 0, 1) := by decide +kernel
theorem d_Mo_weighAll_77 : decode prog_13_method_50_code 77 = .ok (.getfield 60, 3) := by decide +kernel
theorem d_Mo_weighAll_80 : decode prog_13_method_50_code 80 = .ok (.iload_n 2, 1) := by decide +kernel
theorem d_Mo_weighAll_81 : decode prog_13_method_50_code 81 = .ok (.iaload, 1) := by decide +kernel
theorem d_Mo_weighAll_82 : decode prog_13_method_50_code 82 = .ok (.iconst 1, 1) := by decide +kernel
theorem d_Mo_weighAll_83 : decode prog_13_method_50_code 83 = .ok (.invokevirtual 242, 3) := by decide +kernel
theorem d_Mo_weighAll_86 : decode prog_13_method_50_code 86 = .ok (.aload_n 0, 1) := by decide +kernel
theorem d_Mo_weighAll_87 : decode prog_13_method_50_code 87 = .ok (.iload_n 1, 1) := by decide +kernel
theorem d_Mo_weighAll_88 : decode prog_13_method_50_code 88 = .ok (.invokevirtual 246, 3) := by decide +kernel
theorem d_Mo_weighAll_91 : decode prog_13_method_50_code 91 = .ok (.lcmp, 1) := by decide +kernel
theorem d_Mo_weighAll_92 : decode prog_13_method_50_code 92 = .ok (.ifCond .le 27, 3) := by decide +kernel
theorem d_Mo_weighAll_95 : decode prog_13_method_50_code 95 = .ok (.aload_n 0, 1) := by decide +kernel
theorem d_Mo_weighAll_96 : decode prog_13_method_50_code 96 = .ok (.getfield 63, 3) := by decide +kernel
theorem d_Mo_weighAll_99 : decode prog_13_method_50_code 99 = .ok (.iload_n 2, 1) := by decide +kernel
theorem d_Mo_weighAll_100 : decode prog_13_method_50_code 100 = .ok (.lload_n 3, 1) := by decide +kernel
theorem d_Mo_weighAll_101 : decode prog_13_method_50_code 101 = .ok (.lastore, 1) := by decide +kernel
theorem d_Mo_weighAll_102 : decode prog_13_method_50_code 102 = .ok (.aload_n 0, 1) := by decide +kernel
theorem d_Mo_weighAll_103 : decode prog_13_method_50_code 103 = .ok (.getfield 66, 3) := by decide +kernel
theorem d_Mo_weighAll_106 : decode prog_13_method_50_code 106 = .ok (.iload_n 2, 1) := by decide +kernel
theorem d_Mo_weighAll_107 : decode prog_13_method_50_code 107 = .ok (.iconst 1, 1) := by decide +kernel
theorem d_Mo_weighAll_108 : decode prog_13_method_50_code 108 = .ok (.bastore, 1) := by decide +kernel
theorem d_Mo_weighAll_109 : decode prog_13_method_50_code 109 = .ok (.aload_n 0, 1) := by decide +kernel
theorem d_Mo_weighAll_110 : decode prog_13_method_50_code 110 = .ok (.dup, 1) := by decide +kernel
theorem d_Mo_weighAll_111 : decode prog_13_method_50_code 111 = .ok (.getfield 239, 3) := by decide +kernel
theorem d_Mo_weighAll_114 : decode prog_13_method_50_code 114 = .ok (.iconst 1, 1) := by decide +kernel
theorem d_Mo_weighAll_115 : decode prog_13_method_50_code 115 = .ok (.iadd, 1) := by decide +kernel
theorem d_Mo_weighAll_116 : decode prog_13_method_50_code 116 = .ok (.putfield 239, 3) := by decide +kernel
theorem d_Mo_weighAll_119 : decode prog_13_method_50_code 119 = .ok (.iinc 2 1, 3) := by decide +kernel
theorem d_Mo_weighAll_122 : decode prog_13_method_50_code 122 = .ok (.goto (-94), 3) := by decide +kernel
theorem d_Mo_weighAll_125 : decode prog_13_method_50_code 125 = .ok (.return_, 1) := by decide +kernel
theorem d_Mo_sum_0 : decode prog_13_method_48_code 0 = .ok (.lconst 0, 1) := by decide +kernel
theorem d_Mo_sum_1 : decode prog_13_method_48_code 1 = .ok (.lstore_n 3, 1) := by decide +kernel
theorem d_Mo_sum_2 : decode prog_13_method_48_code 2 = .ok (.iconst 0, 1) := by decide +kernel
theorem d_Mo_sum_3 : decode prog_13_method_48_code 3 = .ok (.istore 5, 2) := by decide +kernel
theorem d_Mo_sum_5 : decode prog_13_method_48_code 5 = .ok (.iconst 0, 1) := by decide +kernel
theorem d_Mo_sum_6 : decode prog_13_method_48_code 6 = .ok (.istore 6, 2) := by decide +kernel
theorem d_Mo_sum_8 : decode prog_13_method_48_code 8 = .ok (.iload 6, 2) := by decide +kernel
theorem d_Mo_sum_10 : decode prog_13_method_48_code 10 = .ok (.aload_n 0, 1) := by decide +kernel
theorem d_Mo_sum_11 : decode prog_13_method_48_code 11 = .ok (.getfield 146, 3) := by decide +kernel
theorem d_Mo_sum_14 : decode prog_13_method_48_code 14 = .ok (.if_icmp .ge 60, 3) := by decide +kernel
theorem d_Mo_sum_17 : decode prog_13_method_48_code 17 = .ok (.aload_n 0, 1) := by decide +kernel
theorem d_Mo_sum_18 : decode prog_13_method_48_code 18 = .ok (.iload_n 1, 1) := by decide +kernel
theorem d_Mo_sum_19 : decode prog_13_method_48_code 19 = .ok (.aload_n 0, 1) := by decide +kernel
theorem d_Mo_sum_20 : decode prog_13_method_48_code 20 = .ok (.getfield 42, 3) := by decide +kernel
theorem d_Mo_sum_23 : decode prog_13_method_48_code 23 = .ok (.iload 6, 2) := by decide +kernel
theorem d_Mo_sum_25 : decode prog_13_method_48_code 25 = .ok (.laload, 1) := by decide +kernel
theorem d_Mo_sum_26 : decode prog_13_method_48_code 26 = .ok (.invokevirtual 192, 3) := by decide +kernel
theorem d_Mo_sum_29 : decode prog_13_method_48_code 29 = .ok (.ifCond .le 39, 3) := by decide +kernel
theorem d_Mo_sum_32 : decode prog_13_method_48_code 32 = .ok (.iconst 1, 1) := by decide +kernel
theorem d_Mo_sum_33 : decode prog_13_method_48_code 33 = .ok (.istore 5, 2) := by decide +kernel
theorem d_Mo_sum_35 : decode prog_13_method_48_code 35 = .ok (.lload_n 3, 1) := by decide +kernel
theorem d_Mo_sum_36 : decode prog_13_method_48_code 36 = .ok (.iload_n 2, 1) := by decide +kernel
theorem d_Mo_sum_37 : decode prog_13_method_48_code 37 = .ok (.ifCond .eq 17, 3) := by decide +kernel
theorem d_Mo_sum_40 : decode prog_13_method_48_code 40 = .ok (.aload_n 0, 1) := by decide +kernel
theorem d_Mo_sum_41 : decode prog_13_method_48_code 41 = .ok (.aload_n 0, 1) := by decide +kernel
theorem d_Mo_sum_42 : decode prog_13_method_48_code 42 = .ok (.getfield 42, 3) := by decide +kernel
theorem d_Mo_sum_45 : decode prog_13_method_48_code 45 = .ok (.iload 6, 2) := by decide +kernel
theorem d_Mo_sum_47 : decode prog_13_method_48_code 47 = .ok (.laload, 1) := by decide +kernel
theorem d_Mo_sum_48 : decode prog_13_method_48_code 48 = .ok (.invokevirtual 234, 3) := by decide +kernel
theorem d_Mo_sum_51 : decode prog_13_method_48_code 51 = .ok (.goto 15, 3) := by decide +kernel
theorem d_Mo_sum_54 : decode prog_13_method_48_code 54 = .ok (.aload_n 0, 1) := by decide +kernel
theorem d_Mo_sum_55 : decode prog_13_method_48_code 55 = .ok (.iload_n 1, 1) := by decide +kernel
theorem d_Mo_sum_56 : decode prog_13_method_48_code 56 = .ok (.aload_n 0, 1) := by decide +kernel
theorem d_Mo_sum_57 : decode prog_13_method_48_code 57 = .ok (.getfield 42, 3) := by decide +kernel
theorem d_Mo_sum_60 : decode prog_13_method_48_code 60 = .ok (.iload 6, 2) := by decide +kernel
theorem d_Mo_sum_62 : decode prog_13_method_48_code 62 = .ok (.laload, 1) := by decide +kernel
theorem d_Mo_sum_63 : decode prog_13_method_48_code 63 = .ok (.invokevirtual 230, 3) := by decide +kernel
theorem d_Mo_sum_66 : decode prog_13_method_48_code 66 = .ok (.ladd, 1) := by decide +kernel
theorem d_Mo_sum_67 : decode prog_13_method_48_code 67 = .ok (.lstore_n 3, 1) := by decide +kernel
theorem d_Mo_sum_68 : decode prog_13_method_48_code 68 = .ok (.iinc 6 1, 3) := by decide +kernel
theorem d_Mo_sum_71 : decode prog_13_method_48_code 71 = .ok (.goto (-63), 3) := by decide +kernel
theorem d_Mo_sum_74 : decode prog_13_method_48_code 74 = .ok (.iload 5, 2) := by decide +kernel
theorem d_Mo_sum_76 : decode prog_13_method_48_code 76 = .ok (.ifCond .eq 7, 3) := by decide +kernel
theorem d_Mo_sum_79 : decode prog_13_method_48_code 79 = .ok (.lload_n 3, 1) := by decide +kernel
theorem d_Mo_sum_80 : decode prog_13_method_48_code 80 = .ok (.goto 6, 3) := by decide +kernel
theorem d_Mo_sum_83 : decode prog_13_method_48_code 83 = .ok (.ldc2_w 237, 3) := by decide +kernel
theorem d_Mo_sum_86 : decode prog_13_method_48_code 86 = .ok (.lreturn, 1) := by decide +kernel
theorem d_Mo_bound_0 : decode prog_13_method_47_code 0 = .ok (.lconst 0, 1) := by decide +kernel
theorem d_Mo_bound_1 : decode prog_13_method_47_code 1 = .ok (.lstore_n 3, 1) := by decide +kernel
theorem d_Mo_bound_2 : decode prog_13_method_47_code 2 = .ok (.iconst 0, 1) := by decide +kernel
theorem d_Mo_bound_3 : decode prog_13_method_47_code 3 = .ok (.istore 5, 2) := by decide +kernel
theorem d_Mo_bound_5 : decode prog_13_method_47_code 5 = .ok (.iload 5, 2) := by decide +kernel
theorem d_Mo_bound_7 : decode prog_13_method_47_code 7 = .ok (.aload_n 0, 1) := by decide +kernel
theorem d_Mo_bound_8 : decode prog_13_method_47_code 8 = .ok (.getfield 158, 3) := by decide +kernel
theorem d_Mo_bound_11 : decode prog_13_method_47_code 11 = .ok (.if_icmp .ge 46, 3) := by decide +kernel
theorem d_Mo_bound_14 : decode prog_13_method_47_code 14 = .ok (.aload_n 0, 1) := by decide +kernel
theorem d_Mo_bound_15 : decode prog_13_method_47_code 15 = .ok (.getfield 29, 3) := by decide +kernel
theorem d_Mo_bound_18 : decode prog_13_method_47_code 18 = .ok (.iload 5, 2) := by decide +kernel
theorem d_Mo_bound_20 : decode prog_13_method_47_code 20 = .ok (.baload, 1) := by decide +kernel
theorem d_Mo_bound_21 : decode prog_13_method_47_code 21 = .ok (.ifCond .eq 7, 3) := by decide +kernel
theorem d_Mo_bound_24 : decode prog_13_method_47_code 24 = .ok (.lconst 0, 1) := by decide +kernel
theorem d_Mo_bound_25 : decode prog_13_method_47_code 25 = .ok (.goto 10, 3) := by decide +kernel
theorem d_Mo_bound_28 : decode prog_13_method_47_code 28 = .ok (.aload_n 0, 1) := by decide +kernel
theorem d_Mo_bound_29 : decode prog_13_method_47_code 29 = .ok (.iload 5, 2) := by decide +kernel
theorem d_Mo_bound_31 : decode prog_13_method_47_code 31 = .ok (.lload_n 1, 1) := by decide +kernel
theorem d_Mo_bound_32 : decode prog_13_method_47_code 32 = .ok (.invokevirtual 230, 3) := by decide +kernel
theorem d_Mo_bound_35 : decode prog_13_method_47_code 35 = .ok (.lstore 6, 2) := by decide +kernel
theorem d_Mo_bound_37 : decode prog_13_method_47_code 37 = .ok (.lload 6, 2) := by decide +kernel
theorem d_Mo_bound_39 : decode prog_13_method_47_code 39 = .ok (.lload_n 3, 1) := by decide +kernel
theorem d_Mo_bound_40 : decode prog_13_method_47_code 40 = .ok (.lcmp, 1) := by decide +kernel
theorem d_Mo_bound_41 : decode prog_13_method_47_code 41 = .ok (.ifCond .le 8, 3) := by decide +kernel
theorem d_Mo_bound_44 : decode prog_13_method_47_code 44 = .ok (.lload 6, 2) := by decide +kernel
theorem d_Mo_bound_46 : decode prog_13_method_47_code 46 = .ok (.goto 4, 3) := by decide +kernel
theorem d_Mo_bound_49 : decode prog_13_method_47_code 49 = .ok (.lload_n 3, 1) := by decide +kernel
theorem d_Mo_bound_50 : decode prog_13_method_47_code 50 = .ok (.lstore_n 3, 1) := by decide +kernel
theorem d_Mo_bound_51 : decode prog_13_method_47_code 51 = .ok (.iinc 5 1, 3) := by decide +kernel
theorem d_Mo_bound_54 : decode prog_13_method_47_code 54 = .ok (.goto (-49), 3) := by decide +kernel
theorem d_Mo_bound_57 : decode prog_13_method_47_code 57 = .ok (.lload_n 3, 1) := by decide +kernel
theorem d_Mo_bound_58 : decode prog_13_method_47_code 58 = .ok (.lreturn, 1) := by decide +kernel
theorem d_Mo_weightOf_0 : decode prog_13_method_46_code 0 = .ok (.aload_n 0, 1) := by decide +kernel
theorem d_Mo_weightOf_1 : decode prog_13_method_46_code 1 = .ok (.invokevirtual 177, 3) := by decide +kernel
theorem d_Mo_weightOf_4 : decode prog_13_method_46_code 4 = .ok (.i2l, 1) := by decide +kernel
theorem d_Mo_weightOf_5 : decode prog_13_method_46_code 5 = .ok (.lstore 4, 2) := by decide +kernel
theorem d_Mo_weightOf_7 : decode prog_13_method_46_code 7 = .ok (.aload_n 0, 1) := by decide +kernel
theorem d_Mo_weightOf_8 : decode prog_13_method_46_code 8 = .ok (.invokevirtual 213, 3) := by decide +kernel
theorem d_Mo_weightOf_11 : decode prog_13_method_46_code 11 = .ok (.i2l, 1) := by decide +kernel
theorem d_Mo_weightOf_12 : decode prog_13_method_46_code 12 = .ok (.lstore 6, 2) := by decide +kernel
theorem d_Mo_weightOf_14 : decode prog_13_method_46_code 14 = .ok (.lconst 0, 1) := by decide +kernel
theorem d_Mo_weightOf_15 : decode prog_13_method_46_code 15 = .ok (.lstore 8, 2) := by decide +kernel
theorem d_Mo_weightOf_17 : decode prog_13_method_46_code 17 = .ok (.iconst 0, 1) := by decide +kernel
theorem d_Mo_weightOf_18 : decode prog_13_method_46_code 18 = .ok (.istore 10, 2) := by decide +kernel
theorem d_Mo_weightOf_20 : decode prog_13_method_46_code 20 = .ok (.iload 10, 2) := by decide +kernel
theorem d_Mo_weightOf_22 : decode prog_13_method_46_code 22 = .ok (.aload_n 0, 1) := by decide +kernel
theorem d_Mo_weightOf_23 : decode prog_13_method_46_code 23 = .ok (.getfield 158, 3) := by decide +kernel
theorem d_Mo_weightOf_26 : decode prog_13_method_46_code 26 = .ok (.if_icmp .ge 40, 3) := by decide +kernel
theorem d_Mo_weightOf_29 : decode prog_13_method_46_code 29 = .ok (.aload_n 0, 1) := by decide +kernel
theorem d_Mo_weightOf_30 : decode prog_13_method_46_code 30 = .ok (.getfield 29, 3) := by decide +kernel
theorem d_Mo_weightOf_33 : decode prog_13_method_46_code 33 = .ok (.iload 10, 2) := by decide +kernel
theorem d_Mo_weightOf_35 : decode prog_13_method_46_code 35 = .ok (.baload, 1) := by decide +kernel
theorem d_Mo_weightOf_36 : decode prog_13_method_46_code 36 = .ok (.ifCond .ne 20, 3) := by decide +kernel
theorem d_Mo_weightOf_39 : decode prog_13_method_46_code 39 = .ok (.aload_n 0, 1) := by decide +kernel
theorem d_Mo_weightOf_40 : decode prog_13_method_46_code 40 = .ok (.iload 10, 2) := by decide +kernel
theorem d_Mo_weightOf_42 : decode prog_13_method_46_code 42 = .ok (.lload_n 2, 1) := by decide +kernel
theorem d_Mo_weightOf_43 : decode prog_13_method_46_code 43 = .ok (.invokevirtual 192, 3) := by decide +kernel
theorem d_Mo_weightOf_46 : decode prog_13_method_46_code 46 = .ok (.ifCond .le 10, 3) := by decide +kernel
theorem d_Mo_weightOf_49 : decode prog_13_method_46_code 49 = .ok (.lload 8, 2) := by decide +kernel
theorem d_Mo_weightOf_51 : decode prog_13_method_46_code 51 = .ok (.lconst 1, 1) := by decide +kernel
theorem d_Mo_weightOf_52 : decode prog_13_method_46_code 52 = .ok (.ladd, 1) := by decide +kernel
theorem d_Mo_weightOf_53 : decode prog_13_method_46_code 53 = .ok (.goto 5, 3) := by decide +kernel
theorem d_Mo_weightOf_56 : decode prog_13_method_46_code 56 = .ok (.lload 8, 2) := by decide +kernel
theorem d_Mo_weightOf_58 : decode prog_13_method_46_code 58 = .ok (.lstore 8, 2) := by decide +kernel
theorem d_Mo_weightOf_60 : decode prog_13_method_46_code 60 = .ok (.iinc 10 1, 3) := by decide +kernel
theorem d_Mo_weightOf_63 : decode prog_13_method_46_code 63 = .ok (.goto (-43), 3) := by decide +kernel
theorem d_Mo_weightOf_66 : decode prog_13_method_46_code 66 = .ok (.aload_n 0, 1) := by decide +kernel
theorem d_Mo_weightOf_67 : decode prog_13_method_46_code 67 = .ok (.iload_n 1, 1) := by decide +kernel
theorem d_Mo_weightOf_68 : decode prog_13_method_46_code 68 = .ok (.lload_n 2, 1) := by decide +kernel
theorem d_Mo_weightOf_69 : decode prog_13_method_46_code 69 = .ok (.invokevirtual 192, 3) := by decide +kernel
theorem d_Mo_weightOf_72 : decode prog_13_method_46_code 72 = .ok (.i2l, 1) := by decide +kernel
theorem d_Mo_weightOf_73 : decode prog_13_method_46_code 73 = .ok (.lstore 10, 2) := by decide +kernel
theorem d_Mo_weightOf_75 : decode prog_13_method_46_code 75 = .ok (.lload 10, 2) := by decide +kernel
theorem d_Mo_weightOf_77 : decode prog_13_method_46_code 77 = .ok (.lconst 0, 1) := by decide +kernel
theorem d_Mo_weightOf_78 : decode prog_13_method_46_code 78 = .ok (.lcmp, 1) := by decide +kernel
theorem d_Mo_weightOf_79 : decode prog_13_method_46_code 79 = .ok (.ifCond .ne 5, 3) := by decide +kernel
theorem d_Mo_weightOf_82 : decode prog_13_method_46_code 82 = .ok (.lconst 0, 1) := by decide +kernel
theorem d_Mo_weightOf_83 : decode prog_13_method_46_code 83 = .ok (.lreturn, 1) := by decide +kernel
theorem d_Mo_weightOf_84 : decode prog_13_method_46_code 84 = .ok (.lload 4, 2) := by decide +kernel
theorem d_Mo_weightOf_86 : decode prog_13_method_46_code 86 = .ok (.lconst 1, 1) := by decide +kernel
theorem d_Mo_weightOf_87 : decode prog_13_method_46_code 87 = .ok (.ladd, 1) := by decide +kernel
theorem d_Mo_weightOf_88 : decode prog_13_method_46_code 88 = .ok (.ldc2_w 216, 3) := by decide +kernel
theorem d_Mo_weightOf_91 : decode prog_13_method_46_code 91 = .ok (.lmul, 1) := by decide +kernel
theorem d_Mo_weightOf_92 : decode prog_13_method_46_code 92 = .ok (.lload 8, 2) := by decide +kernel
theorem d_Mo_weightOf_94 : decode prog_13_method_46_code 94 = .ok (.ldiv, 1) := by decide +kernel
theorem d_Mo_weightOf_95 : decode prog_13_method_46_code 95 = .ok (.lstore 12, 2) := by decide +kernel
theorem d_Mo_weightOf_97 : decode prog_13_method_46_code 97 = .ok (.iconst 0, 1) := by decide +kernel
theorem d_Mo_weightOf_98 : decode prog_13_method_46_code 98 = .ok (.istore 14, 2) := by decide +kernel
theorem d_Mo_weightOf_100 : decode prog_13_method_46_code 100 = .ok (.ldc2_w 218, 3) := by decide +kernel
theorem d_Mo_weightOf_103 : decode prog_13_method_46_code 103 = .ok (.iload 14, 2) := by decide +kernel
theorem d_Mo_weightOf_105 : decode prog_13_method_46_code 105 = .ok (.lshl, 1) := by decide +kernel
theorem d_Mo_weightOf_106 : decode prog_13_method_46_code 106 = .ok (.lload 12, 2) := by decide +kernel
theorem d_Mo_weightOf_108 : decode prog_13_method_46_code 108 = .ok (.lcmp, 1) := by decide +kernel
theorem d_Mo_weightOf_109 : decode prog_13_method_46_code 109 = .ok (.ifCond .gt 9, 3) := by decide +kernel
theorem d_Mo_weightOf_112 : decode prog_13_method_46_code 112 = .ok (.iinc 14 1, 3) := by decide +kernel
theorem d_Mo_weightOf_115 : decode prog_13_method_46_code 115 = .ok (.goto (-15), 3) := by decide +kernel
theorem d_Mo_weightOf_118 : decode prog_13_method_46_code 118 = .ok (.ldc2_w 220, 3) := by decide +kernel
theorem d_Mo_weightOf_121 : decode prog_13_method_46_code 121 = .ok (.iload 14, 2) := by decide +kernel
theorem d_Mo_weightOf_123 : decode prog_13_method_46_code 123 = .ok (.i2l, 1) := by decide +kernel
theorem d_Mo_weightOf_124 : decode prog_13_method_46_code 124 = .ok (.lmul, 1) := by decide +kernel
theorem d_Mo_weightOf_125 : decode prog_13_method_46_code 125 = .ok (.lload 12, 2) := by decide +kernel
theorem d_Mo_weightOf_127 : decode prog_13_method_46_code 127 = .ok (.ldc2_w 220, 3) := by decide +kernel
theorem d_Mo_weightOf_130 : decode prog_13_method_46_code 130 = .ok (.lmul, 1) := by decide +kernel
theorem d_Mo_weightOf_131 : decode prog_13_method_46_code 131 = .ok (.lconst 1, 1) := by decide +kernel
theorem d_Mo_weightOf_132 : decode prog_13_method_46_code 132 = .ok (.iload 14, 2) := by decide +kernel
theorem d_Mo_weightOf_134 : decode prog_13_method_46_code 134 = .ok (.lshl, 1) := by decide +kernel
theorem d_Mo_weightOf_135 : decode prog_13_method_46_code 135 = .ok (.ldiv, 1) := by decide +kernel
theorem d_Mo_weightOf_136 : decode prog_13_method_46_code 136 = .ok (.ladd, 1) := by decide +kernel
theorem d_Mo_weightOf_137 : decode prog_13_method_46_code 137 = .ok (.ldc2_w 220, 3) := by decide +kernel
theorem d_Mo_weightOf_140 : decode prog_13_method_46_code 140 = .ok (.lsub, 1) := by decide +kernel
theorem d_Mo_weightOf_141 : decode prog_13_method_46_code 141 = .ok (.lstore 15, 2) := by decide +kernel
theorem d_Mo_weightOf_143 : decode prog_13_method_46_code 143 = .ok (.lload 15, 2) := by decide +kernel
theorem d_Mo_weightOf_145 : decode prog_13_method_46_code 145 = .ok (.lload 10, 2) := by decide +kernel
theorem d_Mo_weightOf_147 : decode prog_13_method_46_code 147 = .ok (.lmul, 1) := by decide +kernel
theorem d_Mo_weightOf_148 : decode prog_13_method_46_code 148 = .ok (.ldc2_w 222, 3) := by decide +kernel
theorem d_Mo_weightOf_151 : decode prog_13_method_46_code 151 = .ok (.lmul, 1) := by decide +kernel
theorem d_Mo_weightOf_152 : decode prog_13_method_46_code 152 = .ok (.ldc2_w 224, 3) := by decide +kernel
theorem d_Mo_weightOf_155 : decode prog_13_method_46_code 155 = .ok (.lload 10, 2) := by decide +kernel
theorem d_Mo_weightOf_157 : decode prog_13_method_46_code 157 = .ok (.lmul, 1) := by decide +kernel
theorem d_Mo_weightOf_158 : decode prog_13_method_46_code 158 = .ok (.ldc2_w 226, 3) := by decide +kernel
theorem d_Mo_weightOf_161 : decode prog_13_method_46_code 161 = .ok (.ladd, 1) := by decide +kernel
theorem d_Mo_weightOf_162 : decode prog_13_method_46_code 162 = .ok (.ldc2_w 228, 3) := by decide +kernel
theorem d_Mo_weightOf_165 : decode prog_13_method_46_code 165 = .ok (.aload_n 0, 1) := by decide +kernel
theorem d_Mo_weightOf_166 : decode prog_13_method_46_code 166 = .ok (.iload_n 1, 1) := by decide +kernel
theorem d_Mo_weightOf_167 : decode prog_13_method_46_code 167 = .ok (.invokevirtual 210, 3) := by decide +kernel
theorem d_Mo_weightOf_170 : decode prog_13_method_46_code 170 = .ok (.i2l, 1) := by decide +kernel
theorem d_Mo_weightOf_171 : decode prog_13_method_46_code 171 = .ok (.lmul, 1) := by decide +kernel
theorem d_Mo_weightOf_172 : decode prog_13_method_46_code 172 = .ok (.lload 4, 2) := by decide +kernel
theorem d_Mo_weightOf_174 : decode prog_13_method_46_code 174 = .ok (.lmul, 1) := by decide +kernel
theorem d_Mo_weightOf_175 : decode prog_13_method_46_code 175 = .ok (.lload 6, 2) := by decide +kernel
theorem d_Mo_weightOf_177 : decode prog_13_method_46_code 177 = .ok (.ldiv, 1) := by decide +kernel
theorem d_Mo_weightOf_178 : decode prog_13_method_46_code 178 = .ok (.ladd, 1) := by decide +kernel
theorem d_Mo_weightOf_179 : decode prog_13_method_46_code 179 = .ok (.ldiv, 1) := by decide +kernel
theorem d_Mo_weightOf_180 : decode prog_13_method_46_code 180 = .ok (.lreturn, 1) := by decide +kernel
theorem d_Mo_lengths_0 : decode prog_13_method_45_code 0 = .ok (.iconst 0, 1) := by decide +kernel
theorem d_Mo_lengths_1 : decode prog_13_method_45_code 1 = .ok (.istore_n 1, 1) := by decide +kernel
theorem d_Mo_lengths_2 : decode prog_13_method_45_code 2 = .ok (.iconst 0, 1) := by decide +kernel
theorem d_Mo_lengths_3 : decode prog_13_method_45_code 3 = .ok (.istore_n 2, 1) := by decide +kernel
theorem d_Mo_lengths_4 : decode prog_13_method_45_code 4 = .ok (.iload_n 2, 1) := by decide +kernel
theorem d_Mo_lengths_5 : decode prog_13_method_45_code 5 = .ok (.aload_n 0, 1) := by decide +kernel
theorem d_Mo_lengths_6 : decode prog_13_method_45_code 6 = .ok (.getfield 158, 3) := by decide +kernel
theorem d_Mo_lengths_9 : decode prog_13_method_45_code 9 = .ok (.if_icmp .ge 30, 3) := by decide +kernel
theorem d_Mo_lengths_12 : decode prog_13_method_45_code 12 = .ok (.iload_n 1, 1) := by decide +kernel
theorem d_Mo_lengths_13 : decode prog_13_method_45_code 13 = .ok (.aload_n 0, 1) := by decide +kernel
theorem d_Mo_lengths_14 : decode prog_13_method_45_code 14 = .ok (.getfield 29, 3) := by decide +kernel
theorem d_Mo_lengths_17 : decode prog_13_method_45_code 17 = .ok (.iload_n 2, 1) := by decide +kernel
theorem d_Mo_lengths_18 : decode prog_13_method_45_code 18 = .ok (.baload, 1) := by decide +kernel
theorem d_Mo_lengths_19 : decode prog_13_method_45_code 19 = .ok (.ifCond .eq 7, 3) := by decide +kernel
theorem d_Mo_lengths_22 : decode prog_13_method_45_code 22 = .ok (.iconst 0, 1) := by decide +kernel
theorem d_Mo_lengths_23 : decode prog_13_method_45_code 23 = .ok (.goto 8, 3) := by decide +kernel
theorem d_Mo_lengths_26 : decode prog_13_method_45_code 26 = .ok (.aload_n 0, 1) := by decide +kernel
theorem d_Mo_lengths_27 : decode prog_13_method_45_code 27 = .ok (.iload_n 2, 1) := by decide +kernel
theorem d_Mo_lengths_28 : decode prog_13_method_45_code 28 = .ok (.invokevirtual 210, 3) := by decide +kernel
theorem d_Mo_lengths_31 : decode prog_13_method_45_code 31 = .ok (.iadd, 1) := by decide +kernel
theorem d_Mo_lengths_32 : decode prog_13_method_45_code 32 = .ok (.istore_n 1, 1) := by decide +kernel
theorem d_Mo_lengths_33 : decode prog_13_method_45_code 33 = .ok (.iinc 2 1, 3) := by decide +kernel
theorem d_Mo_lengths_36 : decode prog_13_method_45_code 36 = .ok (.goto (-32), 3) := by decide +kernel
theorem d_Mo_lengths_39 : decode prog_13_method_45_code 39 = .ok (.iload_n 1, 1) := by decide +kernel
theorem d_Mo_lengths_40 : decode prog_13_method_45_code 40 = .ok (.ireturn, 1) := by decide +kernel
theorem d_Mo_lengthOf_0 : decode prog_13_method_44_code 0 = .ok (.iconst 0, 1) := by decide +kernel
theorem d_Mo_lengthOf_1 : decode prog_13_method_44_code 1 = .ok (.istore_n 2, 1) := by decide +kernel
theorem d_Mo_lengthOf_2 : decode prog_13_method_44_code 2 = .ok (.iconst 0, 1) := by decide +kernel
theorem d_Mo_lengthOf_3 : decode prog_13_method_44_code 3 = .ok (.istore_n 3, 1) := by decide +kernel
theorem d_Mo_lengthOf_4 : decode prog_13_method_44_code 4 = .ok (.iload_n 3, 1) := by decide +kernel
theorem d_Mo_lengthOf_5 : decode prog_13_method_44_code 5 = .ok (.aload_n 0, 1) := by decide +kernel
theorem d_Mo_lengthOf_6 : decode prog_13_method_44_code 6 = .ok (.getfield 33, 3) := by decide +kernel
theorem d_Mo_lengthOf_9 : decode prog_13_method_44_code 9 = .ok (.iload_n 1, 1) := by decide +kernel
theorem d_Mo_lengthOf_10 : decode prog_13_method_44_code 10 = .ok (.iaload, 1) := by decide +kernel
theorem d_Mo_lengthOf_11 : decode prog_13_method_44_code 11 = .ok (.if_icmp .ge 33, 3) := by decide +kernel
theorem d_Mo_lengthOf_14 : decode prog_13_method_44_code 14 = .ok (.aload_n 0, 1) := by decide +kernel
theorem d_Mo_lengthOf_15 : decode prog_13_method_44_code 15 = .ok (.getfield 36, 3) := by decide +kernel
theorem d_Mo_lengthOf_18 : decode prog_13_method_44_code 18 = .ok (.bipush 12, 2) := by decide +kernel
theorem d_Mo_lengthOf_20 : decode prog_13_method_44_code 20 = .ok (.iload_n 1, 1) := by decide +kernel
theorem d_Mo_lengthOf_21 : decode prog_13_method_44_code 21 = .ok (.imul, 1) := by decide +kernel
theorem d_Mo_lengthOf_22 : decode prog_13_method_44_code 22 = .ok (.iload_n 3, 1) := by decide +kernel
theorem d_Mo_lengthOf_23 : decode prog_13_method_44_code 23 = .ok (.iadd, 1) := by decide +kernel
theorem d_Mo_lengthOf_24 : decode prog_13_method_44_code 24 = .ok (.laload, 1) := by decide +kernel
theorem d_Mo_lengthOf_25 : decode prog_13_method_44_code 25 = .ok (.lconst 0, 1) := by decide +kernel
theorem d_Mo_lengthOf_26 : decode prog_13_method_44_code 26 = .ok (.lcmp, 1) := by decide +kernel
theorem d_Mo_lengthOf_27 : decode prog_13_method_44_code 27 = .ok (.ifCond .eq 9, 3) := by decide +kernel
theorem d_Mo_lengthOf_30 : decode prog_13_method_44_code 30 = .ok (.iload_n 2, 1) := by decide +kernel
theorem d_Mo_lengthOf_31 : decode prog_13_method_44_code 31 = .ok (.iconst 1, 1) := by decide +kernel
theorem d_Mo_lengthOf_32 : decode prog_13_method_44_code 32 = .ok (.iadd, 1) := by decide +kernel
theorem d_Mo_lengthOf_33 : decode prog_13_method_44_code 33 = .ok (.goto 4, 3) := by decide +kernel
theorem d_Mo_lengthOf_36 : decode prog_13_method_44_code 36 = .ok (.iload_n 2, 1) := by decide +kernel
theorem d_Mo_lengthOf_37 : decode prog_13_method_44_code 37 = .ok (.istore_n 2, 1) := by decide +kernel
theorem d_Mo_lengthOf_38 : decode prog_13_method_44_code 38 = .ok (.iinc 3 1, 3) := by decide +kernel
theorem d_Mo_lengthOf_41 : decode prog_13_method_44_code 41 = .ok (.goto (-37), 3) := by decide +kernel
theorem d_Mo_lengthOf_44 : decode prog_13_method_44_code 44 = .ok (.iload_n 2, 1) := by decide +kernel
theorem d_Mo_lengthOf_45 : decode prog_13_method_44_code 45 = .ok (.ireturn, 1) := by decide +kernel
theorem d_Mo_least_0 : decode prog_13_method_49_code 0 = .ok (.lconst 0, 1) := by decide +kernel
theorem d_Mo_least_1 : decode prog_13_method_49_code 1 = .ok (.lstore_n 2, 1) := by decide +kernel
theorem d_Mo_least_2 : decode prog_13_method_49_code 2 = .ok (.iconst 0, 1) := by decide +kernel
theorem d_Mo_least_3 : decode prog_13_method_49_code 3 = .ok (.istore 4, 2) := by decide +kernel
theorem d_Mo_least_5 : decode prog_13_method_49_code 5 = .ok (.iload 4, 2) := by decide +kernel
theorem d_Mo_least_7 : decode prog_13_method_49_code 7 = .ok (.bipush 12, 2) := by decide +kernel
theorem d_Mo_least_9 : decode prog_13_method_49_code 9 = .ok (.if_icmp .ge 166, 3) := by decide +kernel
theorem d_Mo_least_12 : decode prog_13_method_49_code 12 = .ok (.iconst 0, 1) := by decide +kernel
theorem d_Mo_least_13 : decode prog_13_method_49_code 13 = .ok (.istore 5, 2) := by decide +kernel
theorem d_Mo_least_15 : decode prog_13_method_49_code 15 = .ok (.iconst 0, 1) := by decide +kernel
theorem d_Mo_least_16 : decode prog_13_method_49_code 16 = .ok (.istore 6, 2) := by decide +kernel
theorem d_Mo_least_18 : decode prog_13_method_49_code 18 = .ok (.iconst 0, 1) := by decide +kernel
theorem d_Mo_least_19 : decode prog_13_method_49_code 19 = .ok (.istore 7, 2) := by decide +kernel
theorem d_Mo_least_21 : decode prog_13_method_49_code 21 = .ok (.iload 7, 2) := by decide +kernel
theorem d_Mo_least_23 : decode prog_13_method_49_code 23 = .ok (.bipush 12, 2) := by decide +kernel
theorem d_Mo_least_25 : decode prog_13_method_49_code 25 = .ok (.if_icmp .ge 107, 3) := by decide +kernel
theorem d_Mo_least_28 : decode prog_13_method_49_code 28 = .ok (.aload_n 0, 1) := by decide +kernel
theorem d_Mo_least_29 : decode prog_13_method_49_code 29 = .ok (.getfield 66, 3) := by decide +kernel
theorem d_Mo_least_32 : decode prog_13_method_49_code 32 = .ok (.iload 7, 2) := by decide +kernel
theorem d_Mo_least_34 : decode prog_13_method_49_code 34 = .ok (.baload, 1) := by decide +kernel
theorem d_Mo_least_35 : decode prog_13_method_49_code 35 = .ok (.ifCond .eq 38, 3) := by decide +kernel
theorem d_Mo_least_38 : decode prog_13_method_49_code 38 = .ok (.aload_n 0, 1) := by decide +kernel
theorem d_Mo_least_39 : decode prog_13_method_49_code 39 = .ok (.getfield 66, 3) := by decide +kernel
theorem d_Mo_least_42 : decode prog_13_method_49_code 42 = .ok (.iload 4, 2) := by decide +kernel
theorem d_Mo_least_44 : decode prog_13_method_49_code 44 = .ok (.baload, 1) := by decide +kernel
theorem d_Mo_least_45 : decode prog_13_method_49_code 45 = .ok (.ifCond .eq 28, 3) := by decide +kernel
theorem d_Mo_least_48 : decode prog_13_method_49_code 48 = .ok (.aload_n 0, 1) := by decide +kernel
theorem d_Mo_least_49 : decode prog_13_method_49_code 49 = .ok (.getfield 63, 3) := by decide +kernel
theorem d_Mo_least_52 : decode prog_13_method_49_code 52 = .ok (.iload 7, 2) := by decide +kernel
theorem d_Mo_least_54 : decode prog_13_method_49_code 54 = .ok (.laload, 1) := by decide +kernel
theorem d_Mo_least_55 : decode prog_13_method_49_code 55 = .ok (.aload_n 0, 1) := by decide +kernel
theorem d_Mo_least_56 : decode prog_13_method_49_code 56 = .ok (.getfield 63, 3) := by decide +kernel
theorem d_Mo_least_59 : decode prog_13_method_49_code 59 = .ok (.iload 4, 2) := by decide +kernel
theorem d_Mo_least_61 : decode prog_13_method_49_code 61 = .ok (.laload, 1) := by decide +kernel
theorem d_Mo_least_62 : decode prog_13_method_49_code 62 = .ok (.lcmp, 1) := by decide +kernel
theorem d_Mo_least_63 : decode prog_13_method_49_code 63 = .ok (.ifCond .le 10, 3) := by decide +kernel
theorem d_Mo_least_66 : decode prog_13_method_49_code 66 = .ok (.iload 5, 2) := by decide +kernel
theorem d_Mo_least_68 : decode prog_13_method_49_code 68 = .ok (.iconst 1, 1) := by decide +kernel
theorem d_Mo_least_69 : decode prog_13_method_49_code 69 = .ok (.iadd, 1) := by decide +kernel
theorem d_Mo_least_70 : decode prog_13_method_49_code 70 = .ok (.goto 5, 3) := by decide +kernel
theorem d_Mo_least_73 : decode prog_13_method_49_code 73 = .ok (.iload 5, 2) := by decide +kernel
theorem d_Mo_least_75 : decode prog_13_method_49_code 75 = .ok (.istore 5, 2) := by decide +kernel
theorem d_Mo_least_77 : decode prog_13_method_49_code 77 = .ok (.aload_n 0, 1) := by decide +kernel
theorem d_Mo_least_78 : decode prog_13_method_49_code 78 = .ok (.getfield 66, 3) := by decide +kernel
theorem d_Mo_least_81 : decode prog_13_method_49_code 81 = .ok (.iload 7, 2) := by decide +kernel
theorem d_Mo_least_83 : decode prog_13_method_49_code 83 = .ok (.baload, 1) := by decide +kernel
theorem d_Mo_least_84 : decode prog_13_method_49_code 84 = .ok (.ifCond .eq 38, 3) := by decide +kernel
theorem d_Mo_least_87 : decode prog_13_method_49_code 87 = .ok (.aload_n 0, 1) := by decide +kernel
theorem d_Mo_least_88 : decode prog_13_method_49_code 88 = .ok (.getfield 66, 3) := by decide +kernel
theorem d_Mo_least_91 : decode prog_13_method_49_code 91 = .ok (.iload 4, 2) := by decide +kernel
theorem d_Mo_least_93 : decode prog_13_method_49_code 93 = .ok (.baload, 1) := by decide +kernel
theorem d_Mo_least_94 : decode prog_13_method_49_code 94 = .ok (.ifCond .eq 28, 3) := by decide +kernel
theorem d_Mo_least_97 : decode prog_13_method_49_code 97 = .ok (.aload_n 0, 1) := by decide +kernel
theorem d_Mo_least_98 : decode prog_13_method_49_code 98 = .ok (.getfield 63, 3) := by decide +kernel
theorem d_Mo_least_101 : decode prog_13_method_49_code 101 = .ok (.iload 7, 2) := by decide +kernel
theorem d_Mo_least_103 : decode prog_13_method_49_code 103 = .ok (.laload, 1) := by decide +kernel
theorem d_Mo_least_104 : decode prog_13_method_49_code 104 = .ok (.aload_n 0, 1) := by decide +kernel
theorem d_Mo_least_105 : decode prog_13_method_49_code 105 = .ok (.getfield 63, 3) := by decide +kernel
theorem d_Mo_least_108 : decode prog_13_method_49_code 108 = .ok (.iload 4, 2) := by decide +kernel
theorem d_Mo_least_110 : decode prog_13_method_49_code 110 = .ok (.laload, 1) := by decide +kernel
theorem d_Mo_least_111 : decode prog_13_method_49_code 111 = .ok (.lcmp, 1) := by decide +kernel
theorem d_Mo_least_112 : decode prog_13_method_49_code 112 = .ok (.ifCond .ne 10, 3) := by decide +kernel
theorem d_Mo_least_115 : decode prog_13_method_49_code 115 = .ok (.iload 6, 2) := by decide +kernel
theorem d_Mo_least_117 : decode prog_13_method_49_code 117 = .ok (.iconst 1, 1) := by decide +kernel
theorem d_Mo_least_118 : decode prog_13_method_49_code 118 = .ok (.iadd, 1) := by decide +kernel
theorem d_Mo_least_119 : decode prog_13_method_49_code 119 = .ok (.goto 5, 3) := by decide +kernel
theorem d_Mo_least_122 : decode prog_13_method_49_code 122 = .ok (.iload 6, 2) := by decide +kernel
theorem d_Mo_least_124 : decode prog_13_method_49_code 124 = .ok (.istore 6, 2) := by decide +kernel
theorem d_Mo_least_126 : decode prog_13_method_49_code 126 = .ok (.iinc 7 1, 3) := by decide +kernel
theorem d_Mo_least_129 : decode prog_13_method_49_code 129 = .ok (.goto (-108), 3) := by decide +kernel
theorem d_Mo_least_132 : decode prog_13_method_49_code 132 = .ok (.aload_n 0, 1) := by decide +kernel
theorem d_Mo_least_133 : decode prog_13_method_49_code 133 = .ok (.getfield 66, 3) := by decide +kernel
theorem d_Mo_least_136 : decode prog_13_method_49_code 136 = .ok (.iload 4, 2) := by decide +kernel
theorem d_Mo_least_138 : decode prog_13_method_49_code 138 = .ok (.baload, 1) := by decide +kernel
theorem d_Mo_least_139 : decode prog_13_method_49_code 139 = .ok (.ifCond .eq 28, 3) := by decide +kernel
theorem d_Mo_least_142 : decode prog_13_method_49_code 142 = .ok (.iload 5, 2) := by decide +kernel
theorem d_Mo_least_144 : decode prog_13_method_49_code 144 = .ok (.iload_n 1, 1) := by decide +kernel
theorem d_Mo_least_145 : decode prog_13_method_49_code 145 = .ok (.if_icmp .ge 22, 3) := by decide +kernel
theorem d_Mo_least_148 : decode prog_13_method_49_code 148 = .ok (.iload 5, 2) := by decide +kernel
theorem d_Mo_least_150 : decode prog_13_method_49_code 150 = .ok (.iload 6, 2) := by decide +kernel
theorem d_Mo_least_152 : decode prog_13_method_49_code 152 = .ok (.iadd, 1) := by decide +kernel
theorem d_Mo_least_153 : decode prog_13_method_49_code 153 = .ok (.iload_n 1, 1) := by decide +kernel
theorem d_Mo_least_154 : decode prog_13_method_49_code 154 = .ok (.if_icmp .lt 13, 3) := by decide +kernel
theorem d_Mo_least_157 : decode prog_13_method_49_code 157 = .ok (.aload_n 0, 1) := by decide +kernel
theorem d_Mo_least_158 : decode prog_13_method_49_code 158 = .ok (.getfield 63, 3) := by decide +kernel
theorem d_Mo_least_161 : decode prog_13_method_49_code 161 = .ok (.iload 4, 2) := by decide +kernel
theorem d_Mo_least_163 : decode prog_13_method_49_code 163 = .ok (.laload, 1) := by decide +kernel
theorem d_Mo_least_164 : decode prog_13_method_49_code 164 = .ok (.goto 4, 3) := by decide +kernel
theorem d_Mo_least_167 : decode prog_13_method_49_code 167 = .ok (.lload_n 2, 1) := by decide +kernel
theorem d_Mo_least_168 : decode prog_13_method_49_code 168 = .ok (.lstore_n 2, 1) := by decide +kernel
theorem d_Mo_least_169 : decode prog_13_method_49_code 169 = .ok (.iinc 4 1, 3) := by decide +kernel
theorem d_Mo_least_172 : decode prog_13_method_49_code 172 = .ok (.goto (-167), 3) := by decide +kernel
theorem d_Mo_least_175 : decode prog_13_method_49_code 175 = .ok (.lload_n 2, 1) := by decide +kernel
theorem d_Mo_least_176 : decode prog_13_method_49_code 176 = .ok (.lreturn, 1) := by decide +kernel
theorem d_Mo_best_0 : decode prog_13_method_51_code 0 = .ok (.iconst 0, 1) := by decide +kernel
theorem d_Mo_best_1 : decode prog_13_method_51_code 1 = .ok (.istore_n 2, 1) := by decide +kernel
theorem d_Mo_best_2 : decode prog_13_method_51_code 2 = .ok (.iload_n 2, 1) := by decide +kernel
theorem d_Mo_best_3 : decode prog_13_method_51_code 3 = .ok (.bipush 12, 2) := by decide +kernel
theorem d_Mo_best_5 : decode prog_13_method_51_code 5 = .ok (.if_icmp .ge 63, 3) := by decide +kernel
theorem d_Mo_best_8 : decode prog_13_method_51_code 8 = .ok (.aload_n 0, 1) := by decide +kernel
theorem d_Mo_best_9 : decode prog_13_method_51_code 9 = .ok (.getfield 63, 3) := by decide +kernel
theorem d_Mo_best_12 : decode prog_13_method_51_code 12 = .ok (.iload_n 2, 1) := by decide +kernel
theorem d_Mo_best_13 : decode prog_13_method_51_code 13 = .ok (.aload_n 0, 1) := by decide +kernel
theorem d_Mo_best_14 : decode prog_13_method_51_code 14 = .ok (.getfield 60, 3) := by decide +kernel
theorem d_Mo_best_17 : decode prog_13_method_51_code 17 = .ok (.iload_n 2, 1) := by decide +kernel
theorem d_Mo_best_18 : decode prog_13_method_51_code 18 = .ok (.iaload, 1) := by decide +kernel
theorem d_Mo_best_19 : decode prog_13_method_51_code 19 = .ok (.ifCond .ge 9, 3) := by decide +kernel
theorem d_Mo_best_22 : decode prog_13_method_51_code 22 = .ok (.ldc2_w 237, 3) := by decide +kernel
theorem d_Mo_best_25 : decode prog_13_method_51_code 25 = .ok (.goto 14, 3) := by decide +kernel
theorem d_Mo_best_28 : decode prog_13_method_51_code 28 = .ok (.aload_n 0, 1) := by decide +kernel
theorem d_Mo_best_29 : decode prog_13_method_51_code 29 = .ok (.aload_n 0, 1) := by decide +kernel
theorem d_Mo_best_30 : decode prog_13_method_51_code 30 = .ok (.getfield 60, 3) := by decide +kernel
theorem d_Mo_best_33 : decode prog_13_method_51_code 33 = .ok (.iload_n 2, 1) := by decide +kernel
theorem d_Mo_best_34 : decode prog_13_method_51_code 34 = .ok (.iaload, 1) := by decide +kernel
theorem d_Mo_best_35 : decode prog_13_method_51_code 35 = .ok (.iconst 0, 1) := by decide +kernel
theorem d_Mo_best_36 : decode prog_13_method_51_code 36 = .ok (.invokevirtual 242, 3) := by decide +kernel
theorem d_Mo_best_39 : decode prog_13_method_51_code 39 = .ok (.lastore, 1) := by decide +kernel
theorem d_Mo_best_40 : decode prog_13_method_51_code 40 = .ok (.aload_n 0, 1) := by decide +kernel
theorem d_Mo_best_41 : decode prog_13_method_51_code 41 = .ok (.getfield 66, 3) := by decide +kernel
theorem d_Mo_best_44 : decode prog_13_method_51_code 44 = .ok (.iload_n 2, 1) := by decide +kernel
theorem d_Mo_best_45 : decode prog_13_method_51_code 45 = .ok (.aload_n 0, 1) := by decide +kernel
theorem d_Mo_best_46 : decode prog_13_method_51_code 46 = .ok (.getfield 63, 3) := by decide +kernel
theorem d_Mo_best_49 : decode prog_13_method_51_code 49 = .ok (.iload_n 2, 1) := by decide +kernel
theorem d_Mo_best_50 : decode prog_13_method_51_code 50 = .ok (.laload, 1) := by decide +kernel
theorem d_Mo_best_51 : decode prog_13_method_51_code 51 = .ok (.lconst 0, 1) := by decide +kernel
theorem d_Mo_best_52 : decode prog_13_method_51_code 52 = .ok (.lcmp, 1) := by decide +kernel
theorem d_Mo_best_53 : decode prog_13_method_51_code 53 = .ok (.ifCond .ge 7, 3) := by decide +kernel
theorem d_Mo_best_56 : decode prog_13_method_51_code 56 = .ok (.iconst 1, 1) := by decide +kernel
theorem d_Mo_best_57 : decode prog_13_method_51_code 57 = .ok (.goto 4, 3) := by decide +kernel
theorem d_Mo_best_60 : decode prog_13_method_51_code 60 = .ok (.iconst 0, 1) := by decide +kernel
theorem d_Mo_best_61 : decode prog_13_method_51_code 61 = .ok (.bastore, 1) := by decide +kernel
theorem d_Mo_best_62 : decode prog_13_method_51_code 62 = .ok (.iinc 2 1, 3) := by decide +kernel
theorem d_Mo_best_65 : decode prog_13_method_51_code 65 = .ok (.goto (-63), 3) := by decide +kernel
theorem d_Mo_best_68 : decode prog_13_method_51_code 68 = .ok (.iconst 0, 1) := by decide +kernel
theorem d_Mo_best_69 : decode prog_13_method_51_code 69 = .ok (.istore_n 2, 1) := by decide +kernel
theorem d_Mo_best_70 : decode prog_13_method_51_code 70 = .ok (.iload_n 2, 1) := by decide +kernel
theorem d_Mo_best_71 : decode prog_13_method_51_code 71 = .ok (.iload_n 1, 1) := by decide +kernel
theorem d_Mo_best_72 : decode prog_13_method_51_code 72 = .ok (.if_icmp .ge 111, 3) := by decide +kernel
theorem d_Mo_best_75 : decode prog_13_method_51_code 75 = .ok (.iconst (-1), 1) := by decide +kernel
theorem d_Mo_best_76 : decode prog_13_method_51_code 76 = .ok (.istore_n 3, 1) := by decide +kernel
theorem d_Mo_best_77 : decode prog_13_method_51_code 77 = .ok (.iconst 0, 1) := by decide +kernel
theorem d_Mo_best_78 : decode prog_13_method_51_code 78 = .ok (.istore 4, 2) := by decide +kernel
theorem d_Mo_best_80 : decode prog_13_method_51_code 80 = .ok (.iload 4, 2) := by decide +kernel
theorem d_Mo_best_82 : decode prog_13_method_51_code 82 = .ok (.bipush 12, 2) := by decide +kernel
theorem d_Mo_best_84 : decode prog_13_method_51_code 84 = .ok (.if_icmp .ge 47, 3) := by decide +kernel
theorem d_Mo_best_87 : decode prog_13_method_51_code 87 = .ok (.aload_n 0, 1) := by decide +kernel
theorem d_Mo_best_88 : decode prog_13_method_51_code 88 = .ok (.getfield 66, 3) := by decide +kernel
theorem d_Mo_best_91 : decode prog_13_method_51_code 91 = .ok (.iload 4, 2) := by decide +kernel
theorem d_Mo_best_93 : decode prog_13_method_51_code 93 = .ok (.baload, 1) := by decide +kernel
theorem d_Mo_best_94 : decode prog_13_method_51_code 94 = .ok (.ifCond .ne 29, 3) := by decide +kernel
theorem d_Mo_best_97 : decode prog_13_method_51_code 97 = .ok (.iload_n 3, 1) := by decide +kernel
theorem d_Mo_best_98 : decode prog_13_method_51_code 98 = .ok (.ifCond .lt 20, 3) := by decide +kernel
theorem d_Mo_best_101 : decode prog_13_method_51_code 101 = .ok (.aload_n 0, 1) := by decide +kernel
theorem d_Mo_best_102 : decode prog_13_method_51_code 102 = .ok (.getfield 63, 3) := by decide +kernel
theorem d_Mo_best_105 : decode prog_13_method_51_code 105 = .ok (.iload 4, 2) := by decide +kernel
theorem d_Mo_best_107 : decode prog_13_method_51_code 107 = .ok (.laload, 1) := by decide +kernel
theorem d_Mo_best_108 : decode prog_13_method_51_code 108 = .ok (.aload_n 0, 1) := by decide +kernel
theorem d_Mo_best_109 : decode prog_13_method_51_code 109 = .ok (.getfield 63, 3) := by decide +kernel
theorem d_Mo_best_112 : decode prog_13_method_51_code 112 = .ok (.iload_n 3, 1) := by decide +kernel
theorem d_Mo_best_113 : decode prog_13_method_51_code 113 = .ok (.laload, 1) := by decide +kernel
theorem d_Mo_best_114 : decode prog_13_method_51_code 114 = .ok (.lcmp, 1) := by decide +kernel
theorem d_Mo_best_115 : decode prog_13_method_51_code 115 = .ok (.ifCond .le 8, 3) := by decide +kernel
theorem d_Mo_best_118 : decode prog_13_method_51_code 118 = .ok (.iload 4, 2) := by decide +kernel
theorem d_Mo_best_120 : decode prog_13_method_51_code 120 = .ok (.goto 4, 3) := by decide +kernel
theorem d_Mo_best_123 : decode prog_13_method_51_code 123 = .ok (.iload_n 3, 1) := by decide +kernel
theorem d_Mo_best_124 : decode prog_13_method_51_code 124 = .ok (.istore_n 3, 1) := by decide +kernel
theorem d_Mo_best_125 : decode prog_13_method_51_code 125 = .ok (.iinc 4 1, 3) := by decide +kernel
theorem d_Mo_best_128 : decode prog_13_method_51_code 128 = .ok (.goto (-48), 3) := by decide +kernel
theorem d_Mo_best_131 : decode prog_13_method_51_code 131 = .ok (.iload_n 3, 1) := by decide +kernel
theorem d_Mo_best_132 : decode prog_13_method_51_code 132 = .ok (.ifCond .lt 45, 3) := by decide +kernel
theorem d_Mo_best_135 : decode prog_13_method_51_code 135 = .ok (.aload_n 0, 1) := by decide +kernel
theorem d_Mo_best_136 : decode prog_13_method_51_code 136 = .ok (.getfield 66, 3) := by decide +kernel
theorem d_Mo_best_139 : decode prog_13_method_51_code 139 = .ok (.iload_n 3, 1) := by decide +kernel
theorem d_Mo_best_140 : decode prog_13_method_51_code 140 = .ok (.iconst 1, 1) := by decide +kernel
theorem d_Mo_best_141 : decode prog_13_method_51_code 141 = .ok (.bastore, 1) := by decide +kernel
theorem d_Mo_best_142 : decode prog_13_method_51_code 142 = .ok (.aload_n 0, 1) := by decide +kernel
theorem d_Mo_best_143 : decode prog_13_method_51_code 143 = .ok (.getfield 54, 3) := by decide +kernel
theorem d_Mo_best_146 : decode prog_13_method_51_code 146 = .ok (.aload_n 0, 1) := by decide +kernel
theorem d_Mo_best_147 : decode prog_13_method_51_code 147 = .ok (.getfield 200, 3) := by decide +kernel
theorem d_Mo_best_150 : decode prog_13_method_51_code 150 = .ok (.iload_n 3, 1) := by decide +kernel
theorem d_Mo_best_151 : decode prog_13_method_51_code 151 = .ok (.iastore, 1) := by decide +kernel
theorem d_Mo_best_152 : decode prog_13_method_51_code 152 = .ok (.aload_n 0, 1) := by decide +kernel
theorem d_Mo_best_153 : decode prog_13_method_51_code 153 = .ok (.getfield 57, 3) := by decide +kernel
theorem d_Mo_best_156 : decode prog_13_method_51_code 156 = .ok (.aload_n 0, 1) := by decide +kernel
theorem d_Mo_best_157 : decode prog_13_method_51_code 157 = .ok (.getfield 200, 3) := by decide +kernel
theorem d_Mo_best_160 : decode prog_13_method_51_code 160 = .ok (.aload_n 0, 1) := by decide +kernel
theorem d_Mo_best_161 : decode prog_13_method_51_code 161 = .ok (.getfield 63, 3) := by decide +kernel
theorem d_Mo_best_164 : decode prog_13_method_51_code 164 = .ok (.iload_n 3, 1) := by decide +kernel
theorem d_Mo_best_165 : decode prog_13_method_51_code 165 = .ok (.laload, 1) := by decide +kernel
theorem d_Mo_best_166 : decode prog_13_method_51_code 166 = .ok (.lastore, 1) := by decide +kernel
theorem d_Mo_best_167 : decode prog_13_method_51_code 167 = .ok (.aload_n 0, 1) := by decide +kernel
theorem d_Mo_best_168 : decode prog_13_method_51_code 168 = .ok (.dup, 1) := by decide +kernel
theorem d_Mo_best_169 : decode prog_13_method_51_code 169 = .ok (.getfield 200, 3) := by decide +kernel
theorem d_Mo_best_172 : decode prog_13_method_51_code 172 = .ok (.iconst 1, 1) := by decide +kernel
theorem d_Mo_best_173 : decode prog_13_method_51_code 173 = .ok (.iadd, 1) := by decide +kernel
theorem d_Mo_best_174 : decode prog_13_method_51_code 174 = .ok (.putfield 200, 3) := by decide +kernel
theorem d_Mo_best_177 : decode prog_13_method_51_code 177 = .ok (.iinc 2 1, 3) := by decide +kernel
theorem d_Mo_best_180 : decode prog_13_method_51_code 180 = .ok (.goto (-110), 3) := by decide +kernel
theorem d_Mo_best_183 : decode prog_13_method_51_code 183 = .ok (.return_, 1) := by decide +kernel
theorem d_Mo_result_0 : decode prog_13_method_53_code 0 = .ok (.iload_n 1, 1) := by decide +kernel
theorem d_Mo_result_1 : decode prog_13_method_53_code 1 = .ok (.ifCond .lt 11, 3) := by decide +kernel
theorem d_Mo_result_4 : decode prog_13_method_53_code 4 = .ok (.iload_n 1, 1) := by decide +kernel
theorem d_Mo_result_5 : decode prog_13_method_53_code 5 = .ok (.aload_n 0, 1) := by decide +kernel
theorem d_Mo_result_6 : decode prog_13_method_53_code 6 = .ok (.getfield 200, 3) := by decide +kernel
theorem d_Mo_result_9 : decode prog_13_method_53_code 9 = .ok (.if_icmp .lt 7, 3) := by decide +kernel
theorem d_Mo_result_12 : decode prog_13_method_53_code 12 = .ok (.iconst (-1), 1) := by decide +kernel
theorem d_Mo_result_13 : decode prog_13_method_53_code 13 = .ok (.goto 9, 3) := by decide +kernel
theorem d_Mo_result_16 : decode prog_13_method_53_code 16 = .ok (.aload_n 0, 1) := by decide +kernel
theorem d_Mo_result_17 : decode prog_13_method_53_code 17 = .ok (.getfield 54, 3) := by decide +kernel
theorem d_Mo_result_20 : decode prog_13_method_53_code 20 = .ok (.iload_n 1, 1) := by decide +kernel
theorem d_Mo_result_21 : decode prog_13_method_53_code 21 = .ok (.iaload, 1) := by decide +kernel
theorem d_Mo_result_22 : decode prog_13_method_53_code 22 = .ok (.ireturn, 1) := by decide +kernel
theorem d_Mo_weight_0 : decode prog_13_method_54_code 0 = .ok (.iload_n 1, 1) := by decide +kernel
theorem d_Mo_weight_1 : decode prog_13_method_54_code 1 = .ok (.ifCond .lt 11, 3) := by decide +kernel
theorem d_Mo_weight_4 : decode prog_13_method_54_code 4 = .ok (.iload_n 1, 1) := by decide +kernel
theorem d_Mo_weight_5 : decode prog_13_method_54_code 5 = .ok (.aload_n 0, 1) := by decide +kernel
theorem d_Mo_weight_6 : decode prog_13_method_54_code 6 = .ok (.getfield 200, 3) := by decide +kernel
theorem d_Mo_weight_9 : decode prog_13_method_54_code 9 = .ok (.if_icmp .lt 7, 3) := by decide +kernel
theorem d_Mo_weight_12 : decode prog_13_method_54_code 12 = .ok (.iconst (-1), 1) := by decide +kernel
theorem d_Mo_weight_13 : decode prog_13_method_54_code 13 = .ok (.goto 10, 3) := by decide +kernel
theorem d_Mo_weight_16 : decode prog_13_method_54_code 16 = .ok (.aload_n 0, 1) := by decide +kernel
theorem d_Mo_weight_17 : decode prog_13_method_54_code 17 = .ok (.getfield 57, 3) := by decide +kernel
theorem d_Mo_weight_20 : decode prog_13_method_54_code 20 = .ok (.iload_n 1, 1) := by decide +kernel
theorem d_Mo_weight_21 : decode prog_13_method_54_code 21 = .ok (.laload, 1) := by decide +kernel
theorem d_Mo_weight_22 : decode prog_13_method_54_code 22 = .ok (.l2i, 1) := by decide +kernel
theorem d_Mo_weight_23 : decode prog_13_method_54_code 23 = .ok (.ireturn, 1) := by decide +kernel
theorem d_Mo_weighed_0 : decode prog_13_method_55_code 0 = .ok (.aload_n 0, 1) := by decide +kernel
theorem d_Mo_weighed_1 : decode prog_13_method_55_code 1 = .ok (.getfield 239, 3) := by decide +kernel
theorem d_Mo_weighed_4 : decode prog_13_method_55_code 4 = .ok (.ireturn, 1) := by decide +kernel
theorem d_Mo_size_0 : decode prog_13_method_57_code 0 = .ok (.iconst 0, 1) := by decide +kernel
theorem d_Mo_size_1 : decode prog_13_method_57_code 1 = .ok (.istore_n 2, 1) := by decide +kernel
theorem d_Mo_size_2 : decode prog_13_method_57_code 2 = .ok (.iconst 0, 1) := by decide +kernel
theorem d_Mo_size_3 : decode prog_13_method_57_code 3 = .ok (.istore_n 3, 1) := by decide +kernel
theorem d_Mo_size_4 : decode prog_13_method_57_code 4 = .ok (.iload_n 3, 1) := by decide +kernel
theorem d_Mo_size_5 : decode prog_13_method_57_code 5 = .ok (.aload_n 0, 1) := by decide +kernel
theorem d_Mo_size_6 : decode prog_13_method_57_code 6 = .ok (.getfield 158, 3) := by decide +kernel
theorem d_Mo_size_9 : decode prog_13_method_57_code 9 = .ok (.if_icmp .ge 17, 3) := by decide +kernel
theorem d_Mo_size_12 : decode prog_13_method_57_code 12 = .ok (.iload_n 2, 1) := by decide +kernel
theorem d_Mo_size_13 : decode prog_13_method_57_code 13 = .ok (.aload_n 0, 1) := by decide +kernel
theorem d_Mo_size_14 : decode prog_13_method_57_code 14 = .ok (.iload_n 3, 1) := by decide +kernel
theorem d_Mo_size_15 : decode prog_13_method_57_code 15 = .ok (.invokevirtual 256, 3) := by decide +kernel
theorem d_Mo_size_18 : decode prog_13_method_57_code 18 = .ok (.iadd, 1) := by decide +kernel
theorem d_Mo_size_19 : decode prog_13_method_57_code 19 = .ok (.istore_n 2, 1) := by decide +kernel
theorem d_Mo_size_20 : decode prog_13_method_57_code 20 = .ok (.iinc 3 1, 3) := by decide +kernel
theorem d_Mo_size_23 : decode prog_13_method_57_code 23 = .ok (.goto (-19), 3) := by decide +kernel
theorem d_Mo_size_26 : decode prog_13_method_57_code 26 = .ok (.iload_n 1, 1) := by decide +kernel
theorem d_Mo_size_27 : decode prog_13_method_57_code 27 = .ok (.tableswitch 111 0 9 #[53, 58, 63, 68, 76, 81, 86, 91, 96, 109], 53) := by decide +kernel
theorem d_Mo_size_80 : decode prog_13_method_57_code 80 = .ok (.aload_n 0, 1) := by decide +kernel
theorem d_Mo_size_81 : decode prog_13_method_57_code 81 = .ok (.invokevirtual 177, 3) := by decide +kernel
theorem d_Mo_size_84 : decode prog_13_method_57_code 84 = .ok (.ireturn, 1) := by decide +kernel
theorem d_Mo_size_85 : decode prog_13_method_57_code 85 = .ok (.aload_n 0, 1) := by decide +kernel
theorem d_Mo_size_86 : decode prog_13_method_57_code 86 = .ok (.getfield 161, 3) := by decide +kernel
theorem d_Mo_size_89 : decode prog_13_method_57_code 89 = .ok (.ireturn, 1) := by decide +kernel
theorem d_Mo_size_90 : decode prog_13_method_57_code 90 = .ok (.aload_n 0, 1) := by decide +kernel
theorem d_Mo_size_91 : decode prog_13_method_57_code 91 = .ok (.getfield 158, 3) := by decide +kernel
theorem d_Mo_size_94 : decode prog_13_method_57_code 94 = .ok (.ireturn, 1) := by decide +kernel
theorem d_Mo_size_95 : decode prog_13_method_57_code 95 = .ok (.bipush 12, 2) := by decide +kernel
theorem d_Mo_size_97 : decode prog_13_method_57_code 97 = .ok (.aload_n 0, 1) := by decide +kernel
theorem d_Mo_size_98 : decode prog_13_method_57_code 98 = .ok (.invokevirtual 142, 3) := by decide +kernel
theorem d_Mo_size_101 : decode prog_13_method_57_code 101 = .ok (.isub, 1) := by decide +kernel
theorem d_Mo_size_102 : decode prog_13_method_57_code 102 = .ok (.ireturn, 1) := by decide +kernel
theorem d_Mo_size_103 : decode prog_13_method_57_code 103 = .ok (.aload_n 0, 1) := by decide +kernel
theorem d_Mo_size_104 : decode prog_13_method_57_code 104 = .ok (.getfield 135, 3) := by decide +kernel
theorem d_Mo_size_107 : decode prog_13_method_57_code 107 = .ok (.ireturn, 1) := by decide +kernel
theorem d_Mo_size_108 : decode prog_13_method_57_code 108 = .ok (.aload_n 0, 1) := by decide +kernel
theorem d_Mo_size_109 : decode prog_13_method_57_code 109 = .ok (.getfield 149, 3) := by decide +kernel
theorem d_Mo_size_112 : decode prog_13_method_57_code 112 = .ok (.ireturn, 1) := by decide +kernel
theorem d_Mo_size_113 : decode prog_13_method_57_code 113 = .ok (.aload_n 0, 1) := by decide +kernel
theorem d_Mo_size_114 : decode prog_13_method_57_code 114 = .ok (.invokevirtual 213, 3) := by decide +kernel
theorem d_Mo_size_117 : decode prog_13_method_57_code 117 = .ok (.ireturn, 1) := by decide +kernel
theorem d_Mo_size_118 : decode prog_13_method_57_code 118 = .ok (.aload_n 0, 1) := by decide +kernel
theorem d_Mo_size_119 : decode prog_13_method_57_code 119 = .ok (.getfield 155, 3) := by decide +kernel
theorem d_Mo_size_122 : decode prog_13_method_57_code 122 = .ok (.ireturn, 1) := by decide +kernel
theorem d_Mo_size_123 : decode prog_13_method_57_code 123 = .ok (.aload_n 0, 1) := by decide +kernel
theorem d_Mo_size_124 : decode prog_13_method_57_code 124 = .ok (.getfield 131, 3) := by decide +kernel
theorem d_Mo_size_127 : decode prog_13_method_57_code 127 = .ok (.ifCond .eq 7, 3) := by decide +kernel
theorem d_Mo_size_130 : decode prog_13_method_57_code 130 = .ok (.iconst 1, 1) := by decide +kernel
theorem d_Mo_size_131 : decode prog_13_method_57_code 131 = .ok (.goto 4, 3) := by decide +kernel
theorem d_Mo_size_134 : decode prog_13_method_57_code 134 = .ok (.iconst 0, 1) := by decide +kernel
theorem d_Mo_size_135 : decode prog_13_method_57_code 135 = .ok (.ireturn, 1) := by decide +kernel
theorem d_Mo_size_136 : decode prog_13_method_57_code 136 = .ok (.iload_n 2, 1) := by decide +kernel
theorem d_Mo_size_137 : decode prog_13_method_57_code 137 = .ok (.ireturn, 1) := by decide +kernel
theorem d_Mo_size_138 : decode prog_13_method_57_code 138 = .ok (.iconst (-1), 1) := by decide +kernel
theorem d_Mo_size_139 : decode prog_13_method_57_code 139 = .ok (.ireturn, 1) := by decide +kernel
theorem d_Mo_different_0 : decode prog_13_method_56_code 0 = .ok (.iconst 0, 1) := by decide +kernel
theorem d_Mo_different_1 : decode prog_13_method_56_code 1 = .ok (.istore_n 2, 1) := by decide +kernel
theorem d_Mo_different_2 : decode prog_13_method_56_code 2 = .ok (.iconst 0, 1) := by decide +kernel
theorem d_Mo_different_3 : decode prog_13_method_56_code 3 = .ok (.istore_n 3, 1) := by decide +kernel
theorem d_Mo_different_4 : decode prog_13_method_56_code 4 = .ok (.iload_n 3, 1) := by decide +kernel
theorem d_Mo_different_5 : decode prog_13_method_56_code 5 = .ok (.aload_n 0, 1) := by decide +kernel
theorem d_Mo_different_6 : decode prog_13_method_56_code 6 = .ok (.getfield 33, 3) := by decide +kernel
theorem d_Mo_different_9 : decode prog_13_method_56_code 9 = .ok (.iload_n 1, 1) := by decide +kernel
theorem d_Mo_different_10 : decode prog_13_method_56_code 10 = .ok (.iaload, 1) := by decide +kernel
theorem d_Mo_different_11 : decode prog_13_method_56_code 11 = .ok (.if_icmp .ge 94, 3) := by decide +kernel
theorem d_Mo_different_14 : decode prog_13_method_56_code 14 = .ok (.aload_n 0, 1) := by decide +kernel
theorem d_Mo_different_15 : decode prog_13_method_56_code 15 = .ok (.getfield 36, 3) := by decide +kernel
theorem d_Mo_different_18 : decode prog_13_method_56_code 18 = .ok (.bipush 12, 2) := by decide +kernel
theorem d_Mo_different_20 : decode prog_13_method_56_code 20 = .ok (.iload_n 1, 1) := by decide +kernel
theorem d_Mo_different_21 : decode prog_13_method_56_code 21 = .ok (.imul, 1) := by decide +kernel
theorem d_Mo_different_22 : decode prog_13_method_56_code 22 = .ok (.iload_n 3, 1) := by decide +kernel
theorem d_Mo_different_23 : decode prog_13_method_56_code 23 = .ok (.iadd, 1) := by decide +kernel
theorem d_Mo_different_24 : decode prog_13_method_56_code 24 = .ok (.laload, 1) := by decide +kernel
theorem d_Mo_different_25 : decode prog_13_method_56_code 25 = .ok (.lstore 4, 2) := by decide +kernel
theorem d_Mo_different_27 : decode prog_13_method_56_code 27 = .ok (.lload 4, 2) := by decide +kernel
theorem d_Mo_different_29 : decode prog_13_method_56_code 29 = .ok (.lconst 0, 1) := by decide +kernel
theorem d_Mo_different_30 : decode prog_13_method_56_code 30 = .ok (.lcmp, 1) := by decide +kernel
theorem d_Mo_different_31 : decode prog_13_method_56_code 31 = .ok (.ifCond .eq 7, 3) := by decide +kernel
theorem d_Mo_different_34 : decode prog_13_method_56_code 34 = .ok (.iconst 1, 1) := by decide +kernel
theorem d_Mo_different_35 : decode prog_13_method_56_code 35 = .ok (.goto 4, 3) := by decide +kernel
theorem d_Mo_different_38 : decode prog_13_method_56_code 38 = .ok (.iconst 0, 1) := by decide +kernel
theorem d_Mo_different_39 : decode prog_13_method_56_code 39 = .ok (.istore 6, 2) := by decide +kernel
theorem d_Mo_different_41 : decode prog_13_method_56_code 41 = .ok (.iconst 0, 1) := by decide +kernel
theorem d_Mo_different_42 : decode prog_13_method_56_code 42 = .ok (.istore 7, 2) := by decide +kernel
theorem d_Mo_different_44 : decode prog_13_method_56_code 44 = .ok (.iload 7, 2) := by decide +kernel
theorem d_Mo_different_46 : decode prog_13_method_56_code 46 = .ok (.iload_n 3, 1) := by decide +kernel
theorem d_Mo_different_47 : decode prog_13_method_56_code 47 = .ok (.if_icmp .ge 39, 3) := by decide +kernel
theorem d_Mo_different_50 : decode prog_13_method_56_code 50 = .ok (.iload 6, 2) := by decide +kernel
theorem d_Mo_different_52 : decode prog_13_method_56_code 52 = .ok (.ifCond .eq 25, 3) := by decide +kernel
theorem d_Mo_different_55 : decode prog_13_method_56_code 55 = .ok (.aload_n 0, 1) := by decide +kernel
theorem d_Mo_different_56 : decode prog_13_method_56_code 56 = .ok (.getfield 36, 3) := by decide +kernel
theorem d_Mo_different_59 : decode prog_13_method_56_code 59 = .ok (.bipush 12, 2) := by decide +kernel
theorem d_Mo_different_61 : decode prog_13_method_56_code 61 = .ok (.iload_n 1, 1) := by decide +kernel
theorem d_Mo_different_62 : decode prog_13_method_56_code 62 = .ok (.imul, 1) := by decide +kernel
theorem d_Mo_different_63 : decode prog_13_method_56_code 63 = .ok (.iload 7, 2) := by decide +kernel
theorem d_Mo_different_65 : decode prog_13_method_56_code 65 = .ok (.iadd, 1) := by decide +kernel
theorem d_Mo_different_66 : decode prog_13_method_56_code 66 = .ok (.laload, 1) := by decide +kernel
theorem d_Mo_different_67 : decode prog_13_method_56_code 67 = .ok (.lload 4, 2) := by decide +kernel
theorem d_Mo_different_69 : decode prog_13_method_56_code 69 = .ok (.lcmp, 1) := by decide +kernel
theorem d_Mo_different_70 : decode prog_13_method_56_code 70 = .ok (.ifCond .eq 7, 3) := by decide +kernel
theorem d_Mo_different_73 : decode prog_13_method_56_code 73 = .ok (.iconst 1, 1) := by decide +kernel
theorem d_Mo_different_74 : decode prog_13_method_56_code 74 = .ok (.goto 4, 3) := by decide +kernel
theorem d_Mo_different_77 : decode prog_13_method_56_code 77 = .ok (.iconst 0, 1) := by decide +kernel
theorem d_Mo_different_78 : decode prog_13_method_56_code 78 = .ok (.istore 6, 2) := by decide +kernel
theorem d_Mo_different_80 : decode prog_13_method_56_code 80 = .ok (.iinc 7 1, 3) := by decide +kernel
theorem d_Mo_different_83 : decode prog_13_method_56_code 83 = .ok (.goto (-39), 3) := by decide +kernel
theorem d_Mo_different_86 : decode prog_13_method_56_code 86 = .ok (.iload 6, 2) := by decide +kernel
theorem d_Mo_different_88 : decode prog_13_method_56_code 88 = .ok (.ifCond .eq 9, 3) := by decide +kernel
theorem d_Mo_different_91 : decode prog_13_method_56_code 91 = .ok (.iload_n 2, 1) := by decide +kernel
theorem d_Mo_different_92 : decode prog_13_method_56_code 92 = .ok (.iconst 1, 1) := by decide +kernel
theorem d_Mo_different_93 : decode prog_13_method_56_code 93 = .ok (.iadd, 1) := by decide +kernel
theorem d_Mo_different_94 : decode prog_13_method_56_code 94 = .ok (.goto 4, 3) := by decide +kernel
theorem d_Mo_different_97 : decode prog_13_method_56_code 97 = .ok (.iload_n 2, 1) := by decide +kernel
theorem d_Mo_different_98 : decode prog_13_method_56_code 98 = .ok (.istore_n 2, 1) := by decide +kernel
theorem d_Mo_different_99 : decode prog_13_method_56_code 99 = .ok (.iinc 3 1, 3) := by decide +kernel
theorem d_Mo_different_102 : decode prog_13_method_56_code 102 = .ok (.goto (-98), 3) := by decide +kernel
theorem d_Mo_different_105 : decode prog_13_method_56_code 105 = .ok (.iload_n 2, 1) := by decide +kernel
theorem d_Mo_different_106 : decode prog_13_method_56_code 106 = .ok (.ireturn, 1) := by decide +kernel
