theorem d_Mo_isWord_0 : decode prog_13_method_4_code 0 = .ok (.lload_n 0, 1) := by decide +kernel
theorem d_Mo_isWord_1 : decode prog_13_method_4_code 1 = .ok (.lconst 0, 1) := by decide +kernel
theorem d_Mo_isWord_2 : decode prog_13_method_4_code 2 = .ok (.lcmp, 1) := by decide +kernel
theorem d_Mo_isWord_3 : decode prog_13_method_4_code 3 = .ok (.ifCond .le 12, 3) := by decide +kernel
theorem d_Mo_isWord_6 : decode prog_13_method_4_code 6 = .ok (.lload_n 0, 1) := by decide +kernel
theorem d_Mo_isWord_7 : decode prog_13_method_4_code 7 = .ok (.bipush 60, 2) := by decide +kernel
theorem d_Mo_isWord_9 : decode prog_13_method_4_code 9 = .ok (.lshr, 1) := by decide +kernel
theorem d_Mo_isWord_10 : decode prog_13_method_4_code 10 = .ok (.lconst 0, 1) := by decide +kernel
theorem d_Mo_isWord_11 : decode prog_13_method_4_code 11 = .ok (.lcmp, 1) := by decide +kernel
theorem d_Mo_isWord_12 : decode prog_13_method_4_code 12 = .ok (.ifCond .eq 5, 3) := by decide +kernel
theorem d_Mo_isWord_15 : decode prog_13_method_4_code 15 = .ok (.iconst 0, 1) := by decide +kernel
theorem d_Mo_isWord_16 : decode prog_13_method_4_code 16 = .ok (.ireturn, 1) := by decide +kernel
theorem d_Mo_isWord_17 : decode prog_13_method_4_code 17 = .ok (.iconst 1, 1) := by decide +kernel
theorem d_Mo_isWord_18 : decode prog_13_method_4_code 18 = .ok (.istore_n 2, 1) := by decide +kernel
theorem d_Mo_isWord_19 : decode prog_13_method_4_code 19 = .ok (.iconst 0, 1) := by decide +kernel
theorem d_Mo_isWord_20 : decode prog_13_method_4_code 20 = .ok (.istore_n 3, 1) := by decide +kernel
theorem d_Mo_isWord_21 : decode prog_13_method_4_code 21 = .ok (.iload_n 3, 1) := by decide +kernel
theorem d_Mo_isWord_22 : decode prog_13_method_4_code 22 = .ok (.lload_n 0, 1) := by decide +kernel
theorem d_Mo_isWord_23 : decode prog_13_method_4_code 23 = .ok (.invokestatic 71, 3) := by decide +kernel
theorem d_Mo_isWord_26 : decode prog_13_method_4_code 26 = .ok (.if_icmp .ge 38, 3) := by decide +kernel
theorem d_Mo_isWord_29 : decode prog_13_method_4_code 29 = .ok (.iload_n 2, 1) := by decide +kernel
theorem d_Mo_isWord_30 : decode prog_13_method_4_code 30 = .ok (.ifCond .eq 26, 3) := by decide +kernel
theorem d_Mo_isWord_33 : decode prog_13_method_4_code 33 = .ok (.lload_n 0, 1) := by decide +kernel
theorem d_Mo_isWord_34 : decode prog_13_method_4_code 34 = .ok (.iload_n 3, 1) := by decide +kernel
theorem d_Mo_isWord_35 : decode prog_13_method_4_code 35 = .ok (.invokestatic 75, 3) := by decide +kernel
theorem d_Mo_isWord_38 : decode prog_13_method_4_code 38 = .ok (.iconst 1, 1) := by decide +kernel
theorem d_Mo_isWord_39 : decode prog_13_method_4_code 39 = .ok (.if_icmp .lt 17, 3) := by decide +kernel
theorem d_Mo_isWord_42 : decode prog_13_method_4_code 42 = .ok (.lload_n 0, 1) := by decide +kernel
theorem d_Mo_isWord_43 : decode prog_13_method_4_code 43 = .ok (.iload_n 3, 1) := by decide +kernel
theorem d_Mo_isWord_44 : decode prog_13_method_4_code 44 = .ok (.invokestatic 75, 3) := by decide +kernel
theorem d_Mo_isWord_47 : decode prog_13_method_4_code 47 = .ok (.bipush 26, 2) := by decide +kernel
theorem d_Mo_isWord_49 : decode prog_13_method_4_code 49 = .ok (.if_icmp .gt 7, 3) := by decide +kernel
theorem d_Mo_isWord_52 : decode prog_13_method_4_code 52 = .ok (.iconst 1, 1) := by decide +kernel
theorem d_Mo_isWord_53 : decode prog_13_method_4_code 53 = .ok (.goto 4, 3) := by decide +kernel
theorem d_Mo_isWord_56 : decode prog_13_method_4_code 56 = .ok (.iconst 0, 1) := by decide +kernel
theorem d_Mo_isWord_57 : decode prog_13_method_4_code 57 = .ok (.istore_n 2, 1) := by decide +kernel
theorem d_Mo_isWord_58 : decode prog_13_method_4_code 58 = .ok (.iinc 3 1, 3) := by decide +kernel
theorem d_Mo_isWord_61 : decode prog_13_method_4_code 61 = .ok (.goto (-40), 3) := by decide +kernel
theorem d_Mo_isWord_64 : decode prog_13_method_4_code 64 = .ok (.iload_n 2, 1) := by decide +kernel
theorem d_Mo_isWord_65 : decode prog_13_method_4_code 65 = .ok (.ireturn, 1) := by decide +kernel
theorem d_Mo_length_0 : decode prog_13_method_3_code 0 = .ok (.iconst 0, 1) := by decide +kernel
theorem d_Mo_length_1 : decode prog_13_method_3_code 1 = .ok (.istore_n 2, 1) := by decide +kernel
theorem d_Mo_length_2 : decode prog_13_method_3_code 2 = .ok (.iload_n 2, 1) := by decide +kernel
theorem d_Mo_length_3 : decode prog_13_method_3_code 3 = .ok (.bipush 12, 2) := by decide +kernel
theorem d_Mo_length_5 : decode prog_13_method_3_code 5 = .ok (.if_icmp .ge 19, 3) := by decide +kernel
theorem d_Mo_length_8 : decode prog_13_method_3_code 8 = .ok (.lload_n 0, 1) := by decide +kernel
theorem d_Mo_length_9 : decode prog_13_method_3_code 9 = .ok (.iconst 5, 1) := by decide +kernel
theorem d_Mo_length_10 : decode prog_13_method_3_code 10 = .ok (.iload_n 2, 1) := by decide +kernel
theorem d_Mo_length_11 : decode prog_13_method_3_code 11 = .ok (.imul, 1) := by decide +kernel
theorem d_Mo_length_12 : decode prog_13_method_3_code 12 = .ok (.lshr, 1) := by decide +kernel
theorem d_Mo_length_13 : decode prog_13_method_3_code 13 = .ok (.lconst 0, 1) := by decide +kernel
theorem d_Mo_length_14 : decode prog_13_method_3_code 14 = .ok (.lcmp, 1) := by decide +kernel
theorem d_Mo_length_15 : decode prog_13_method_3_code 15 = .ok (.ifCond .eq 9, 3) := by decide +kernel
theorem d_Mo_length_18 : decode prog_13_method_3_code 18 = .ok (.iinc 2 1, 3) := by decide +kernel
theorem d_Mo_length_21 : decode prog_13_method_3_code 21 = .ok (.goto (-19), 3) := by decide +kernel
theorem d_Mo_length_24 : decode prog_13_method_3_code 24 = .ok (.iload_n 2, 1) := by decide +kernel
theorem d_Mo_length_25 : decode prog_13_method_3_code 25 = .ok (.ireturn, 1) := by decide +kernel
theorem d_Mo_letter_0 : decode prog_13_method_2_code 0 = .ok (.lload_n 0, 1) := by decide +kernel
theorem d_Mo_letter_1 : decode prog_13_method_2_code 1 = .ok (.iconst 5, 1) := by decide +kernel
theorem d_Mo_letter_2 : decode prog_13_method_2_code 2 = .ok (.iload_n 2, 1) := by decide +kernel
theorem d_Mo_letter_3 : decode prog_13_method_2_code 3 = .ok (.imul, 1) := by decide +kernel
theorem d_Mo_letter_4 : decode prog_13_method_2_code 4 = .ok (.lshr, 1) := by decide +kernel
theorem d_Mo_letter_5 : decode prog_13_method_2_code 5 = .ok (.ldc2_w 69, 3) := by decide +kernel
theorem d_Mo_letter_8 : decode prog_13_method_2_code 8 = .ok (.land, 1) := by decide +kernel
theorem d_Mo_letter_9 : decode prog_13_method_2_code 9 = .ok (.l2i, 1) := by decide +kernel
theorem d_Mo_letter_10 : decode prog_13_method_2_code 10 = .ok (.ireturn, 1) := by decide +kernel
theorem d_Mo_stemOf_0 : decode prog_13_method_17_code 0 = .ok (.lload_n 0, 1) := by decide +kernel
theorem d_Mo_stemOf_1 : decode prog_13_method_17_code 1 = .ok (.invokestatic 71, 3) := by decide +kernel
theorem d_Mo_stemOf_4 : decode prog_13_method_17_code 4 = .ok (.iconst 3, 1) := by decide +kernel
theorem d_Mo_stemOf_5 : decode prog_13_method_17_code 5 = .ok (.if_icmp .ge 5, 3) := by decide +kernel
theorem d_Mo_stemOf_8 : decode prog_13_method_17_code 8 = .ok (.lload_n 0, 1) := by decide +kernel
theorem d_Mo_stemOf_9 : decode prog_13_method_17_code 9 = .ok (.lreturn, 1) := by decide +kernel
theorem d_Mo_stemOf_10 : decode prog_13_method_17_code 10 = .ok (.lload_n 0, 1) := by decide +kernel
theorem d_Mo_stemOf_11 : decode prog_13_method_17_code 11 = .ok (.invokestatic 114, 3) := by decide +kernel
theorem d_Mo_stemOf_14 : decode prog_13_method_17_code 14 = .ok (.invokestatic 117, 3) := by decide +kernel
theorem d_Mo_stemOf_17 : decode prog_13_method_17_code 17 = .ok (.lstore_n 2, 1) := by decide +kernel
theorem d_Mo_stemOf_18 : decode prog_13_method_17_code 18 = .ok (.lload_n 2, 1) := by decide +kernel
theorem d_Mo_stemOf_19 : decode prog_13_method_17_code 19 = .ok (.invokestatic 71, 3) := by decide +kernel
theorem d_Mo_stemOf_22 : decode prog_13_method_17_code 22 = .ok (.istore 4, 2) := by decide +kernel
theorem d_Mo_stemOf_24 : decode prog_13_method_17_code 24 = .ok (.lload_n 2, 1) := by decide +kernel
theorem d_Mo_stemOf_25 : decode prog_13_method_17_code 25 = .ok (.iload 4, 2) := by decide +kernel
theorem d_Mo_stemOf_27 : decode prog_13_method_17_code 27 = .ok (.iconst 1, 1) := by decide +kernel
theorem d_Mo_stemOf_28 : decode prog_13_method_17_code 28 = .ok (.isub, 1) := by decide +kernel
theorem d_Mo_stemOf_29 : decode prog_13_method_17_code 29 = .ok (.invokestatic 75, 3) := by decide +kernel
theorem d_Mo_stemOf_32 : decode prog_13_method_17_code 32 = .ok (.bipush 25, 2) := by decide +kernel
theorem d_Mo_stemOf_34 : decode prog_13_method_17_code 34 = .ok (.if_icmp .ne 18, 3) := by decide +kernel
theorem d_Mo_stemOf_37 : decode prog_13_method_17_code 37 = .ok (.lload_n 2, 1) := by decide +kernel
theorem d_Mo_stemOf_38 : decode prog_13_method_17_code 38 = .ok (.iload 4, 2) := by decide +kernel
theorem d_Mo_stemOf_40 : decode prog_13_method_17_code 40 = .ok (.iconst 1, 1) := by decide +kernel
theorem d_Mo_stemOf_41 : decode prog_13_method_17_code 41 = .ok (.isub, 1) := by decide +kernel
theorem d_Mo_stemOf_42 : decode prog_13_method_17_code 42 = .ok (.invokestatic 107, 3) := by decide +kernel
theorem d_Mo_stemOf_45 : decode prog_13_method_17_code 45 = .ok (.ifCond .eq 7, 3) := by decide +kernel
theorem d_Mo_stemOf_48 : decode prog_13_method_17_code 48 = .ok (.iconst 1, 1) := by decide +kernel
theorem d_Mo_stemOf_49 : decode prog_13_method_17_code 49 = .ok (.goto 4, 3) := by decide +kernel
theorem d_Mo_stemOf_52 : decode prog_13_method_17_code 52 = .ok (.iconst 0, 1) := by decide +kernel
theorem d_Mo_stemOf_53 : decode prog_13_method_17_code 53 = .ok (.istore 5, 2) := by decide +kernel
theorem d_Mo_stemOf_55 : decode prog_13_method_17_code 55 = .ok (.iload 5, 2) := by decide +kernel
theorem d_Mo_stemOf_57 : decode prog_13_method_17_code 57 = .ok (.ifCond .eq 25, 3) := by decide +kernel
theorem d_Mo_stemOf_60 : decode prog_13_method_17_code 60 = .ok (.lload_n 2, 1) := by decide +kernel
theorem d_Mo_stemOf_61 : decode prog_13_method_17_code 61 = .ok (.iload 4, 2) := by decide +kernel
theorem d_Mo_stemOf_63 : decode prog_13_method_17_code 63 = .ok (.iconst 1, 1) := by decide +kernel
theorem d_Mo_stemOf_64 : decode prog_13_method_17_code 64 = .ok (.isub, 1) := by decide +kernel
theorem d_Mo_stemOf_65 : decode prog_13_method_17_code 65 = .ok (.invokestatic 83, 3) := by decide +kernel
theorem d_Mo_stemOf_68 : decode prog_13_method_17_code 68 = .ok (.ldc2_w 120, 3) := by decide +kernel
theorem d_Mo_stemOf_71 : decode prog_13_method_17_code 71 = .ok (.iconst 5, 1) := by decide +kernel
theorem d_Mo_stemOf_72 : decode prog_13_method_17_code 72 = .ok (.iload 4, 2) := by decide +kernel
theorem d_Mo_stemOf_74 : decode prog_13_method_17_code 74 = .ok (.iconst 1, 1) := by decide +kernel
theorem d_Mo_stemOf_75 : decode prog_13_method_17_code 75 = .ok (.isub, 1) := by decide +kernel
theorem d_Mo_stemOf_76 : decode prog_13_method_17_code 76 = .ok (.imul, 1) := by decide +kernel
theorem d_Mo_stemOf_77 : decode prog_13_method_17_code 77 = .ok (.lshl, 1) := by decide +kernel
theorem d_Mo_stemOf_78 : decode prog_13_method_17_code 78 = .ok (.lor, 1) := by decide +kernel
theorem d_Mo_stemOf_79 : decode prog_13_method_17_code 79 = .ok (.goto 4, 3) := by decide +kernel
theorem d_Mo_stemOf_82 : decode prog_13_method_17_code 82 = .ok (.lload_n 2, 1) := by decide +kernel
theorem d_Mo_stemOf_83 : decode prog_13_method_17_code 83 = .ok (.lreturn, 1) := by decide +kernel
theorem d_Mo_plural_0 : decode prog_13_method_13_code 0 = .ok (.lload_n 0, 1) := by decide +kernel
theorem d_Mo_plural_1 : decode prog_13_method_13_code 1 = .ok (.bipush 19, 2) := by decide +kernel
theorem d_Mo_plural_3 : decode prog_13_method_13_code 3 = .ok (.bipush 19, 2) := by decide +kernel
theorem d_Mo_plural_5 : decode prog_13_method_13_code 5 = .ok (.iconst 5, 1) := by decide +kernel
theorem d_Mo_plural_6 : decode prog_13_method_13_code 6 = .ok (.bipush 19, 2) := by decide +kernel
theorem d_Mo_plural_8 : decode prog_13_method_13_code 8 = .ok (.invokestatic 87, 3) := by decide +kernel
theorem d_Mo_plural_11 : decode prog_13_method_13_code 11 = .ok (.invokestatic 91, 3) := by decide +kernel
theorem d_Mo_plural_14 : decode prog_13_method_13_code 14 = .ok (.ifCond .ne 19, 3) := by decide +kernel
theorem d_Mo_plural_17 : decode prog_13_method_13_code 17 = .ok (.lload_n 0, 1) := by decide +kernel
theorem d_Mo_plural_18 : decode prog_13_method_13_code 18 = .ok (.bipush 9, 2) := by decide +kernel
theorem d_Mo_plural_20 : decode prog_13_method_13_code 20 = .ok (.iconst 5, 1) := by decide +kernel
theorem d_Mo_plural_21 : decode prog_13_method_13_code 21 = .ok (.bipush 19, 2) := by decide +kernel
theorem d_Mo_plural_23 : decode prog_13_method_13_code 23 = .ok (.iconst 0, 1) := by decide +kernel
theorem d_Mo_plural_24 : decode prog_13_method_13_code 24 = .ok (.invokestatic 87, 3) := by decide +kernel
theorem d_Mo_plural_27 : decode prog_13_method_13_code 27 = .ok (.invokestatic 91, 3) := by decide +kernel
theorem d_Mo_plural_30 : decode prog_13_method_13_code 30 = .ok (.ifCond .eq 9, 3) := by decide +kernel
theorem d_Mo_plural_33 : decode prog_13_method_13_code 33 = .ok (.lload_n 0, 1) := by decide +kernel
theorem d_Mo_plural_34 : decode prog_13_method_13_code 34 = .ok (.iconst 2, 1) := by decide +kernel
theorem d_Mo_plural_35 : decode prog_13_method_13_code 35 = .ok (.invokestatic 95, 3) := by decide +kernel
theorem d_Mo_plural_38 : decode prog_13_method_13_code 38 = .ok (.lreturn, 1) := by decide +kernel
theorem d_Mo_plural_39 : decode prog_13_method_13_code 39 = .ok (.lload_n 0, 1) := by decide +kernel
theorem d_Mo_plural_40 : decode prog_13_method_13_code 40 = .ok (.bipush 19, 2) := by decide +kernel
theorem d_Mo_plural_42 : decode prog_13_method_13_code 42 = .ok (.iconst 0, 1) := by decide +kernel
theorem d_Mo_plural_43 : decode prog_13_method_13_code 43 = .ok (.iconst 0, 1) := by decide +kernel
theorem d_Mo_plural_44 : decode prog_13_method_13_code 44 = .ok (.iconst 0, 1) := by decide +kernel
theorem d_Mo_plural_45 : decode prog_13_method_13_code 45 = .ok (.invokestatic 87, 3) := by decide +kernel
theorem d_Mo_plural_48 : decode prog_13_method_13_code 48 = .ok (.invokestatic 91, 3) := by decide +kernel
theorem d_Mo_plural_51 : decode prog_13_method_13_code 51 = .ok (.ifCond .eq 27, 3) := by decide +kernel
theorem d_Mo_plural_54 : decode prog_13_method_13_code 54 = .ok (.lload_n 0, 1) := by decide +kernel
theorem d_Mo_plural_55 : decode prog_13_method_13_code 55 = .ok (.bipush 19, 2) := by decide +kernel
theorem d_Mo_plural_57 : decode prog_13_method_13_code 57 = .ok (.bipush 19, 2) := by decide +kernel
theorem d_Mo_plural_59 : decode prog_13_method_13_code 59 = .ok (.iconst 0, 1) := by decide +kernel
theorem d_Mo_plural_60 : decode prog_13_method_13_code 60 = .ok (.iconst 0, 1) := by decide +kernel
theorem d_Mo_plural_61 : decode prog_13_method_13_code 61 = .ok (.invokestatic 87, 3) := by decide +kernel
theorem d_Mo_plural_64 : decode prog_13_method_13_code 64 = .ok (.invokestatic 91, 3) := by decide +kernel
theorem d_Mo_plural_67 : decode prog_13_method_13_code 67 = .ok (.ifCond .ne 11, 3) := by decide +kernel
theorem d_Mo_plural_70 : decode prog_13_method_13_code 70 = .ok (.lload_n 0, 1) := by decide +kernel
theorem d_Mo_plural_71 : decode prog_13_method_13_code 71 = .ok (.iconst 1, 1) := by decide +kernel
theorem d_Mo_plural_72 : decode prog_13_method_13_code 72 = .ok (.invokestatic 95, 3) := by decide +kernel
theorem d_Mo_plural_75 : decode prog_13_method_13_code 75 = .ok (.goto 4, 3) := by decide +kernel
theorem d_Mo_plural_78 : decode prog_13_method_13_code 78 = .ok (.lload_n 0, 1) := by decide +kernel
theorem d_Mo_plural_79 : decode prog_13_method_13_code 79 = .ok (.lreturn, 1) := by decide +kernel
theorem d_Mo_text_0 : decode prog_13_method_9_code 0 = .ok (.iload_n 0, 1) := by decide +kernel
theorem d_Mo_text_1 : decode prog_13_method_9_code 1 = .ok (.i2l, 1) := by decide +kernel
theorem d_Mo_text_2 : decode prog_13_method_9_code 2 = .ok (.iload_n 1, 1) := by decide +kernel
theorem d_Mo_text_3 : decode prog_13_method_9_code 3 = .ok (.i2l, 1) := by decide +kernel
theorem d_Mo_text_4 : decode prog_13_method_9_code 4 = .ok (.iconst 5, 1) := by decide +kernel
theorem d_Mo_text_5 : decode prog_13_method_9_code 5 = .ok (.lshl, 1) := by decide +kernel
theorem d_Mo_text_6 : decode prog_13_method_9_code 6 = .ok (.lor, 1) := by decide +kernel
theorem d_Mo_text_7 : decode prog_13_method_9_code 7 = .ok (.iload_n 2, 1) := by decide +kernel
theorem d_Mo_text_8 : decode prog_13_method_9_code 8 = .ok (.i2l, 1) := by decide +kernel
theorem d_Mo_text_9 : decode prog_13_method_9_code 9 = .ok (.bipush 10, 2) := by decide +kernel
theorem d_Mo_text_11 : decode prog_13_method_9_code 11 = .ok (.lshl, 1) := by decide +kernel
theorem d_Mo_text_12 : decode prog_13_method_9_code 12 = .ok (.lor, 1) := by decide +kernel
theorem d_Mo_text_13 : decode prog_13_method_9_code 13 = .ok (.iload_n 3, 1) := by decide +kernel
theorem d_Mo_text_14 : decode prog_13_method_9_code 14 = .ok (.i2l, 1) := by decide +kernel
theorem d_Mo_text_15 : decode prog_13_method_9_code 15 = .ok (.bipush 15, 2) := by decide +kernel
theorem d_Mo_text_17 : decode prog_13_method_9_code 17 = .ok (.lshl, 1) := by decide +kernel
theorem d_Mo_text_18 : decode prog_13_method_9_code 18 = .ok (.lor, 1) := by decide +kernel
theorem d_Mo_text_19 : decode prog_13_method_9_code 19 = .ok (.lreturn, 1) := by decide +kernel
theorem d_Mo_ends_0 : decode prog_13_method_10_code 0 = .ok (.lload_n 0, 1) := by decide +kernel
theorem d_Mo_ends_1 : decode prog_13_method_10_code 1 = .ok (.invokestatic 71, 3) := by decide +kernel
theorem d_Mo_ends_4 : decode prog_13_method_10_code 4 = .ok (.lload_n 2, 1) := by decide +kernel
theorem d_Mo_ends_5 : decode prog_13_method_10_code 5 = .ok (.invokestatic 71, 3) := by decide +kernel
theorem d_Mo_ends_8 : decode prog_13_method_10_code 8 = .ok (.isub, 1) := by decide +kernel
theorem d_Mo_ends_9 : decode prog_13_method_10_code 9 = .ok (.istore 4, 2) := by decide +kernel
theorem d_Mo_ends_11 : decode prog_13_method_10_code 11 = .ok (.iload 4, 2) := by decide +kernel
theorem d_Mo_ends_13 : decode prog_13_method_10_code 13 = .ok (.ifCond .lt 18, 3) := by decide +kernel
theorem d_Mo_ends_16 : decode prog_13_method_10_code 16 = .ok (.lload_n 0, 1) := by decide +kernel
theorem d_Mo_ends_17 : decode prog_13_method_10_code 17 = .ok (.iconst 5, 1) := by decide +kernel
theorem d_Mo_ends_18 : decode prog_13_method_10_code 18 = .ok (.iload 4, 2) := by decide +kernel
theorem d_Mo_ends_20 : decode prog_13_method_10_code 20 = .ok (.imul, 1) := by decide +kernel
theorem d_Mo_ends_21 : decode prog_13_method_10_code 21 = .ok (.lshr, 1) := by decide +kernel
theorem d_Mo_ends_22 : decode prog_13_method_10_code 22 = .ok (.lload_n 2, 1) := by decide +kernel
theorem d_Mo_ends_23 : decode prog_13_method_10_code 23 = .ok (.lcmp, 1) := by decide +kernel
theorem d_Mo_ends_24 : decode prog_13_method_10_code 24 = .ok (.ifCond .ne 7, 3) := by decide +kernel
theorem d_Mo_ends_27 : decode prog_13_method_10_code 27 = .ok (.iconst 1, 1) := by decide +kernel
theorem d_Mo_ends_28 : decode prog_13_method_10_code 28 = .ok (.goto 4, 3) := by decide +kernel
theorem d_Mo_ends_31 : decode prog_13_method_10_code 31 = .ok (.iconst 0, 1) := by decide +kernel
theorem d_Mo_ends_32 : decode prog_13_method_10_code 32 = .ok (.ireturn, 1) := by decide +kernel
theorem d_Mo_without_0 : decode prog_13_method_11_code 0 = .ok (.lload_n 0, 1) := by decide +kernel
theorem d_Mo_without_1 : decode prog_13_method_11_code 1 = .ok (.lload_n 0, 1) := by decide +kernel
theorem d_Mo_without_2 : decode prog_13_method_11_code 2 = .ok (.invokestatic 71, 3) := by decide +kernel
theorem d_Mo_without_5 : decode prog_13_method_11_code 5 = .ok (.iload_n 2, 1) := by decide +kernel
theorem d_Mo_without_6 : decode prog_13_method_11_code 6 = .ok (.isub, 1) := by decide +kernel
theorem d_Mo_without_7 : decode prog_13_method_11_code 7 = .ok (.invokestatic 83, 3) := by decide +kernel
theorem d_Mo_without_10 : decode prog_13_method_11_code 10 = .ok (.lreturn, 1) := by decide +kernel
theorem d_Mo_first_0 : decode prog_13_method_6_code 0 = .ok (.lload_n 0, 1) := by decide +kernel
theorem d_Mo_first_1 : decode prog_13_method_6_code 1 = .ok (.lconst 1, 1) := by decide +kernel
theorem d_Mo_first_2 : decode prog_13_method_6_code 2 = .ok (.iconst 5, 1) := by decide +kernel
theorem d_Mo_first_3 : decode prog_13_method_6_code 3 = .ok (.iload_n 2, 1) := by decide +kernel
theorem d_Mo_first_4 : decode prog_13_method_6_code 4 = .ok (.imul, 1) := by decide +kernel
theorem d_Mo_first_5 : decode prog_13_method_6_code 5 = .ok (.lshl, 1) := by decide +kernel
theorem d_Mo_first_6 : decode prog_13_method_6_code 6 = .ok (.lconst 1, 1) := by decide +kernel
theorem d_Mo_first_7 : decode prog_13_method_6_code 7 = .ok (.lsub, 1) := by decide +kernel
theorem d_Mo_first_8 : decode prog_13_method_6_code 8 = .ok (.land, 1) := by decide +kernel
theorem d_Mo_first_9 : decode prog_13_method_6_code 9 = .ok (.lreturn, 1) := by decide +kernel
theorem d_Mo_past_0 : decode prog_13_method_16_code 0 = .ok (.lload_n 0, 1) := by decide +kernel
theorem d_Mo_past_1 : decode prog_13_method_16_code 1 = .ok (.invokestatic 71, 3) := by decide +kernel
theorem d_Mo_past_4 : decode prog_13_method_16_code 4 = .ok (.istore_n 2, 1) := by decide +kernel
theorem d_Mo_past_5 : decode prog_13_method_16_code 5 = .ok (.lload_n 0, 1) := by decide +kernel
theorem d_Mo_past_6 : decode prog_13_method_16_code 6 = .ok (.iconst 5, 1) := by decide +kernel
theorem d_Mo_past_7 : decode prog_13_method_16_code 7 = .ok (.iconst 5, 1) := by decide +kernel
theorem d_Mo_past_8 : decode prog_13_method_16_code 8 = .ok (.iconst 4, 1) := by decide +kernel
theorem d_Mo_past_9 : decode prog_13_method_16_code 9 = .ok (.iconst 0, 1) := by decide +kernel
theorem d_Mo_past_10 : decode prog_13_method_16_code 10 = .ok (.invokestatic 87, 3) := by decide +kernel
theorem d_Mo_past_13 : decode prog_13_method_16_code 13 = .ok (.invokestatic 91, 3) := by decide +kernel
theorem d_Mo_past_16 : decode prog_13_method_16_code 16 = .ok (.ifCond .eq 23, 3) := by decide +kernel
theorem d_Mo_past_19 : decode prog_13_method_16_code 19 = .ok (.lload_n 0, 1) := by decide +kernel
theorem d_Mo_past_20 : decode prog_13_method_16_code 20 = .ok (.iload_n 2, 1) := by decide +kernel
theorem d_Mo_past_21 : decode prog_13_method_16_code 21 = .ok (.iconst 3, 1) := by decide +kernel
theorem d_Mo_past_22 : decode prog_13_method_16_code 22 = .ok (.isub, 1) := by decide +kernel
theorem d_Mo_past_23 : decode prog_13_method_16_code 23 = .ok (.invokestatic 100, 3) := by decide +kernel
theorem d_Mo_past_26 : decode prog_13_method_16_code 26 = .ok (.ifCond .le 11, 3) := by decide +kernel
theorem d_Mo_past_29 : decode prog_13_method_16_code 29 = .ok (.lload_n 0, 1) := by decide +kernel
theorem d_Mo_past_30 : decode prog_13_method_16_code 30 = .ok (.iconst 1, 1) := by decide +kernel
theorem d_Mo_past_31 : decode prog_13_method_16_code 31 = .ok (.invokestatic 95, 3) := by decide +kernel
theorem d_Mo_past_34 : decode prog_13_method_16_code 34 = .ok (.goto 4, 3) := by decide +kernel
theorem d_Mo_past_37 : decode prog_13_method_16_code 37 = .ok (.lload_n 0, 1) := by decide +kernel
theorem d_Mo_past_38 : decode prog_13_method_16_code 38 = .ok (.lreturn, 1) := by decide +kernel
theorem d_Mo_past_39 : decode prog_13_method_16_code 39 = .ok (.lload_n 0, 1) := by decide +kernel
theorem d_Mo_past_40 : decode prog_13_method_16_code 40 = .ok (.iconst 5, 1) := by decide +kernel
theorem d_Mo_past_41 : decode prog_13_method_16_code 41 = .ok (.iconst 4, 1) := by decide +kernel
theorem d_Mo_past_42 : decode prog_13_method_16_code 42 = .ok (.iconst 0, 1) := by decide +kernel
theorem d_Mo_past_43 : decode prog_13_method_16_code 43 = .ok (.iconst 0, 1) := by decide +kernel
theorem d_Mo_past_44 : decode prog_13_method_16_code 44 = .ok (.invokestatic 87, 3) := by decide +kernel
theorem d_Mo_past_47 : decode prog_13_method_16_code 47 = .ok (.invokestatic 91, 3) := by decide +kernel
theorem d_Mo_past_50 : decode prog_13_method_16_code 50 = .ok (.ifCond .eq 24, 3) := by decide +kernel
theorem d_Mo_past_53 : decode prog_13_method_16_code 53 = .ok (.lload_n 0, 1) := by decide +kernel
theorem d_Mo_past_54 : decode prog_13_method_16_code 54 = .ok (.iload_n 2, 1) := by decide +kernel
theorem d_Mo_past_55 : decode prog_13_method_16_code 55 = .ok (.iconst 2, 1) := by decide +kernel
theorem d_Mo_past_56 : decode prog_13_method_16_code 56 = .ok (.isub, 1) := by decide +kernel
theorem d_Mo_past_57 : decode prog_13_method_16_code 57 = .ok (.invokestatic 107, 3) := by decide +kernel
theorem d_Mo_past_60 : decode prog_13_method_16_code 60 = .ok (.ifCond .eq 14, 3) := by decide +kernel
theorem d_Mo_past_63 : decode prog_13_method_16_code 63 = .ok (.lload_n 0, 1) := by decide +kernel
theorem d_Mo_past_64 : decode prog_13_method_16_code 64 = .ok (.iload_n 2, 1) := by decide +kernel
theorem d_Mo_past_65 : decode prog_13_method_16_code 65 = .ok (.iconst 2, 1) := by decide +kernel
theorem d_Mo_past_66 : decode prog_13_method_16_code 66 = .ok (.isub, 1) := by decide +kernel
theorem d_Mo_past_67 : decode prog_13_method_16_code 67 = .ok (.invokestatic 83, 3) := by decide +kernel
theorem d_Mo_past_70 : decode prog_13_method_16_code 70 = .ok (.invokestatic 110, 3) := by decide +kernel
theorem d_Mo_past_73 : decode prog_13_method_16_code 73 = .ok (.lreturn, 1) := by decide +kernel
theorem d_Mo_past_74 : decode prog_13_method_16_code 74 = .ok (.lload_n 0, 1) := by decide +kernel
theorem d_Mo_past_75 : decode prog_13_method_16_code 75 = .ok (.bipush 9, 2) := by decide +kernel
theorem d_Mo_past_77 : decode prog_13_method_16_code 77 = .ok (.bipush 14, 2) := by decide +kernel
theorem d_Mo_past_79 : decode prog_13_method_16_code 79 = .ok (.bipush 7, 2) := by decide +kernel
theorem d_Mo_past_81 : decode prog_13_method_16_code 81 = .ok (.iconst 0, 1) := by decide +kernel
theorem d_Mo_past_82 : decode prog_13_method_16_code 82 = .ok (.invokestatic 87, 3) := by decide +kernel
theorem d_Mo_past_85 : decode prog_13_method_16_code 85 = .ok (.invokestatic 91, 3) := by decide +kernel
theorem d_Mo_past_88 : decode prog_13_method_16_code 88 = .ok (.ifCond .eq 26, 3) := by decide +kernel
theorem d_Mo_past_91 : decode prog_13_method_16_code 91 = .ok (.lload_n 0, 1) := by decide +kernel
theorem d_Mo_past_92 : decode prog_13_method_16_code 92 = .ok (.iload_n 2, 1) := by decide +kernel
theorem d_Mo_past_93 : decode prog_13_method_16_code 93 = .ok (.iconst 3, 1) := by decide +kernel
theorem d_Mo_past_94 : decode prog_13_method_16_code 94 = .ok (.isub, 1) := by decide +kernel
theorem d_Mo_past_95 : decode prog_13_method_16_code 95 = .ok (.invokestatic 107, 3) := by decide +kernel
theorem d_Mo_past_98 : decode prog_13_method_16_code 98 = .ok (.ifCond .eq 16, 3) := by decide +kernel
theorem d_Mo_past_101 : decode prog_13_method_16_code 101 = .ok (.lload_n 0, 1) := by decide +kernel
theorem d_Mo_past_102 : decode prog_13_method_16_code 102 = .ok (.iload_n 2, 1) := by decide +kernel
theorem d_Mo_past_103 : decode prog_13_method_16_code 103 = .ok (.iconst 3, 1) := by decide +kernel
theorem d_Mo_past_104 : decode prog_13_method_16_code 104 = .ok (.isub, 1) := by decide +kernel
theorem d_Mo_past_105 : decode prog_13_method_16_code 105 = .ok (.invokestatic 83, 3) := by decide +kernel
theorem d_Mo_past_108 : decode prog_13_method_16_code 108 = .ok (.invokestatic 110, 3) := by decide +kernel
theorem d_Mo_past_111 : decode prog_13_method_16_code 111 = .ok (.goto 4, 3) := by decide +kernel
theorem d_Mo_past_114 : decode prog_13_method_16_code 114 = .ok (.lload_n 0, 1) := by decide +kernel
theorem d_Mo_past_115 : decode prog_13_method_16_code 115 = .ok (.lreturn, 1) := by decide +kernel
theorem d_Mo_measure_0 : decode prog_13_method_7_code 0 = .ok (.iconst 0, 1) := by decide +kernel
theorem d_Mo_measure_1 : decode prog_13_method_7_code 1 = .ok (.istore_n 3, 1) := by decide +kernel
theorem d_Mo_measure_2 : decode prog_13_method_7_code 2 = .ok (.iconst 0, 1) := by decide +kernel
theorem d_Mo_measure_3 : decode prog_13_method_7_code 3 = .ok (.istore 4, 2) := by decide +kernel
theorem d_Mo_measure_5 : decode prog_13_method_7_code 5 = .ok (.iload 4, 2) := by decide +kernel
theorem d_Mo_measure_7 : decode prog_13_method_7_code 7 = .ok (.iconst 1, 1) := by decide +kernel
theorem d_Mo_measure_8 : decode prog_13_method_7_code 8 = .ok (.iadd, 1) := by decide +kernel
theorem d_Mo_measure_9 : decode prog_13_method_7_code 9 = .ok (.iload_n 2, 1) := by decide +kernel
theorem d_Mo_measure_10 : decode prog_13_method_7_code 10 = .ok (.if_icmp .ge 37, 3) := by decide +kernel
theorem d_Mo_measure_13 : decode prog_13_method_7_code 13 = .ok (.lload_n 0, 1) := by decide +kernel
theorem d_Mo_measure_14 : decode prog_13_method_7_code 14 = .ok (.iload 4, 2) := by decide +kernel
theorem d_Mo_measure_16 : decode prog_13_method_7_code 16 = .ok (.invokestatic 79, 3) := by decide +kernel
theorem d_Mo_measure_19 : decode prog_13_method_7_code 19 = .ok (.ifCond .eq 20, 3) := by decide +kernel
theorem d_Mo_measure_22 : decode prog_13_method_7_code 22 = .ok (.lload_n 0, 1) := by decide +kernel
theorem d_Mo_measure_23 : decode prog_13_method_7_code 23 = .ok (.iload 4, 2) := by decide +kernel
theorem d_Mo_measure_25 : decode prog_13_method_7_code 25 = .ok (.iconst 1, 1) := by decide +kernel
theorem d_Mo_measure_26 : decode prog_13_method_7_code 26 = .ok (.iadd, 1) := by decide +kernel
theorem d_Mo_measure_27 : decode prog_13_method_7_code 27 = .ok (.invokestatic 79, 3) := by decide +kernel
theorem d_Mo_measure_30 : decode prog_13_method_7_code 30 = .ok (.ifCond .ne 9, 3) := by decide +kernel
theorem d_Mo_measure_33 : decode prog_13_method_7_code 33 = .ok (.iload_n 3, 1) := by decide +kernel
theorem d_Mo_measure_34 : decode prog_13_method_7_code 34 = .ok (.iconst 1, 1) := by decide +kernel
theorem d_Mo_measure_35 : decode prog_13_method_7_code 35 = .ok (.iadd, 1) := by decide +kernel
theorem d_Mo_measure_36 : decode prog_13_method_7_code 36 = .ok (.goto 4, 3) := by decide +kernel
theorem d_Mo_measure_39 : decode prog_13_method_7_code 39 = .ok (.iload_n 3, 1) := by decide +kernel
theorem d_Mo_measure_40 : decode prog_13_method_7_code 40 = .ok (.istore_n 3, 1) := by decide +kernel
theorem d_Mo_measure_41 : decode prog_13_method_7_code 41 = .ok (.iinc 4 1, 3) := by decide +kernel
theorem d_Mo_measure_44 : decode prog_13_method_7_code 44 = .ok (.goto (-39), 3) := by decide +kernel
theorem d_Mo_measure_47 : decode prog_13_method_7_code 47 = .ok (.iload_n 3, 1) := by decide +kernel
theorem d_Mo_measure_48 : decode prog_13_method_7_code 48 = .ok (.ireturn, 1) := by decide +kernel
theorem d_Mo_isVowel_0 : decode prog_13_method_5_code 0 = .ok (.iconst 0, 1) := by decide +kernel
theorem d_Mo_isVowel_1 : decode prog_13_method_5_code 1 = .ok (.istore_n 3, 1) := by decide +kernel
theorem d_Mo_isVowel_2 : decode prog_13_method_5_code 2 = .ok (.iconst 0, 1) := by decide +kernel
theorem d_Mo_isVowel_3 : decode prog_13_method_5_code 3 = .ok (.istore 4, 2) := by decide +kernel
theorem d_Mo_isVowel_5 : decode prog_13_method_5_code 5 = .ok (.iload 4, 2) := by decide +kernel
theorem d_Mo_isVowel_7 : decode prog_13_method_5_code 7 = .ok (.iload_n 2, 1) := by decide +kernel
theorem d_Mo_isVowel_8 : decode prog_13_method_5_code 8 = .ok (.if_icmp .gt 72, 3) := by decide +kernel
theorem d_Mo_isVowel_11 : decode prog_13_method_5_code 11 = .ok (.lload_n 0, 1) := by decide +kernel
theorem d_Mo_isVowel_12 : decode prog_13_method_5_code 12 = .ok (.iload 4, 2) := by decide +kernel
theorem d_Mo_isVowel_14 : decode prog_13_method_5_code 14 = .ok (.invokestatic 75, 3) := by decide +kernel
theorem d_Mo_isVowel_17 : decode prog_13_method_5_code 17 = .ok (.istore 5, 2) := by decide +kernel
theorem d_Mo_isVowel_19 : decode prog_13_method_5_code 19 = .ok (.iload 5, 2) := by decide +kernel
theorem d_Mo_isVowel_21 : decode prog_13_method_5_code 21 = .ok (.iconst 1, 1) := by decide +kernel
theorem d_Mo_isVowel_22 : decode prog_13_method_5_code 22 = .ok (.if_icmp .eq 46, 3) := by decide +kernel
theorem d_Mo_isVowel_25 : decode prog_13_method_5_code 25 = .ok (.iload 5, 2) := by decide +kernel
theorem d_Mo_isVowel_27 : decode prog_13_method_5_code 27 = .ok (.iconst 5, 1) := by decide +kernel
theorem d_Mo_isVowel_28 : decode prog_13_method_5_code 28 = .ok (.if_icmp .eq 40, 3) := by decide +kernel
theorem d_Mo_isVowel_31 : decode prog_13_method_5_code 31 = .ok (.iload 5, 2) := by decide +kernel
theorem d_Mo_isVowel_33 : decode prog_13_method_5_code 33 = .ok (.bipush 9, 2) := by decide +kernel
theorem d_Mo_isVowel_35 : decode prog_13_method_5_code 35 = .ok (.if_icmp .eq 33, 3) := by decide +kernel
theorem d_Mo_isVowel_38 : decode prog_13_method_5_code 38 = .ok (.iload 5, 2) := by decide +kernel
theorem d_Mo_isVowel_40 : decode prog_13_method_5_code 40 = .ok (.bipush 15, 2) := by decide +kernel
theorem d_Mo_isVowel_42 : decode prog_13_method_5_code 42 = .ok (.if_icmp .eq 26, 3) := by decide +kernel
theorem d_Mo_isVowel_45 : decode prog_13_method_5_code 45 = .ok (.iload 5, 2) := by decide +kernel
theorem d_Mo_isVowel_47 : decode prog_13_method_5_code 47 = .ok (.bipush 21, 2) := by decide +kernel
theorem d_Mo_isVowel_49 : decode prog_13_method_5_code 49 = .ok (.if_icmp .eq 19, 3) := by decide +kernel
theorem d_Mo_isVowel_52 : decode prog_13_method_5_code 52 = .ok (.iload 5, 2) := by decide +kernel
theorem d_Mo_isVowel_54 : decode prog_13_method_5_code 54 = .ok (.bipush 25, 2) := by decide +kernel
theorem d_Mo_isVowel_56 : decode prog_13_method_5_code 56 = .ok (.if_icmp .ne 16, 3) := by decide +kernel
theorem d_Mo_isVowel_59 : decode prog_13_method_5_code 59 = .ok (.iload 4, 2) := by decide +kernel
theorem d_Mo_isVowel_61 : decode prog_13_method_5_code 61 = .ok (.ifCond .le 11, 3) := by decide +kernel
theorem d_Mo_isVowel_64 : decode prog_13_method_5_code 64 = .ok (.iload_n 3, 1) := by decide +kernel
theorem d_Mo_isVowel_65 : decode prog_13_method_5_code 65 = .ok (.ifCond .ne 7, 3) := by decide +kernel
theorem d_Mo_isVowel_68 : decode prog_13_method_5_code 68 = .ok (.iconst 1, 1) := by decide +kernel
theorem d_Mo_isVowel_69 : decode prog_13_method_5_code 69 = .ok (.goto 4, 3) := by decide +kernel
theorem d_Mo_isVowel_72 : decode prog_13_method_5_code 72 = .ok (.iconst 0, 1) := by decide +kernel
theorem d_Mo_isVowel_73 : decode prog_13_method_5_code 73 = .ok (.istore_n 3, 1) := by decide +kernel
theorem d_Mo_isVowel_74 : decode prog_13_method_5_code 74 = .ok (.iinc 4 1, 3) := by decide +kernel
theorem d_Mo_isVowel_77 : decode prog_13_method_5_code 77 = .ok (.goto (-72), 3) := by decide +kernel
theorem d_Mo_isVowel_80 : decode prog_13_method_5_code 80 = .ok (.iload_n 3, 1) := by decide +kernel
theorem d_Mo_isVowel_81 : decode prog_13_method_5_code 81 = .ok (.ireturn, 1) := by decide +kernel
theorem d_Mo_someVowel_0 : decode prog_13_method_8_code 0 = .ok (.iconst 0, 1) := by decide +kernel
theorem d_Mo_someVowel_1 : decode prog_13_method_8_code 1 = .ok (.istore_n 3, 1) := by decide +kernel
theorem d_Mo_someVowel_2 : decode prog_13_method_8_code 2 = .ok (.iconst 0, 1) := by decide +kernel
theorem d_Mo_someVowel_3 : decode prog_13_method_8_code 3 = .ok (.istore 4, 2) := by decide +kernel
theorem d_Mo_someVowel_5 : decode prog_13_method_8_code 5 = .ok (.iload 4, 2) := by decide +kernel
theorem d_Mo_someVowel_7 : decode prog_13_method_8_code 7 = .ok (.iload_n 2, 1) := by decide +kernel
theorem d_Mo_someVowel_8 : decode prog_13_method_8_code 8 = .ok (.if_icmp .ge 28, 3) := by decide +kernel
theorem d_Mo_someVowel_11 : decode prog_13_method_8_code 11 = .ok (.iload_n 3, 1) := by decide +kernel
theorem d_Mo_someVowel_12 : decode prog_13_method_8_code 12 = .ok (.ifCond .ne 12, 3) := by decide +kernel
theorem d_Mo_someVowel_15 : decode prog_13_method_8_code 15 = .ok (.lload_n 0, 1) := by decide +kernel
theorem d_Mo_someVowel_16 : decode prog_13_method_8_code 16 = .ok (.iload 4, 2) := by decide +kernel
theorem d_Mo_someVowel_18 : decode prog_13_method_8_code 18 = .ok (.invokestatic 79, 3) := by decide +kernel
theorem d_Mo_someVowel_21 : decode prog_13_method_8_code 21 = .ok (.ifCond .eq 7, 3) := by decide +kernel
theorem d_Mo_someVowel_24 : decode prog_13_method_8_code 24 = .ok (.iconst 1, 1) := by decide +kernel
theorem d_Mo_someVowel_25 : decode prog_13_method_8_code 25 = .ok (.goto 4, 3) := by decide +kernel
theorem d_Mo_someVowel_28 : decode prog_13_method_8_code 28 = .ok (.iconst 0, 1) := by decide +kernel
theorem d_Mo_someVowel_29 : decode prog_13_method_8_code 29 = .ok (.istore_n 3, 1) := by decide +kernel
theorem d_Mo_someVowel_30 : decode prog_13_method_8_code 30 = .ok (.iinc 4 1, 3) := by decide +kernel
theorem d_Mo_someVowel_33 : decode prog_13_method_8_code 33 = .ok (.goto (-28), 3) := by decide +kernel
theorem d_Mo_someVowel_36 : decode prog_13_method_8_code 36 = .ok (.iload_n 3, 1) := by decide +kernel
theorem d_Mo_someVowel_37 : decode prog_13_method_8_code 37 = .ok (.ireturn, 1) := by decide +kernel
theorem d_Mo_mended_0 : decode prog_13_method_15_code 0 = .ok (.lload_n 0, 1) := by decide +kernel
theorem d_Mo_mended_1 : decode prog_13_method_15_code 1 = .ok (.invokestatic 71, 3) := by decide +kernel
theorem d_Mo_mended_4 : decode prog_13_method_15_code 4 = .ok (.istore_n 2, 1) := by decide +kernel
theorem d_Mo_mended_5 : decode prog_13_method_15_code 5 = .ok (.lload_n 0, 1) := by decide +kernel
theorem d_Mo_mended_6 : decode prog_13_method_15_code 6 = .ok (.ldc2_w 98, 3) := by decide +kernel
theorem d_Mo_mended_9 : decode prog_13_method_15_code 9 = .ok (.iconst 5, 1) := by decide +kernel
theorem d_Mo_mended_10 : decode prog_13_method_15_code 10 = .ok (.iload_n 2, 1) := by decide +kernel
theorem d_Mo_mended_11 : decode prog_13_method_15_code 11 = .ok (.imul, 1) := by decide +kernel
theorem d_Mo_mended_12 : decode prog_13_method_15_code 12 = .ok (.lshl, 1) := by decide +kernel
theorem d_Mo_mended_13 : decode prog_13_method_15_code 13 = .ok (.lor, 1) := by decide +kernel
theorem d_Mo_mended_14 : decode prog_13_method_15_code 14 = .ok (.lstore_n 3, 1) := by decide +kernel
theorem d_Mo_mended_15 : decode prog_13_method_15_code 15 = .ok (.lload_n 0, 1) := by decide +kernel
theorem d_Mo_mended_16 : decode prog_13_method_15_code 16 = .ok (.iconst 1, 1) := by decide +kernel
theorem d_Mo_mended_17 : decode prog_13_method_15_code 17 = .ok (.bipush 20, 2) := by decide +kernel
theorem d_Mo_mended_19 : decode prog_13_method_15_code 19 = .ok (.iconst 0, 1) := by decide +kernel
theorem d_Mo_mended_20 : decode prog_13_method_15_code 20 = .ok (.iconst 0, 1) := by decide +kernel
theorem d_Mo_mended_21 : decode prog_13_method_15_code 21 = .ok (.invokestatic 87, 3) := by decide +kernel
theorem d_Mo_mended_24 : decode prog_13_method_15_code 24 = .ok (.invokestatic 91, 3) := by decide +kernel
theorem d_Mo_mended_27 : decode prog_13_method_15_code 27 = .ok (.ifCond .ne 34, 3) := by decide +kernel
theorem d_Mo_mended_30 : decode prog_13_method_15_code 30 = .ok (.lload_n 0, 1) := by decide +kernel
theorem d_Mo_mended_31 : decode prog_13_method_15_code 31 = .ok (.iconst 2, 1) := by decide +kernel
theorem d_Mo_mended_32 : decode prog_13_method_15_code 32 = .ok (.bipush 12, 2) := by decide +kernel
theorem d_Mo_mended_34 : decode prog_13_method_15_code 34 = .ok (.iconst 0, 1) := by decide +kernel
theorem d_Mo_mended_35 : decode prog_13_method_15_code 35 = .ok (.iconst 0, 1) := by decide +kernel
theorem d_Mo_mended_36 : decode prog_13_method_15_code 36 = .ok (.invokestatic 87, 3) := by decide +kernel
theorem d_Mo_mended_39 : decode prog_13_method_15_code 39 = .ok (.invokestatic 91, 3) := by decide +kernel
theorem d_Mo_mended_42 : decode prog_13_method_15_code 42 = .ok (.ifCond .ne 19, 3) := by decide +kernel
theorem d_Mo_mended_45 : decode prog_13_method_15_code 45 = .ok (.lload_n 0, 1) := by decide +kernel
theorem d_Mo_mended_46 : decode prog_13_method_15_code 46 = .ok (.bipush 9, 2) := by decide +kernel
theorem d_Mo_mended_48 : decode prog_13_method_15_code 48 = .ok (.bipush 26, 2) := by decide +kernel
theorem d_Mo_mended_50 : decode prog_13_method_15_code 50 = .ok (.iconst 0, 1) := by decide +kernel
theorem d_Mo_mended_51 : decode prog_13_method_15_code 51 = .ok (.iconst 0, 1) := by decide +kernel
theorem d_Mo_mended_52 : decode prog_13_method_15_code 52 = .ok (.invokestatic 87, 3) := by decide +kernel
theorem d_Mo_mended_55 : decode prog_13_method_15_code 55 = .ok (.invokestatic 91, 3) := by decide +kernel
theorem d_Mo_mended_58 : decode prog_13_method_15_code 58 = .ok (.ifCond .eq 5, 3) := by decide +kernel
theorem d_Mo_mended_61 : decode prog_13_method_15_code 61 = .ok (.lload_n 3, 1) := by decide +kernel
theorem d_Mo_mended_62 : decode prog_13_method_15_code 62 = .ok (.lreturn, 1) := by decide +kernel
theorem d_Mo_mended_63 : decode prog_13_method_15_code 63 = .ok (.lload_n 0, 1) := by decide +kernel
theorem d_Mo_mended_64 : decode prog_13_method_15_code 64 = .ok (.iload_n 2, 1) := by decide +kernel
theorem d_Mo_mended_65 : decode prog_13_method_15_code 65 = .ok (.iconst 1, 1) := by decide +kernel
theorem d_Mo_mended_66 : decode prog_13_method_15_code 66 = .ok (.isub, 1) := by decide +kernel
theorem d_Mo_mended_67 : decode prog_13_method_15_code 67 = .ok (.invokestatic 75, 3) := by decide +kernel
theorem d_Mo_mended_70 : decode prog_13_method_15_code 70 = .ok (.istore 5, 2) := by decide +kernel
theorem d_Mo_mended_72 : decode prog_13_method_15_code 72 = .ok (.iload_n 2, 1) := by decide +kernel
theorem d_Mo_mended_73 : decode prog_13_method_15_code 73 = .ok (.iconst 1, 1) := by decide +kernel
theorem d_Mo_mended_74 : decode prog_13_method_15_code 74 = .ok (.if_icmp .le 39, 3) := by decide +kernel
theorem d_Mo_mended_77 : decode prog_13_method_15_code 77 = .ok (.iload 5, 2) := by decide +kernel
theorem d_Mo_mended_79 : decode prog_13_method_15_code 79 = .ok (.lload_n 0, 1) := by decide +kernel
theorem d_Mo_mended_80 : decode prog_13_method_15_code 80 = .ok (.iload_n 2, 1) := by decide +kernel
theorem d_Mo_mended_81 : decode prog_13_method_15_code 81 = .ok (.iconst 2, 1) := by decide +kernel
theorem d_Mo_mended_82 : decode prog_13_method_15_code 82 = .ok (.isub, 1) := by decide +kernel
theorem d_Mo_mended_83 : decode prog_13_method_15_code 83 = .ok (.invokestatic 75, 3) := by decide +kernel
theorem d_Mo_mended_86 : decode prog_13_method_15_code 86 = .ok (.if_icmp .ne 27, 3) := by decide +kernel
theorem d_Mo_mended_89 : decode prog_13_method_15_code 89 = .ok (.lload_n 0, 1) := by decide +kernel
theorem d_Mo_mended_90 : decode prog_13_method_15_code 90 = .ok (.iload_n 2, 1) := by decide +kernel
theorem d_Mo_mended_91 : decode prog_13_method_15_code 91 = .ok (.iconst 1, 1) := by decide +kernel
theorem d_Mo_mended_92 : decode prog_13_method_15_code 92 = .ok (.isub, 1) := by decide +kernel
theorem d_Mo_mended_93 : decode prog_13_method_15_code 93 = .ok (.invokestatic 79, 3) := by decide +kernel
theorem d_Mo_mended_96 : decode prog_13_method_15_code 96 = .ok (.ifCond .ne 17, 3) := by decide +kernel
theorem d_Mo_mended_99 : decode prog_13_method_15_code 99 = .ok (.lload_n 0, 1) := by decide +kernel
theorem d_Mo_mended_100 : decode prog_13_method_15_code 100 = .ok (.iload_n 2, 1) := by decide +kernel
theorem d_Mo_mended_101 : decode prog_13_method_15_code 101 = .ok (.iconst 2, 1) := by decide +kernel
theorem d_Mo_mended_102 : decode prog_13_method_15_code 102 = .ok (.isub, 1) := by decide +kernel
theorem d_Mo_mended_103 : decode prog_13_method_15_code 103 = .ok (.invokestatic 79, 3) := by decide +kernel
theorem d_Mo_mended_106 : decode prog_13_method_15_code 106 = .ok (.ifCond .ne 7, 3) := by decide +kernel
theorem d_Mo_mended_109 : decode prog_13_method_15_code 109 = .ok (.iconst 1, 1) := by decide +kernel
theorem d_Mo_mended_110 : decode prog_13_method_15_code 110 = .ok (.goto 4, 3) := by decide +kernel
theorem d_Mo_mended_113 : decode prog_13_method_15_code 113 = .ok (.iconst 0, 1) := by decide +kernel
theorem d_Mo_mended_114 : decode prog_13_method_15_code 114 = .ok (.istore 6, 2) := by decide +kernel
theorem d_Mo_mended_116 : decode prog_13_method_15_code 116 = .ok (.iload 6, 2) := by decide +kernel
theorem d_Mo_mended_118 : decode prog_13_method_15_code 118 = .ok (.ifCond .eq 30, 3) := by decide +kernel
theorem d_Mo_mended_121 : decode prog_13_method_15_code 121 = .ok (.iload 5, 2) := by decide +kernel
theorem d_Mo_mended_123 : decode prog_13_method_15_code 123 = .ok (.bipush 12, 2) := by decide +kernel
theorem d_Mo_mended_125 : decode prog_13_method_15_code 125 = .ok (.if_icmp .eq 23, 3) := by decide +kernel
theorem d_Mo_mended_128 : decode prog_13_method_15_code 128 = .ok (.iload 5, 2) := by decide +kernel
theorem d_Mo_mended_130 : decode prog_13_method_15_code 130 = .ok (.bipush 19, 2) := by decide +kernel
theorem d_Mo_mended_132 : decode prog_13_method_15_code 132 = .ok (.if_icmp .eq 16, 3) := by decide +kernel
theorem d_Mo_mended_135 : decode prog_13_method_15_code 135 = .ok (.iload 5, 2) := by decide +kernel
theorem d_Mo_mended_137 : decode prog_13_method_15_code 137 = .ok (.bipush 26, 2) := by decide +kernel
theorem d_Mo_mended_139 : decode prog_13_method_15_code 139 = .ok (.if_icmp .eq 9, 3) := by decide +kernel
theorem d_Mo_mended_142 : decode prog_13_method_15_code 142 = .ok (.lload_n 0, 1) := by decide +kernel
theorem d_Mo_mended_143 : decode prog_13_method_15_code 143 = .ok (.iconst 1, 1) := by decide +kernel
theorem d_Mo_mended_144 : decode prog_13_method_15_code 144 = .ok (.invokestatic 95, 3) := by decide +kernel
theorem d_Mo_mended_147 : decode prog_13_method_15_code 147 = .ok (.lreturn, 1) := by decide +kernel
theorem d_Mo_mended_148 : decode prog_13_method_15_code 148 = .ok (.lload_n 0, 1) := by decide +kernel
theorem d_Mo_mended_149 : decode prog_13_method_15_code 149 = .ok (.iload_n 2, 1) := by decide +kernel
theorem d_Mo_mended_150 : decode prog_13_method_15_code 150 = .ok (.invokestatic 100, 3) := by decide +kernel
theorem d_Mo_mended_153 : decode prog_13_method_15_code 153 = .ok (.iconst 1, 1) := by decide +kernel
theorem d_Mo_mended_154 : decode prog_13_method_15_code 154 = .ok (.if_icmp .ne 14, 3) := by decide +kernel
theorem d_Mo_mended_157 : decode prog_13_method_15_code 157 = .ok (.lload_n 0, 1) := by decide +kernel
theorem d_Mo_mended_158 : decode prog_13_method_15_code 158 = .ok (.invokestatic 103, 3) := by decide +kernel
theorem d_Mo_mended_161 : decode prog_13_method_15_code 161 = .ok (.ifCond .eq 7, 3) := by decide +kernel
theorem d_Mo_mended_164 : decode prog_13_method_15_code 164 = .ok (.lload_n 3, 1) := by decide +kernel
theorem d_Mo_mended_165 : decode prog_13_method_15_code 165 = .ok (.goto 4, 3) := by decide +kernel
theorem d_Mo_mended_168 : decode prog_13_method_15_code 168 = .ok (.lload_n 0, 1) := by decide +kernel
theorem d_Mo_mended_169 : decode prog_13_method_15_code 169 = .ok (.lreturn, 1) := by decide +kernel
theorem d_Mo_shortEnd_0 : decode prog_13_method_14_code 0 = .ok (.lload_n 0, 1) := by decide +kernel
theorem d_Mo_shortEnd_1 : decode prog_13_method_14_code 1 = .ok (.invokestatic 71, 3) := by decide +kernel
theorem d_Mo_shortEnd_4 : decode prog_13_method_14_code 4 = .ok (.istore_n 2, 1) := by decide +kernel
theorem d_Mo_shortEnd_5 : decode prog_13_method_14_code 5 = .ok (.iload_n 2, 1) := by decide +kernel
theorem d_Mo_shortEnd_6 : decode prog_13_method_14_code 6 = .ok (.iconst 3, 1) := by decide +kernel
theorem d_Mo_shortEnd_7 : decode prog_13_method_14_code 7 = .ok (.if_icmp .lt 33, 3) := by decide +kernel
theorem d_Mo_shortEnd_10 : decode prog_13_method_14_code 10 = .ok (.lload_n 0, 1) := by decide +kernel
theorem d_Mo_shortEnd_11 : decode prog_13_method_14_code 11 = .ok (.iload_n 2, 1) := by decide +kernel
theorem d_Mo_shortEnd_12 : decode prog_13_method_14_code 12 = .ok (.iconst 3, 1) := by decide +kernel
theorem d_Mo_shortEnd_13 : decode prog_13_method_14_code 13 = .ok (.isub, 1) := by decide +kernel
theorem d_Mo_shortEnd_14 : decode prog_13_method_14_code 14 = .ok (.invokestatic 79, 3) := by decide +kernel
theorem d_Mo_shortEnd_17 : decode prog_13_method_14_code 17 = .ok (.ifCond .ne 23, 3) := by decide +kernel
theorem d_Mo_shortEnd_20 : decode prog_13_method_14_code 20 = .ok (.lload_n 0, 1) := by decide +kernel
theorem d_Mo_shortEnd_21 : decode prog_13_method_14_code 21 = .ok (.iload_n 2, 1) := by decide +kernel
theorem d_Mo_shortEnd_22 : decode prog_13_method_14_code 22 = .ok (.iconst 2, 1) := by decide +kernel
theorem d_Mo_shortEnd_23 : decode prog_13_method_14_code 23 = .ok (.isub, 1) := by decide +kernel
theorem d_Mo_shortEnd_24 : decode prog_13_method_14_code 24 = .ok (.invokestatic 79, 3) := by decide +kernel
theorem d_Mo_shortEnd_27 : decode prog_13_method_14_code 27 = .ok (.ifCond .eq 13, 3) := by decide +kernel
theorem d_Mo_shortEnd_30 : decode prog_13_method_14_code 30 = .ok (.lload_n 0, 1) := by decide +kernel
theorem d_Mo_shortEnd_31 : decode prog_13_method_14_code 31 = .ok (.iload_n 2, 1) := by decide +kernel
theorem d_Mo_shortEnd_32 : decode prog_13_method_14_code 32 = .ok (.iconst 1, 1) := by decide +kernel
theorem d_Mo_shortEnd_33 : decode prog_13_method_14_code 33 = .ok (.isub, 1) := by decide +kernel
theorem d_Mo_shortEnd_34 : decode prog_13_method_14_code 34 = .ok (.invokestatic 79, 3) := by decide +kernel
theorem d_Mo_shortEnd_37 : decode prog_13_method_14_code 37 = .ok (.ifCond .eq 5, 3) := by decide +kernel
theorem d_Mo_shortEnd_40 : decode prog_13_method_14_code 40 = .ok (.iconst 0, 1) := by decide +kernel
theorem d_Mo_shortEnd_41 : decode prog_13_method_14_code 41 = .ok (.ireturn, 1) := by decide +kernel
theorem d_Mo_shortEnd_42 : decode prog_13_method_14_code 42 = .ok (.lload_n 0, 1) := by decide +kernel
theorem d_Mo_shortEnd_43 : decode prog_13_method_14_code 43 = .ok (.iload_n 2, 1) := by decide +kernel
theorem d_Mo_shortEnd_44 : decode prog_13_method_14_code 44 = .ok (.iconst 1, 1) := by decide +kernel
theorem d_Mo_shortEnd_45 : decode prog_13_method_14_code 45 = .ok (.isub, 1) := by decide +kernel
theorem d_Mo_shortEnd_46 : decode prog_13_method_14_code 46 = .ok (.invokestatic 75, 3) := by decide +kernel
theorem d_Mo_shortEnd_49 : decode prog_13_method_14_code 49 = .ok (.bipush 23, 2) := by decide +kernel
theorem d_Mo_shortEnd_51 : decode prog_13_method_14_code 51 = .ok (.if_icmp .lt 15, 3) := by decide +kernel
theorem d_Mo_shortEnd_54 : decode prog_13_method_14_code 54 = .ok (.lload_n 0, 1) := by decide +kernel
theorem d_Mo_shortEnd_55 : decode prog_13_method_14_code 55 = .ok (.iload_n 2, 1) := by decide +kernel
theorem d_Mo_shortEnd_56 : decode prog_13_method_14_code 56 = .ok (.iconst 1, 1) := by decide +kernel
theorem d_Mo_shortEnd_57 : decode prog_13_method_14_code 57 = .ok (.isub, 1) := by decide +kernel
theorem d_Mo_shortEnd_58 : decode prog_13_method_14_code 58 = .ok (.invokestatic 75, 3) := by decide +kernel
theorem d_Mo_shortEnd_61 : decode prog_13_method_14_code 61 = .ok (.bipush 26, 2) := by decide +kernel
theorem d_Mo_shortEnd_63 : decode prog_13_method_14_code 63 = .ok (.if_icmp .ne 7, 3) := by decide +kernel
theorem d_Mo_shortEnd_66 : decode prog_13_method_14_code 66 = .ok (.iconst 1, 1) := by decide +kernel
theorem d_Mo_shortEnd_67 : decode prog_13_method_14_code 67 = .ok (.goto 4, 3) := by decide +kernel
theorem d_Mo_shortEnd_70 : decode prog_13_method_14_code 70 = .ok (.iconst 0, 1) := by decide +kernel
theorem d_Mo_shortEnd_71 : decode prog_13_method_14_code 71 = .ok (.ireturn, 1) := by decide +kernel
theorem d_Mo_termOf_0 : decode prog_13_method_19_code 0 = .ok (.lload_n 0, 1) := by decide +kernel
theorem d_Mo_termOf_1 : decode prog_13_method_19_code 1 = .ok (.invokestatic 128, 3) := by decide +kernel
theorem d_Mo_termOf_4 : decode prog_13_method_19_code 4 = .ok (.ifCond .eq 7, 3) := by decide +kernel
theorem d_Mo_termOf_7 : decode prog_13_method_19_code 7 = .ok (.lconst 0, 1) := by decide +kernel
theorem d_Mo_termOf_8 : decode prog_13_method_19_code 8 = .ok (.goto 7, 3) := by decide +kernel
theorem d_Mo_termOf_11 : decode prog_13_method_19_code 11 = .ok (.lload_n 0, 1) := by decide +kernel
theorem d_Mo_termOf_12 : decode prog_13_method_19_code 12 = .ok (.invokestatic 125, 3) := by decide +kernel
theorem d_Mo_termOf_15 : decode prog_13_method_19_code 15 = .ok (.lreturn, 1) := by decide +kernel
theorem d_Mo_isStop_0 : decode prog_13_method_12_code 0 = .ok (.lload_n 0, 1) := by decide +kernel
theorem d_Mo_isStop_1 : decode prog_13_method_12_code 1 = .ok (.iconst 1, 1) := by decide +kernel
theorem d_Mo_isStop_2 : decode prog_13_method_12_code 2 = .ok (.bipush 14, 2) := by decide +kernel
theorem d_Mo_isStop_4 : decode prog_13_method_12_code 4 = .ok (.iconst 0, 1) := by decide +kernel
theorem d_Mo_isStop_5 : decode prog_13_method_12_code 5 = .ok (.iconst 0, 1) := by decide +kernel
theorem d_Mo_isStop_6 : decode prog_13_method_12_code 6 = .ok (.invokestatic 87, 3) := by decide +kernel
theorem d_Mo_isStop_9 : decode prog_13_method_12_code 9 = .ok (.lcmp, 1) := by decide +kernel
theorem d_Mo_isStop_10 : decode prog_13_method_12_code 10 = .ok (.ifCond .eq 59, 3) := by decide +kernel
theorem d_Mo_isStop_13 : decode prog_13_method_12_code 13 = .ok (.lload_n 0, 1) := by decide +kernel
theorem d_Mo_isStop_14 : decode prog_13_method_12_code 14 = .ok (.bipush 9, 2) := by decide +kernel
theorem d_Mo_isStop_16 : decode prog_13_method_12_code 16 = .ok (.bipush 14, 2) := by decide +kernel
theorem d_Mo_isStop_18 : decode prog_13_method_12_code 18 = .ok (.iconst 0, 1) := by decide +kernel
theorem d_Mo_isStop_19 : decode prog_13_method_12_code 19 = .ok (.iconst 0, 1) := by decide +kernel
theorem d_Mo_isStop_20 : decode prog_13_method_12_code 20 = .ok (.invokestatic 87, 3) := by decide +kernel
theorem d_Mo_isStop_23 : decode prog_13_method_12_code 23 = .ok (.lcmp, 1) := by decide +kernel
theorem d_Mo_isStop_24 : decode prog_13_method_12_code 24 = .ok (.ifCond .eq 45, 3) := by decide +kernel
theorem d_Mo_isStop_27 : decode prog_13_method_12_code 27 = .ok (.lload_n 0, 1) := by decide +kernel
theorem d_Mo_isStop_28 : decode prog_13_method_12_code 28 = .ok (.bipush 15, 2) := by decide +kernel
theorem d_Mo_isStop_30 : decode prog_13_method_12_code 30 = .ok (.bipush 6, 2) := by decide +kernel
theorem d_Mo_isStop_32 : decode prog_13_method_12_code 32 = .ok (.iconst 0, 1) := by decide +kernel
theorem d_Mo_isStop_33 : decode prog_13_method_12_code 33 = .ok (.iconst 0, 1) := by decide +kernel
theorem d_Mo_isStop_34 : decode prog_13_method_12_code 34 = .ok (.invokestatic 87, 3) := by decide +kernel
theorem d_Mo_isStop_37 : decode prog_13_method_12_code 37 = .ok (.lcmp, 1) := by decide +kernel
theorem d_Mo_isStop_38 : decode prog_13_method_12_code 38 = .ok (.ifCond .eq 31, 3) := by decide +kernel
theorem d_Mo_isStop_41 : decode prog_13_method_12_code 41 = .ok (.lload_n 0, 1) := by decide +kernel
theorem d_Mo_isStop_42 : decode prog_13_method_12_code 42 = .ok (.bipush 15, 2) := by decide +kernel
theorem d_Mo_isStop_44 : decode prog_13_method_12_code 44 = .ok (.bipush 18, 2) := by decide +kernel
theorem d_Mo_isStop_46 : decode prog_13_method_12_code 46 = .ok (.iconst 0, 1) := by decide +kernel
theorem d_Mo_isStop_47 : decode prog_13_method_12_code 47 = .ok (.iconst 0, 1) := by decide +kernel
theorem d_Mo_isStop_48 : decode prog_13_method_12_code 48 = .ok (.invokestatic 87, 3) := by decide +kernel
theorem d_Mo_isStop_51 : decode prog_13_method_12_code 51 = .ok (.lcmp, 1) := by decide +kernel
theorem d_Mo_isStop_52 : decode prog_13_method_12_code 52 = .ok (.ifCond .eq 17, 3) := by decide +kernel
theorem d_Mo_isStop_55 : decode prog_13_method_12_code 55 = .ok (.lload_n 0, 1) := by decide +kernel
theorem d_Mo_isStop_56 : decode prog_13_method_12_code 56 = .ok (.bipush 20, 2) := by decide +kernel
theorem d_Mo_isStop_58 : decode prog_13_method_12_code 58 = .ok (.bipush 15, 2) := by decide +kernel
theorem d_Mo_isStop_60 : decode prog_13_method_12_code 60 = .ok (.iconst 0, 1) := by decide +kernel
theorem d_Mo_isStop_61 : decode prog_13_method_12_code 61 = .ok (.iconst 0, 1) := by decide +kernel
theorem d_Mo_isStop_62 : decode prog_13_method_12_code 62 = .ok (.invokestatic 87, 3) := by decide +kernel
theorem d_Mo_isStop_65 : decode prog_13_method_12_code 65 = .ok (.lcmp, 1) := by decide +kernel
theorem d_Mo_isStop_66 : decode prog_13_method_12_code 66 = .ok (.ifCond .ne 7, 3) := by decide +kernel
theorem d_Mo_isStop_69 : decode prog_13_method_12_code 69 = .ok (.iconst 1, 1) := by decide +kernel
theorem d_Mo_isStop_70 : decode prog_13_method_12_code 70 = .ok (.goto 4, 3) := by decide +kernel
theorem d_Mo_isStop_73 : decode prog_13_method_12_code 73 = .ok (.iconst 0, 1) := by decide +kernel
theorem d_Mo_isStop_74 : decode prog_13_method_12_code 74 = .ok (.istore_n 2, 1) := by decide +kernel
theorem d_Mo_isStop_75 : decode prog_13_method_12_code 75 = .ok (.lload_n 0, 1) := by decide +kernel
theorem d_Mo_isStop_76 : decode prog_13_method_12_code 76 = .ok (.lconst 1, 1) := by decide +kernel
theorem d_Mo_isStop_77 : decode prog_13_method_12_code 77 = .ok (.lcmp, 1) := by decide +kernel
theorem d_Mo_isStop_78 : decode prog_13_method_12_code 78 = .ok (.ifCond .eq 34, 3) := by decide +kernel
theorem d_Mo_isStop_81 : decode prog_13_method_12_code 81 = .ok (.iload_n 2, 1) := by decide +kernel
theorem d_Mo_isStop_82 : decode prog_13_method_12_code 82 = .ok (.ifCond .ne 30, 3) := by decide +kernel
theorem d_Mo_isStop_85 : decode prog_13_method_12_code 85 = .ok (.lload_n 0, 1) := by decide +kernel
theorem d_Mo_isStop_86 : decode prog_13_method_12_code 86 = .ok (.iconst 1, 1) := by decide +kernel
theorem d_Mo_isStop_87 : decode prog_13_method_12_code 87 = .ok (.bipush 14, 2) := by decide +kernel
theorem d_Mo_isStop_89 : decode prog_13_method_12_code 89 = .ok (.iconst 4, 1) := by decide +kernel
theorem d_Mo_isStop_90 : decode prog_13_method_12_code 90 = .ok (.iconst 0, 1) := by decide +kernel
theorem d_Mo_isStop_91 : decode prog_13_method_12_code 91 = .ok (.invokestatic 87, 3) := by decide +kernel
theorem d_Mo_isStop_94 : decode prog_13_method_12_code 94 = .ok (.lcmp, 1) := by decide +kernel
theorem d_Mo_isStop_95 : decode prog_13_method_12_code 95 = .ok (.ifCond .eq 17, 3) := by decide +kernel
theorem d_Mo_isStop_98 : decode prog_13_method_12_code 98 = .ok (.lload_n 0, 1) := by decide +kernel
theorem d_Mo_isStop_99 : decode prog_13_method_12_code 99 = .ok (.bipush 20, 2) := by decide +kernel
theorem d_Mo_isStop_101 : decode prog_13_method_12_code 101 = .ok (.bipush 8, 2) := by decide +kernel
theorem d_Mo_isStop_103 : decode prog_13_method_12_code 103 = .ok (.iconst 5, 1) := by decide +kernel
theorem d_Mo_isStop_104 : decode prog_13_method_12_code 104 = .ok (.iconst 0, 1) := by decide +kernel
theorem d_Mo_isStop_105 : decode prog_13_method_12_code 105 = .ok (.invokestatic 87, 3) := by decide +kernel
theorem d_Mo_isStop_108 : decode prog_13_method_12_code 108 = .ok (.lcmp, 1) := by decide +kernel
theorem d_Mo_isStop_109 : decode prog_13_method_12_code 109 = .ok (.ifCond .ne 7, 3) := by decide +kernel
theorem d_Mo_isStop_112 : decode prog_13_method_12_code 112 = .ok (.iconst 1, 1) := by decide +kernel
theorem d_Mo_isStop_113 : decode prog_13_method_12_code 113 = .ok (.goto 4, 3) := by decide +kernel
theorem d_Mo_isStop_116 : decode prog_13_method_12_code 116 = .ok (.iconst 0, 1) := by decide +kernel
theorem d_Mo_isStop_117 : decode prog_13_method_12_code 117 = .ok (.ireturn, 1) := by decide +kernel
