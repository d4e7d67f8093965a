theorem ck_0 : ev_ck 0 rC0 := ⟨rfl, by decide +kernel, ⟨fun k => (parseFieldDescriptor (T0_ k).2.2.1).getD .int, by decide +kernel⟩, by decide +kernel⟩
theorem ck_1 : ev_ck 1 rC1 := ⟨rfl, by decide +kernel, ⟨fun k => (parseFieldDescriptor (T1_ k).2.2.1).getD .int, by decide +kernel⟩, by decide +kernel⟩
theorem ck_2 : ev_ck 2 rC2 := ⟨rfl, by decide +kernel, ⟨fun k => (parseFieldDescriptor (T2_ k).2.2.1).getD .int, by decide +kernel⟩, by decide +kernel⟩
theorem ck_3 : ev_ck 3 rC3 := ⟨rfl, by decide +kernel, ⟨fun k => (parseFieldDescriptor (T3_ k).2.2.1).getD .int, by decide +kernel⟩, by decide +kernel⟩
theorem ck_4 : ev_ck 4 rC4 := ⟨rfl, by decide +kernel, ⟨fun k => (parseFieldDescriptor (T4_ k).2.2.1).getD .int, by decide +kernel⟩, by decide +kernel⟩
theorem ck_5 : ev_ck 5 rC5 := ⟨rfl, by decide +kernel, ⟨fun k => (parseFieldDescriptor (T5_ k).2.2.1).getD .int, by decide +kernel⟩, by decide +kernel⟩
theorem ck_6 : ev_ck 6 rC6 := ⟨rfl, by decide +kernel, ⟨fun k => (parseFieldDescriptor (T6_ k).2.2.1).getD .int, by decide +kernel⟩, by decide +kernel⟩
theorem ck_7 : ev_ck 7 rC7 := ⟨rfl, by decide +kernel, ⟨fun k => (parseFieldDescriptor (T7_ k).2.2.1).getD .int, by decide +kernel⟩, by decide +kernel⟩
theorem ck_8 : ev_ck 8 rC8 := ⟨rfl, by decide +kernel, ⟨fun k => (parseFieldDescriptor (T8_ k).2.2.1).getD .int, by decide +kernel⟩, by decide +kernel⟩
theorem ck_9 : ev_ck 9 rC9 := ⟨rfl, by decide +kernel, ⟨fun k => (parseFieldDescriptor (T9_ k).2.2.1).getD .int, by decide +kernel⟩, by decide +kernel⟩
theorem ck_10 : ev_ck 10 rC10 := ⟨rfl, by decide +kernel, ⟨fun k => (parseFieldDescriptor (T10_ k).2.2.1).getD .int, by decide +kernel⟩, by decide +kernel⟩
theorem ck_11 : ev_ck 11 rC11 := ⟨rfl, by decide +kernel, ⟨fun k => (parseFieldDescriptor (T11_ k).2.2.1).getD .int, by decide +kernel⟩, by decide +kernel⟩
theorem ck_12 : ev_ck 12 rC12 := ⟨rfl, by decide +kernel, ⟨fun k => (parseFieldDescriptor (T12_ k).2.2.1).getD .int, by decide +kernel⟩, by decide +kernel⟩
theorem lc_P_9 : ev_lc "PostingShelf" 9 M_St_init 0 := ⟨Or.inr ⟨_, wd_37⟩, wd_39, wd_2, ⟨by decide, by decide⟩, by decide +kernel⟩
theorem fl_P_10 : ev_fl "PostingShelf" 10 0 0 := ⟨rC0, "PostingShelf", ck_0, by decide, Or.inl wd_195, Or.inl rfl⟩
theorem fl_P_16 : ev_fl "PostingShelf" 16 0 1 := ⟨rC0, "PostingShelf", ck_0, by decide, Or.inl wd_196, Or.inl rfl⟩
theorem fl_P_20 : ev_fl "PostingShelf" 20 0 2 := ⟨rC0, "PostingShelf", ck_0, by decide, Or.inl wd_197, Or.inl rfl⟩
theorem lc_P_26 : ev_lc "PostingShelf" 26 M_Pe_init 0 := ⟨Or.inr ⟨_, wd_55⟩, wd_57, wd_3, ⟨by decide, by decide⟩, by decide +kernel⟩
theorem fl_P_27 : ev_fl "PostingShelf" 27 0 3 := ⟨rC0, "PostingShelf", ck_0, by decide, Or.inl wd_198, Or.inl rfl⟩
theorem lc_P_33 : ev_lc "PostingShelf" 33 M_Sh_init 0 := ⟨Or.inr ⟨_, wd_99⟩, wd_101, wd_7, ⟨by decide, by decide⟩, by decide +kernel⟩
theorem fl_P_34 : ev_fl "PostingShelf" 34 0 4 := ⟨rC0, "PostingShelf", ck_0, by decide, Or.inl wd_199, Or.inl rfl⟩
theorem lc_P_40 : ev_lc "PostingShelf" 40 M_Ma_init 0 := ⟨Or.inr ⟨_, wd_116⟩, wd_118, wd_8, ⟨by decide, by decide⟩, by decide +kernel⟩
theorem fl_P_41 : ev_fl "PostingShelf" 41 0 5 := ⟨rC0, "PostingShelf", ck_0, by decide, Or.inl wd_200, Or.inl rfl⟩
theorem lc_P_47 : ev_lc "PostingShelf" 47 M_Qs_init 0 := ⟨Or.inr ⟨_, wd_135⟩, wd_137, wd_9, ⟨by decide, by decide⟩, by decide +kernel⟩
theorem fl_P_48 : ev_fl "PostingShelf" 48 0 6 := ⟨rC0, "PostingShelf", ck_0, by decide, Or.inl wd_201, Or.inl rfl⟩
theorem lc_P_54 : ev_lc "PostingShelf" 54 M_Ra_init 0 := ⟨Or.inr ⟨_, wd_156⟩, wd_158, wd_10, ⟨by decide, by decide⟩, by decide +kernel⟩
theorem fl_P_55 : ev_fl "PostingShelf" 55 0 7 := ⟨rC0, "PostingShelf", ck_0, by decide, Or.inl wd_202, Or.inl rfl⟩
theorem lc_P_61 : ev_lc "PostingShelf" 61 M_Re_init 0 := ⟨Or.inr ⟨_, wd_178⟩, wd_180, wd_11, ⟨by decide, by decide⟩, by decide +kernel⟩
theorem fl_P_62 : ev_fl "PostingShelf" 62 0 8 := ⟨rC0, "PostingShelf", ck_0, by decide, Or.inl wd_203, Or.inl rfl⟩
theorem fl_St_9 : ev_fl "PostingShelf$Stemmer" 9 1 0 := ⟨rC1, "PostingShelf$Stemmer", ck_1, by decide, Or.inl wd_41, Or.inl rfl⟩
theorem fl_St_15 : ev_fl "PostingShelf$Stemmer" 15 1 1 := ⟨rC1, "PostingShelf$Stemmer", ck_1, by decide, Or.inl wd_42, Or.inl rfl⟩
theorem fl_St_19 : ev_fl "PostingShelf$Stemmer" 19 1 2 := ⟨rC1, "PostingShelf$Stemmer", ck_1, by decide, Or.inl wd_43, Or.inl rfl⟩
theorem lc_Pe_9 : ev_lc "PostingShelf$Pending" 9 M_AL_init 0 := ⟨Or.inl wd_61, wd_63, wd_6, ⟨by decide, by decide⟩, by decide +kernel⟩
theorem fl_Pe_10 : ev_fl "PostingShelf$Pending" 10 2 0 := ⟨rC2, "PostingShelf$Pending", ck_2, by decide, Or.inl wd_86, Or.inl rfl⟩
theorem fl_Pe_16 : ev_fl "PostingShelf$Pending" 16 2 1 := ⟨rC2, "PostingShelf$Pending", ck_2, by decide, Or.inl wd_89, Or.inl rfl⟩
theorem lc_AL_1 : ev_lc "java/util/ArrayList" 1 M_AbL_init 0 := ⟨Or.inl wd_64, wd_66, wd_5, ⟨by decide, by decide⟩, by decide +kernel⟩
theorem fl_AL_9 : ev_fl "java/util/ArrayList" 9 12 0 := ⟨rC12, "java/util/ArrayList", ck_12, by decide, Or.inl wd_73, Or.inl rfl⟩
theorem lc_AbL_1 : ev_lc "java/util/AbstractList" 1 M_AbC_init 0 := ⟨Or.inl wd_67, wd_69, wd_4, ⟨by decide, by decide⟩, by decide +kernel⟩
theorem fl_AbL_7 : ev_fl "java/util/AbstractList" 7 12 2 := ⟨rC12, "java/util/AbstractList", ck_12, by decide, Or.inl wd_75, Or.inl rfl⟩
theorem lc_Sh_9 : ev_lc "PostingShelf$Shelf" 9 M_AL_init 0 := ⟨Or.inl wd_104, wd_63, wd_6, ⟨by decide, by decide⟩, by decide +kernel⟩
theorem fl_Sh_10 : ev_fl "PostingShelf$Shelf" 10 3 0 := ⟨rC3, "PostingShelf$Shelf", ck_3, by decide, Or.inl wd_105, Or.inl rfl⟩
theorem fl_Sh_16 : ev_fl "PostingShelf$Shelf" 16 3 1 := ⟨rC3, "PostingShelf$Shelf", ck_3, by decide, Or.inl wd_107, Or.inl rfl⟩
theorem fl_Ma_7 : ev_fl "PostingShelf$Machine" 7 4 0 := ⟨rC4, "PostingShelf$Machine", ck_4, by decide, Or.inl wd_120, Or.inl rfl⟩
theorem fl_Ma_13 : ev_fl "PostingShelf$Machine" 13 4 1 := ⟨rC4, "PostingShelf$Machine", ck_4, by decide, Or.inl wd_122, Or.inl rfl⟩
theorem fl_Ma_16 : ev_fl "PostingShelf$Machine" 16 4 2 := ⟨rC4, "PostingShelf$Machine", ck_4, by decide, Or.inl wd_124, Or.inl rfl⟩
theorem lc_Qs_11 : ev_lc "PostingShelf$QueryStack" 11 M_AL_init 0 := ⟨Or.inl wd_140, wd_63, wd_6, ⟨by decide, by decide⟩, by decide +kernel⟩
theorem fl_Qs_12 : ev_fl "PostingShelf$QueryStack" 12 5 0 := ⟨rC5, "PostingShelf$QueryStack", ck_5, by decide, Or.inl wd_141, Or.inl rfl⟩
theorem fl_Qs_18 : ev_fl "PostingShelf$QueryStack" 18 5 1 := ⟨rC5, "PostingShelf$QueryStack", ck_5, by decide, Or.inl wd_142, Or.inl rfl⟩
theorem fl_Qs_22 : ev_fl "PostingShelf$QueryStack" 22 5 2 := ⟨rC5, "PostingShelf$QueryStack", ck_5, by decide, Or.inl wd_143, Or.inl rfl⟩
theorem fl_Ra_11 : ev_fl "PostingShelf$Ranking" 11 6 0 := ⟨rC6, "PostingShelf$Ranking", ck_6, by decide, Or.inl wd_162, Or.inl rfl⟩
theorem fl_Ra_16 : ev_fl "PostingShelf$Ranking" 16 6 1 := ⟨rC6, "PostingShelf$Ranking", ck_6, by decide, Or.inl wd_163, Or.inl rfl⟩
theorem fl_Ra_20 : ev_fl "PostingShelf$Ranking" 20 6 2 := ⟨rC6, "PostingShelf$Ranking", ck_6, by decide, Or.inl wd_164, Or.inl rfl⟩
theorem fl_Ra_24 : ev_fl "PostingShelf$Ranking" 24 6 3 := ⟨rC6, "PostingShelf$Ranking", ck_6, by decide, Or.inl wd_165, Or.inl rfl⟩
theorem fl_Re_9 : ev_fl "PostingShelf$Results" 9 7 0 := ⟨rC7, "PostingShelf$Results", ck_7, by decide, Or.inl wd_182, Or.inl rfl⟩
theorem fl_Re_15 : ev_fl "PostingShelf$Results" 15 7 1 := ⟨rC7, "PostingShelf$Results", ck_7, by decide, Or.inl wd_184, Or.inl rfl⟩
theorem fl_Re_18 : ev_fl "PostingShelf$Results" 18 7 2 := ⟨rC7, "PostingShelf$Results", ck_7, by decide, Or.inl wd_186, Or.inl rfl⟩
theorem lc_P_66 : ev_lc "PostingShelf" 66 M_St_isWord 1 := ⟨Or.inl wd_227, wd_229, wd_2, ⟨by decide, by decide⟩, by decide +kernel⟩
theorem lc_P_70 : ev_lc "PostingShelf" 70 M_St_stemOf 1 := ⟨Or.inl wd_232, wd_235, wd_2, ⟨by decide, by decide⟩, by decide +kernel⟩
theorem lc_St_39 : ev_lc "PostingShelf$Stemmer" 39 M_St_unpack 1 := ⟨Or.inl wd_236, wd_239, wd_2, ⟨by decide, by decide⟩, by decide +kernel⟩
theorem lc_St_43 : ev_lc "PostingShelf$Stemmer" 43 M_St_dropPlural 0 := ⟨Or.inl wd_332, wd_335, wd_2, ⟨by decide, by decide⟩, by decide +kernel⟩
theorem lc_St_46 : ev_lc "PostingShelf$Stemmer" 46 M_St_dropPastOrGerund 0 := ⟨Or.inl wd_365, wd_368, wd_2, ⟨by decide, by decide⟩, by decide +kernel⟩
theorem lc_St_49 : ev_lc "PostingShelf$Stemmer" 49 M_St_turnFinalY 0 := ⟨Or.inl wd_397, wd_400, wd_2, ⟨by decide, by decide⟩, by decide +kernel⟩
theorem lc_St_52 : ev_lc "PostingShelf$Stemmer" 52 M_St_packed 0 := ⟨Or.inl wd_402, wd_405, wd_2, ⟨by decide, by decide⟩, by decide +kernel⟩
theorem lc_St_58 : ev_lc "PostingShelf$Stemmer" 58 M_St_append 1 := ⟨Or.inl wd_241, wd_244, wd_2, ⟨by decide, by decide⟩, by decide +kernel⟩
theorem lc_St_64 : ev_lc "PostingShelf$Stemmer" 64 M_Str_indexOf 1 := ⟨Or.inl wd_246, wd_249, wd_13, ⟨by decide, by decide⟩, by decide +kernel⟩
theorem lc_Str_633 : ev_lc "java/lang/String" 633 M_Str_indexOf2 2 := ⟨Or.inl wd_250, wd_253, wd_13, ⟨by decide, by decide⟩, by decide +kernel⟩
theorem lc_Str_492 : ev_lc "java/lang/String" 492 M_Str_isLatin1 0 := ⟨Or.inl wd_254, wd_257, wd_13, ⟨by decide, by decide⟩, by decide +kernel⟩
theorem lc_Str_505 : ev_lc "java/lang/String" 505 M_Str_length 0 := ⟨Or.inl wd_260, wd_263, wd_13, ⟨by decide, by decide⟩, by decide +kernel⟩
theorem lc_Str_637 : ev_lc "java/lang/String" 637 M_Lat_indexOf 4 := ⟨Or.inl wd_268, wd_270, wd_14, ⟨by decide, by decide⟩, by decide +kernel⟩
theorem lc_Str_640 : ev_lc "java/lang/String" 640 M_Utf_indexOf 4 := ⟨Or.inl wd_283, wd_285, wd_16, ⟨by decide, by decide⟩, by decide +kernel⟩
theorem lc_Str_335 : ev_lc "java/lang/String" 335 M_Str_coder 0 := ⟨Or.inl wd_264, wd_267, wd_13, ⟨by decide, by decide⟩, by decide +kernel⟩
theorem lc_Lat_88 : ev_lc "java/lang/StringLatin1" 88 M_Lat_canEncode 1 := ⟨Or.inl wd_271, wd_273, wd_14, ⟨by decide, by decide⟩, by decide +kernel⟩
theorem lc_Lat_95 : ev_lc "java/lang/StringLatin1" 95 M_Lat_indexOfChar 4 := ⟨Or.inl wd_280, wd_282, wd_14, ⟨by decide, by decide⟩, by decide +kernel⟩
theorem lc_Utf_228 : ev_lc "java/lang/StringUTF16" 228 M_Utf_indexOfChar 4 := ⟨Or.inl wd_289, wd_291, wd_16, ⟨by decide, by decide⟩, by decide +kernel⟩
theorem lc_Utf_232 : ev_lc "java/lang/StringUTF16" 232 M_Utf_indexOfSupplementary 4 := ⟨Or.inl wd_318, wd_320, wd_16, ⟨by decide, by decide⟩, by decide +kernel⟩
theorem lc_Utf_96 : ev_lc "java/lang/StringUTF16" 96 M_Utf_checkBoundsBeginEnd 3 := ⟨Or.inl wd_292, wd_294, wd_16, ⟨by decide, by decide⟩, by decide +kernel⟩
theorem lc_Utf_244 : ev_lc "java/lang/StringUTF16" 244 M_Utf_indexOfCharUnsafe 4 := ⟨Or.inl wd_306, wd_308, wd_16, ⟨by decide, by decide⟩, by decide +kernel⟩
theorem lc_Utf_48 : ev_lc "java/lang/StringUTF16" 48 M_Utf_length 1 := ⟨Or.inl wd_295, wd_297, wd_16, ⟨by decide, by decide⟩, by decide +kernel⟩
theorem lc_Utf_241 : ev_lc "java/lang/StringUTF16" 241 M_Str_checkBoundsBeginEnd 3 := ⟨Or.inl wd_298, wd_300, wd_13, ⟨by decide, by decide⟩, by decide +kernel⟩
theorem lc_Str_1062 : ev_lc "java/lang/String" 1062 M_Pre_checkFromToIndex 4 := ⟨Or.inl wd_303, wd_305, wd_17, ⟨by decide, by decide⟩, by decide +kernel⟩
theorem lc_Utf_71 : ev_lc "java/lang/StringUTF16" 71 M_Utf_getChar 2 := ⟨Or.inl wd_309, wd_311, wd_16, ⟨by decide, by decide⟩, by decide +kernel⟩
theorem lc_Utf_164 : ev_lc "java/lang/StringUTF16" 164 M_Chr_isValidCodePoint 1 := ⟨Or.inl wd_321, wd_323, wd_18, ⟨by decide, by decide⟩, by decide +kernel⟩
theorem lc_Utf_157 : ev_lc "java/lang/StringUTF16" 157 M_Chr_highSurrogate 1 := ⟨Or.inl wd_324, wd_326, wd_18, ⟨by decide, by decide⟩, by decide +kernel⟩
theorem lc_Utf_161 : ev_lc "java/lang/StringUTF16" 161 M_Chr_lowSurrogate 1 := ⟨Or.inl wd_328, wd_330, wd_18, ⟨by decide, by decide⟩, by decide +kernel⟩
theorem lc_St_72 : ev_lc "PostingShelf$Stemmer" 72 M_St_endsIn 1 := ⟨Or.inl wd_337, wd_340, wd_2, ⟨by decide, by decide⟩, by decide +kernel⟩
theorem lc_St_113 : ev_lc "PostingShelf$Stemmer" 113 M_Str_length 0 := ⟨Or.inl wd_341, wd_263, wd_13, ⟨by decide, by decide⟩, by decide +kernel⟩
theorem lc_St_116 : ev_lc "PostingShelf$Stemmer" 116 M_Str_charAt 1 := ⟨Or.inl wd_342, wd_345, wd_13, ⟨by decide, by decide⟩, by decide +kernel⟩
theorem lc_Str_495 : ev_lc "java/lang/String" 495 M_Lat_charAt 2 := ⟨Or.inl wd_346, wd_348, wd_14, ⟨by decide, by decide⟩, by decide +kernel⟩
theorem lc_Str_498 : ev_lc "java/lang/String" 498 M_Utf_charAt 2 := ⟨Or.inl wd_355, wd_357, wd_16, ⟨by decide, by decide⟩, by decide +kernel⟩
theorem lc_Lat_9 : ev_lc "java/lang/StringLatin1" 9 M_Str_checkIndex 2 := ⟨Or.inl wd_349, wd_351, wd_13, ⟨by decide, by decide⟩, by decide +kernel⟩
theorem lc_Str_1059 : ev_lc "java/lang/String" 1059 M_Pre_checkIndex 3 := ⟨Or.inl wd_352, wd_354, wd_17, ⟨by decide, by decide⟩, by decide +kernel⟩
theorem lc_Utf_67 : ev_lc "java/lang/StringUTF16" 67 M_Utf_checkIndex 2 := ⟨Or.inl wd_358, wd_360, wd_16, ⟨by decide, by decide⟩, by decide +kernel⟩
theorem lc_Utf_414 : ev_lc "java/lang/StringUTF16" 414 M_Str_checkIndex 2 := ⟨Or.inl wd_361, wd_351, wd_13, ⟨by decide, by decide⟩, by decide +kernel⟩
theorem lc_St_84 : ev_lc "PostingShelf$Stemmer" 84 M_St_measure 1 := ⟨Or.inl wd_370, wd_373, wd_2, ⟨by decide, by decide⟩, by decide +kernel⟩
theorem lc_St_91 : ev_lc "PostingShelf$Stemmer" 91 M_St_hasVowel 1 := ⟨Or.inl wd_376, wd_379, wd_2, ⟨by decide, by decide⟩, by decide +kernel⟩
theorem lc_St_95 : ev_lc "PostingShelf$Stemmer" 95 M_St_mendEnd 0 := ⟨Or.inl wd_380, wd_383, wd_2, ⟨by decide, by decide⟩, by decide +kernel⟩
theorem lc_St_104 : ev_lc "PostingShelf$Stemmer" 104 M_St_endsInDouble 0 := ⟨Or.inl wd_387, wd_390, wd_2, ⟨by decide, by decide⟩, by decide +kernel⟩
theorem lc_St_108 : ev_lc "PostingShelf$Stemmer" 108 M_St_endsShort 0 := ⟨Or.inl wd_392, wd_395, wd_2, ⟨by decide, by decide⟩, by decide +kernel⟩
theorem fl_P_74 : ev_fl "PostingShelf" 74 4 2 := ⟨rC4, "PostingShelf$Machine", ck_4, by decide, Or.inr ⟨_, wd_125⟩, Or.inl rfl⟩
theorem lc_P_78 : ev_lc "PostingShelf" 78 M_St_termOf 1 := ⟨Or.inl wd_411, wd_414, wd_2, ⟨by decide, by decide⟩, by decide +kernel⟩
theorem lc_St_31 : ev_lc "PostingShelf$Stemmer" 31 M_St_isStopWord 1 := ⟨Or.inl wd_415, wd_417, wd_2, ⟨by decide, by decide⟩, by decide +kernel⟩
theorem lc_St_35 : ev_lc "PostingShelf$Stemmer" 35 M_St_stemOf 1 := ⟨Or.inl wd_420, wd_235, wd_2, ⟨by decide, by decide⟩, by decide +kernel⟩
theorem lc_P_81 : ev_lc "PostingShelf" 81 M_P_isId 1 := ⟨Or.inl wd_425, wd_427, wd_1, ⟨by decide, by decide⟩, by decide +kernel⟩
theorem lc_P_87 : ev_lc "PostingShelf" 87 M_Arr_copyOf 2 := ⟨Or.inl wd_430, wd_432, wd_20, ⟨by decide, by decide⟩, by decide +kernel⟩
theorem lc_P_93 : ev_lc "PostingShelf" 93 M_D_init 2 := ⟨Or.inl wd_444, wd_446, wd_19, ⟨by decide, by decide⟩, by decide +kernel⟩
theorem lc_P_96 : ev_lc "PostingShelf" 96 M_Pe_putDocument 1 := ⟨Or.inl wd_460, wd_463, wd_3, ⟨by decide, by decide⟩, by decide +kernel⟩
theorem lc_P_100 : ev_lc "PostingShelf" 100 M_Pe_idCount 0 := ⟨Or.inl wd_546, wd_549, wd_3, ⟨by decide, by decide⟩, by decide +kernel⟩
theorem fl_D_9 : ev_fl "PostingShelf$Document" 9 8 0 := ⟨rC8, "PostingShelf$Document", ck_8, by decide, Or.inl wd_448, Or.inl rfl⟩
theorem fl_D_15 : ev_fl "PostingShelf$Document" 15 8 1 := ⟨rC8, "PostingShelf$Document", ck_8, by decide, Or.inl wd_454, Or.inl rfl⟩
theorem fl_Pe_26 : ev_fl "PostingShelf$Pending" 26 8 0 := ⟨rC8, "PostingShelf$Document", ck_8, by decide, Or.inr ⟨_, wd_451⟩, Or.inl rfl⟩
theorem lc_Pe_31 : ev_lc "PostingShelf$Pending" 31 M_Pe_dropDocument 1 := ⟨Or.inl wd_464, wd_467, wd_3, ⟨by decide, by decide⟩, by decide +kernel⟩
theorem lc_Pe_35 : ev_lc "PostingShelf$Pending" 35 M_AL_add 1 := ⟨Or.inl wd_494, wd_497, wd_6, ⟨by decide, by decide⟩, by decide +kernel⟩
theorem lc_Pe_39 : ev_lc "PostingShelf$Pending" 39 M_AL_size 0 := ⟨Or.inl wd_468, wd_471, wd_6, ⟨by decide, by decide⟩, by decide +kernel⟩
theorem lc_Pe_43 : ev_lc "PostingShelf$Pending" 43 M_AL_get 1 := ⟨Or.inl wd_472, wd_475, wd_6, ⟨by decide, by decide⟩, by decide +kernel⟩
theorem lc_Pe_47 : ev_lc "PostingShelf$Pending" 47 M_AL_remove 1 := ⟨Or.inl wd_485, wd_488, wd_6, ⟨by decide, by decide⟩, by decide +kernel⟩
theorem fl_AL_48 : ev_fl "java/util/ArrayList" 48 12 1 := ⟨rC12, "java/util/ArrayList", ck_12, by decide, Or.inl wd_74, Or.inl rfl⟩
theorem lc_AL_118 : ev_lc "java/util/ArrayList" 118 M_Obs_checkIndex 2 := ⟨Or.inl wd_476, wd_478, wd_22, ⟨by decide, by decide⟩, by decide +kernel⟩
theorem lc_AL_123 : ev_lc "java/util/ArrayList" 123 M_AL_elementData 1 := ⟨Or.inl wd_480, wd_483, wd_6, ⟨by decide, by decide⟩, by decide +kernel⟩
theorem lc_Obs_105 : ev_lc "java/util/Objects" 105 M_Pre_checkIndex 3 := ⟨Or.inl wd_479, wd_354, wd_17, ⟨by decide, by decide⟩, by decide +kernel⟩
theorem lc_AL_144 : ev_lc "java/util/ArrayList" 144 M_AL_fastRemove 2 := ⟨Or.inl wd_489, wd_492, wd_6, ⟨by decide, by decide⟩, by decide +kernel⟩
theorem fl_AL_63 : ev_fl "java/util/ArrayList" 63 12 2 := ⟨rC12, "java/util/ArrayList", ck_12, by decide, Or.inl wd_76, Or.inr wd_77⟩
theorem lc_AL_131 : ev_lc "java/util/ArrayList" 131 M_AL_add2 3 := ⟨Or.inl wd_498, wd_501, wd_6, ⟨by decide, by decide⟩, by decide +kernel⟩
theorem lc_AL_129 : ev_lc "java/util/ArrayList" 129 M_AL_grow 0 := ⟨Or.inl wd_502, wd_505, wd_6, ⟨by decide, by decide⟩, by decide +kernel⟩
theorem lc_AL_69 : ev_lc "java/util/ArrayList" 69 M_AL_grow2 1 := ⟨Or.inl wd_506, wd_509, wd_6, ⟨by decide, by decide⟩, by decide +kernel⟩
theorem lc_AL_73 : ev_lc "java/util/ArrayList" 73 M_ASup_newLength 3 := ⟨Or.inl wd_510, wd_512, wd_23, ⟨by decide, by decide⟩, by decide +kernel⟩
theorem lc_AL_66 : ev_lc "java/util/ArrayList" 66 M_Arr_copyOf2 2 := ⟨Or.inl wd_518, wd_520, wd_20, ⟨by decide, by decide⟩, by decide +kernel⟩
theorem lc_ASup_201 : ev_lc "jdk/internal/util/ArraysSupport" 201 M_ASup_hugeLength 2 := ⟨Or.inl wd_515, wd_517, wd_23, ⟨by decide, by decide⟩, by decide +kernel⟩
theorem lc_Arr_300 : ev_lc "java/util/Arrays" 300 M_Arr_copyOf3 3 := ⟨Or.inl wd_538, wd_540, wd_20, ⟨by decide, by decide⟩, by decide +kernel⟩
theorem lc_Pe_20 : ev_lc "PostingShelf$Pending" 20 M_Int_bitCount 1 := ⟨Or.inl wd_550, wd_552, wd_24, ⟨by decide, by decide⟩, by decide +kernel⟩
theorem lc_P_104 : ev_lc "PostingShelf" 104 M_Pe_putDeletion 1 := ⟨Or.inl wd_560, wd_563, wd_3, ⟨by decide, by decide⟩, by decide +kernel⟩
theorem fl_P_108 : ev_fl "PostingShelf" 108 2 0 := ⟨rC2, "PostingShelf$Pending", ck_2, by decide, Or.inr ⟨_, wd_88⟩, Or.inl rfl⟩
theorem lc_P_112 : ev_lc "PostingShelf" 112 M_AL_isEmpty 0 := ⟨Or.inl wd_568, wd_571, wd_6, ⟨by decide, by decide⟩, by decide +kernel⟩
theorem fl_P_118 : ev_fl "PostingShelf" 118 3 0 := ⟨rC3, "PostingShelf$Shelf", ck_3, by decide, Or.inr ⟨_, wd_106⟩, Or.inl rfl⟩
theorem lc_P_121 : ev_lc "PostingShelf" 121 M_AL_size 0 := ⟨Or.inl wd_572, wd_471, wd_6, ⟨by decide, by decide⟩, by decide +kernel⟩
theorem fl_P_124 : ev_fl "PostingShelf" 124 2 1 := ⟨rC2, "PostingShelf$Pending", ck_2, by decide, Or.inr ⟨_, wd_91⟩, Or.inl rfl⟩
theorem lc_P_127 : ev_lc "PostingShelf" 127 M_Sh_hasLiveAmong 1 := ⟨Or.inl wd_573, wd_576, wd_7, ⟨by decide, by decide⟩, by decide +kernel⟩
theorem lc_P_130 : ev_lc "PostingShelf" 130 M_Ma_writeBlocks 1 := ⟨Or.inl wd_583, wd_586, wd_8, ⟨by decide, by decide⟩, by decide +kernel⟩
theorem lc_P_133 : ev_lc "PostingShelf" 133 M_Sh_takeIn 1 := ⟨Or.inl wd_591, wd_594, wd_7, ⟨by decide, by decide⟩, by decide +kernel⟩
theorem lc_P_137 : ev_lc "PostingShelf" 137 M_Pe_clear 0 := ⟨Or.inl wd_636, wd_639, wd_3, ⟨by decide, by decide⟩, by decide +kernel⟩
theorem lc_P_140 : ev_lc "PostingShelf" 140 M_P_goDown 0 := ⟨Or.inl wd_644, wd_647, wd_1, ⟨by decide, by decide⟩, by decide +kernel⟩
theorem fl_P_143 : ev_fl "PostingShelf" 143 3 1 := ⟨rC3, "PostingShelf$Shelf", ck_3, by decide, Or.inr ⟨_, wd_108⟩, Or.inl rfl⟩
theorem lc_Sh_19 : ev_lc "PostingShelf$Shelf" 19 M_AL_size 0 := ⟨Or.inl wd_577, wd_471, wd_6, ⟨by decide, by decide⟩, by decide +kernel⟩
theorem lc_Sh_23 : ev_lc "PostingShelf$Shelf" 23 M_AL_get 1 := ⟨Or.inl wd_578, wd_475, wd_6, ⟨by decide, by decide⟩, by decide +kernel⟩
theorem fl_Sh_29 : ev_fl "PostingShelf$Shelf" 29 8 0 := ⟨rC8, "PostingShelf$Document", ck_8, by decide, Or.inr ⟨_, wd_450⟩, Or.inl rfl⟩
theorem lc_Sh_33 : ev_lc "PostingShelf$Shelf" 33 M_P_isAmong 2 := ⟨Or.inr ⟨_, wd_580⟩, wd_582, wd_1, ⟨by decide, by decide⟩, by decide +kernel⟩
theorem lc_Ma_20 : ev_lc "PostingShelf$Machine" 20 M_Ma_writeBlock 0 := ⟨Or.inl wd_587, wd_590, wd_8, ⟨by decide, by decide⟩, by decide +kernel⟩
theorem fl_Sh_39 : ev_fl "PostingShelf$Shelf" 39 2 1 := ⟨rC2, "PostingShelf$Pending", ck_2, by decide, Or.inr ⟨_, wd_90⟩, Or.inl rfl⟩
theorem lc_Sh_44 : ev_lc "PostingShelf$Shelf" 44 M_Sh_markDeleted 1 := ⟨Or.inl wd_595, wd_598, wd_7, ⟨by decide, by decide⟩, by decide +kernel⟩
theorem fl_Sh_48 : ev_fl "PostingShelf$Shelf" 48 2 0 := ⟨rC2, "PostingShelf$Pending", ck_2, by decide, Or.inr ⟨_, wd_87⟩, Or.inl rfl⟩
theorem lc_Sh_51 : ev_lc "PostingShelf$Shelf" 51 M_AL_isEmpty 0 := ⟨Or.inl wd_601, wd_571, wd_6, ⟨by decide, by decide⟩, by decide +kernel⟩
theorem lc_Sh_55 : ev_lc "PostingShelf$Shelf" 55 M_Sh_appendSegment 1 := ⟨Or.inl wd_602, wd_605, wd_7, ⟨by decide, by decide⟩, by decide +kernel⟩
theorem fl_Sh_61 : ev_fl "PostingShelf$Shelf" 61 9 1 := ⟨rC9, "PostingShelf$Segment", ck_9, by decide, Or.inr ⟨_, wd_617⟩, Or.inl rfl⟩
theorem lc_Sh_64 : ev_lc "PostingShelf$Shelf" 64 M_AL_remove 1 := ⟨Or.inl wd_600, wd_488, wd_6, ⟨by decide, by decide⟩, by decide +kernel⟩
theorem lc_Sh_67 : ev_lc "PostingShelf$Shelf" 67 M_Sg_init 0 := ⟨Or.inr ⟨_, wd_607⟩, wd_609, wd_25, ⟨by decide, by decide⟩, by decide +kernel⟩
theorem fl_Sh_68 : ev_fl "PostingShelf$Shelf" 68 9 0 := ⟨rC9, "PostingShelf$Segment", ck_9, by decide, Or.inr ⟨_, wd_614⟩, Or.inl rfl⟩
theorem lc_Sh_69 : ev_lc "PostingShelf$Shelf" 69 M_AL_add 1 := ⟨Or.inl wd_623, wd_497, wd_6, ⟨by decide, by decide⟩, by decide +kernel⟩
theorem lc_Sh_73 : ev_lc "PostingShelf$Shelf" 73 M_Sh_insertLive 1 := ⟨Or.inl wd_624, wd_627, wd_7, ⟨by decide, by decide⟩, by decide +kernel⟩
theorem lc_Sg_9 : ev_lc "PostingShelf$Segment" 9 M_AL_init 0 := ⟨Or.inl wd_612, wd_63, wd_6, ⟨by decide, by decide⟩, by decide +kernel⟩
theorem fl_Sg_10 : ev_fl "PostingShelf$Segment" 10 9 0 := ⟨rC9, "PostingShelf$Segment", ck_9, by decide, Or.inl wd_613, Or.inl rfl⟩
theorem fl_Sg_16 : ev_fl "PostingShelf$Segment" 16 9 1 := ⟨rC9, "PostingShelf$Segment", ck_9, by decide, Or.inl wd_616, Or.inl rfl⟩
theorem lc_Sh_77 : ev_lc "PostingShelf$Shelf" 77 M_AL_add3 2 := ⟨Or.inl wd_628, wd_631, wd_6, ⟨by decide, by decide⟩, by decide +kernel⟩
theorem lc_AL_135 : ev_lc "java/util/ArrayList" 135 M_AL_rangeCheckForAdd 1 := ⟨Or.inl wd_632, wd_635, wd_6, ⟨by decide, by decide⟩, by decide +kernel⟩
theorem lc_Pe_50 : ev_lc "PostingShelf$Pending" 50 M_AL_clear 0 := ⟨Or.inl wd_640, wd_643, wd_6, ⟨by decide, by decide⟩, by decide +kernel⟩
theorem lc_P_185 : ev_lc "PostingShelf" 185 M_Qs_clear 0 := ⟨Or.inl wd_648, wd_651, wd_9, ⟨by decide, by decide⟩, by decide +kernel⟩
theorem lc_Qs_26 : ev_lc "PostingShelf$QueryStack" 26 M_AL_clear 0 := ⟨Or.inl wd_652, wd_643, wd_6, ⟨by decide, by decide⟩, by decide +kernel⟩
theorem lc_P_146 : ev_lc "PostingShelf" 146 M_Sh_joinedFrom 1 := ⟨Or.inl wd_657, wd_660, wd_7, ⟨by decide, by decide⟩, by decide +kernel⟩
theorem fl_P_150 : ev_fl "PostingShelf" 150 9 0 := ⟨rC9, "PostingShelf$Segment", ck_9, by decide, Or.inr ⟨_, wd_615⟩, Or.inl rfl⟩
theorem lc_P_153 : ev_lc "PostingShelf" 153 M_Sh_replaceTwo 2 := ⟨Or.inl wd_674, wd_677, wd_7, ⟨by decide, by decide⟩, by decide +kernel⟩
theorem lc_Sh_80 : ev_lc "PostingShelf$Shelf" 80 M_Sg_copyLive 1 := ⟨Or.inl wd_661, wd_664, wd_25, ⟨by decide, by decide⟩, by decide +kernel⟩
theorem lc_Sg_35 : ev_lc "PostingShelf$Segment" 35 M_AL_size 0 := ⟨Or.inl wd_665, wd_471, wd_6, ⟨by decide, by decide⟩, by decide +kernel⟩
theorem lc_Sg_39 : ev_lc "PostingShelf$Segment" 39 M_Sg_isLive 1 := ⟨Or.inl wd_666, wd_669, wd_25, ⟨by decide, by decide⟩, by decide +kernel⟩
theorem lc_Sg_20 : ev_lc "PostingShelf$Segment" 20 M_AL_get 1 := ⟨Or.inl wd_670, wd_475, wd_6, ⟨by decide, by decide⟩, by decide +kernel⟩
theorem lc_Sg_43 : ev_lc "PostingShelf$Segment" 43 M_AL_add 1 := ⟨Or.inl wd_673, wd_497, wd_6, ⟨by decide, by decide⟩, by decide +kernel⟩
theorem fl_Sg_26 : ev_fl "PostingShelf$Segment" 26 8 0 := ⟨rC8, "PostingShelf$Document", ck_8, by decide, Or.inr ⟨_, wd_449⟩, Or.inl rfl⟩
theorem lc_Sg_29 : ev_lc "PostingShelf$Segment" 29 M_P_isAmong 2 := ⟨Or.inr ⟨_, wd_672⟩, wd_582, wd_1, ⟨by decide, by decide⟩, by decide +kernel⟩
theorem lc_Sh_83 : ev_lc "PostingShelf$Shelf" 83 M_AL_set 2 := ⟨Or.inl wd_678, wd_681, wd_6, ⟨by decide, by decide⟩, by decide +kernel⟩
theorem fl_P_157 : ev_fl "PostingShelf" 157 4 1 := ⟨rC4, "PostingShelf$Machine", ck_4, by decide, Or.inr ⟨_, wd_123⟩, Or.inl rfl⟩
theorem fl_P_160 : ev_fl "PostingShelf" 160 5 2 := ⟨rC5, "PostingShelf$QueryStack", ck_5, by decide, Or.inr ⟨_, wd_145⟩, Or.inl rfl⟩
theorem lc_P_163 : ev_lc "PostingShelf" 163 M_Qs_pushTerm 1 := ⟨Or.inl wd_694, wd_697, wd_9, ⟨by decide, by decide⟩, by decide +kernel⟩
theorem lc_Qs_57 : ev_lc "PostingShelf$QueryStack" 57 M_Sp_init 2 := ⟨Or.inl wd_700, wd_702, wd_26, ⟨by decide, by decide⟩, by decide +kernel⟩
theorem lc_Qs_60 : ev_lc "PostingShelf$QueryStack" 60 M_Qs_push 3 := ⟨Or.inl wd_713, wd_716, wd_9, ⟨by decide, by decide⟩, by decide +kernel⟩
theorem fl_Sp_7 : ev_fl "PostingShelf$Step" 7 10 0 := ⟨rC10, "PostingShelf$Step", ck_10, by decide, Or.inl wd_704, Or.inl rfl⟩
theorem fl_Sp_13 : ev_fl "PostingShelf$Step" 13 10 1 := ⟨rC10, "PostingShelf$Step", ck_10, by decide, Or.inl wd_706, Or.inl rfl⟩
theorem lc_Qs_71 : ev_lc "PostingShelf$QueryStack" 71 M_AL_add 1 := ⟨Or.inl wd_717, wd_497, wd_6, ⟨by decide, by decide⟩, by decide +kernel⟩
theorem lc_P_167 : ev_lc "PostingShelf" 167 M_Qs_areTerms 1 := ⟨Or.inl wd_722, wd_725, wd_9, ⟨by decide, by decide⟩, by decide +kernel⟩
theorem lc_P_170 : ev_lc "PostingShelf" 170 M_Qs_makePhrase 1 := ⟨Or.inl wd_731, wd_734, wd_9, ⟨by decide, by decide⟩, by decide +kernel⟩
theorem lc_Qs_29 : ev_lc "PostingShelf$QueryStack" 29 M_Qs_deepest 1 := ⟨Or.inl wd_726, wd_729, wd_9, ⟨by decide, by decide⟩, by decide +kernel⟩
theorem lc_Qs_64 : ev_lc "PostingShelf$QueryStack" 64 M_AL_isEmpty 0 := ⟨Or.inl wd_735, wd_571, wd_6, ⟨by decide, by decide⟩, by decide +kernel⟩
theorem lc_Qs_39 : ev_lc "PostingShelf$QueryStack" 39 M_AL_size 0 := ⟨Or.inl wd_736, wd_471, wd_6, ⟨by decide, by decide⟩, by decide +kernel⟩
theorem lc_Qs_68 : ev_lc "PostingShelf$QueryStack" 68 M_AL_remove 1 := ⟨Or.inl wd_737, wd_488, wd_6, ⟨by decide, by decide⟩, by decide +kernel⟩
theorem lc_Qs_49 : ev_lc "PostingShelf$QueryStack" 49 M_Qs_firstTerm 1 := ⟨Or.inl wd_738, wd_741, wd_9, ⟨by decide, by decide⟩, by decide +kernel⟩
theorem fl_Qs_53 : ev_fl "PostingShelf$QueryStack" 53 10 1 := ⟨rC10, "PostingShelf$Step", ck_10, by decide, Or.inr ⟨_, wd_707⟩, Or.inl rfl⟩
theorem lc_P_174 : ev_lc "PostingShelf" 174 M_Qs_deepest 1 := ⟨Or.inl wd_746, wd_729, wd_9, ⟨by decide, by decide⟩, by decide +kernel⟩
theorem lc_P_177 : ev_lc "PostingShelf" 177 M_Qs_makeJoin 2 := ⟨Or.inl wd_747, wd_750, wd_9, ⟨by decide, by decide⟩, by decide +kernel⟩
theorem lc_P_181 : ev_lc "PostingShelf" 181 M_Re_clear 0 := ⟨Or.inl wd_755, wd_758, wd_11, ⟨by decide, by decide⟩, by decide +kernel⟩
theorem lc_P_182 : ev_lc "PostingShelf" 182 M_P_collectMatches 0 := ⟨Or.inl wd_759, wd_762, wd_1, ⟨by decide, by decide⟩, by decide +kernel⟩
theorem fl_P_186 : ev_fl "PostingShelf" 186 7 2 := ⟨rC7, "PostingShelf$Results", ck_7, by decide, Or.inr ⟨_, wd_187⟩, Or.inl rfl⟩
theorem lc_P_223 : ev_lc "PostingShelf" 223 M_AL_get 1 := ⟨Or.inl wd_763, wd_475, wd_6, ⟨by decide, by decide⟩, by decide +kernel⟩
theorem lc_P_230 : ev_lc "PostingShelf" 230 M_Qs_matches 1 := ⟨Or.inl wd_764, wd_767, wd_9, ⟨by decide, by decide⟩, by decide +kernel⟩
theorem fl_P_234 : ev_fl "PostingShelf" 234 8 0 := ⟨rC8, "PostingShelf$Document", ck_8, by decide, Or.inr ⟨_, wd_453⟩, Or.inl rfl⟩
theorem lc_P_237 : ev_lc "PostingShelf" 237 M_Re_insert 3 := ⟨Or.inl wd_780, wd_783, wd_11, ⟨by decide, by decide⟩, by decide +kernel⟩
theorem lc_Qs_43 : ev_lc "PostingShelf$QueryStack" 43 M_AL_get 1 := ⟨Or.inl wd_768, wd_475, wd_6, ⟨by decide, by decide⟩, by decide +kernel⟩
theorem lc_Qs_75 : ev_lc "PostingShelf$QueryStack" 75 M_Qs_answersBehind 3 := ⟨Or.inl wd_769, wd_771, wd_9, ⟨by decide, by decide⟩, by decide +kernel⟩
theorem fl_Qs_79 : ev_fl "PostingShelf$QueryStack" 79 10 0 := ⟨rC10, "PostingShelf$Step", ck_10, by decide, Or.inr ⟨_, wd_705⟩, Or.inl rfl⟩
theorem lc_Qs_82 : ev_lc "PostingShelf$QueryStack" 82 M_D_hasRow 1 := ⟨Or.inl wd_772, wd_775, wd_19, ⟨by decide, by decide⟩, by decide +kernel⟩
theorem lc_D_23 : ev_lc "PostingShelf$Document" 23 M_D_hasRowAt 2 := ⟨Or.inl wd_776, wd_779, wd_19, ⟨by decide, by decide⟩, by decide +kernel⟩
theorem lc_P_189 : ev_lc "PostingShelf" 189 M_Ra_clear 0 := ⟨Or.inl wd_789, wd_792, wd_10, ⟨by decide, by decide⟩, by decide +kernel⟩
theorem lc_P_190 : ev_lc "PostingShelf" 190 M_Ra_weighBag 2 := ⟨Or.inl wd_793, wd_796, wd_10, ⟨by decide, by decide⟩, by decide +kernel⟩
theorem lc_P_194 : ev_lc "PostingShelf" 194 M_Ra_chooseBest 3 := ⟨Or.inl wd_828, wd_831, wd_10, ⟨by decide, by decide⟩, by decide +kernel⟩
theorem lc_Ra_27 : ev_lc "PostingShelf$Ranking" 27 M_P_totalLength 1 := ⟨Or.inr ⟨_, wd_797⟩, wd_799, wd_1, ⟨by decide, by decide⟩, by decide +kernel⟩
theorem fl_Ra_31 : ev_fl "PostingShelf$Ranking" 31 5 2 := ⟨rC5, "PostingShelf$QueryStack", ck_5, by decide, Or.inr ⟨_, wd_144⟩, Or.inl rfl⟩
theorem lc_Ra_42 : ev_lc "PostingShelf$Ranking" 42 M_Qs_termAt 1 := ⟨Or.inl wd_805, wd_808, wd_9, ⟨by decide, by decide⟩, by decide +kernel⟩
theorem lc_Ra_46 : ev_lc "PostingShelf$Ranking" 46 M_Ra_weighTerm 4 := ⟨Or.inl wd_809, wd_812, wd_10, ⟨by decide, by decide⟩, by decide +kernel⟩
theorem lc_P_227 : ev_lc "PostingShelf" 227 M_D_length 0 := ⟨Or.inl wd_800, wd_803, wd_19, ⟨by decide, by decide⟩, by decide +kernel⟩
theorem lc_Ra_50 : ev_lc "PostingShelf$Ranking" 50 M_AL_size 0 := ⟨Or.inl wd_813, wd_471, wd_6, ⟨by decide, by decide⟩, by decide +kernel⟩
theorem lc_Ra_56 : ev_lc "PostingShelf$Ranking" 56 M_Ra_holders 2 := ⟨Or.inl wd_814, wd_816, wd_10, ⟨by decide, by decide⟩, by decide +kernel⟩
theorem lc_Ra_60 : ev_lc "PostingShelf$Ranking" 60 M_Ra_rarity 2 := ⟨Or.inl wd_823, wd_825, wd_10, ⟨by decide, by decide⟩, by decide +kernel⟩
theorem lc_Ra_63 : ev_lc "PostingShelf$Ranking" 63 M_AL_get 1 := ⟨Or.inl wd_817, wd_475, wd_6, ⟨by decide, by decide⟩, by decide +kernel⟩
theorem lc_Ra_69 : ev_lc "PostingShelf$Ranking" 69 M_D_timesOf 1 := ⟨Or.inl wd_819, wd_822, wd_19, ⟨by decide, by decide⟩, by decide +kernel⟩
theorem lc_Ra_73 : ev_lc "PostingShelf$Ranking" 73 M_D_length 0 := ⟨Or.inl wd_826, wd_803, wd_19, ⟨by decide, by decide⟩, by decide +kernel⟩
theorem lc_Ra_79 : ev_lc "PostingShelf$Ranking" 79 M_Ra_hasTermOfBag 1 := ⟨Or.inl wd_832, wd_835, wd_10, ⟨by decide, by decide⟩, by decide +kernel⟩
theorem lc_Ra_83 : ev_lc "PostingShelf$Ranking" 83 M_Ra_boundOf 1 := ⟨Or.inl wd_836, wd_839, wd_10, ⟨by decide, by decide⟩, by decide +kernel⟩
theorem lc_Ra_87 : ev_lc "PostingShelf$Ranking" 87 M_Re_leastWeight 0 := ⟨Or.inl wd_840, wd_843, wd_11, ⟨by decide, by decide⟩, by decide +kernel⟩
theorem fl_Ra_92 : ev_fl "PostingShelf$Ranking" 92 8 0 := ⟨rC8, "PostingShelf$Document", ck_8, by decide, Or.inr ⟨_, wd_452⟩, Or.inl rfl⟩
theorem lc_Ra_95 : ev_lc "PostingShelf$Ranking" 95 M_Ra_weightOf 1 := ⟨Or.inl wd_844, wd_847, wd_10, ⟨by decide, by decide⟩, by decide +kernel⟩
theorem lc_Ra_98 : ev_lc "PostingShelf$Ranking" 98 M_Re_insert 3 := ⟨Or.inl wd_848, wd_783, wd_11, ⟨by decide, by decide⟩, by decide +kernel⟩
theorem lc_P_198 : ev_lc "PostingShelf" 198 M_Re_has 1 := ⟨Or.inl wd_853, wd_856, wd_11, ⟨by decide, by decide⟩, by decide +kernel⟩
theorem fl_P_201 : ev_fl "PostingShelf" 201 7 0 := ⟨rC7, "PostingShelf$Results", ck_7, by decide, Or.inr ⟨_, wd_183⟩, Or.inl rfl⟩
theorem fl_P_204 : ev_fl "PostingShelf" 204 7 1 := ⟨rC7, "PostingShelf$Results", ck_7, by decide, Or.inr ⟨_, wd_185⟩, Or.inl rfl⟩
theorem fl_P_207 : ev_fl "PostingShelf" 207 6 3 := ⟨rC6, "PostingShelf$Ranking", ck_6, by decide, Or.inr ⟨_, wd_166⟩, Or.inl rfl⟩
theorem lc_P_210 : ev_lc "PostingShelf" 210 M_Sh_documentCount 0 := ⟨Or.inl wd_869, wd_872, wd_7, ⟨by decide, by decide⟩, by decide +kernel⟩
theorem lc_P_213 : ev_lc "PostingShelf" 213 M_P_totalLength 1 := ⟨Or.inl wd_873, wd_799, wd_1, ⟨by decide, by decide⟩, by decide +kernel⟩
theorem fl_P_217 : ev_fl "PostingShelf" 217 4 0 := ⟨rC4, "PostingShelf$Machine", ck_4, by decide, Or.inr ⟨_, wd_121⟩, Or.inl rfl⟩
theorem lc_P_220 : ev_lc "PostingShelf" 220 M_Sh_entryCount 0 := ⟨Or.inl wd_874, wd_877, wd_7, ⟨by decide, by decide⟩, by decide +kernel⟩
theorem lc_Sh_87 : ev_lc "PostingShelf$Shelf" 87 M_Sg_entryCount 0 := ⟨Or.inl wd_878, wd_881, wd_25, ⟨by decide, by decide⟩, by decide +kernel⟩
theorem lc_Sg_47 : ev_lc "PostingShelf$Segment" 47 M_D_differentTerms 0 := ⟨Or.inl wd_882, wd_885, wd_19, ⟨by decide, by decide⟩, by decide +kernel⟩
theorem lc_D_19 : ev_lc "PostingShelf$Document" 19 M_D_isFirst 1 := ⟨Or.inl wd_886, wd_889, wd_19, ⟨by decide, by decide⟩, by decide +kernel⟩
theorem fl_Mo_7 : ev_fl "PostingShelfModel" 7 11 0 := ⟨rC11, "PostingShelfModel", ck_11, by decide, Or.inl wd_896, Or.inl rfl⟩
theorem fl_Mo_13 : ev_fl "PostingShelfModel" 13 11 2 := ⟨rC11, "PostingShelfModel", ck_11, by decide, Or.inl wd_898, Or.inl rfl⟩
theorem fl_Mo_17 : ev_fl "PostingShelfModel" 17 11 3 := ⟨rC11, "PostingShelfModel", ck_11, by decide, Or.inl wd_899, Or.inl rfl⟩
theorem fl_Mo_20 : ev_fl "PostingShelfModel" 20 11 4 := ⟨rC11, "PostingShelfModel", ck_11, by decide, Or.inl wd_900, Or.inl rfl⟩
theorem fl_Mo_23 : ev_fl "PostingShelfModel" 23 11 6 := ⟨rC11, "PostingShelfModel", ck_11, by decide, Or.inl wd_902, Or.inl rfl⟩
theorem fl_Mo_26 : ev_fl "PostingShelfModel" 26 11 7 := ⟨rC11, "PostingShelfModel", ck_11, by decide, Or.inl wd_903, Or.inl rfl⟩
theorem fl_Mo_29 : ev_fl "PostingShelfModel" 29 11 8 := ⟨rC11, "PostingShelfModel", ck_11, by decide, Or.inl wd_904, Or.inl rfl⟩
theorem fl_Mo_33 : ev_fl "PostingShelfModel" 33 11 9 := ⟨rC11, "PostingShelfModel", ck_11, by decide, Or.inl wd_905, Or.inl rfl⟩
theorem fl_Mo_36 : ev_fl "PostingShelfModel" 36 11 10 := ⟨rC11, "PostingShelfModel", ck_11, by decide, Or.inl wd_906, Or.inl rfl⟩
theorem fl_Mo_39 : ev_fl "PostingShelfModel" 39 11 16 := ⟨rC11, "PostingShelfModel", ck_11, by decide, Or.inl wd_912, Or.inl rfl⟩
theorem fl_Mo_42 : ev_fl "PostingShelfModel" 42 11 17 := ⟨rC11, "PostingShelfModel", ck_11, by decide, Or.inl wd_913, Or.inl rfl⟩
theorem fl_Mo_45 : ev_fl "PostingShelfModel" 45 11 19 := ⟨rC11, "PostingShelfModel", ck_11, by decide, Or.inl wd_915, Or.inl rfl⟩
theorem fl_Mo_48 : ev_fl "PostingShelfModel" 48 11 20 := ⟨rC11, "PostingShelfModel", ck_11, by decide, Or.inl wd_916, Or.inl rfl⟩
theorem fl_Mo_51 : ev_fl "PostingShelfModel" 51 11 21 := ⟨rC11, "PostingShelfModel", ck_11, by decide, Or.inl wd_917, Or.inl rfl⟩
theorem fl_Mo_54 : ev_fl "PostingShelfModel" 54 11 23 := ⟨rC11, "PostingShelfModel", ck_11, by decide, Or.inl wd_919, Or.inl rfl⟩
theorem fl_Mo_57 : ev_fl "PostingShelfModel" 57 11 24 := ⟨rC11, "PostingShelfModel", ck_11, by decide, Or.inl wd_920, Or.inl rfl⟩
theorem fl_Mo_60 : ev_fl "PostingShelfModel" 60 11 26 := ⟨rC11, "PostingShelfModel", ck_11, by decide, Or.inl wd_922, Or.inl rfl⟩
theorem fl_Mo_63 : ev_fl "PostingShelfModel" 63 11 27 := ⟨rC11, "PostingShelfModel", ck_11, by decide, Or.inl wd_923, Or.inl rfl⟩
theorem fl_Mo_66 : ev_fl "PostingShelfModel" 66 11 28 := ⟨rC11, "PostingShelfModel", ck_11, by decide, Or.inl wd_924, Or.inl rfl⟩
theorem lc_Mo_122 : ev_lc "PostingShelfModel" 122 M_Mo_isWord 1 := ⟨Or.inl wd_988, wd_990, wd_12, ⟨by decide, by decide⟩, by decide +kernel⟩
theorem lc_Mo_125 : ev_lc "PostingShelfModel" 125 M_Mo_stemOf 1 := ⟨Or.inl wd_998, wd_1000, wd_12, ⟨by decide, by decide⟩, by decide +kernel⟩
theorem lc_Mo_71 : ev_lc "PostingShelfModel" 71 M_Mo_length 1 := ⟨Or.inl wd_991, wd_993, wd_12, ⟨by decide, by decide⟩, by decide +kernel⟩
theorem lc_Mo_75 : ev_lc "PostingShelfModel" 75 M_Mo_letter 2 := ⟨Or.inl wd_994, wd_996, wd_12, ⟨by decide, by decide⟩, by decide +kernel⟩
theorem lc_Mo_114 : ev_lc "PostingShelfModel" 114 M_Mo_plural 1 := ⟨Or.inl wd_1001, wd_1003, wd_12, ⟨by decide, by decide⟩, by decide +kernel⟩
theorem lc_Mo_117 : ev_lc "PostingShelfModel" 117 M_Mo_past 1 := ⟨Or.inl wd_1016, wd_1018, wd_12, ⟨by decide, by decide⟩, by decide +kernel⟩
theorem lc_Mo_107 : ev_lc "PostingShelfModel" 107 M_Mo_someVowel 2 := ⟨Or.inl wd_1025, wd_1027, wd_12, ⟨by decide, by decide⟩, by decide +kernel⟩
theorem lc_Mo_83 : ev_lc "PostingShelfModel" 83 M_Mo_first 2 := ⟨Or.inl wd_1013, wd_1015, wd_12, ⟨by decide, by decide⟩, by decide +kernel⟩
theorem lc_Mo_87 : ev_lc "PostingShelfModel" 87 M_Mo_text 4 := ⟨Or.inl wd_1004, wd_1006, wd_12, ⟨by decide, by decide⟩, by decide +kernel⟩
theorem lc_Mo_91 : ev_lc "PostingShelfModel" 91 M_Mo_ends 2 := ⟨Or.inl wd_1007, wd_1009, wd_12, ⟨by decide, by decide⟩, by decide +kernel⟩
theorem lc_Mo_95 : ev_lc "PostingShelfModel" 95 M_Mo_without 2 := ⟨Or.inl wd_1010, wd_1012, wd_12, ⟨by decide, by decide⟩, by decide +kernel⟩
theorem lc_Mo_100 : ev_lc "PostingShelfModel" 100 M_Mo_measure 2 := ⟨Or.inl wd_1019, wd_1021, wd_12, ⟨by decide, by decide⟩, by decide +kernel⟩
theorem lc_Mo_110 : ev_lc "PostingShelfModel" 110 M_Mo_mended 1 := ⟨Or.inl wd_1028, wd_1030, wd_12, ⟨by decide, by decide⟩, by decide +kernel⟩
theorem lc_Mo_79 : ev_lc "PostingShelfModel" 79 M_Mo_isVowel 2 := ⟨Or.inl wd_1022, wd_1024, wd_12, ⟨by decide, by decide⟩, by decide +kernel⟩
theorem lc_Mo_103 : ev_lc "PostingShelfModel" 103 M_Mo_shortEnd 1 := ⟨Or.inl wd_1032, wd_1034, wd_12, ⟨by decide, by decide⟩, by decide +kernel⟩
theorem fl_Mo_131 : ev_fl "PostingShelfModel" 131 11 12 := ⟨rC11, "PostingShelfModel", ck_11, by decide, Or.inl wd_908, Or.inl rfl⟩
theorem fl_Mo_135 : ev_fl "PostingShelfModel" 135 11 1 := ⟨rC11, "PostingShelfModel", ck_11, by decide, Or.inl wd_897, Or.inl rfl⟩
theorem lc_Mo_139 : ev_lc "PostingShelfModel" 139 M_Mo_termOf 1 := ⟨Or.inl wd_1040, wd_1042, wd_12, ⟨by decide, by decide⟩, by decide +kernel⟩
theorem lc_Mo_128 : ev_lc "PostingShelfModel" 128 M_Mo_isStop 1 := ⟨Or.inl wd_1043, wd_1045, wd_12, ⟨by decide, by decide⟩, by decide +kernel⟩
theorem lc_Mo_142 : ev_lc "PostingShelfModel" 142 M_Mo_idle 0 := ⟨Or.inl wd_1050, wd_1053, wd_12, ⟨by decide, by decide⟩, by decide +kernel⟩
theorem lc_Mo_164 : ev_lc "PostingShelfModel" 164 M_Mo_documents 0 := ⟨Or.inl wd_1062, wd_1065, wd_12, ⟨by decide, by decide⟩, by decide +kernel⟩
theorem fl_Mo_161 : ev_fl "PostingShelfModel" 161 11 11 := ⟨rC11, "PostingShelfModel", ck_11, by decide, Or.inl wd_907, Or.inl rfl⟩
theorem fl_Mo_158 : ev_fl "PostingShelfModel" 158 11 5 := ⟨rC11, "PostingShelfModel", ck_11, by decide, Or.inl wd_901, Or.inl rfl⟩
theorem fl_Mo_152 : ev_fl "PostingShelfModel" 152 11 13 := ⟨rC11, "PostingShelfModel", ck_11, by decide, Or.inl wd_909, Or.inl rfl⟩
theorem lc_Mo_167 : ev_lc "PostingShelfModel" 167 M_Mo_write 1 := ⟨Or.inl wd_1066, wd_1069, wd_12, ⟨by decide, by decide⟩, by decide +kernel⟩
theorem lc_Mo_171 : ev_lc "PostingShelfModel" 171 M_Mo_happen 0 := ⟨Or.inl wd_1070, wd_1073, wd_12, ⟨by decide, by decide⟩, by decide +kernel⟩
theorem lc_Mo_174 : ev_lc "PostingShelfModel" 174 M_Mo_stop 0 := ⟨Or.inl wd_1074, wd_1077, wd_12, ⟨by decide, by decide⟩, by decide +kernel⟩
theorem lc_Mo_177 : ev_lc "PostingShelfModel" 177 M_Mo_live 0 := ⟨Or.inl wd_1078, wd_1081, wd_12, ⟨by decide, by decide⟩, by decide +kernel⟩
theorem fl_Mo_155 : ev_fl "PostingShelfModel" 155 11 14 := ⟨rC11, "PostingShelfModel", ck_11, by decide, Or.inl wd_910, Or.inl rfl⟩
theorem fl_Mo_146 : ev_fl "PostingShelfModel" 146 11 15 := ⟨rC11, "PostingShelfModel", ck_11, by decide, Or.inl wd_911, Or.inl rfl⟩
theorem fl_Mo_149 : ev_fl "PostingShelfModel" 149 11 18 := ⟨rC11, "PostingShelfModel", ck_11, by decide, Or.inl wd_914, Or.inl rfl⟩
theorem lc_Mo_184 : ev_lc "PostingShelfModel" 184 M_Mo_join2 1 := ⟨Or.inl wd_1086, wd_1089, wd_12, ⟨by decide, by decide⟩, by decide +kernel⟩
theorem lc_Mo_180 : ev_lc "PostingShelfModel" 180 M_Mo_copyRow 2 := ⟨Or.inl wd_1090, wd_1093, wd_12, ⟨by decide, by decide⟩, by decide +kernel⟩
theorem lc_Mo_188 : ev_lc "PostingShelfModel" 188 M_Mo_push 3 := ⟨Or.inl wd_1106, wd_1109, wd_12, ⟨by decide, by decide⟩, by decide +kernel⟩
theorem fl_Mo_200 : ev_fl "PostingShelfModel" 200 11 22 := ⟨rC11, "PostingShelfModel", ck_11, by decide, Or.inl wd_918, Or.inl rfl⟩
theorem lc_Mo_203 : ev_lc "PostingShelfModel" 203 M_Mo_lookUp 0 := ⟨Or.inl wd_1122, wd_1125, wd_12, ⟨by decide, by decide⟩, by decide +kernel⟩
theorem lc_Mo_206 : ev_lc "PostingShelfModel" 206 M_Mo_matches 1 := ⟨Or.inl wd_1126, wd_1129, wd_12, ⟨by decide, by decide⟩, by decide +kernel⟩
theorem lc_Mo_192 : ev_lc "PostingShelfModel" 192 M_Mo_times 2 := ⟨Or.inl wd_1130, wd_1133, wd_12, ⟨by decide, by decide⟩, by decide +kernel⟩
theorem lc_Mo_196 : ev_lc "PostingShelfModel" 196 M_Mo_phraseIn 3 := ⟨Or.inl wd_1134, wd_1137, wd_12, ⟨by decide, by decide⟩, by decide +kernel⟩
theorem fl_Mo_239 : ev_fl "PostingShelfModel" 239 11 25 := ⟨rC11, "PostingShelfModel", ck_11, by decide, Or.inl wd_921, Or.inl rfl⟩
theorem lc_Mo_250 : ev_lc "PostingShelfModel" 250 M_Mo_weighAll 1 := ⟨Or.inl wd_1142, wd_1145, wd_12, ⟨by decide, by decide⟩, by decide +kernel⟩
theorem lc_Mo_253 : ev_lc "PostingShelfModel" 253 M_Mo_best 1 := ⟨Or.inl wd_1178, wd_1181, wd_12, ⟨by decide, by decide⟩, by decide +kernel⟩
theorem lc_Mo_242 : ev_lc "PostingShelfModel" 242 M_Mo_sum 2 := ⟨Or.inl wd_1147, wd_1150, wd_12, ⟨by decide, by decide⟩, by decide +kernel⟩
theorem lc_Mo_246 : ev_lc "PostingShelfModel" 246 M_Mo_least 1 := ⟨Or.inl wd_1174, wd_1177, wd_12, ⟨by decide, by decide⟩, by decide +kernel⟩
theorem lc_Mo_234 : ev_lc "PostingShelfModel" 234 M_Mo_bound 1 := ⟨Or.inl wd_1151, wd_1154, wd_12, ⟨by decide, by decide⟩, by decide +kernel⟩
theorem lc_Mo_230 : ev_lc "PostingShelfModel" 230 M_Mo_weightOf 2 := ⟨Or.inl wd_1155, wd_1158, wd_12, ⟨by decide, by decide⟩, by decide +kernel⟩
theorem lc_Mo_213 : ev_lc "PostingShelfModel" 213 M_Mo_lengths 0 := ⟨Or.inl wd_1159, wd_1162, wd_12, ⟨by decide, by decide⟩, by decide +kernel⟩
theorem lc_Mo_210 : ev_lc "PostingShelfModel" 210 M_Mo_lengthOf 1 := ⟨Or.inl wd_1163, wd_1166, wd_12, ⟨by decide, by decide⟩, by decide +kernel⟩
theorem lc_Mo_256 : ev_lc "PostingShelfModel" 256 M_Mo_different 1 := ⟨Or.inl wd_1198, wd_1201, wd_12, ⟨by decide, by decide⟩, by decide +kernel⟩
theorem lc_La_9 : ev_lc "PostingShelfLaw" 9 M_P_init 0 := ⟨Or.inl wd_29, wd_31, wd_1, ⟨by decide, by decide⟩, by decide +kernel⟩
theorem lc_La_12 : ev_lc "PostingShelfLaw" 12 M_Mo_init 0 := ⟨Or.inl wd_892, wd_894, wd_12, ⟨by decide, by decide⟩, by decide +kernel⟩
theorem lc_La_15 : ev_lc "PostingShelfLaw" 15 M_P_stem 1 := ⟨Or.inl wd_223, wd_226, wd_1, ⟨by decide, by decide⟩, by decide +kernel⟩
theorem lc_La_19 : ev_lc "PostingShelfLaw" 19 M_Mo_stem 1 := ⟨Or.inl wd_984, wd_987, wd_12, ⟨by decide, by decide⟩, by decide +kernel⟩
theorem lc_La_20 : ev_lc "PostingShelfLaw" 20 M_P_feed 1 := ⟨Or.inl wd_407, wd_410, wd_1, ⟨by decide, by decide⟩, by decide +kernel⟩
theorem lc_La_24 : ev_lc "PostingShelfLaw" 24 M_Mo_feed 1 := ⟨Or.inl wd_1036, wd_1039, wd_12, ⟨by decide, by decide⟩, by decide +kernel⟩
theorem lc_La_25 : ev_lc "PostingShelfLaw" 25 M_P_add 1 := ⟨Or.inl wd_421, wd_424, wd_1, ⟨by decide, by decide⟩, by decide +kernel⟩
theorem lc_La_29 : ev_lc "PostingShelfLaw" 29 M_Mo_add 1 := ⟨Or.inl wd_1046, wd_1049, wd_12, ⟨by decide, by decide⟩, by decide +kernel⟩
theorem lc_La_30 : ev_lc "PostingShelfLaw" 30 M_P_delete 1 := ⟨Or.inl wd_556, wd_559, wd_1, ⟨by decide, by decide⟩, by decide +kernel⟩
theorem lc_La_33 : ev_lc "PostingShelfLaw" 33 M_Mo_delete 1 := ⟨Or.inl wd_1054, wd_1057, wd_12, ⟨by decide, by decide⟩, by decide +kernel⟩
theorem lc_La_34 : ev_lc "PostingShelfLaw" 34 M_P_commit 0 := ⟨Or.inl wd_564, wd_567, wd_1, ⟨by decide, by decide⟩, by decide +kernel⟩
theorem lc_La_38 : ev_lc "PostingShelfLaw" 38 M_Mo_commit 0 := ⟨Or.inl wd_1058, wd_1061, wd_12, ⟨by decide, by decide⟩, by decide +kernel⟩
theorem lc_La_39 : ev_lc "PostingShelfLaw" 39 M_P_merge 1 := ⟨Or.inl wd_653, wd_656, wd_1, ⟨by decide, by decide⟩, by decide +kernel⟩
theorem lc_La_42 : ev_lc "PostingShelfLaw" 42 M_Mo_merge 1 := ⟨Or.inl wd_1082, wd_1085, wd_12, ⟨by decide, by decide⟩, by decide +kernel⟩
theorem lc_La_43 : ev_lc "PostingShelfLaw" 43 M_P_fuse 1 := ⟨Or.inl wd_682, wd_685, wd_1, ⟨by decide, by decide⟩, by decide +kernel⟩
theorem lc_La_47 : ev_lc "PostingShelfLaw" 47 M_Mo_fuse 1 := ⟨Or.inl wd_1094, wd_1097, wd_12, ⟨by decide, by decide⟩, by decide +kernel⟩
theorem lc_La_48 : ev_lc "PostingShelfLaw" 48 M_P_restart 0 := ⟨Or.inl wd_686, wd_689, wd_1, ⟨by decide, by decide⟩, by decide +kernel⟩
theorem lc_La_52 : ev_lc "PostingShelfLaw" 52 M_Mo_restart 0 := ⟨Or.inl wd_1098, wd_1101, wd_12, ⟨by decide, by decide⟩, by decide +kernel⟩
theorem lc_La_53 : ev_lc "PostingShelfLaw" 53 M_P_term 1 := ⟨Or.inl wd_690, wd_693, wd_1, ⟨by decide, by decide⟩, by decide +kernel⟩
theorem lc_La_56 : ev_lc "PostingShelfLaw" 56 M_Mo_term 1 := ⟨Or.inl wd_1102, wd_1105, wd_12, ⟨by decide, by decide⟩, by decide +kernel⟩
theorem lc_La_57 : ev_lc "PostingShelfLaw" 57 M_P_phrase 1 := ⟨Or.inl wd_718, wd_721, wd_1, ⟨by decide, by decide⟩, by decide +kernel⟩
theorem lc_La_60 : ev_lc "PostingShelfLaw" 60 M_Mo_phrase 1 := ⟨Or.inl wd_1110, wd_1113, wd_12, ⟨by decide, by decide⟩, by decide +kernel⟩
theorem lc_La_61 : ev_lc "PostingShelfLaw" 61 M_P_join 1 := ⟨Or.inl wd_742, wd_745, wd_1, ⟨by decide, by decide⟩, by decide +kernel⟩
theorem lc_La_64 : ev_lc "PostingShelfLaw" 64 M_Mo_join 1 := ⟨Or.inl wd_1114, wd_1117, wd_12, ⟨by decide, by decide⟩, by decide +kernel⟩
theorem lc_La_65 : ev_lc "PostingShelfLaw" 65 M_P_find 0 := ⟨Or.inl wd_751, wd_754, wd_1, ⟨by decide, by decide⟩, by decide +kernel⟩
theorem lc_La_68 : ev_lc "PostingShelfLaw" 68 M_Mo_find 0 := ⟨Or.inl wd_1118, wd_1121, wd_12, ⟨by decide, by decide⟩, by decide +kernel⟩
theorem lc_La_69 : ev_lc "PostingShelfLaw" 69 M_P_rank 1 := ⟨Or.inl wd_785, wd_788, wd_1, ⟨by decide, by decide⟩, by decide +kernel⟩
theorem lc_La_72 : ev_lc "PostingShelfLaw" 72 M_Mo_rank 1 := ⟨Or.inl wd_1138, wd_1141, wd_12, ⟨by decide, by decide⟩, by decide +kernel⟩
theorem lc_La_73 : ev_lc "PostingShelfLaw" 73 M_P_result 1 := ⟨Or.inl wd_849, wd_852, wd_1, ⟨by decide, by decide⟩, by decide +kernel⟩
theorem lc_La_76 : ev_lc "PostingShelfLaw" 76 M_Mo_result 1 := ⟨Or.inl wd_1182, wd_1185, wd_12, ⟨by decide, by decide⟩, by decide +kernel⟩
theorem lc_La_77 : ev_lc "PostingShelfLaw" 77 M_P_weight 1 := ⟨Or.inl wd_857, wd_860, wd_1, ⟨by decide, by decide⟩, by decide +kernel⟩
theorem lc_La_80 : ev_lc "PostingShelfLaw" 80 M_Mo_weight 1 := ⟨Or.inl wd_1186, wd_1189, wd_12, ⟨by decide, by decide⟩, by decide +kernel⟩
theorem lc_La_81 : ev_lc "PostingShelfLaw" 81 M_P_weighed 0 := ⟨Or.inl wd_861, wd_864, wd_1, ⟨by decide, by decide⟩, by decide +kernel⟩
theorem lc_La_84 : ev_lc "PostingShelfLaw" 84 M_Mo_weighed 0 := ⟨Or.inl wd_1190, wd_1193, wd_12, ⟨by decide, by decide⟩, by decide +kernel⟩
theorem lc_La_85 : ev_lc "PostingShelfLaw" 85 M_P_size 1 := ⟨Or.inl wd_865, wd_868, wd_1, ⟨by decide, by decide⟩, by decide +kernel⟩
theorem lc_La_88 : ev_lc "PostingShelfLaw" 88 M_Mo_size 1 := ⟨Or.inl wd_1194, wd_1197, wd_12, ⟨by decide, by decide⟩, by decide +kernel⟩
/-- the reference as a cell: its rows lie behind it -/
abbrev moO (r : Nat) (drafted rows segments stopped fuse written tokens height results weighed : Int32) : ev_C := .inr (11, [.ref (r + 1), .int drafted, .ref (r + 2), .ref (r + 3), .ref (r + 4), .int rows, .ref (r + 5), .ref (r + 6), .ref (r + 7), .ref (r + 8), .ref (r + 9), .int segments, .int stopped, .int fuse, .int written, .int tokens, .ref (r + 10), .ref (r + 11), .int height, .ref (r + 12), .ref (r + 13), .ref (r + 14), .int results, .ref (r + 15), .ref (r + 16), .int weighed, .ref (r + 17), .ref (r + 18), .ref (r + 19)])
abbrev psO (r : Nat) (draftWords : Int32) : ev_C := .inr (0, [.ref (r + 1), .ref (r + 4), .int draftWords, .ref (r + 5), .ref (r + 7), .ref (r + 10), .ref (r + 11), .ref (r + 14), .ref (r + 25)])
theorem ev_pfn {M : ev_M} {ci kx : Nat} {r0 : vw_C} {ty : FieldType} (h0 : ev_cl[ci]? = some r0) (h1 : (r0.2.1 kx).2.2.2 = false ∨ ((r0.2.1 kx).2.2.2 = true ∧ M.1.name = "<init>" ∧ (r0.2.1 kx).1 = M.1.cls)) (h2 : parseFieldDescriptor (r0.2.1 kx).2.2.1 = some ty) : ∀ r : vw_C, ev_cl[ci]? = some r → ((r.2.1 kx).2.2.2 = false ∨ ((r.2.1 kx).2.2.2 = true ∧ M.1.name = "<init>" ∧ (r.2.1 kx).1 = M.1.cls)) ∧ parseFieldDescriptor (r.2.1 kx).2.2.1 = some ty := fun r hr => by
  have e := Option.some.inj (h0.symm.trans hr)
  subst e
  exact ⟨h1, h2⟩
theorem pf_0_draftWords {M : ev_M} : ∀ r : vw_C, ev_cl[0]? = some r → ((r.2.1 2).2.2.2 = false ∨ ((r.2.1 2).2.2.2 = true ∧ M.1.name = "<init>" ∧ (r.2.1 2).1 = M.1.cls)) ∧ parseFieldDescriptor (r.2.1 2).2.2.1 = some .int := ev_pfn (r0 := rC0) rfl (Or.inl rfl) (by decide +kernel)
theorem pf_1_length {M : ev_M} : ∀ r : vw_C, ev_cl[1]? = some r → ((r.2.1 2).2.2.2 = false ∨ ((r.2.1 2).2.2.2 = true ∧ M.1.name = "<init>" ∧ (r.2.1 2).1 = M.1.cls)) ∧ parseFieldDescriptor (r.2.1 2).2.2.1 = some .int := ev_pfn (r0 := rC1) rfl (Or.inl rfl) (by decide +kernel)
theorem pf_2_ids {M : ev_M} : ∀ r : vw_C, ev_cl[2]? = some r → ((r.2.1 1).2.2.2 = false ∨ ((r.2.1 1).2.2.2 = true ∧ M.1.name = "<init>" ∧ (r.2.1 1).1 = M.1.cls)) ∧ parseFieldDescriptor (r.2.1 1).2.2.1 = some .int := ev_pfn (r0 := rC2) rfl (Or.inl rfl) (by decide +kernel)
theorem pf_4_blocksWritten {M : ev_M} : ∀ r : vw_C, ev_cl[4]? = some r → ((r.2.1 0).2.2.2 = false ∨ ((r.2.1 0).2.2.2 = true ∧ M.1.name = "<init>" ∧ (r.2.1 0).1 = M.1.cls)) ∧ parseFieldDescriptor (r.2.1 0).2.2.1 = some .int := ev_pfn (r0 := rC4) rfl (Or.inl rfl) (by decide +kernel)
theorem pf_4_blocksToStop {M : ev_M} : ∀ r : vw_C, ev_cl[4]? = some r → ((r.2.1 1).2.2.2 = false ∨ ((r.2.1 1).2.2.2 = true ∧ M.1.name = "<init>" ∧ (r.2.1 1).1 = M.1.cls)) ∧ parseFieldDescriptor (r.2.1 1).2.2.1 = some .int := ev_pfn (r0 := rC4) rfl (Or.inl rfl) (by decide +kernel)
theorem pf_4_stopped {M : ev_M} : ∀ r : vw_C, ev_cl[4]? = some r → ((r.2.1 2).2.2.2 = false ∨ ((r.2.1 2).2.2.2 = true ∧ M.1.name = "<init>" ∧ (r.2.1 2).1 = M.1.cls)) ∧ parseFieldDescriptor (r.2.1 2).2.2.1 = some .boolean := ev_pfn (r0 := rC4) rfl (Or.inl rfl) (by decide +kernel)
theorem pf_5_height {M : ev_M} : ∀ r : vw_C, ev_cl[5]? = some r → ((r.2.1 2).2.2.2 = false ∨ ((r.2.1 2).2.2.2 = true ∧ M.1.name = "<init>" ∧ (r.2.1 2).1 = M.1.cls)) ∧ parseFieldDescriptor (r.2.1 2).2.2.1 = some .int := ev_pfn (r0 := rC5) rfl (Or.inl rfl) (by decide +kernel)
theorem pf_6_termCount {M : ev_M} : ∀ r : vw_C, ev_cl[6]? = some r → ((r.2.1 2).2.2.2 = false ∨ ((r.2.1 2).2.2.2 = true ∧ M.1.name = "<init>" ∧ (r.2.1 2).1 = M.1.cls)) ∧ parseFieldDescriptor (r.2.1 2).2.2.1 = some .int := ev_pfn (r0 := rC6) rfl (Or.inl rfl) (by decide +kernel)
theorem pf_6_weighedCount {M : ev_M} : ∀ r : vw_C, ev_cl[6]? = some r → ((r.2.1 3).2.2.2 = false ∨ ((r.2.1 3).2.2.2 = true ∧ M.1.name = "<init>" ∧ (r.2.1 3).1 = M.1.cls)) ∧ parseFieldDescriptor (r.2.1 3).2.2.1 = some .int := ev_pfn (r0 := rC6) rfl (Or.inl rfl) (by decide +kernel)
theorem pf_7_count {M : ev_M} : ∀ r : vw_C, ev_cl[7]? = some r → ((r.2.1 2).2.2.2 = false ∨ ((r.2.1 2).2.2.2 = true ∧ M.1.name = "<init>" ∧ (r.2.1 2).1 = M.1.cls)) ∧ parseFieldDescriptor (r.2.1 2).2.2.1 = some .int := ev_pfn (r0 := rC7) rfl (Or.inl rfl) (by decide +kernel)
theorem pf_9_deletedIds {M : ev_M} : ∀ r : vw_C, ev_cl[9]? = some r → ((r.2.1 1).2.2.2 = false ∨ ((r.2.1 1).2.2.2 = true ∧ M.1.name = "<init>" ∧ (r.2.1 1).1 = M.1.cls)) ∧ parseFieldDescriptor (r.2.1 1).2.2.1 = some .int := ev_pfn (r0 := rC9) rfl (Or.inl rfl) (by decide +kernel)
theorem pf_11_drafted {M : ev_M} : ∀ r : vw_C, ev_cl[11]? = some r → ((r.2.1 1).2.2.2 = false ∨ ((r.2.1 1).2.2.2 = true ∧ M.1.name = "<init>" ∧ (r.2.1 1).1 = M.1.cls)) ∧ parseFieldDescriptor (r.2.1 1).2.2.1 = some .int := ev_pfn (r0 := rC11) rfl (Or.inl rfl) (by decide +kernel)
theorem pf_11_rows {M : ev_M} : ∀ r : vw_C, ev_cl[11]? = some r → ((r.2.1 5).2.2.2 = false ∨ ((r.2.1 5).2.2.2 = true ∧ M.1.name = "<init>" ∧ (r.2.1 5).1 = M.1.cls)) ∧ parseFieldDescriptor (r.2.1 5).2.2.1 = some .int := ev_pfn (r0 := rC11) rfl (Or.inl rfl) (by decide +kernel)
theorem pf_11_segments {M : ev_M} : ∀ r : vw_C, ev_cl[11]? = some r → ((r.2.1 11).2.2.2 = false ∨ ((r.2.1 11).2.2.2 = true ∧ M.1.name = "<init>" ∧ (r.2.1 11).1 = M.1.cls)) ∧ parseFieldDescriptor (r.2.1 11).2.2.1 = some .int := ev_pfn (r0 := rC11) rfl (Or.inl rfl) (by decide +kernel)
theorem pf_11_stopped {M : ev_M} : ∀ r : vw_C, ev_cl[11]? = some r → ((r.2.1 12).2.2.2 = false ∨ ((r.2.1 12).2.2.2 = true ∧ M.1.name = "<init>" ∧ (r.2.1 12).1 = M.1.cls)) ∧ parseFieldDescriptor (r.2.1 12).2.2.1 = some .boolean := ev_pfn (r0 := rC11) rfl (Or.inl rfl) (by decide +kernel)
theorem pf_11_fuse {M : ev_M} : ∀ r : vw_C, ev_cl[11]? = some r → ((r.2.1 13).2.2.2 = false ∨ ((r.2.1 13).2.2.2 = true ∧ M.1.name = "<init>" ∧ (r.2.1 13).1 = M.1.cls)) ∧ parseFieldDescriptor (r.2.1 13).2.2.1 = some .int := ev_pfn (r0 := rC11) rfl (Or.inl rfl) (by decide +kernel)
theorem pf_11_written {M : ev_M} : ∀ r : vw_C, ev_cl[11]? = some r → ((r.2.1 14).2.2.2 = false ∨ ((r.2.1 14).2.2.2 = true ∧ M.1.name = "<init>" ∧ (r.2.1 14).1 = M.1.cls)) ∧ parseFieldDescriptor (r.2.1 14).2.2.1 = some .int := ev_pfn (r0 := rC11) rfl (Or.inl rfl) (by decide +kernel)
theorem pf_11_tokens {M : ev_M} : ∀ r : vw_C, ev_cl[11]? = some r → ((r.2.1 15).2.2.2 = false ∨ ((r.2.1 15).2.2.2 = true ∧ M.1.name = "<init>" ∧ (r.2.1 15).1 = M.1.cls)) ∧ parseFieldDescriptor (r.2.1 15).2.2.1 = some .int := ev_pfn (r0 := rC11) rfl (Or.inl rfl) (by decide +kernel)
theorem pf_11_height {M : ev_M} : ∀ r : vw_C, ev_cl[11]? = some r → ((r.2.1 18).2.2.2 = false ∨ ((r.2.1 18).2.2.2 = true ∧ M.1.name = "<init>" ∧ (r.2.1 18).1 = M.1.cls)) ∧ parseFieldDescriptor (r.2.1 18).2.2.1 = some .int := ev_pfn (r0 := rC11) rfl (Or.inl rfl) (by decide +kernel)
theorem pf_11_results {M : ev_M} : ∀ r : vw_C, ev_cl[11]? = some r → ((r.2.1 22).2.2.2 = false ∨ ((r.2.1 22).2.2.2 = true ∧ M.1.name = "<init>" ∧ (r.2.1 22).1 = M.1.cls)) ∧ parseFieldDescriptor (r.2.1 22).2.2.1 = some .int := ev_pfn (r0 := rC11) rfl (Or.inl rfl) (by decide +kernel)
theorem pf_11_weighed {M : ev_M} : ∀ r : vw_C, ev_cl[11]? = some r → ((r.2.1 25).2.2.2 = false ∨ ((r.2.1 25).2.2.2 = true ∧ M.1.name = "<init>" ∧ (r.2.1 25).1 = M.1.cls)) ∧ parseFieldDescriptor (r.2.1 25).2.2.1 = some .int := ev_pfn (r0 := rC11) rfl (Or.inl rfl) (by decide +kernel)
theorem pf_12_elementData {M : ev_M} : ∀ r : vw_C, ev_cl[12]? = some r → ((r.2.1 0).2.2.2 = false ∨ ((r.2.1 0).2.2.2 = true ∧ M.1.name = "<init>" ∧ (r.2.1 0).1 = M.1.cls)) ∧ parseFieldDescriptor (r.2.1 0).2.2.1 = some (.array (.object "java/lang/Object")) := ev_pfn (r0 := rC12) rfl (Or.inl rfl) (by decide +kernel)
theorem pf_12_size {M : ev_M} : ∀ r : vw_C, ev_cl[12]? = some r → ((r.2.1 1).2.2.2 = false ∨ ((r.2.1 1).2.2.2 = true ∧ M.1.name = "<init>" ∧ (r.2.1 1).1 = M.1.cls)) ∧ parseFieldDescriptor (r.2.1 1).2.2.1 = some .int := ev_pfn (r0 := rC12) rfl (Or.inl rfl) (by decide +kernel)
theorem pf_12_modCount {M : ev_M} : ∀ r : vw_C, ev_cl[12]? = some r → ((r.2.1 2).2.2.2 = false ∨ ((r.2.1 2).2.2.2 = true ∧ M.1.name = "<init>" ∧ (r.2.1 2).1 = M.1.cls)) ∧ parseFieldDescriptor (r.2.1 2).2.2.1 = some .int := ev_pfn (r0 := rC12) rfl (Or.inl rfl) (by decide +kernel)
