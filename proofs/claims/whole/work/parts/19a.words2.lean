theorem wd_1222 : (Jvm.Cond.fieldLink "java/lang/String" (15 : Nat) "java/lang/String" "coder" "B") ∈ ev_gw := ev_m6 (List.mem_of_getElem? (i := 22) rfl) rfl
theorem wd_1223 : (Jvm.Cond.fieldLink "java/lang/String" (9 : Nat) "java/lang/String" "value" "[B") ∈ ev_gw := ev_m6 (List.mem_of_getElem? (i := 23) rfl) rfl
theorem wd_258 : (Jvm.Cond.fieldLink "java/lang/String" (38 : Nat) "java/lang/String" "COMPACT_STRINGS" "Z") ∈ ev_gw := ev_m2 (List.mem_of_getElem? (i := 18) rfl) rfl
theorem wd_301 : (Jvm.Cond.fieldLink "java/lang/String" (1053 : Nat) "jdk/internal/util/Preconditions" "SIOOBE_FORMATTER" "Ljava/util/function/BiFunction;") ∈ ev_gw := ev_m2 (List.mem_of_getElem? (i := 61) rfl) rfl
theorem wd_312 : (Jvm.Cond.fieldLink "java/lang/StringUTF16" (44 : Nat) "java/lang/StringUTF16" "$assertionsDisabled" "Z") ∈ ev_gw := ev_m2 (List.mem_of_getElem? (i := 72) rfl) rfl
theorem wd_314 : (Jvm.Cond.fieldLink "java/lang/StringUTF16" (59 : Nat) "java/lang/StringUTF16" "HI_BYTE_SHIFT" "I") ∈ ev_gw := ev_m2 (List.mem_of_getElem? (i := 74) rfl) rfl
theorem wd_316 : (Jvm.Cond.fieldLink "java/lang/StringUTF16" (63 : Nat) "java/lang/StringUTF16" "LO_BYTE_SHIFT" "I") ∈ ev_gw := ev_m2 (List.mem_of_getElem? (i := 76) rfl) rfl
theorem wd_418 : (Jvm.Cond.fieldLinkNest "PostingShelf$Stemmer" (27 : Nat) "PostingShelf" "STOP_WORDS" "[J" "PostingShelf") ∈ ev_gw := ev_m2 (List.mem_of_getElem? (i := 178) rfl) rfl
theorem wd_71 : (Jvm.Cond.fieldLink "java/util/ArrayList" (39 : Nat) "java/util/ArrayList" "DEFAULTCAPACITY_EMPTY_ELEMENTDATA" "[Ljava/lang/Object;") ∈ ev_gw := ev_m1 (List.mem_of_getElem? (i := 71) rfl) rfl
