section
-- ===== PART A: goes FIRST, ahead of the names: the tables' words, and 'selects' of the private methods out of them =====
/-- a private method of a class that the tables say can be made, by its rows of tables_1 -/
def lw_okq (q : MethodName × Nat) : Prop := (q.1.cls ≠ "java/lang/invoke/MethodHandle" ∧ q.1.cls ≠ "java/lang/invoke/VarHandle") ∧ Cond.instantiable q.1.cls q.2 ∈ tables_1 ∧ Cond.privateMethod q.1 ∈ tables_1 ∧ Cond.instanceMethod q.1 ∈ tables_1
theorem lw_p0 : lw_okq (⟨"PostingShelf$Stemmer", "unpack", "(J)V"⟩, 3) := ⟨⟨by decide +kernel, by decide +kernel⟩, List.mem_of_getElem? (i := 36) (by decide +kernel), List.mem_of_getElem? (i := 237) (by decide +kernel), List.mem_of_getElem? (i := 238) (by decide +kernel)⟩
theorem lw_p1 : lw_okq (⟨"PostingShelf$Stemmer", "append", "(C)V"⟩, 3) := ⟨⟨by decide +kernel, by decide +kernel⟩, List.mem_of_getElem? (i := 36) (by decide +kernel), List.mem_of_getElem? (i := 242) (by decide +kernel), List.mem_of_getElem? (i := 243) (by decide +kernel)⟩
theorem lw_p2 : lw_okq (⟨"PostingShelf$Stemmer", "dropPlural", "()V"⟩, 3) := ⟨⟨by decide +kernel, by decide +kernel⟩, List.mem_of_getElem? (i := 36) (by decide +kernel), List.mem_of_getElem? (i := 333) (by decide +kernel), List.mem_of_getElem? (i := 334) (by decide +kernel)⟩
theorem lw_p3 : lw_okq (⟨"PostingShelf$Stemmer", "endsIn", "(Ljava/lang/String;)Z"⟩, 3) := ⟨⟨by decide +kernel, by decide +kernel⟩, List.mem_of_getElem? (i := 36) (by decide +kernel), List.mem_of_getElem? (i := 338) (by decide +kernel), List.mem_of_getElem? (i := 339) (by decide +kernel)⟩
theorem lw_p4 : lw_okq (⟨"PostingShelf$Stemmer", "dropPastOrGerund", "()V"⟩, 3) := ⟨⟨by decide +kernel, by decide +kernel⟩, List.mem_of_getElem? (i := 36) (by decide +kernel), List.mem_of_getElem? (i := 366) (by decide +kernel), List.mem_of_getElem? (i := 367) (by decide +kernel)⟩
theorem lw_p5 : lw_okq (⟨"PostingShelf$Stemmer", "measure", "(I)I"⟩, 3) := ⟨⟨by decide +kernel, by decide +kernel⟩, List.mem_of_getElem? (i := 36) (by decide +kernel), List.mem_of_getElem? (i := 371) (by decide +kernel), List.mem_of_getElem? (i := 372) (by decide +kernel)⟩
theorem lw_p6 : lw_okq (⟨"PostingShelf$Stemmer", "hasVowel", "(I)Z"⟩, 3) := ⟨⟨by decide +kernel, by decide +kernel⟩, List.mem_of_getElem? (i := 36) (by decide +kernel), List.mem_of_getElem? (i := 377) (by decide +kernel), List.mem_of_getElem? (i := 378) (by decide +kernel)⟩
theorem lw_p7 : lw_okq (⟨"PostingShelf$Stemmer", "mendEnd", "()V"⟩, 3) := ⟨⟨by decide +kernel, by decide +kernel⟩, List.mem_of_getElem? (i := 36) (by decide +kernel), List.mem_of_getElem? (i := 381) (by decide +kernel), List.mem_of_getElem? (i := 382) (by decide +kernel)⟩
theorem lw_p8 : lw_okq (⟨"PostingShelf$Stemmer", "endsInDouble", "()Z"⟩, 3) := ⟨⟨by decide +kernel, by decide +kernel⟩, List.mem_of_getElem? (i := 36) (by decide +kernel), List.mem_of_getElem? (i := 388) (by decide +kernel), List.mem_of_getElem? (i := 389) (by decide +kernel)⟩
theorem lw_p9 : lw_okq (⟨"PostingShelf$Stemmer", "endsShort", "()Z"⟩, 3) := ⟨⟨by decide +kernel, by decide +kernel⟩, List.mem_of_getElem? (i := 36) (by decide +kernel), List.mem_of_getElem? (i := 393) (by decide +kernel), List.mem_of_getElem? (i := 394) (by decide +kernel)⟩
theorem lw_p10 : lw_okq (⟨"PostingShelf$Stemmer", "turnFinalY", "()V"⟩, 3) := ⟨⟨by decide +kernel, by decide +kernel⟩, List.mem_of_getElem? (i := 36) (by decide +kernel), List.mem_of_getElem? (i := 398) (by decide +kernel), List.mem_of_getElem? (i := 399) (by decide +kernel)⟩
theorem lw_p11 : lw_okq (⟨"PostingShelf$Stemmer", "packed", "()J"⟩, 3) := ⟨⟨by decide +kernel, by decide +kernel⟩, List.mem_of_getElem? (i := 36) (by decide +kernel), List.mem_of_getElem? (i := 403) (by decide +kernel), List.mem_of_getElem? (i := 404) (by decide +kernel)⟩
theorem lw_p12 : lw_okq (⟨"PostingShelf$Pending", "dropDocument", "(I)V"⟩, 2) := ⟨⟨by decide +kernel, by decide +kernel⟩, List.mem_of_getElem? (i := 54) (by decide +kernel), List.mem_of_getElem? (i := 465) (by decide +kernel), List.mem_of_getElem? (i := 466) (by decide +kernel)⟩
theorem lw_p13 : lw_okq (⟨"java/util/ArrayList", "fastRemove", "([Ljava/lang/Object;I)V"⟩, 3) := ⟨⟨by decide +kernel, by decide +kernel⟩, List.mem_of_getElem? (i := 60) (by decide +kernel), List.mem_of_getElem? (i := 490) (by decide +kernel), List.mem_of_getElem? (i := 491) (by decide +kernel)⟩
theorem lw_p14 : lw_okq (⟨"java/util/ArrayList", "add", "(Ljava/lang/Object;[Ljava/lang/Object;I)V"⟩, 3) := ⟨⟨by decide +kernel, by decide +kernel⟩, List.mem_of_getElem? (i := 60) (by decide +kernel), List.mem_of_getElem? (i := 499) (by decide +kernel), List.mem_of_getElem? (i := 500) (by decide +kernel)⟩
theorem lw_p15 : lw_okq (⟨"java/util/ArrayList", "grow", "()[Ljava/lang/Object;"⟩, 3) := ⟨⟨by decide +kernel, by decide +kernel⟩, List.mem_of_getElem? (i := 60) (by decide +kernel), List.mem_of_getElem? (i := 503) (by decide +kernel), List.mem_of_getElem? (i := 504) (by decide +kernel)⟩
def lw_privs_1 : List (MethodName × Nat) := [(⟨"PostingShelf$Stemmer", "unpack", "(J)V"⟩, 3), (⟨"PostingShelf$Stemmer", "append", "(C)V"⟩, 3), (⟨"PostingShelf$Stemmer", "dropPlural", "()V"⟩, 3), (⟨"PostingShelf$Stemmer", "endsIn", "(Ljava/lang/String;)Z"⟩, 3), (⟨"PostingShelf$Stemmer", "dropPastOrGerund", "()V"⟩, 3), (⟨"PostingShelf$Stemmer", "measure", "(I)I"⟩, 3), (⟨"PostingShelf$Stemmer", "hasVowel", "(I)Z"⟩, 3), (⟨"PostingShelf$Stemmer", "mendEnd", "()V"⟩, 3), (⟨"PostingShelf$Stemmer", "endsInDouble", "()Z"⟩, 3), (⟨"PostingShelf$Stemmer", "endsShort", "()Z"⟩, 3), (⟨"PostingShelf$Stemmer", "turnFinalY", "()V"⟩, 3), (⟨"PostingShelf$Stemmer", "packed", "()J"⟩, 3), (⟨"PostingShelf$Pending", "dropDocument", "(I)V"⟩, 2), (⟨"java/util/ArrayList", "fastRemove", "([Ljava/lang/Object;I)V"⟩, 3), (⟨"java/util/ArrayList", "add", "(Ljava/lang/Object;[Ljava/lang/Object;I)V"⟩, 3), (⟨"java/util/ArrayList", "grow", "()[Ljava/lang/Object;"⟩, 3)]
theorem lw_r1 : ∀ q ∈ lw_privs_1, lw_okq q := List.forall_mem_cons.mpr ⟨lw_p0, List.forall_mem_cons.mpr ⟨lw_p1, List.forall_mem_cons.mpr ⟨lw_p2, List.forall_mem_cons.mpr ⟨lw_p3, List.forall_mem_cons.mpr ⟨lw_p4, List.forall_mem_cons.mpr ⟨lw_p5, List.forall_mem_cons.mpr ⟨lw_p6, List.forall_mem_cons.mpr ⟨lw_p7, List.forall_mem_cons.mpr ⟨lw_p8, List.forall_mem_cons.mpr ⟨lw_p9, List.forall_mem_cons.mpr ⟨lw_p10, List.forall_mem_cons.mpr ⟨lw_p11, List.forall_mem_cons.mpr ⟨lw_p12, List.forall_mem_cons.mpr ⟨lw_p13, List.forall_mem_cons.mpr ⟨lw_p14, List.forall_mem_cons.mpr ⟨lw_p15, fun _ h => absurd h List.not_mem_nil⟩⟩⟩⟩⟩⟩⟩⟩⟩⟩⟩⟩⟩⟩⟩⟩
theorem lw_p16 : lw_okq (⟨"java/util/ArrayList", "grow", "(I)[Ljava/lang/Object;"⟩, 3) := ⟨⟨by decide +kernel, by decide +kernel⟩, List.mem_of_getElem? (i := 60) (by decide +kernel), List.mem_of_getElem? (i := 507) (by decide +kernel), List.mem_of_getElem? (i := 508) (by decide +kernel)⟩
theorem lw_p17 : lw_okq (⟨"PostingShelf$Machine", "writeBlock", "()V"⟩, 3) := ⟨⟨by decide +kernel, by decide +kernel⟩, List.mem_of_getElem? (i := 115) (by decide +kernel), List.mem_of_getElem? (i := 588) (by decide +kernel), List.mem_of_getElem? (i := 589) (by decide +kernel)⟩
theorem lw_p18 : lw_okq (⟨"PostingShelf$Shelf", "markDeleted", "(I)V"⟩, 2) := ⟨⟨by decide +kernel, by decide +kernel⟩, List.mem_of_getElem? (i := 98) (by decide +kernel), List.mem_of_getElem? (i := 596) (by decide +kernel), List.mem_of_getElem? (i := 597) (by decide +kernel)⟩
theorem lw_p19 : lw_okq (⟨"PostingShelf$Shelf", "appendSegment", "(Ljava/util/ArrayList;)V"⟩, 2) := ⟨⟨by decide +kernel, by decide +kernel⟩, List.mem_of_getElem? (i := 98) (by decide +kernel), List.mem_of_getElem? (i := 603) (by decide +kernel), List.mem_of_getElem? (i := 604) (by decide +kernel)⟩
theorem lw_p20 : lw_okq (⟨"PostingShelf$Shelf", "insertLive", "(LPostingShelf$Document;)V"⟩, 2) := ⟨⟨by decide +kernel, by decide +kernel⟩, List.mem_of_getElem? (i := 98) (by decide +kernel), List.mem_of_getElem? (i := 625) (by decide +kernel), List.mem_of_getElem? (i := 626) (by decide +kernel)⟩
theorem lw_p21 : lw_okq (⟨"java/util/ArrayList", "rangeCheckForAdd", "(I)V"⟩, 3) := ⟨⟨by decide +kernel, by decide +kernel⟩, List.mem_of_getElem? (i := 60) (by decide +kernel), List.mem_of_getElem? (i := 633) (by decide +kernel), List.mem_of_getElem? (i := 634) (by decide +kernel)⟩
theorem lw_p22 : lw_okq (⟨"PostingShelf", "goDown", "()I"⟩, 9) := ⟨⟨by decide +kernel, by decide +kernel⟩, List.mem_of_getElem? (i := 28) (by decide +kernel), List.mem_of_getElem? (i := 645) (by decide +kernel), List.mem_of_getElem? (i := 646) (by decide +kernel)⟩
theorem lw_p23 : lw_okq (⟨"PostingShelf$QueryStack", "push", "(LPostingShelf$Step;II)I"⟩, 3) := ⟨⟨by decide +kernel, by decide +kernel⟩, List.mem_of_getElem? (i := 134) (by decide +kernel), List.mem_of_getElem? (i := 714) (by decide +kernel), List.mem_of_getElem? (i := 715) (by decide +kernel)⟩
theorem lw_p24 : lw_okq (⟨"PostingShelf$QueryStack", "firstTerm", "(LPostingShelf$Step;)J"⟩, 3) := ⟨⟨by decide +kernel, by decide +kernel⟩, List.mem_of_getElem? (i := 134) (by decide +kernel), List.mem_of_getElem? (i := 739) (by decide +kernel), List.mem_of_getElem? (i := 740) (by decide +kernel)⟩
theorem lw_p25 : lw_okq (⟨"PostingShelf", "collectMatches", "()V"⟩, 9) := ⟨⟨by decide +kernel, by decide +kernel⟩, List.mem_of_getElem? (i := 28) (by decide +kernel), List.mem_of_getElem? (i := 760) (by decide +kernel), List.mem_of_getElem? (i := 761) (by decide +kernel)⟩
theorem lw_p26 : lw_okq (⟨"PostingShelf$Document", "hasRowAt", "(I[J)Z"⟩, 2) := ⟨⟨by decide +kernel, by decide +kernel⟩, List.mem_of_getElem? (i := 429) (by decide +kernel), List.mem_of_getElem? (i := 777) (by decide +kernel), List.mem_of_getElem? (i := 778) (by decide +kernel)⟩
theorem lw_p27 : lw_okq (⟨"PostingShelf$Ranking", "weighTerm", "(IJLjava/util/ArrayList;I)V"⟩, 4) := ⟨⟨by decide +kernel, by decide +kernel⟩, List.mem_of_getElem? (i := 155) (by decide +kernel), List.mem_of_getElem? (i := 810) (by decide +kernel), List.mem_of_getElem? (i := 811) (by decide +kernel)⟩
theorem lw_p28 : lw_okq (⟨"PostingShelf$Ranking", "hasTermOfBag", "(I)Z"⟩, 4) := ⟨⟨by decide +kernel, by decide +kernel⟩, List.mem_of_getElem? (i := 155) (by decide +kernel), List.mem_of_getElem? (i := 833) (by decide +kernel), List.mem_of_getElem? (i := 834) (by decide +kernel)⟩
theorem lw_p29 : lw_okq (⟨"PostingShelf$Ranking", "boundOf", "(I)I"⟩, 4) := ⟨⟨by decide +kernel, by decide +kernel⟩, List.mem_of_getElem? (i := 155) (by decide +kernel), List.mem_of_getElem? (i := 837) (by decide +kernel), List.mem_of_getElem? (i := 838) (by decide +kernel)⟩
theorem lw_p30 : lw_okq (⟨"PostingShelf$Ranking", "weightOf", "(I)I"⟩, 4) := ⟨⟨by decide +kernel, by decide +kernel⟩, List.mem_of_getElem? (i := 155) (by decide +kernel), List.mem_of_getElem? (i := 845) (by decide +kernel), List.mem_of_getElem? (i := 846) (by decide +kernel)⟩
theorem lw_p31 : lw_okq (⟨"PostingShelf$Document", "isFirst", "(I)Z"⟩, 2) := ⟨⟨by decide +kernel, by decide +kernel⟩, List.mem_of_getElem? (i := 429) (by decide +kernel), List.mem_of_getElem? (i := 887) (by decide +kernel), List.mem_of_getElem? (i := 888) (by decide +kernel)⟩
def lw_privs_2 : List (MethodName × Nat) := [(⟨"java/util/ArrayList", "grow", "(I)[Ljava/lang/Object;"⟩, 3), (⟨"PostingShelf$Machine", "writeBlock", "()V"⟩, 3), (⟨"PostingShelf$Shelf", "markDeleted", "(I)V"⟩, 2), (⟨"PostingShelf$Shelf", "appendSegment", "(Ljava/util/ArrayList;)V"⟩, 2), (⟨"PostingShelf$Shelf", "insertLive", "(LPostingShelf$Document;)V"⟩, 2), (⟨"java/util/ArrayList", "rangeCheckForAdd", "(I)V"⟩, 3), (⟨"PostingShelf", "goDown", "()I"⟩, 9), (⟨"PostingShelf$QueryStack", "push", "(LPostingShelf$Step;II)I"⟩, 3), (⟨"PostingShelf$QueryStack", "firstTerm", "(LPostingShelf$Step;)J"⟩, 3), (⟨"PostingShelf", "collectMatches", "()V"⟩, 9), (⟨"PostingShelf$Document", "hasRowAt", "(I[J)Z"⟩, 2), (⟨"PostingShelf$Ranking", "weighTerm", "(IJLjava/util/ArrayList;I)V"⟩, 4), (⟨"PostingShelf$Ranking", "hasTermOfBag", "(I)Z"⟩, 4), (⟨"PostingShelf$Ranking", "boundOf", "(I)I"⟩, 4), (⟨"PostingShelf$Ranking", "weightOf", "(I)I"⟩, 4), (⟨"PostingShelf$Document", "isFirst", "(I)Z"⟩, 2)]
theorem lw_r2 : ∀ q ∈ lw_privs_2, lw_okq q := List.forall_mem_cons.mpr ⟨lw_p16, List.forall_mem_cons.mpr ⟨lw_p17, List.forall_mem_cons.mpr ⟨lw_p18, List.forall_mem_cons.mpr ⟨lw_p19, List.forall_mem_cons.mpr ⟨lw_p20, List.forall_mem_cons.mpr ⟨lw_p21, List.forall_mem_cons.mpr ⟨lw_p22, List.forall_mem_cons.mpr ⟨lw_p23, List.forall_mem_cons.mpr ⟨lw_p24, List.forall_mem_cons.mpr ⟨lw_p25, List.forall_mem_cons.mpr ⟨lw_p26, List.forall_mem_cons.mpr ⟨lw_p27, List.forall_mem_cons.mpr ⟨lw_p28, List.forall_mem_cons.mpr ⟨lw_p29, List.forall_mem_cons.mpr ⟨lw_p30, List.forall_mem_cons.mpr ⟨lw_p31, fun _ h => absurd h List.not_mem_nil⟩⟩⟩⟩⟩⟩⟩⟩⟩⟩⟩⟩⟩⟩⟩⟩
theorem lw_p32 : lw_okq (⟨"PostingShelfModel", "idle", "()I"⟩, 29) := ⟨⟨by decide +kernel, by decide +kernel⟩, List.mem_of_getElem? (i := 891) (by decide +kernel), List.mem_of_getElem? (i := 1051) (by decide +kernel), List.mem_of_getElem? (i := 1052) (by decide +kernel)⟩
theorem lw_p33 : lw_okq (⟨"PostingShelfModel", "documents", "()I"⟩, 29) := ⟨⟨by decide +kernel, by decide +kernel⟩, List.mem_of_getElem? (i := 891) (by decide +kernel), List.mem_of_getElem? (i := 1063) (by decide +kernel), List.mem_of_getElem? (i := 1064) (by decide +kernel)⟩
theorem lw_p34 : lw_okq (⟨"PostingShelfModel", "write", "(I)I"⟩, 29) := ⟨⟨by decide +kernel, by decide +kernel⟩, List.mem_of_getElem? (i := 891) (by decide +kernel), List.mem_of_getElem? (i := 1067) (by decide +kernel), List.mem_of_getElem? (i := 1068) (by decide +kernel)⟩
theorem lw_p35 : lw_okq (⟨"PostingShelfModel", "happen", "()V"⟩, 29) := ⟨⟨by decide +kernel, by decide +kernel⟩, List.mem_of_getElem? (i := 891) (by decide +kernel), List.mem_of_getElem? (i := 1071) (by decide +kernel), List.mem_of_getElem? (i := 1072) (by decide +kernel)⟩
theorem lw_p36 : lw_okq (⟨"PostingShelfModel", "stop", "()V"⟩, 29) := ⟨⟨by decide +kernel, by decide +kernel⟩, List.mem_of_getElem? (i := 891) (by decide +kernel), List.mem_of_getElem? (i := 1075) (by decide +kernel), List.mem_of_getElem? (i := 1076) (by decide +kernel)⟩
theorem lw_p37 : lw_okq (⟨"PostingShelfModel", "live", "()I"⟩, 29) := ⟨⟨by decide +kernel, by decide +kernel⟩, List.mem_of_getElem? (i := 891) (by decide +kernel), List.mem_of_getElem? (i := 1079) (by decide +kernel), List.mem_of_getElem? (i := 1080) (by decide +kernel)⟩
theorem lw_p38 : lw_okq (⟨"PostingShelfModel", "join2", "(I)V"⟩, 29) := ⟨⟨by decide +kernel, by decide +kernel⟩, List.mem_of_getElem? (i := 891) (by decide +kernel), List.mem_of_getElem? (i := 1087) (by decide +kernel), List.mem_of_getElem? (i := 1088) (by decide +kernel)⟩
theorem lw_p39 : lw_okq (⟨"PostingShelfModel", "copyRow", "(II)V"⟩, 29) := ⟨⟨by decide +kernel, by decide +kernel⟩, List.mem_of_getElem? (i := 891) (by decide +kernel), List.mem_of_getElem? (i := 1091) (by decide +kernel), List.mem_of_getElem? (i := 1092) (by decide +kernel)⟩
theorem lw_p40 : lw_okq (⟨"PostingShelfModel", "push", "(IJZ)V"⟩, 29) := ⟨⟨by decide +kernel, by decide +kernel⟩, List.mem_of_getElem? (i := 891) (by decide +kernel), List.mem_of_getElem? (i := 1107) (by decide +kernel), List.mem_of_getElem? (i := 1108) (by decide +kernel)⟩
theorem lw_p41 : lw_okq (⟨"PostingShelfModel", "lookUp", "()V"⟩, 29) := ⟨⟨by decide +kernel, by decide +kernel⟩, List.mem_of_getElem? (i := 891) (by decide +kernel), List.mem_of_getElem? (i := 1123) (by decide +kernel), List.mem_of_getElem? (i := 1124) (by decide +kernel)⟩
theorem lw_p42 : lw_okq (⟨"PostingShelfModel", "matches", "(I)Z"⟩, 29) := ⟨⟨by decide +kernel, by decide +kernel⟩, List.mem_of_getElem? (i := 891) (by decide +kernel), List.mem_of_getElem? (i := 1127) (by decide +kernel), List.mem_of_getElem? (i := 1128) (by decide +kernel)⟩
theorem lw_p43 : lw_okq (⟨"PostingShelfModel", "times", "(IJ)I"⟩, 29) := ⟨⟨by decide +kernel, by decide +kernel⟩, List.mem_of_getElem? (i := 891) (by decide +kernel), List.mem_of_getElem? (i := 1131) (by decide +kernel), List.mem_of_getElem? (i := 1132) (by decide +kernel)⟩
theorem lw_p44 : lw_okq (⟨"PostingShelfModel", "phraseIn", "(III)Z"⟩, 29) := ⟨⟨by decide +kernel, by decide +kernel⟩, List.mem_of_getElem? (i := 891) (by decide +kernel), List.mem_of_getElem? (i := 1135) (by decide +kernel), List.mem_of_getElem? (i := 1136) (by decide +kernel)⟩
theorem lw_p45 : lw_okq (⟨"PostingShelfModel", "weighAll", "(I)V"⟩, 29) := ⟨⟨by decide +kernel, by decide +kernel⟩, List.mem_of_getElem? (i := 891) (by decide +kernel), List.mem_of_getElem? (i := 1143) (by decide +kernel), List.mem_of_getElem? (i := 1144) (by decide +kernel)⟩
theorem lw_p46 : lw_okq (⟨"PostingShelfModel", "sum", "(IZ)J"⟩, 29) := ⟨⟨by decide +kernel, by decide +kernel⟩, List.mem_of_getElem? (i := 891) (by decide +kernel), List.mem_of_getElem? (i := 1148) (by decide +kernel), List.mem_of_getElem? (i := 1149) (by decide +kernel)⟩
theorem lw_p47 : lw_okq (⟨"PostingShelfModel", "bound", "(J)J"⟩, 29) := ⟨⟨by decide +kernel, by decide +kernel⟩, List.mem_of_getElem? (i := 891) (by decide +kernel), List.mem_of_getElem? (i := 1152) (by decide +kernel), List.mem_of_getElem? (i := 1153) (by decide +kernel)⟩
def lw_privs_3 : List (MethodName × Nat) := [(⟨"PostingShelfModel", "idle", "()I"⟩, 29), (⟨"PostingShelfModel", "documents", "()I"⟩, 29), (⟨"PostingShelfModel", "write", "(I)I"⟩, 29), (⟨"PostingShelfModel", "happen", "()V"⟩, 29), (⟨"PostingShelfModel", "stop", "()V"⟩, 29), (⟨"PostingShelfModel", "live", "()I"⟩, 29), (⟨"PostingShelfModel", "join2", "(I)V"⟩, 29), (⟨"PostingShelfModel", "copyRow", "(II)V"⟩, 29), (⟨"PostingShelfModel", "push", "(IJZ)V"⟩, 29), (⟨"PostingShelfModel", "lookUp", "()V"⟩, 29), (⟨"PostingShelfModel", "matches", "(I)Z"⟩, 29), (⟨"PostingShelfModel", "times", "(IJ)I"⟩, 29), (⟨"PostingShelfModel", "phraseIn", "(III)Z"⟩, 29), (⟨"PostingShelfModel", "weighAll", "(I)V"⟩, 29), (⟨"PostingShelfModel", "sum", "(IZ)J"⟩, 29), (⟨"PostingShelfModel", "bound", "(J)J"⟩, 29)]
theorem lw_r3 : ∀ q ∈ lw_privs_3, lw_okq q := List.forall_mem_cons.mpr ⟨lw_p32, List.forall_mem_cons.mpr ⟨lw_p33, List.forall_mem_cons.mpr ⟨lw_p34, List.forall_mem_cons.mpr ⟨lw_p35, List.forall_mem_cons.mpr ⟨lw_p36, List.forall_mem_cons.mpr ⟨lw_p37, List.forall_mem_cons.mpr ⟨lw_p38, List.forall_mem_cons.mpr ⟨lw_p39, List.forall_mem_cons.mpr ⟨lw_p40, List.forall_mem_cons.mpr ⟨lw_p41, List.forall_mem_cons.mpr ⟨lw_p42, List.forall_mem_cons.mpr ⟨lw_p43, List.forall_mem_cons.mpr ⟨lw_p44, List.forall_mem_cons.mpr ⟨lw_p45, List.forall_mem_cons.mpr ⟨lw_p46, List.forall_mem_cons.mpr ⟨lw_p47, fun _ h => absurd h List.not_mem_nil⟩⟩⟩⟩⟩⟩⟩⟩⟩⟩⟩⟩⟩⟩⟩⟩
theorem lw_p48 : lw_okq (⟨"PostingShelfModel", "weightOf", "(IJ)J"⟩, 29) := ⟨⟨by decide +kernel, by decide +kernel⟩, List.mem_of_getElem? (i := 891) (by decide +kernel), List.mem_of_getElem? (i := 1156) (by decide +kernel), List.mem_of_getElem? (i := 1157) (by decide +kernel)⟩
theorem lw_p49 : lw_okq (⟨"PostingShelfModel", "lengths", "()I"⟩, 29) := ⟨⟨by decide +kernel, by decide +kernel⟩, List.mem_of_getElem? (i := 891) (by decide +kernel), List.mem_of_getElem? (i := 1160) (by decide +kernel), List.mem_of_getElem? (i := 1161) (by decide +kernel)⟩
theorem lw_p50 : lw_okq (⟨"PostingShelfModel", "lengthOf", "(I)I"⟩, 29) := ⟨⟨by decide +kernel, by decide +kernel⟩, List.mem_of_getElem? (i := 891) (by decide +kernel), List.mem_of_getElem? (i := 1164) (by decide +kernel), List.mem_of_getElem? (i := 1165) (by decide +kernel)⟩
theorem lw_p51 : lw_okq (⟨"PostingShelfModel", "least", "(I)J"⟩, 29) := ⟨⟨by decide +kernel, by decide +kernel⟩, List.mem_of_getElem? (i := 891) (by decide +kernel), List.mem_of_getElem? (i := 1175) (by decide +kernel), List.mem_of_getElem? (i := 1176) (by decide +kernel)⟩
theorem lw_p52 : lw_okq (⟨"PostingShelfModel", "best", "(I)V"⟩, 29) := ⟨⟨by decide +kernel, by decide +kernel⟩, List.mem_of_getElem? (i := 891) (by decide +kernel), List.mem_of_getElem? (i := 1179) (by decide +kernel), List.mem_of_getElem? (i := 1180) (by decide +kernel)⟩
theorem lw_p53 : lw_okq (⟨"PostingShelfModel", "different", "(I)I"⟩, 29) := ⟨⟨by decide +kernel, by decide +kernel⟩, List.mem_of_getElem? (i := 891) (by decide +kernel), List.mem_of_getElem? (i := 1199) (by decide +kernel), List.mem_of_getElem? (i := 1200) (by decide +kernel)⟩
def lw_privs_4 : List (MethodName × Nat) := [(⟨"PostingShelfModel", "weightOf", "(IJ)J"⟩, 29), (⟨"PostingShelfModel", "lengths", "()I"⟩, 29), (⟨"PostingShelfModel", "lengthOf", "(I)I"⟩, 29), (⟨"PostingShelfModel", "least", "(I)J"⟩, 29), (⟨"PostingShelfModel", "best", "(I)V"⟩, 29), (⟨"PostingShelfModel", "different", "(I)I"⟩, 29)]
theorem lw_r4 : ∀ q ∈ lw_privs_4, lw_okq q := List.forall_mem_cons.mpr ⟨lw_p48, List.forall_mem_cons.mpr ⟨lw_p49, List.forall_mem_cons.mpr ⟨lw_p50, List.forall_mem_cons.mpr ⟨lw_p51, List.forall_mem_cons.mpr ⟨lw_p52, List.forall_mem_cons.mpr ⟨lw_p53, fun _ h => absurd h List.not_mem_nil⟩⟩⟩⟩⟩⟩
def lw_privs : List (MethodName × Nat) := lw_privs_1 ++ (lw_privs_2 ++ (lw_privs_3 ++ (lw_privs_4)))
def lw_tbl : List Cond := k2_sels lw_privs ++ tables_1
theorem lw_privs_ok : ∀ q ∈ lw_privs, lw_okq q := by
  show ∀ q ∈ lw_privs_1 ++ (lw_privs_2 ++ (lw_privs_3 ++ (lw_privs_4))), lw_okq q
  exact List.forall_mem_append.mpr ⟨lw_r1, List.forall_mem_append.mpr ⟨lw_r2, List.forall_mem_append.mpr ⟨lw_r3, lw_r4⟩⟩⟩
end
section
/-! types and tables of our own judgement -/
/-- a cell: an array (the number of its type in the table, its contents), or an object (the number of its class, its fields) -/
abbrev ev_C : Type := (Nat × vp_A) ⊕ (Nat × List Value)
abbrev ev_H : Type := Nat → Option ev_C
/-- what a launch fixes: the classes' ids and slots, the array classes, the first address that is ours, addresses of what stood there before, the script's length and ints -/
abbrev ev_X : Type := va_G × List (ClassId × FieldType) × Nat × (Nat → Nat) × Nat × (Nat → Int32)
/-- a method: name, code, number of locals, type of the answer, frames and words that it may nest -/
abbrev ev_M : Type := MethodName × ByteArray × Nat × Option FieldType × Nat × Nat
def ev_A (X : ev_X) : Nat → Prop := fun q => X.2.2.1 ≤ q
/-- words of the tables that stay as the machine runs -/
def ev_good (w : Cond) : Bool := match w with
  | .arrayClass _ => true
  | .arrayOver (.object _) => true
  | .fieldLinkNest .. => true
  | .methodLinkNest .. => true
  | .castable .. => true
  | .declares .. => true
  | w => w.onTables && w.keeps
theorem ev_use {w : Cond} (hg : ev_good w = true) {A A' : Array Value} {u U : State} (hv : u.vm = U.vm) (h : w.before A u = true) : w.before A' U = true := by
  have hu : u.setVm U.vm = u := by rw [← hv]; rfl
  unfold ev_good at hg
  split at hg
  · rw [← hu] at h; exact h
  · rw [← hu] at h; exact h
  · exact va_tabs rfl hv h
  · exact va_tabs rfl hv h
  · exact va_tabs rfl hv h
  · exact va_tabs rfl hv h
  · simp only [Bool.and_eq_true] at hg
    exact va_tabs hg.1 hv h
theorem ev_Nw_warm {w : Cond} (hg : ev_good w = true) {s U : State} (hW : s.WarmedH U.vm) (h : va_Nw w s) : va_Nw w U := by
  unfold ev_good at hg
  split at hg
  · exact word_at hW (Or.inr ⟨_, rfl⟩) h
  · exact va_AO.moved hW.alike h
  · exact va_Nw.warmF hW h
  · exact va_Nw.warmM hW h
  · exact va_Nw.warmC hW h
  · exact va_Nw.warmD hW h
  · exact word_at hW (Or.inl hg) h
/-! names: the array types, the classes whose objects we make, the methods: out of claim/Statement.lean, by program (wip/whole/names.py) -/
def ev_tyl : List FieldType := [.int, .long, .boolean, .char, .byte, .object "java/lang/Object", .array .int]
def R0_ : String := "PostingShelf"
def T0_ : u_T := fun k => match k with
  | 0 => ("PostingShelf", "stemmer", "LPostingShelf$Stemmer;", true)
  | 1 => ("PostingShelf", "draft", "[J", true)
  | 2 => ("PostingShelf", "draftWords", "I", false)
  | 3 => ("PostingShelf", "pending", "LPostingShelf$Pending;", true)
  | 4 => ("PostingShelf", "shelf", "LPostingShelf$Shelf;", true)
  | 5 => ("PostingShelf", "machine", "LPostingShelf$Machine;", true)
  | 6 => ("PostingShelf", "stack", "LPostingShelf$QueryStack;", true)
  | 7 => ("PostingShelf", "ranking", "LPostingShelf$Ranking;", true)
  | _ => ("PostingShelf", "results", "LPostingShelf$Results;", true)
abbrev rC0 : vw_C := ("PostingShelf", T0_, 9)
def R1_ : String := "PostingShelf$Stemmer"
def T1_ : u_T := fun k => match k with
  | 0 => ("PostingShelf$Stemmer", "letters", "[C", true)
  | 1 => ("PostingShelf$Stemmer", "vowels", "[Z", true)
  | _ => ("PostingShelf$Stemmer", "length", "I", false)
abbrev rC1 : vw_C := ("PostingShelf$Stemmer", T1_, 3)
def R2_ : String := "PostingShelf$Pending"
def T2_ : u_T := fun k => match k with
  | 0 => ("PostingShelf$Pending", "documents", "Ljava/util/ArrayList;", true)
  | _ => ("PostingShelf$Pending", "ids", "I", false)
abbrev rC2 : vw_C := ("PostingShelf$Pending", T2_, 2)
def R3_ : String := "PostingShelf$Shelf"
def T3_ : u_T := fun k => match k with
  | 0 => ("PostingShelf$Shelf", "segments", "Ljava/util/ArrayList;", true)
  | _ => ("PostingShelf$Shelf", "live", "Ljava/util/ArrayList;", true)
abbrev rC3 : vw_C := ("PostingShelf$Shelf", T3_, 2)
def R4_ : String := "PostingShelf$Machine"
def T4_ : u_T := fun k => match k with
  | 0 => ("PostingShelf$Machine", "blocksWritten", "I", false)
  | 1 => ("PostingShelf$Machine", "blocksToStop", "I", false)
  | _ => ("PostingShelf$Machine", "stopped", "Z", false)
abbrev rC4 : vw_C := ("PostingShelf$Machine", T4_, 3)
def R5_ : String := "PostingShelf$QueryStack"
def T5_ : u_T := fun k => match k with
  | 0 => ("PostingShelf$QueryStack", "steps", "Ljava/util/ArrayList;", true)
  | 1 => ("PostingShelf$QueryStack", "depths", "[I", true)
  | _ => ("PostingShelf$QueryStack", "height", "I", false)
abbrev rC5 : vw_C := ("PostingShelf$QueryStack", T5_, 3)
def R6_ : String := "PostingShelf$Ranking"
def T6_ : u_T := fun k => match k with
  | 0 => ("PostingShelf$Ranking", "weights", "[[I", true)
  | 1 => ("PostingShelf$Ranking", "bounds", "[I", true)
  | 2 => ("PostingShelf$Ranking", "termCount", "I", false)
  | _ => ("PostingShelf$Ranking", "weighedCount", "I", false)
abbrev rC6 : vw_C := ("PostingShelf$Ranking", T6_, 4)
def R7_ : String := "PostingShelf$Results"
def T7_ : u_T := fun k => match k with
  | 0 => ("PostingShelf$Results", "ids", "[I", true)
  | 1 => ("PostingShelf$Results", "weights", "[I", true)
  | _ => ("PostingShelf$Results", "count", "I", false)
abbrev rC7 : vw_C := ("PostingShelf$Results", T7_, 3)
def R8_ : String := "PostingShelf$Document"
def T8_ : u_T := fun k => match k with
  | 0 => ("PostingShelf$Document", "id", "I", true)
  | _ => ("PostingShelf$Document", "terms", "[J", true)
abbrev rC8 : vw_C := ("PostingShelf$Document", T8_, 2)
def R9_ : String := "PostingShelf$Segment"
def T9_ : u_T := fun k => match k with
  | 0 => ("PostingShelf$Segment", "documents", "Ljava/util/ArrayList;", true)
  | _ => ("PostingShelf$Segment", "deletedIds", "I", false)
abbrev rC9 : vw_C := ("PostingShelf$Segment", T9_, 2)
def R10_ : String := "PostingShelf$Step"
def T10_ : u_T := fun k => match k with
  | 0 => ("PostingShelf$Step", "kind", "I", true)
  | _ => ("PostingShelf$Step", "terms", "[J", true)
abbrev rC10 : vw_C := ("PostingShelf$Step", T10_, 2)
def R11_ : String := "PostingShelfModel"
def T11_ : u_T := fun k => match k with
  | 0 => ("PostingShelfModel", "draft", "[J", true)
  | 1 => ("PostingShelfModel", "drafted", "I", false)
  | 2 => ("PostingShelfModel", "pending", "[I", true)
  | 3 => ("PostingShelfModel", "pendingSize", "[I", true)
  | 4 => ("PostingShelfModel", "pendingTerm", "[J", true)
  | 5 => ("PostingShelfModel", "rows", "I", false)
  | 6 => ("PostingShelfModel", "rowId", "[I", true)
  | 7 => ("PostingShelfModel", "rowSegment", "[I", true)
  | 8 => ("PostingShelfModel", "rowDead", "[Z", true)
  | 9 => ("PostingShelfModel", "rowSize", "[I", true)
  | 10 => ("PostingShelfModel", "rowTerm", "[J", true)
  | 11 => ("PostingShelfModel", "segments", "I", false)
  | 12 => ("PostingShelfModel", "stopped", "Z", false)
  | 13 => ("PostingShelfModel", "fuse", "I", false)
  | 14 => ("PostingShelfModel", "written", "I", false)
  | 15 => ("PostingShelfModel", "tokens", "I", false)
  | 16 => ("PostingShelfModel", "token", "[I", true)
  | 17 => ("PostingShelfModel", "tokenTerm", "[J", true)
  | 18 => ("PostingShelfModel", "height", "I", false)
  | 19 => ("PostingShelfModel", "isTerm", "[Z", true)
  | 20 => ("PostingShelfModel", "deep", "[I", true)
  | 21 => ("PostingShelfModel", "truth", "[Z", true)
  | 22 => ("PostingShelfModel", "results", "I", false)
  | 23 => ("PostingShelfModel", "resultId", "[I", true)
  | 24 => ("PostingShelfModel", "resultWeight", "[J", true)
  | 25 => ("PostingShelfModel", "weighed", "I", false)
  | 26 => ("PostingShelfModel", "rowOf", "[I", true)
  | 27 => ("PostingShelfModel", "weights", "[J", true)
  | _ => ("PostingShelfModel", "taken", "[Z", true)
abbrev rC11 : vw_C := ("PostingShelfModel", T11_, 29)
def R12_ : String := "java/util/ArrayList"
def T12_ : u_T := fun k => match k with
  | 0 => ("java/util/ArrayList", "elementData", "[Ljava/lang/Object;", false)
  | 1 => ("java/util/ArrayList", "size", "I", false)
  | _ => ("java/util/AbstractList", "modCount", "I", false)
abbrev rC12 : vw_C := ("java/util/ArrayList", T12_, 3)
def ev_cl : List vw_C := [rC0, rC1, rC2, rC3, rC4, rC5, rC6, rC7, rC8, rC9, rC10, rC11, rC12]
abbrev M_P_init : ev_M := (⟨"PostingShelf", "<init>", "()V"⟩, prog_1_method_1_code, 1, none, 5, 100)
abbrev M_Obj_init : ev_M := (⟨"java/lang/Object", "<init>", "()V"⟩, object_method_1_code, 1, none, 0, 0)
abbrev M_St_init : ev_M := (⟨"PostingShelf$Stemmer", "<init>", "()V"⟩, prog_10_method_1_code, 1, none, 1, 20)
abbrev M_Pe_init : ev_M := (⟨"PostingShelf$Pending", "<init>", "()V"⟩, prog_4_method_1_code, 1, none, 4, 80)
abbrev M_AL_init : ev_M := (⟨"java/util/ArrayList", "<init>", "()V"⟩, prog_26_method_2_code, 1, none, 3, 60)
abbrev M_AbL_init : ev_M := (⟨"java/util/AbstractList", "<init>", "()V"⟩, prog_25_method_1_code, 1, none, 2, 40)
abbrev M_AbC_init : ev_M := (⟨"java/util/AbstractCollection", "<init>", "()V"⟩, prog_24_method_1_code, 1, none, 1, 20)
abbrev M_Sh_init : ev_M := (⟨"PostingShelf$Shelf", "<init>", "()V"⟩, prog_9_method_1_code, 1, none, 4, 80)
abbrev M_Ma_init : ev_M := (⟨"PostingShelf$Machine", "<init>", "()V"⟩, prog_3_method_1_code, 1, none, 1, 20)
abbrev M_Qs_init : ev_M := (⟨"PostingShelf$QueryStack", "<init>", "()V"⟩, prog_5_method_1_code, 1, none, 4, 80)
abbrev M_Ra_init : ev_M := (⟨"PostingShelf$Ranking", "<init>", "()V"⟩, prog_6_method_1_code, 1, none, 1, 20)
abbrev M_Re_init : ev_M := (⟨"PostingShelf$Results", "<init>", "()V"⟩, prog_7_method_1_code, 1, none, 1, 20)
abbrev M_P_stem : ev_M := (⟨"PostingShelf", "stem", "(J)J"⟩, prog_1_method_2_code, 3, (Option.some Jvm.ClassFile.FieldType.long), 11, 244)
abbrev M_St_isWord : ev_M := (⟨"PostingShelf$Stemmer", "isWord", "(J)Z"⟩, prog_10_method_2_code, 7, (Option.some Jvm.ClassFile.FieldType.boolean), 0, 0)
abbrev M_St_stemOf : ev_M := (⟨"PostingShelf$Stemmer", "stemOf", "(J)J"⟩, prog_10_method_5_code, 3, (Option.some Jvm.ClassFile.FieldType.long), 10, 222)
abbrev M_St_unpack : ev_M := (⟨"PostingShelf$Stemmer", "unpack", "(J)V"⟩, prog_10_method_6_code, 6, none, 8, 181)
abbrev M_St_append : ev_M := (⟨"PostingShelf$Stemmer", "append", "(C)V"⟩, prog_10_method_8_code, 3, none, 7, 159)
abbrev M_Str_indexOf : ev_M := (⟨"java/lang/String", "indexOf", "(I)I"⟩, prog_20_method_79_code, 2, (Option.some Jvm.ClassFile.FieldType.int), 6, 138)
abbrev M_Str_indexOf2 : ev_M := (⟨"java/lang/String", "indexOf", "(II)I"⟩, prog_20_method_80_code, 3, (Option.some Jvm.ClassFile.FieldType.int), 5, 116)
abbrev M_Str_isLatin1 : ev_M := (⟨"java/lang/String", "isLatin1", "()Z"⟩, prog_20_method_154_code, 1, (Option.some Jvm.ClassFile.FieldType.boolean), 0, 0)
abbrev M_Str_length : ev_M := (⟨"java/lang/String", "length", "()I"⟩, prog_20_method_54_code, 1, (Option.some Jvm.ClassFile.FieldType.int), 1, 20)
abbrev M_Str_coder : ev_M := (⟨"java/lang/String", "coder", "()B"⟩, prog_20_method_152_code, 1, (Option.some Jvm.ClassFile.FieldType.byte), 0, 0)
abbrev M_Lat_indexOf : ev_M := (⟨"java/lang/StringLatin1", "indexOf", "([BIII)I"⟩, prog_21_method_22_code, 4, (Option.some Jvm.ClassFile.FieldType.int), 1, 25)
abbrev M_Lat_canEncode : ev_M := (⟨"java/lang/StringLatin1", "canEncode", "(I)Z"⟩, prog_21_method_4_code, 1, (Option.some Jvm.ClassFile.FieldType.boolean), 0, 0)
abbrev M_Mth_max : ev_M := (⟨"java/lang/Math", "max", "(II)I"⟩, prog_19_method_65_code, 2, (Option.some Jvm.ClassFile.FieldType.int), 0, 0)
abbrev M_Mth_min : ev_M := (⟨"java/lang/Math", "min", "(II)I"⟩, prog_19_method_69_code, 2, (Option.some Jvm.ClassFile.FieldType.int), 0, 0)
abbrev M_Lat_indexOfChar : ev_M := (⟨"java/lang/StringLatin1", "indexOfChar", "([BIII)I"⟩, prog_21_method_23_code, 6, (Option.some Jvm.ClassFile.FieldType.int), 0, 0)
abbrev M_Utf_indexOf : ev_M := (⟨"java/lang/StringUTF16", "indexOf", "([BIII)I"⟩, prog_22_method_40_code, 4, (Option.some Jvm.ClassFile.FieldType.int), 4, 93)
abbrev M_Utf_indexOfChar : ev_M := (⟨"java/lang/StringUTF16", "indexOfChar", "([BIII)I"⟩, prog_22_method_47_code, 4, (Option.some Jvm.ClassFile.FieldType.int), 3, 67)
abbrev M_Utf_checkBoundsBeginEnd : ev_M := (⟨"java/lang/StringUTF16", "checkBoundsBeginEnd", "(II[B)V"⟩, prog_22_method_93_code, 3, none, 2, 45)
abbrev M_Utf_length : ev_M := (⟨"java/lang/StringUTF16", "length", "([B)I"⟩, prog_22_method_6_code, 1, (Option.some Jvm.ClassFile.FieldType.int), 0, 0)
abbrev M_Str_checkBoundsBeginEnd : ev_M := (⟨"java/lang/String", "checkBoundsBeginEnd", "(III)V"⟩, prog_20_method_158_code, 3, none, 1, 23)
abbrev M_Pre_checkFromToIndex : ev_M := (⟨"jdk/internal/util/Preconditions", "checkFromToIndex", "(IIILjava/util/function/BiFunction;)I"⟩, prog_34_method_12_code, 4, (Option.some Jvm.ClassFile.FieldType.int), 0, 0)
abbrev M_Utf_indexOfCharUnsafe : ev_M := (⟨"java/lang/StringUTF16", "indexOfCharUnsafe", "([BIII)I"⟩, prog_22_method_48_code, 5, (Option.some Jvm.ClassFile.FieldType.int), 2, 41)
abbrev M_Utf_getChar : ev_M := (⟨"java/lang/StringUTF16", "getChar", "([BI)C"⟩, prog_22_method_5_code, 2, (Option.some Jvm.ClassFile.FieldType.char), 1, 20)
abbrev M_Utf_indexOfSupplementary : ev_M := (⟨"java/lang/StringUTF16", "indexOfSupplementary", "([BIII)I"⟩, prog_22_method_49_code, 7, (Option.some Jvm.ClassFile.FieldType.int), 3, 67)
abbrev M_Chr_isValidCodePoint : ev_M := (⟨"java/lang/Character", "isValidCodePoint", "(I)Z"⟩, prog_15_method_11_code, 2, (Option.some Jvm.ClassFile.FieldType.boolean), 0, 0)
abbrev M_Chr_highSurrogate : ev_M := (⟨"java/lang/Character", "highSurrogate", "(I)C"⟩, prog_15_method_28_code, 1, (Option.some Jvm.ClassFile.FieldType.char), 0, 0)
abbrev M_Chr_lowSurrogate : ev_M := (⟨"java/lang/Character", "lowSurrogate", "(I)C"⟩, prog_15_method_29_code, 1, (Option.some Jvm.ClassFile.FieldType.char), 0, 0)
abbrev M_St_dropPlural : ev_M := (⟨"PostingShelf$Stemmer", "dropPlural", "()V"⟩, prog_10_method_9_code, 1, none, 6, 129)
abbrev M_St_endsIn : ev_M := (⟨"PostingShelf$Stemmer", "endsIn", "(Ljava/lang/String;)Z"⟩, prog_10_method_13_code, 4, (Option.some Jvm.ClassFile.FieldType.boolean), 5, 106)
abbrev M_Str_charAt : ev_M := (⟨"java/lang/String", "charAt", "(I)C"⟩, prog_20_method_56_code, 2, (Option.some Jvm.ClassFile.FieldType.char), 4, 85)
abbrev M_Lat_charAt : ev_M := (⟨"java/lang/StringLatin1", "charAt", "([BI)C"⟩, prog_21_method_2_code, 2, (Option.some Jvm.ClassFile.FieldType.char), 2, 43)
abbrev M_Str_checkIndex : ev_M := (⟨"java/lang/String", "checkIndex", "(II)V"⟩, prog_20_method_155_code, 2, none, 1, 22)
abbrev M_Pre_checkIndex : ev_M := (⟨"jdk/internal/util/Preconditions", "checkIndex", "(IILjava/util/function/BiFunction;)I"⟩, prog_34_method_11_code, 3, (Option.some Jvm.ClassFile.FieldType.int), 0, 0)
abbrev M_Utf_charAt : ev_M := (⟨"java/lang/StringUTF16", "charAt", "([BI)C"⟩, prog_22_method_83_code, 2, (Option.some Jvm.ClassFile.FieldType.char), 3, 64)
abbrev M_Utf_checkIndex : ev_M := (⟨"java/lang/StringUTF16", "checkIndex", "(I[B)V"⟩, prog_22_method_91_code, 2, none, 2, 43)
abbrev M_St_dropPastOrGerund : ev_M := (⟨"PostingShelf$Stemmer", "dropPastOrGerund", "()V"⟩, prog_10_method_10_code, 2, none, 9, 201)
abbrev M_St_measure : ev_M := (⟨"PostingShelf$Stemmer", "measure", "(I)I"⟩, prog_10_method_16_code, 4, (Option.some Jvm.ClassFile.FieldType.int), 0, 0)
abbrev M_St_hasVowel : ev_M := (⟨"PostingShelf$Stemmer", "hasVowel", "(I)Z"⟩, prog_10_method_17_code, 3, (Option.some Jvm.ClassFile.FieldType.boolean), 0, 0)
abbrev M_St_mendEnd : ev_M := (⟨"PostingShelf$Stemmer", "mendEnd", "()V"⟩, prog_10_method_11_code, 1, none, 8, 181)
abbrev M_St_endsInDouble : ev_M := (⟨"PostingShelf$Stemmer", "endsInDouble", "()Z"⟩, prog_10_method_14_code, 2, (Option.some Jvm.ClassFile.FieldType.boolean), 7, 159)
abbrev M_St_endsShort : ev_M := (⟨"PostingShelf$Stemmer", "endsShort", "()Z"⟩, prog_10_method_15_code, 1, (Option.some Jvm.ClassFile.FieldType.boolean), 7, 159)
abbrev M_St_turnFinalY : ev_M := (⟨"PostingShelf$Stemmer", "turnFinalY", "()V"⟩, prog_10_method_12_code, 1, none, 8, 181)
abbrev M_St_packed : ev_M := (⟨"PostingShelf$Stemmer", "packed", "()J"⟩, prog_10_method_7_code, 4, (Option.some Jvm.ClassFile.FieldType.long), 0, 0)
abbrev M_P_feed : ev_M := (⟨"PostingShelf", "feed", "(J)I"⟩, prog_1_method_3_code, 3, (Option.some Jvm.ClassFile.FieldType.int), 12, 266)
abbrev M_St_termOf : ev_M := (⟨"PostingShelf$Stemmer", "termOf", "(J)J"⟩, prog_10_method_4_code, 3, (Option.some Jvm.ClassFile.FieldType.long), 11, 244)
abbrev M_St_isStopWord : ev_M := (⟨"PostingShelf$Stemmer", "isStopWord", "(J)Z"⟩, prog_10_method_3_code, 3, (Option.some Jvm.ClassFile.FieldType.boolean), 0, 0)
abbrev M_P_add : ev_M := (⟨"PostingShelf", "add", "(I)I"⟩, prog_1_method_4_code, 2, (Option.some Jvm.ClassFile.FieldType.int), 8, 212)
abbrev M_P_isId : ev_M := (⟨"PostingShelf", "isId", "(I)Z"⟩, prog_1_method_19_code, 1, (Option.some Jvm.ClassFile.FieldType.boolean), 0, 0)
abbrev M_Arr_copyOf : ev_M := (⟨"java/util/Arrays", "copyOf", "([JI)[J"⟩, prog_27_method_124_code, 3, (Option.some (Jvm.ClassFile.FieldType.array Jvm.ClassFile.FieldType.long)), 1, 60)
abbrev M_D_init : ev_M := (⟨"PostingShelf$Document", "<init>", "(I[J)V"⟩, prog_2_method_1_code, 3, none, 1, 20)
abbrev M_Pe_putDocument : ev_M := (⟨"PostingShelf$Pending", "putDocument", "(LPostingShelf$Document;)V"⟩, prog_4_method_3_code, 2, none, 7, 191)
abbrev M_Pe_dropDocument : ev_M := (⟨"PostingShelf$Pending", "dropDocument", "(I)V"⟩, prog_4_method_5_code, 3, none, 3, 106)
abbrev M_AL_size : ev_M := (⟨"java/util/ArrayList", "size", "()I"⟩, prog_26_method_8_code, 1, (Option.some Jvm.ClassFile.FieldType.int), 0, 0)
abbrev M_AL_get : ev_M := (⟨"java/util/ArrayList", "get", "(I)Ljava/lang/Object;"⟩, prog_26_method_20_code, 2, (Option.some (Jvm.ClassFile.FieldType.object "java/lang/Object")), 2, 43)
abbrev M_Obs_checkIndex : ev_M := (⟨"java/util/Objects", "checkIndex", "(II)I"⟩, prog_30_method_17_code, 2, (Option.some Jvm.ClassFile.FieldType.int), 1, 22)
abbrev M_AL_elementData : ev_M := (⟨"java/util/ArrayList", "elementData", "(I)Ljava/lang/Object;"⟩, prog_26_method_18_code, 2, (Option.some (Jvm.ClassFile.FieldType.object "java/lang/Object")), 0, 0)
abbrev M_AL_remove : ev_M := (⟨"java/util/ArrayList", "remove", "(I)Ljava/lang/Object;"⟩, prog_26_method_29_code, 4, (Option.some (Jvm.ClassFile.FieldType.object "java/lang/Object")), 2, 83)
abbrev M_AL_fastRemove : ev_M := (⟨"java/util/ArrayList", "fastRemove", "([Ljava/lang/Object;I)V"⟩, prog_26_method_39_code, 4, none, 1, 60)
abbrev M_AL_add : ev_M := (⟨"java/util/ArrayList", "add", "(Ljava/lang/Object;)Z"⟩, prog_26_method_25_code, 2, (Option.some Jvm.ClassFile.FieldType.boolean), 6, 170)
abbrev M_AL_add2 : ev_M := (⟨"java/util/ArrayList", "add", "(Ljava/lang/Object;[Ljava/lang/Object;I)V"⟩, prog_26_method_24_code, 4, none, 5, 147)
abbrev M_AL_grow : ev_M := (⟨"java/util/ArrayList", "grow", "()[Ljava/lang/Object;"⟩, prog_26_method_7_code, 1, (Option.some (Jvm.ClassFile.FieldType.array (Jvm.ClassFile.FieldType.object "java/lang/Object"))), 4, 127)
abbrev M_AL_grow2 : ev_M := (⟨"java/util/ArrayList", "grow", "(I)[Ljava/lang/Object;"⟩, prog_26_method_6_code, 4, (Option.some (Jvm.ClassFile.FieldType.array (Jvm.ClassFile.FieldType.object "java/lang/Object"))), 3, 104)
abbrev M_ASup_newLength : ev_M := (⟨"jdk/internal/util/ArraysSupport", "newLength", "(III)I"⟩, prog_33_method_27_code, 4, (Option.some Jvm.ClassFile.FieldType.int), 1, 22)
abbrev M_ASup_hugeLength : ev_M := (⟨"jdk/internal/util/ArraysSupport", "hugeLength", "(II)I"⟩, prog_33_method_28_code, 3, (Option.some Jvm.ClassFile.FieldType.int), 0, 0)
abbrev M_Arr_copyOf2 : ev_M := (⟨"java/util/Arrays", "copyOf", "([Ljava/lang/Object;I)[Ljava/lang/Object;"⟩, prog_27_method_119_code, 2, (Option.some (Jvm.ClassFile.FieldType.array (Jvm.ClassFile.FieldType.object "java/lang/Object"))), 2, 83)
abbrev M_Arr_copyOf3 : ev_M := (⟨"java/util/Arrays", "copyOf", "([Ljava/lang/Object;ILjava/lang/Class;)[Ljava/lang/Object;"⟩, prog_27_method_120_code, 4, (Option.some (Jvm.ClassFile.FieldType.array (Jvm.ClassFile.FieldType.object "java/lang/Object"))), 1, 60)
abbrev M_Pe_idCount : ev_M := (⟨"PostingShelf$Pending", "idCount", "()I"⟩, prog_4_method_2_code, 1, (Option.some Jvm.ClassFile.FieldType.int), 1, 20)
abbrev M_Int_bitCount : ev_M := (⟨"java/lang/Integer", "bitCount", "(I)I"⟩, prog_17_method_49_code, 1, (Option.some Jvm.ClassFile.FieldType.int), 0, 0)
abbrev M_P_delete : ev_M := (⟨"PostingShelf", "delete", "(I)I"⟩, prog_1_method_5_code, 2, (Option.some Jvm.ClassFile.FieldType.int), 5, 149)
abbrev M_Pe_putDeletion : ev_M := (⟨"PostingShelf$Pending", "putDeletion", "(I)V"⟩, prog_4_method_4_code, 2, none, 4, 128)
abbrev M_P_commit : ev_M := (⟨"PostingShelf", "commit", "()I"⟩, prog_1_method_6_code, 2, (Option.some Jvm.ClassFile.FieldType.int), 9, 237)
abbrev M_AL_isEmpty : ev_M := (⟨"java/util/ArrayList", "isEmpty", "()Z"⟩, prog_26_method_9_code, 1, (Option.some Jvm.ClassFile.FieldType.boolean), 0, 0)
abbrev M_Sh_hasLiveAmong : ev_M := (⟨"PostingShelf$Shelf", "hasLiveAmong", "(I)Z"⟩, prog_9_method_2_code, 3, (Option.some Jvm.ClassFile.FieldType.boolean), 3, 64)
abbrev M_P_isAmong : ev_M := (⟨"PostingShelf", "isAmong", "(II)Z"⟩, prog_1_method_20_code, 2, (Option.some Jvm.ClassFile.FieldType.boolean), 0, 0)
abbrev M_Ma_writeBlocks : ev_M := (⟨"PostingShelf$Machine", "writeBlocks", "(I)Z"⟩, prog_3_method_2_code, 3, (Option.some Jvm.ClassFile.FieldType.boolean), 1, 20)
abbrev M_Ma_writeBlock : ev_M := (⟨"PostingShelf$Machine", "writeBlock", "()V"⟩, prog_3_method_3_code, 1, none, 0, 0)
abbrev M_Sh_takeIn : ev_M := (⟨"PostingShelf$Shelf", "takeIn", "(LPostingShelf$Pending;)V"⟩, prog_9_method_3_code, 2, none, 8, 216)
abbrev M_Sh_markDeleted : ev_M := (⟨"PostingShelf$Shelf", "markDeleted", "(I)V"⟩, prog_9_method_4_code, 3, none, 3, 106)
abbrev M_Sh_appendSegment : ev_M := (⟨"PostingShelf$Shelf", "appendSegment", "(Ljava/util/ArrayList;)V"⟩, prog_9_method_5_code, 4, none, 7, 193)
abbrev M_Sg_init : ev_M := (⟨"PostingShelf$Segment", "<init>", "()V"⟩, prog_8_method_1_code, 1, none, 4, 80)
abbrev M_Sh_insertLive : ev_M := (⟨"PostingShelf$Shelf", "insertLive", "(LPostingShelf$Document;)V"⟩, prog_9_method_6_code, 3, none, 6, 171)
abbrev M_AL_add3 : ev_M := (⟨"java/util/ArrayList", "add", "(ILjava/lang/Object;)V"⟩, prog_26_method_26_code, 5, none, 5, 147)
abbrev M_AL_rangeCheckForAdd : ev_M := (⟨"java/util/ArrayList", "rangeCheckForAdd", "(I)V"⟩, prog_26_method_45_code, 2, none, 0, 0)
abbrev M_Pe_clear : ev_M := (⟨"PostingShelf$Pending", "clear", "()V"⟩, prog_4_method_6_code, 1, none, 1, 23)
abbrev M_AL_clear : ev_M := (⟨"java/util/ArrayList", "clear", "()V"⟩, prog_26_method_40_code, 4, none, 0, 0)
abbrev M_P_goDown : ev_M := (⟨"PostingShelf", "goDown", "()I"⟩, prog_1_method_22_code, 1, (Option.some Jvm.ClassFile.FieldType.int), 2, 43)
abbrev M_Qs_clear : ev_M := (⟨"PostingShelf$QueryStack", "clear", "()V"⟩, prog_5_method_2_code, 1, none, 1, 23)
abbrev M_P_merge : ev_M := (⟨"PostingShelf", "merge", "(I)I"⟩, prog_1_method_7_code, 3, (Option.some Jvm.ClassFile.FieldType.int), 9, 236)
abbrev M_Sh_joinedFrom : ev_M := (⟨"PostingShelf$Shelf", "joinedFrom", "(I)LPostingShelf$Segment;"⟩, prog_9_method_7_code, 4, (Option.some (Jvm.ClassFile.FieldType.object "PostingShelf$Segment")), 8, 213)
abbrev M_Sg_copyLive : ev_M := (⟨"PostingShelf$Segment", "copyLive", "(Ljava/util/ArrayList;)V"⟩, prog_8_method_3_code, 3, none, 7, 191)
abbrev M_Sg_isLive : ev_M := (⟨"PostingShelf$Segment", "isLive", "(I)Z"⟩, prog_8_method_2_code, 2, (Option.some Jvm.ClassFile.FieldType.boolean), 3, 64)
abbrev M_Sh_replaceTwo : ev_M := (⟨"PostingShelf$Shelf", "replaceTwo", "(ILPostingShelf$Segment;)V"⟩, prog_9_method_8_code, 3, none, 3, 106)
abbrev M_AL_set : ev_M := (⟨"java/util/ArrayList", "set", "(ILjava/lang/Object;)Ljava/lang/Object;"⟩, prog_26_method_23_code, 4, (Option.some (Jvm.ClassFile.FieldType.object "java/lang/Object")), 2, 43)
abbrev M_P_fuse : ev_M := (⟨"PostingShelf", "fuse", "(I)Z"⟩, prog_1_method_8_code, 2, (Option.some Jvm.ClassFile.FieldType.boolean), 0, 0)
abbrev M_P_restart : ev_M := (⟨"PostingShelf", "restart", "()Z"⟩, prog_1_method_9_code, 2, (Option.some Jvm.ClassFile.FieldType.boolean), 0, 0)
abbrev M_P_term : ev_M := (⟨"PostingShelf", "term", "(J)I"⟩, prog_1_method_10_code, 3, (Option.some Jvm.ClassFile.FieldType.int), 12, 266)
abbrev M_Qs_pushTerm : ev_M := (⟨"PostingShelf$QueryStack", "pushTerm", "(J)I"⟩, prog_5_method_7_code, 4, (Option.some Jvm.ClassFile.FieldType.int), 8, 215)
abbrev M_Sp_init : ev_M := (⟨"PostingShelf$Step", "<init>", "(I[J)V"⟩, prog_11_method_1_code, 3, none, 1, 20)
abbrev M_Qs_push : ev_M := (⟨"PostingShelf$QueryStack", "push", "(LPostingShelf$Step;II)I"⟩, prog_5_method_10_code, 5, (Option.some Jvm.ClassFile.FieldType.int), 7, 191)
abbrev M_P_phrase : ev_M := (⟨"PostingShelf", "phrase", "(I)I"⟩, prog_1_method_11_code, 2, (Option.some Jvm.ClassFile.FieldType.int), 9, 238)
abbrev M_Qs_areTerms : ev_M := (⟨"PostingShelf$QueryStack", "areTerms", "(I)Z"⟩, prog_5_method_3_code, 2, (Option.some Jvm.ClassFile.FieldType.boolean), 2, 44)
abbrev M_Qs_deepest : ev_M := (⟨"PostingShelf$QueryStack", "deepest", "(I)I"⟩, prog_5_method_4_code, 4, (Option.some Jvm.ClassFile.FieldType.int), 1, 21)
abbrev M_Qs_makePhrase : ev_M := (⟨"PostingShelf$QueryStack", "makePhrase", "(I)I"⟩, prog_5_method_8_code, 4, (Option.some Jvm.ClassFile.FieldType.int), 8, 215)
abbrev M_Qs_firstTerm : ev_M := (⟨"PostingShelf$QueryStack", "firstTerm", "(LPostingShelf$Step;)J"⟩, prog_5_method_6_code, 2, (Option.some Jvm.ClassFile.FieldType.long), 0, 0)
abbrev M_P_join : ev_M := (⟨"PostingShelf", "join", "(I)I"⟩, prog_1_method_12_code, 3, (Option.some Jvm.ClassFile.FieldType.int), 9, 237)
abbrev M_Qs_makeJoin : ev_M := (⟨"PostingShelf$QueryStack", "makeJoin", "(II)I"⟩, prog_5_method_9_code, 3, (Option.some Jvm.ClassFile.FieldType.int), 8, 215)
abbrev M_P_find : ev_M := (⟨"PostingShelf", "find", "()I"⟩, prog_1_method_13_code, 2, (Option.some Jvm.ClassFile.FieldType.int), 5, 112)
abbrev M_Re_clear : ev_M := (⟨"PostingShelf$Results", "clear", "()V"⟩, prog_7_method_2_code, 1, none, 0, 0)
abbrev M_P_collectMatches : ev_M := (⟨"PostingShelf", "collectMatches", "()V"⟩, prog_1_method_23_code, 3, none, 4, 90)
abbrev M_Qs_matches : ev_M := (⟨"PostingShelf$QueryStack", "matches", "(LPostingShelf$Document;)Z"⟩, prog_5_method_11_code, 4, (Option.some Jvm.ClassFile.FieldType.boolean), 3, 67)
abbrev M_Qs_answersBehind : ev_M := (⟨"PostingShelf$QueryStack", "answersBehind", "(LPostingShelf$Step;ILPostingShelf$Document;)I"⟩, prog_5_method_12_code, 3, (Option.some Jvm.ClassFile.FieldType.int), 2, 45)
abbrev M_D_hasRow : ev_M := (⟨"PostingShelf$Document", "hasRow", "([J)Z"⟩, prog_2_method_6_code, 3, (Option.some Jvm.ClassFile.FieldType.boolean), 1, 23)
abbrev M_D_hasRowAt : ev_M := (⟨"PostingShelf$Document", "hasRowAt", "(I[J)Z"⟩, prog_2_method_7_code, 4, (Option.some Jvm.ClassFile.FieldType.boolean), 0, 0)
abbrev M_Re_insert : ev_M := (⟨"PostingShelf$Results", "insert", "(III)V"⟩, prog_7_method_5_code, 6, none, 1, 21)
abbrev M_P_rank : ev_M := (⟨"PostingShelf", "rank", "(I)I"⟩, prog_1_method_14_code, 3, (Option.some Jvm.ClassFile.FieldType.int), 6, 142)
abbrev M_Ra_clear : ev_M := (⟨"PostingShelf$Ranking", "clear", "()V"⟩, prog_6_method_2_code, 1, none, 0, 0)
abbrev M_Ra_weighBag : ev_M := (⟨"PostingShelf$Ranking", "weighBag", "(LPostingShelf$QueryStack;Ljava/util/ArrayList;)V"⟩, prog_6_method_3_code, 5, none, 5, 118)
abbrev M_P_totalLength : ev_M := (⟨"PostingShelf", "totalLength", "(Ljava/util/ArrayList;)I"⟩, prog_1_method_21_code, 3, (Option.some Jvm.ClassFile.FieldType.int), 3, 64)
abbrev M_D_length : ev_M := (⟨"PostingShelf$Document", "length", "()I"⟩, prog_2_method_2_code, 3, (Option.some Jvm.ClassFile.FieldType.int), 0, 0)
abbrev M_Qs_termAt : ev_M := (⟨"PostingShelf$QueryStack", "termAt", "(I)J"⟩, prog_5_method_5_code, 2, (Option.some Jvm.ClassFile.FieldType.long), 3, 64)
abbrev M_Ra_weighTerm : ev_M := (⟨"PostingShelf$Ranking", "weighTerm", "(IJLjava/util/ArrayList;I)V"⟩, prog_6_method_4_code, 11, none, 4, 88)
abbrev M_Ra_holders : ev_M := (⟨"PostingShelf$Ranking", "holders", "(JLjava/util/ArrayList;)I"⟩, prog_6_method_5_code, 5, (Option.some Jvm.ClassFile.FieldType.int), 3, 64)
abbrev M_D_timesOf : ev_M := (⟨"PostingShelf$Document", "timesOf", "(J)I"⟩, prog_2_method_3_code, 5, (Option.some Jvm.ClassFile.FieldType.int), 0, 0)
abbrev M_Ra_rarity : ev_M := (⟨"PostingShelf$Ranking", "rarity", "(II)I"⟩, prog_6_method_6_code, 4, (Option.some Jvm.ClassFile.FieldType.int), 0, 0)
abbrev M_Ra_chooseBest : ev_M := (⟨"PostingShelf$Ranking", "chooseBest", "(ILjava/util/ArrayList;LPostingShelf$Results;)V"⟩, prog_6_method_7_code, 5, none, 3, 64)
abbrev M_Ra_hasTermOfBag : ev_M := (⟨"PostingShelf$Ranking", "hasTermOfBag", "(I)Z"⟩, prog_6_method_8_code, 3, (Option.some Jvm.ClassFile.FieldType.boolean), 0, 0)
abbrev M_Ra_boundOf : ev_M := (⟨"PostingShelf$Ranking", "boundOf", "(I)I"⟩, prog_6_method_10_code, 4, (Option.some Jvm.ClassFile.FieldType.int), 0, 0)
abbrev M_Re_leastWeight : ev_M := (⟨"PostingShelf$Results", "leastWeight", "()I"⟩, prog_7_method_4_code, 1, (Option.some Jvm.ClassFile.FieldType.int), 0, 0)
abbrev M_Ra_weightOf : ev_M := (⟨"PostingShelf$Ranking", "weightOf", "(I)I"⟩, prog_6_method_9_code, 4, (Option.some Jvm.ClassFile.FieldType.int), 1, 21)
abbrev M_P_result : ev_M := (⟨"PostingShelf", "result", "(I)I"⟩, prog_1_method_15_code, 2, (Option.some Jvm.ClassFile.FieldType.int), 1, 21)
abbrev M_Re_has : ev_M := (⟨"PostingShelf$Results", "has", "(I)Z"⟩, prog_7_method_3_code, 2, (Option.some Jvm.ClassFile.FieldType.boolean), 0, 0)
abbrev M_P_weight : ev_M := (⟨"PostingShelf", "weight", "(I)I"⟩, prog_1_method_16_code, 2, (Option.some Jvm.ClassFile.FieldType.int), 1, 21)
abbrev M_P_weighed : ev_M := (⟨"PostingShelf", "weighed", "()I"⟩, prog_1_method_17_code, 1, (Option.some Jvm.ClassFile.FieldType.int), 0, 0)
abbrev M_P_size : ev_M := (⟨"PostingShelf", "size", "(I)I"⟩, prog_1_method_18_code, 2, (Option.some Jvm.ClassFile.FieldType.int), 5, 108)
abbrev M_Sh_documentCount : ev_M := (⟨"PostingShelf$Shelf", "documentCount", "()I"⟩, prog_9_method_9_code, 3, (Option.some Jvm.ClassFile.FieldType.int), 3, 64)
abbrev M_Sh_entryCount : ev_M := (⟨"PostingShelf$Shelf", "entryCount", "()I"⟩, prog_9_method_10_code, 3, (Option.some Jvm.ClassFile.FieldType.int), 4, 86)
abbrev M_Sg_entryCount : ev_M := (⟨"PostingShelf$Segment", "entryCount", "()I"⟩, prog_8_method_4_code, 3, (Option.some Jvm.ClassFile.FieldType.int), 3, 64)
abbrev M_D_differentTerms : ev_M := (⟨"PostingShelf$Document", "differentTerms", "()I"⟩, prog_2_method_4_code, 3, (Option.some Jvm.ClassFile.FieldType.int), 1, 22)
abbrev M_D_isFirst : ev_M := (⟨"PostingShelf$Document", "isFirst", "(I)Z"⟩, prog_2_method_5_code, 3, (Option.some Jvm.ClassFile.FieldType.boolean), 0, 0)
abbrev M_Mo_init : ev_M := (⟨"PostingShelfModel", "<init>", "()V"⟩, prog_13_method_1_code, 1, none, 1, 20)
abbrev M_Mo_stem : ev_M := (⟨"PostingShelfModel", "stem", "(J)J"⟩, prog_13_method_18_code, 3, (Option.some Jvm.ClassFile.FieldType.long), 6, 144)
abbrev M_Mo_isWord : ev_M := (⟨"PostingShelfModel", "isWord", "(J)Z"⟩, prog_13_method_4_code, 4, (Option.some Jvm.ClassFile.FieldType.boolean), 1, 22)
abbrev M_Mo_length : ev_M := (⟨"PostingShelfModel", "length", "(J)I"⟩, prog_13_method_3_code, 3, (Option.some Jvm.ClassFile.FieldType.int), 0, 0)
abbrev M_Mo_letter : ev_M := (⟨"PostingShelfModel", "letter", "(JI)I"⟩, prog_13_method_2_code, 3, (Option.some Jvm.ClassFile.FieldType.int), 0, 0)
abbrev M_Mo_stemOf : ev_M := (⟨"PostingShelfModel", "stemOf", "(J)J"⟩, prog_13_method_17_code, 6, (Option.some Jvm.ClassFile.FieldType.long), 5, 119)
abbrev M_Mo_plural : ev_M := (⟨"PostingShelfModel", "plural", "(J)J"⟩, prog_13_method_13_code, 2, (Option.some Jvm.ClassFile.FieldType.long), 2, 46)
abbrev M_Mo_text : ev_M := (⟨"PostingShelfModel", "text", "(IIII)J"⟩, prog_13_method_9_code, 4, (Option.some Jvm.ClassFile.FieldType.long), 0, 0)
abbrev M_Mo_ends : ev_M := (⟨"PostingShelfModel", "ends", "(JJ)Z"⟩, prog_13_method_10_code, 5, (Option.some Jvm.ClassFile.FieldType.boolean), 1, 22)
abbrev M_Mo_without : ev_M := (⟨"PostingShelfModel", "without", "(JI)J"⟩, prog_13_method_11_code, 3, (Option.some Jvm.ClassFile.FieldType.long), 1, 22)
abbrev M_Mo_first : ev_M := (⟨"PostingShelfModel", "first", "(JI)J"⟩, prog_13_method_6_code, 3, (Option.some Jvm.ClassFile.FieldType.long), 0, 0)
abbrev M_Mo_past : ev_M := (⟨"PostingShelfModel", "past", "(J)J"⟩, prog_13_method_16_code, 3, (Option.some Jvm.ClassFile.FieldType.long), 4, 97)
abbrev M_Mo_measure : ev_M := (⟨"PostingShelfModel", "measure", "(JI)I"⟩, prog_13_method_7_code, 5, (Option.some Jvm.ClassFile.FieldType.int), 2, 47)
abbrev M_Mo_isVowel : ev_M := (⟨"PostingShelfModel", "isVowel", "(JI)Z"⟩, prog_13_method_5_code, 6, (Option.some Jvm.ClassFile.FieldType.boolean), 1, 22)
abbrev M_Mo_someVowel : ev_M := (⟨"PostingShelfModel", "someVowel", "(JI)Z"⟩, prog_13_method_8_code, 5, (Option.some Jvm.ClassFile.FieldType.boolean), 2, 47)
abbrev M_Mo_mended : ev_M := (⟨"PostingShelfModel", "mended", "(J)J"⟩, prog_13_method_15_code, 7, (Option.some Jvm.ClassFile.FieldType.long), 3, 71)
abbrev M_Mo_shortEnd : ev_M := (⟨"PostingShelfModel", "shortEnd", "(J)Z"⟩, prog_13_method_14_code, 3, (Option.some Jvm.ClassFile.FieldType.boolean), 2, 47)
abbrev M_Mo_feed : ev_M := (⟨"PostingShelfModel", "feed", "(J)I"⟩, prog_13_method_20_code, 3, (Option.some Jvm.ClassFile.FieldType.int), 7, 165)
abbrev M_Mo_termOf : ev_M := (⟨"PostingShelfModel", "termOf", "(J)J"⟩, prog_13_method_19_code, 2, (Option.some Jvm.ClassFile.FieldType.long), 6, 144)
abbrev M_Mo_isStop : ev_M := (⟨"PostingShelfModel", "isStop", "(J)Z"⟩, prog_13_method_12_code, 3, (Option.some Jvm.ClassFile.FieldType.boolean), 1, 23)
abbrev M_Mo_add : ev_M := (⟨"PostingShelfModel", "add", "(I)I"⟩, prog_13_method_23_code, 3, (Option.some Jvm.ClassFile.FieldType.int), 1, 22)
abbrev M_Mo_idle : ev_M := (⟨"PostingShelfModel", "idle", "()I"⟩, prog_13_method_22_code, 3, (Option.some Jvm.ClassFile.FieldType.int), 0, 0)
abbrev M_Mo_delete : ev_M := (⟨"PostingShelfModel", "delete", "(I)I"⟩, prog_13_method_24_code, 2, (Option.some Jvm.ClassFile.FieldType.int), 1, 22)
abbrev M_Mo_commit : ev_M := (⟨"PostingShelfModel", "commit", "()I"⟩, prog_13_method_30_code, 5, (Option.some Jvm.ClassFile.FieldType.int), 1, 23)
abbrev M_Mo_documents : ev_M := (⟨"PostingShelfModel", "documents", "()I"⟩, prog_13_method_21_code, 3, (Option.some Jvm.ClassFile.FieldType.int), 0, 0)
abbrev M_Mo_write : ev_M := (⟨"PostingShelfModel", "write", "(I)I"⟩, prog_13_method_26_code, 3, (Option.some Jvm.ClassFile.FieldType.int), 0, 0)
abbrev M_Mo_happen : ev_M := (⟨"PostingShelfModel", "happen", "()V"⟩, prog_13_method_29_code, 4, none, 0, 0)
abbrev M_Mo_stop : ev_M := (⟨"PostingShelfModel", "stop", "()V"⟩, prog_13_method_25_code, 2, none, 0, 0)
abbrev M_Mo_live : ev_M := (⟨"PostingShelfModel", "live", "()I"⟩, prog_13_method_28_code, 3, (Option.some Jvm.ClassFile.FieldType.int), 0, 0)
abbrev M_Mo_merge : ev_M := (⟨"PostingShelfModel", "merge", "(I)I"⟩, prog_13_method_32_code, 5, (Option.some Jvm.ClassFile.FieldType.int), 2, 48)
abbrev M_Mo_join2 : ev_M := (⟨"PostingShelfModel", "join2", "(I)V"⟩, prog_13_method_31_code, 6, none, 1, 23)
abbrev M_Mo_copyRow : ev_M := (⟨"PostingShelfModel", "copyRow", "(II)V"⟩, prog_13_method_27_code, 4, none, 0, 0)
abbrev M_Mo_fuse : ev_M := (⟨"PostingShelfModel", "fuse", "(I)Z"⟩, prog_13_method_33_code, 2, (Option.some Jvm.ClassFile.FieldType.boolean), 0, 0)
abbrev M_Mo_restart : ev_M := (⟨"PostingShelfModel", "restart", "()Z"⟩, prog_13_method_34_code, 2, (Option.some Jvm.ClassFile.FieldType.boolean), 0, 0)
abbrev M_Mo_term : ev_M := (⟨"PostingShelfModel", "term", "(J)I"⟩, prog_13_method_36_code, 3, (Option.some Jvm.ClassFile.FieldType.int), 7, 165)
abbrev M_Mo_push : ev_M := (⟨"PostingShelfModel", "push", "(IJZ)V"⟩, prog_13_method_35_code, 5, none, 0, 0)
abbrev M_Mo_phrase : ev_M := (⟨"PostingShelfModel", "phrase", "(I)I"⟩, prog_13_method_37_code, 3, (Option.some Jvm.ClassFile.FieldType.int), 1, 24)
abbrev M_Mo_join : ev_M := (⟨"PostingShelfModel", "join", "(I)I"⟩, prog_13_method_38_code, 3, (Option.some Jvm.ClassFile.FieldType.int), 1, 24)
abbrev M_Mo_find : ev_M := (⟨"PostingShelfModel", "find", "()I"⟩, prog_13_method_43_code, 3, (Option.some Jvm.ClassFile.FieldType.int), 2, 52)
abbrev M_Mo_lookUp : ev_M := (⟨"PostingShelfModel", "lookUp", "()V"⟩, prog_13_method_42_code, 2, none, 0, 0)
abbrev M_Mo_matches : ev_M := (⟨"PostingShelfModel", "matches", "(I)Z"⟩, prog_13_method_41_code, 5, (Option.some Jvm.ClassFile.FieldType.boolean), 1, 28)
abbrev M_Mo_times : ev_M := (⟨"PostingShelfModel", "times", "(IJ)I"⟩, prog_13_method_39_code, 6, (Option.some Jvm.ClassFile.FieldType.int), 0, 0)
abbrev M_Mo_phraseIn : ev_M := (⟨"PostingShelfModel", "phraseIn", "(III)Z"⟩, prog_13_method_40_code, 9, (Option.some Jvm.ClassFile.FieldType.boolean), 0, 0)
abbrev M_Mo_rank : ev_M := (⟨"PostingShelfModel", "rank", "(I)I"⟩, prog_13_method_52_code, 4, (Option.some Jvm.ClassFile.FieldType.int), 6, 158)
abbrev M_Mo_weighAll : ev_M := (⟨"PostingShelfModel", "weighAll", "(I)V"⟩, prog_13_method_50_code, 5, none, 5, 134)
abbrev M_Mo_sum : ev_M := (⟨"PostingShelfModel", "sum", "(IZ)J"⟩, prog_13_method_48_code, 7, (Option.some Jvm.ClassFile.FieldType.long), 4, 108)
abbrev M_Mo_bound : ev_M := (⟨"PostingShelfModel", "bound", "(J)J"⟩, prog_13_method_47_code, 8, (Option.some Jvm.ClassFile.FieldType.long), 3, 81)
abbrev M_Mo_weightOf : ev_M := (⟨"PostingShelfModel", "weightOf", "(IJ)J"⟩, prog_13_method_46_code, 17, (Option.some Jvm.ClassFile.FieldType.long), 2, 45)
abbrev M_Mo_lengths : ev_M := (⟨"PostingShelfModel", "lengths", "()I"⟩, prog_13_method_45_code, 3, (Option.some Jvm.ClassFile.FieldType.int), 1, 23)
abbrev M_Mo_lengthOf : ev_M := (⟨"PostingShelfModel", "lengthOf", "(I)I"⟩, prog_13_method_44_code, 4, (Option.some Jvm.ClassFile.FieldType.int), 0, 0)
abbrev M_Mo_least : ev_M := (⟨"PostingShelfModel", "least", "(I)J"⟩, prog_13_method_49_code, 8, (Option.some Jvm.ClassFile.FieldType.long), 0, 0)
abbrev M_Mo_best : ev_M := (⟨"PostingShelfModel", "best", "(I)V"⟩, prog_13_method_51_code, 5, none, 5, 134)
abbrev M_Mo_result : ev_M := (⟨"PostingShelfModel", "result", "(I)I"⟩, prog_13_method_53_code, 2, (Option.some Jvm.ClassFile.FieldType.int), 0, 0)
abbrev M_Mo_weight : ev_M := (⟨"PostingShelfModel", "weight", "(I)I"⟩, prog_13_method_54_code, 2, (Option.some Jvm.ClassFile.FieldType.int), 0, 0)
abbrev M_Mo_weighed : ev_M := (⟨"PostingShelfModel", "weighed", "()I"⟩, prog_13_method_55_code, 1, (Option.some Jvm.ClassFile.FieldType.int), 0, 0)
abbrev M_Mo_size : ev_M := (⟨"PostingShelfModel", "size", "(I)I"⟩, prog_13_method_57_code, 4, (Option.some Jvm.ClassFile.FieldType.int), 2, 45)
abbrev M_Mo_different : ev_M := (⟨"PostingShelfModel", "different", "(I)I"⟩, prog_13_method_56_code, 8, (Option.some Jvm.ClassFile.FieldType.int), 0, 0)
abbrev M_La_law : ev_M := (⟨"PostingShelfLaw", "law", "([I)Z"⟩, code, 4, ret, 13, 288)
def ev_gw : List Cond := lw_tbl.filter ev_good
theorem ev_gw_good : ∀ w ∈ ev_gw, ev_good w = true := fun w h => (List.mem_filter.mp h).2
theorem ev_mt {w : Cond} (h : w ∈ tables_1) (hg : ev_good w = true) : w ∈ ev_gw := List.mem_filter.mpr ⟨List.mem_append_right _ h, hg⟩
theorem ev_ms {w : Cond} (h : w ∈ k2_sels lw_privs) (hg : ev_good w = true) : w ∈ ev_gw := List.mem_filter.mpr ⟨List.mem_append_left _ h, hg⟩
theorem ev_m1 {w : Cond} (h : w ∈ tables_1_1) (hg : ev_good w = true) : w ∈ ev_gw := ev_mt (List.mem_append_left _ h) hg
theorem ev_m2 {w : Cond} (h : w ∈ tables_1_2) (hg : ev_good w = true) : w ∈ ev_gw := ev_mt (List.mem_append_right _ (List.mem_append_left _ h)) hg
theorem ev_m3 {w : Cond} (h : w ∈ tables_1_3) (hg : ev_good w = true) : w ∈ ev_gw := ev_mt (List.mem_append_right _ (List.mem_append_right _ (List.mem_append_left _ h))) hg
theorem ev_m4 {w : Cond} (h : w ∈ tables_1_4) (hg : ev_good w = true) : w ∈ ev_gw := ev_mt (List.mem_append_right _ (List.mem_append_right _ (List.mem_append_right _ (List.mem_append_left _ h)))) hg
theorem ev_m5 {w : Cond} (h : w ∈ tables_1_5) (hg : ev_good w = true) : w ∈ ev_gw := ev_mt (List.mem_append_right _ (List.mem_append_right _ (List.mem_append_right _ (List.mem_append_right _ (List.mem_append_left _ h))))) hg
theorem ev_m6 {w : Cond} (h : w ∈ tables_1_6) (hg : ev_good w = true) : w ∈ ev_gw := ev_mt (List.mem_append_right _ (List.mem_append_right _ (List.mem_append_right _ (List.mem_append_right _ (List.mem_append_right _ (h)))))) hg
/-- the string constants: their places in the pool, texts, lengths, bytes -/
def ev_skey : List Nat := [62, 70, 76, 78, 80, 82, 87, 89, 98, 100, 102, 120, 122, 111]
def ev_stx : List String := ["aeiou", "sses", "ies", "s", "ss", "eed", "ed", "ing", "at", "bl", "iz", "lsz", "wxy", "y"]
def ev_sln : List Nat := [5, 4, 3, 1, 2, 3, 2, 3, 2, 2, 2, 3, 3, 1]
def ev_sby : List (List Int32) := [[97, 101, 105, 111, 117], [115, 115, 101, 115], [105, 101, 115], [115], [115, 115], [101, 101, 100], [101, 100], [105, 110, 103], [97, 116], [98, 108], [105, 122], [108, 115, 122], [119, 120, 121], [121]]
def ev_stop : List Int64 := [1, 449, 4545, 457, 207, 591, 5396, 500]
/-- what stood there before: the script (0), ArrayList's empty row (1), the row of stop words (2), the string constants (10 and on) and their bytes (40 and on), a Class object (3) -/
def ev_S (X : ev_X) (U : State) : Prop := (X.2.2.1 ≤ U.heap.size ∧ X.2.2.2.1 0 < X.2.2.1 ∧ va_X (X.2.2.2.1 0) X.2.2.2.2.1 X.2.2.2.2.2 U U.heap) ∧
  (va_Z "java/lang/String" "COMPACT_STRINGS" "Z" (.int 1) (ev_A X) U U.heap ∧ va_Zq "jdk/internal/util/Preconditions" "SIOOBE_FORMATTER" "Ljava/util/function/BiFunction;" (ev_A X) U U.heap) ∧
  (va_Z "java/util/ArrayList" "DEFAULTCAPACITY_EMPTY_ELEMENTDATA" "[Ljava/lang/Object;" (.ref (X.2.2.2.1 1)) (ev_A X) U U.heap ∧ va_T (.object "java/lang/Object") (X.2.2.2.1 1) 0 (fun _ => .null) (ev_A X) U U.heap ∧ va_O "[Ljava/lang/Object;" (X.2.2.2.1 1) (ev_A X) U U.heap) ∧
  (va_Z "PostingShelf" "STOP_WORDS" "[J" (.ref (X.2.2.2.1 2)) (ev_A X) U U.heap ∧ va_T .long (X.2.2.2.1 2) 8 (fun j => .long (ev_stop.getD j 0)) (ev_A X) U U.heap) ∧
  (vk_S 14 ev_sln ev_sby (fun i => X.2.2.2.1 (10 + i)) (fun i => X.2.2.2.1 (40 + i)) (ev_A X) U U.heap ∧ ∀ i, i < 14 → vk_R "PostingShelf$Stemmer" (ev_skey.getD i 0) (ev_stx.getD i "") (X.2.2.2.1 (10 + i)) U) ∧
  va_Mi "[Ljava/lang/Object;" (X.2.2.2.1 3) U
theorem ev_S.go {X : ev_X} {u U : State} (hvm : u.vm.Alike U.vm) (hsz : u.heap.size ≤ U.heap.size) (hq : ∀ q : Nat, q < u.heap.size → ¬ ev_A X q → U.heap[q]? = u.heap[q]?) (hr : ∀ own k tx a, vk_R own k tx a u → vk_R own k tx a U) (h : ev_S X u) : ev_S X U := by
  obtain ⟨⟨a1, a2, a3⟩, ⟨b1, b2⟩, ⟨c1, c2, c3⟩, ⟨d1, d2⟩, ⟨e1, e2⟩, f1⟩ := h
  refine ⟨⟨Nat.le_trans a1 hsz, a2, ?_⟩, ⟨(va_Z.moved hvm b1).kept hq, (va_Zq.moved hvm b2).kept hq⟩, ⟨(va_Z.moved hvm c1).kept hq, (va_T.moved hvm c2).kept hq, (va_O.moved hvm c3).kept hq⟩, ⟨(va_Z.moved hvm d1).kept hq, (va_T.moved hvm d2).kept hq⟩, ⟨(vk_S.moved hvm e1).kept hq, fun i hi => hr _ _ _ _ (e2 i hi)⟩, va_Mi.moved hvm f1⟩
  exact (va_X.moved hvm a3).kept (hq _ (Nat.lt_of_lt_of_le a2 a1) (fun z => Nat.lt_irrefl _ (Nat.lt_of_lt_of_le a2 z)))
theorem ev_S.same {X : ev_X} {u U : State} (hv : U.vm = u.vm) (hh : U.heap = u.heap) (h : ev_S X u) : ev_S X U := ev_S.go (by rw [hv]; exact Vm.Alike.refl _) (by rw [hh]; exact Nat.le_refl _) (fun q _ _ => by rw [hh]) (fun _ _ _ _ h => vk_R.same hv h) h
theorem ev_S.warm {X : ev_X} {s U : State} (hW : s.WarmedH U.vm) (hsz : s.heap.size ≤ U.heap.size) (hq : ∀ q : Nat, q < s.heap.size → ¬ ev_A X q → U.heap[q]? = s.heap[q]?) (h : ev_S X s) : ev_S X U := ev_S.go hW.alike hsz hq (fun _ _ _ _ h => vk_R.warm hW h) h
end
section
theorem wd_1 : (Jvm.Cond.initialized "PostingShelf") ∈ ev_gw := ev_m1 (List.mem_of_getElem? (i := 1) rfl) rfl
theorem wd_10 : (Jvm.Cond.initialized "PostingShelf$Ranking") ∈ ev_gw := ev_m1 (List.mem_of_getElem? (i := 10) rfl) rfl
theorem wd_100 : (Jvm.Cond.instanceMethod ({ cls := "PostingShelf$Shelf", name := "<init>", desc := "()V" } : Jvm.MethodName)) ∈ ev_gw := ev_m1 (List.mem_of_getElem? (i := 100) rfl) rfl
theorem wd_1000 : (Jvm.Cond.code ({ cls := "PostingShelfModel", name := "stemOf", desc := "(J)J" } : Jvm.MethodName) prog_13_method_17_code (6 : Nat) (Option.some Jvm.ClassFile.FieldType.long)) ∈ ev_gw := ev_m5 (List.mem_of_getElem? (i := 40) rfl) rfl
theorem wd_1001 : (Jvm.Cond.methodLink "PostingShelfModel" (114 : Nat) ({ cls := "PostingShelfModel", name := "plural", desc := "(J)J" } : Jvm.MethodName)) ∈ ev_gw := ev_m5 (List.mem_of_getElem? (i := 41) rfl) rfl
theorem wd_1002 : (Jvm.Cond.static ({ cls := "PostingShelfModel", name := "plural", desc := "(J)J" } : Jvm.MethodName)) ∈ ev_gw := ev_m5 (List.mem_of_getElem? (i := 42) rfl) rfl
theorem wd_1003 : (Jvm.Cond.code ({ cls := "PostingShelfModel", name := "plural", desc := "(J)J" } : Jvm.MethodName) prog_13_method_13_code (2 : Nat) (Option.some Jvm.ClassFile.FieldType.long)) ∈ ev_gw := ev_m5 (List.mem_of_getElem? (i := 43) rfl) rfl
theorem wd_1004 : (Jvm.Cond.methodLink "PostingShelfModel" (87 : Nat) ({ cls := "PostingShelfModel", name := "text", desc := "(IIII)J" } : Jvm.MethodName)) ∈ ev_gw := ev_m5 (List.mem_of_getElem? (i := 44) rfl) rfl
theorem wd_1005 : (Jvm.Cond.static ({ cls := "PostingShelfModel", name := "text", desc := "(IIII)J" } : Jvm.MethodName)) ∈ ev_gw := ev_m5 (List.mem_of_getElem? (i := 45) rfl) rfl
theorem wd_1006 : (Jvm.Cond.code ({ cls := "PostingShelfModel", name := "text", desc := "(IIII)J" } : Jvm.MethodName) prog_13_method_9_code (4 : Nat) (Option.some Jvm.ClassFile.FieldType.long)) ∈ ev_gw := ev_m5 (List.mem_of_getElem? (i := 46) rfl) rfl
theorem wd_1007 : (Jvm.Cond.methodLink "PostingShelfModel" (91 : Nat) ({ cls := "PostingShelfModel", name := "ends", desc := "(JJ)Z" } : Jvm.MethodName)) ∈ ev_gw := ev_m5 (List.mem_of_getElem? (i := 47) rfl) rfl
theorem wd_1008 : (Jvm.Cond.static ({ cls := "PostingShelfModel", name := "ends", desc := "(JJ)Z" } : Jvm.MethodName)) ∈ ev_gw := ev_m5 (List.mem_of_getElem? (i := 48) rfl) rfl
theorem wd_1009 : (Jvm.Cond.code ({ cls := "PostingShelfModel", name := "ends", desc := "(JJ)Z" } : Jvm.MethodName) prog_13_method_10_code (5 : Nat) (Option.some Jvm.ClassFile.FieldType.boolean)) ∈ ev_gw := ev_m5 (List.mem_of_getElem? (i := 49) rfl) rfl
theorem wd_101 : (Jvm.Cond.code ({ cls := "PostingShelf$Shelf", name := "<init>", desc := "()V" } : Jvm.MethodName) prog_9_method_1_code (1 : Nat) (Option.none : Option Jvm.ClassFile.FieldType)) ∈ ev_gw := ev_m1 (List.mem_of_getElem? (i := 101) rfl) rfl
theorem wd_1010 : (Jvm.Cond.methodLink "PostingShelfModel" (95 : Nat) ({ cls := "PostingShelfModel", name := "without", desc := "(JI)J" } : Jvm.MethodName)) ∈ ev_gw := ev_m5 (List.mem_of_getElem? (i := 50) rfl) rfl
theorem wd_1011 : (Jvm.Cond.static ({ cls := "PostingShelfModel", name := "without", desc := "(JI)J" } : Jvm.MethodName)) ∈ ev_gw := ev_m5 (List.mem_of_getElem? (i := 51) rfl) rfl
theorem wd_1012 : (Jvm.Cond.code ({ cls := "PostingShelfModel", name := "without", desc := "(JI)J" } : Jvm.MethodName) prog_13_method_11_code (3 : Nat) (Option.some Jvm.ClassFile.FieldType.long)) ∈ ev_gw := ev_m5 (List.mem_of_getElem? (i := 52) rfl) rfl
theorem wd_1013 : (Jvm.Cond.methodLink "PostingShelfModel" (83 : Nat) ({ cls := "PostingShelfModel", name := "first", desc := "(JI)J" } : Jvm.MethodName)) ∈ ev_gw := ev_m5 (List.mem_of_getElem? (i := 53) rfl) rfl
theorem wd_1014 : (Jvm.Cond.static ({ cls := "PostingShelfModel", name := "first", desc := "(JI)J" } : Jvm.MethodName)) ∈ ev_gw := ev_m5 (List.mem_of_getElem? (i := 54) rfl) rfl
theorem wd_1015 : (Jvm.Cond.code ({ cls := "PostingShelfModel", name := "first", desc := "(JI)J" } : Jvm.MethodName) prog_13_method_6_code (3 : Nat) (Option.some Jvm.ClassFile.FieldType.long)) ∈ ev_gw := ev_m5 (List.mem_of_getElem? (i := 55) rfl) rfl
theorem wd_1016 : (Jvm.Cond.methodLink "PostingShelfModel" (117 : Nat) ({ cls := "PostingShelfModel", name := "past", desc := "(J)J" } : Jvm.MethodName)) ∈ ev_gw := ev_m5 (List.mem_of_getElem? (i := 56) rfl) rfl
theorem wd_1017 : (Jvm.Cond.static ({ cls := "PostingShelfModel", name := "past", desc := "(J)J" } : Jvm.MethodName)) ∈ ev_gw := ev_m5 (List.mem_of_getElem? (i := 57) rfl) rfl
theorem wd_1018 : (Jvm.Cond.code ({ cls := "PostingShelfModel", name := "past", desc := "(J)J" } : Jvm.MethodName) prog_13_method_16_code (3 : Nat) (Option.some Jvm.ClassFile.FieldType.long)) ∈ ev_gw := ev_m5 (List.mem_of_getElem? (i := 58) rfl) rfl
theorem wd_1019 : (Jvm.Cond.methodLink "PostingShelfModel" (100 : Nat) ({ cls := "PostingShelfModel", name := "measure", desc := "(JI)I" } : Jvm.MethodName)) ∈ ev_gw := ev_m5 (List.mem_of_getElem? (i := 59) rfl) rfl
theorem wd_102 : (Jvm.Cond.methodLink "PostingShelf$Shelf" (1 : Nat) ({ cls := "java/lang/Object", name := "<init>", desc := "()V" } : Jvm.MethodName)) ∈ ev_gw := ev_m1 (List.mem_of_getElem? (i := 102) rfl) rfl
theorem wd_1020 : (Jvm.Cond.static ({ cls := "PostingShelfModel", name := "measure", desc := "(JI)I" } : Jvm.MethodName)) ∈ ev_gw := ev_m5 (List.mem_of_getElem? (i := 60) rfl) rfl
theorem wd_1021 : (Jvm.Cond.code ({ cls := "PostingShelfModel", name := "measure", desc := "(JI)I" } : Jvm.MethodName) prog_13_method_7_code (5 : Nat) (Option.some Jvm.ClassFile.FieldType.int)) ∈ ev_gw := ev_m5 (List.mem_of_getElem? (i := 61) rfl) rfl
theorem wd_1022 : (Jvm.Cond.methodLink "PostingShelfModel" (79 : Nat) ({ cls := "PostingShelfModel", name := "isVowel", desc := "(JI)Z" } : Jvm.MethodName)) ∈ ev_gw := ev_m5 (List.mem_of_getElem? (i := 62) rfl) rfl
theorem wd_1023 : (Jvm.Cond.static ({ cls := "PostingShelfModel", name := "isVowel", desc := "(JI)Z" } : Jvm.MethodName)) ∈ ev_gw := ev_m5 (List.mem_of_getElem? (i := 63) rfl) rfl
theorem wd_1024 : (Jvm.Cond.code ({ cls := "PostingShelfModel", name := "isVowel", desc := "(JI)Z" } : Jvm.MethodName) prog_13_method_5_code (6 : Nat) (Option.some Jvm.ClassFile.FieldType.boolean)) ∈ ev_gw := ev_m5 (List.mem_of_getElem? (i := 64) rfl) rfl
theorem wd_1025 : (Jvm.Cond.methodLink "PostingShelfModel" (107 : Nat) ({ cls := "PostingShelfModel", name := "someVowel", desc := "(JI)Z" } : Jvm.MethodName)) ∈ ev_gw := ev_m5 (List.mem_of_getElem? (i := 65) rfl) rfl
theorem wd_1026 : (Jvm.Cond.static ({ cls := "PostingShelfModel", name := "someVowel", desc := "(JI)Z" } : Jvm.MethodName)) ∈ ev_gw := ev_m5 (List.mem_of_getElem? (i := 66) rfl) rfl
theorem wd_1027 : (Jvm.Cond.code ({ cls := "PostingShelfModel", name := "someVowel", desc := "(JI)Z" } : Jvm.MethodName) prog_13_method_8_code (5 : Nat) (Option.some Jvm.ClassFile.FieldType.boolean)) ∈ ev_gw := ev_m5 (List.mem_of_getElem? (i := 67) rfl) rfl
theorem wd_1028 : (Jvm.Cond.methodLink "PostingShelfModel" (110 : Nat) ({ cls := "PostingShelfModel", name := "mended", desc := "(J)J" } : Jvm.MethodName)) ∈ ev_gw := ev_m5 (List.mem_of_getElem? (i := 68) rfl) rfl
theorem wd_1029 : (Jvm.Cond.static ({ cls := "PostingShelfModel", name := "mended", desc := "(J)J" } : Jvm.MethodName)) ∈ ev_gw := ev_m5 (List.mem_of_getElem? (i := 69) rfl) rfl
theorem wd_103 : (Jvm.Cond.classLink "PostingShelf$Shelf" (7 : Nat) "java/util/ArrayList") ∈ ev_gw := ev_m1 (List.mem_of_getElem? (i := 103) rfl) rfl
theorem wd_1030 : (Jvm.Cond.code ({ cls := "PostingShelfModel", name := "mended", desc := "(J)J" } : Jvm.MethodName) prog_13_method_15_code (7 : Nat) (Option.some Jvm.ClassFile.FieldType.long)) ∈ ev_gw := ev_m5 (List.mem_of_getElem? (i := 70) rfl) rfl
theorem wd_1031 : (Jvm.Cond.constantLong "PostingShelfModel" (98 : Nat) (5 : Int64)) ∈ ev_gw := ev_m5 (List.mem_of_getElem? (i := 71) rfl) rfl
theorem wd_1032 : (Jvm.Cond.methodLink "PostingShelfModel" (103 : Nat) ({ cls := "PostingShelfModel", name := "shortEnd", desc := "(J)Z" } : Jvm.MethodName)) ∈ ev_gw := ev_m5 (List.mem_of_getElem? (i := 72) rfl) rfl
theorem wd_1033 : (Jvm.Cond.static ({ cls := "PostingShelfModel", name := "shortEnd", desc := "(J)Z" } : Jvm.MethodName)) ∈ ev_gw := ev_m5 (List.mem_of_getElem? (i := 73) rfl) rfl
theorem wd_1034 : (Jvm.Cond.code ({ cls := "PostingShelfModel", name := "shortEnd", desc := "(J)Z" } : Jvm.MethodName) prog_13_method_14_code (3 : Nat) (Option.some Jvm.ClassFile.FieldType.boolean)) ∈ ev_gw := ev_m5 (List.mem_of_getElem? (i := 74) rfl) rfl
theorem wd_1035 : (Jvm.Cond.constantLong "PostingShelfModel" (120 : Nat) (9 : Int64)) ∈ ev_gw := ev_m5 (List.mem_of_getElem? (i := 75) rfl) rfl
theorem wd_1036 : (Jvm.Cond.methodLink "PostingShelfLaw" (24 : Nat) ({ cls := "PostingShelfModel", name := "feed", desc := "(J)I" } : Jvm.MethodName)) ∈ ev_gw := ev_m5 (List.mem_of_getElem? (i := 76) rfl) rfl
theorem wd_1037 : (Jvm.Cond.instanceMethod ({ cls := "PostingShelfModel", name := "feed", desc := "(J)I" } : Jvm.MethodName)) ∈ ev_gw := ev_m5 (List.mem_of_getElem? (i := 77) rfl) rfl
theorem wd_1038 : (Jvm.Cond.selects "PostingShelfModel" ({ cls := "PostingShelfModel", name := "feed", desc := "(J)I" } : Jvm.MethodName) ({ cls := "PostingShelfModel", name := "feed", desc := "(J)I" } : Jvm.MethodName)) ∈ ev_gw := ev_m5 (List.mem_of_getElem? (i := 78) rfl) rfl
theorem wd_1039 : (Jvm.Cond.code ({ cls := "PostingShelfModel", name := "feed", desc := "(J)I" } : Jvm.MethodName) prog_13_method_20_code (3 : Nat) (Option.some Jvm.ClassFile.FieldType.int)) ∈ ev_gw := ev_m5 (List.mem_of_getElem? (i := 79) rfl) rfl
theorem wd_104 : (Jvm.Cond.methodLink "PostingShelf$Shelf" (9 : Nat) ({ cls := "java/util/ArrayList", name := "<init>", desc := "()V" } : Jvm.MethodName)) ∈ ev_gw := ev_m1 (List.mem_of_getElem? (i := 104) rfl) rfl
theorem wd_1040 : (Jvm.Cond.methodLink "PostingShelfModel" (139 : Nat) ({ cls := "PostingShelfModel", name := "termOf", desc := "(J)J" } : Jvm.MethodName)) ∈ ev_gw := ev_m5 (List.mem_of_getElem? (i := 80) rfl) rfl
theorem wd_1041 : (Jvm.Cond.static ({ cls := "PostingShelfModel", name := "termOf", desc := "(J)J" } : Jvm.MethodName)) ∈ ev_gw := ev_m5 (List.mem_of_getElem? (i := 81) rfl) rfl
theorem wd_1042 : (Jvm.Cond.code ({ cls := "PostingShelfModel", name := "termOf", desc := "(J)J" } : Jvm.MethodName) prog_13_method_19_code (2 : Nat) (Option.some Jvm.ClassFile.FieldType.long)) ∈ ev_gw := ev_m5 (List.mem_of_getElem? (i := 82) rfl) rfl
theorem wd_1043 : (Jvm.Cond.methodLink "PostingShelfModel" (128 : Nat) ({ cls := "PostingShelfModel", name := "isStop", desc := "(J)Z" } : Jvm.MethodName)) ∈ ev_gw := ev_m5 (List.mem_of_getElem? (i := 83) rfl) rfl
theorem wd_1044 : (Jvm.Cond.static ({ cls := "PostingShelfModel", name := "isStop", desc := "(J)Z" } : Jvm.MethodName)) ∈ ev_gw := ev_m5 (List.mem_of_getElem? (i := 84) rfl) rfl
theorem wd_1045 : (Jvm.Cond.code ({ cls := "PostingShelfModel", name := "isStop", desc := "(J)Z" } : Jvm.MethodName) prog_13_method_12_code (3 : Nat) (Option.some Jvm.ClassFile.FieldType.boolean)) ∈ ev_gw := ev_m5 (List.mem_of_getElem? (i := 85) rfl) rfl
theorem wd_1046 : (Jvm.Cond.methodLink "PostingShelfLaw" (29 : Nat) ({ cls := "PostingShelfModel", name := "add", desc := "(I)I" } : Jvm.MethodName)) ∈ ev_gw := ev_m5 (List.mem_of_getElem? (i := 86) rfl) rfl
theorem wd_1047 : (Jvm.Cond.instanceMethod ({ cls := "PostingShelfModel", name := "add", desc := "(I)I" } : Jvm.MethodName)) ∈ ev_gw := ev_m5 (List.mem_of_getElem? (i := 87) rfl) rfl
theorem wd_1048 : (Jvm.Cond.selects "PostingShelfModel" ({ cls := "PostingShelfModel", name := "add", desc := "(I)I" } : Jvm.MethodName) ({ cls := "PostingShelfModel", name := "add", desc := "(I)I" } : Jvm.MethodName)) ∈ ev_gw := ev_m5 (List.mem_of_getElem? (i := 88) rfl) rfl
theorem wd_1049 : (Jvm.Cond.code ({ cls := "PostingShelfModel", name := "add", desc := "(I)I" } : Jvm.MethodName) prog_13_method_23_code (3 : Nat) (Option.some Jvm.ClassFile.FieldType.int)) ∈ ev_gw := ev_m5 (List.mem_of_getElem? (i := 89) rfl) rfl
theorem wd_105 : (Jvm.Cond.fieldLink "PostingShelf$Shelf" (10 : Nat) "PostingShelf$Shelf" "segments" "Ljava/util/ArrayList;") ∈ ev_gw := ev_m1 (List.mem_of_getElem? (i := 105) rfl) rfl
theorem wd_1050 : (Jvm.Cond.methodLink "PostingShelfModel" (142 : Nat) ({ cls := "PostingShelfModel", name := "idle", desc := "()I" } : Jvm.MethodName)) ∈ ev_gw := ev_m5 (List.mem_of_getElem? (i := 90) rfl) rfl
theorem wd_1052 : (Jvm.Cond.instanceMethod ({ cls := "PostingShelfModel", name := "idle", desc := "()I" } : Jvm.MethodName)) ∈ ev_gw := ev_m5 (List.mem_of_getElem? (i := 92) rfl) rfl
theorem wd_1053 : (Jvm.Cond.code ({ cls := "PostingShelfModel", name := "idle", desc := "()I" } : Jvm.MethodName) prog_13_method_22_code (3 : Nat) (Option.some Jvm.ClassFile.FieldType.int)) ∈ ev_gw := ev_m5 (List.mem_of_getElem? (i := 93) rfl) rfl
theorem wd_1054 : (Jvm.Cond.methodLink "PostingShelfLaw" (33 : Nat) ({ cls := "PostingShelfModel", name := "delete", desc := "(I)I" } : Jvm.MethodName)) ∈ ev_gw := ev_m5 (List.mem_of_getElem? (i := 94) rfl) rfl
theorem wd_1055 : (Jvm.Cond.instanceMethod ({ cls := "PostingShelfModel", name := "delete", desc := "(I)I" } : Jvm.MethodName)) ∈ ev_gw := ev_m5 (List.mem_of_getElem? (i := 95) rfl) rfl
theorem wd_1056 : (Jvm.Cond.selects "PostingShelfModel" ({ cls := "PostingShelfModel", name := "delete", desc := "(I)I" } : Jvm.MethodName) ({ cls := "PostingShelfModel", name := "delete", desc := "(I)I" } : Jvm.MethodName)) ∈ ev_gw := ev_m5 (List.mem_of_getElem? (i := 96) rfl) rfl
theorem wd_1057 : (Jvm.Cond.code ({ cls := "PostingShelfModel", name := "delete", desc := "(I)I" } : Jvm.MethodName) prog_13_method_24_code (2 : Nat) (Option.some Jvm.ClassFile.FieldType.int)) ∈ ev_gw := ev_m5 (List.mem_of_getElem? (i := 97) rfl) rfl
theorem wd_1058 : (Jvm.Cond.methodLink "PostingShelfLaw" (38 : Nat) ({ cls := "PostingShelfModel", name := "commit", desc := "()I" } : Jvm.MethodName)) ∈ ev_gw := ev_m5 (List.mem_of_getElem? (i := 98) rfl) rfl
theorem wd_1059 : (Jvm.Cond.instanceMethod ({ cls := "PostingShelfModel", name := "commit", desc := "()I" } : Jvm.MethodName)) ∈ ev_gw := ev_m5 (List.mem_of_getElem? (i := 99) rfl) rfl
theorem wd_106 : (Jvm.Cond.fieldLinkNest "PostingShelf" (118 : Nat) "PostingShelf$Shelf" "segments" "Ljava/util/ArrayList;" "PostingShelf") ∈ ev_gw := ev_m1 (List.mem_of_getElem? (i := 106) rfl) rfl
theorem wd_1060 : (Jvm.Cond.selects "PostingShelfModel" ({ cls := "PostingShelfModel", name := "commit", desc := "()I" } : Jvm.MethodName) ({ cls := "PostingShelfModel", name := "commit", desc := "()I" } : Jvm.MethodName)) ∈ ev_gw := ev_m5 (List.mem_of_getElem? (i := 100) rfl) rfl
theorem wd_1061 : (Jvm.Cond.code ({ cls := "PostingShelfModel", name := "commit", desc := "()I" } : Jvm.MethodName) prog_13_method_30_code (5 : Nat) (Option.some Jvm.ClassFile.FieldType.int)) ∈ ev_gw := ev_m5 (List.mem_of_getElem? (i := 101) rfl) rfl
theorem wd_1062 : (Jvm.Cond.methodLink "PostingShelfModel" (164 : Nat) ({ cls := "PostingShelfModel", name := "documents", desc := "()I" } : Jvm.MethodName)) ∈ ev_gw := ev_m5 (List.mem_of_getElem? (i := 102) rfl) rfl
theorem wd_1064 : (Jvm.Cond.instanceMethod ({ cls := "PostingShelfModel", name := "documents", desc := "()I" } : Jvm.MethodName)) ∈ ev_gw := ev_m5 (List.mem_of_getElem? (i := 104) rfl) rfl
theorem wd_1065 : (Jvm.Cond.code ({ cls := "PostingShelfModel", name := "documents", desc := "()I" } : Jvm.MethodName) prog_13_method_21_code (3 : Nat) (Option.some Jvm.ClassFile.FieldType.int)) ∈ ev_gw := ev_m5 (List.mem_of_getElem? (i := 105) rfl) rfl
theorem wd_1066 : (Jvm.Cond.methodLink "PostingShelfModel" (167 : Nat) ({ cls := "PostingShelfModel", name := "write", desc := "(I)I" } : Jvm.MethodName)) ∈ ev_gw := ev_m5 (List.mem_of_getElem? (i := 106) rfl) rfl
theorem wd_1068 : (Jvm.Cond.instanceMethod ({ cls := "PostingShelfModel", name := "write", desc := "(I)I" } : Jvm.MethodName)) ∈ ev_gw := ev_m5 (List.mem_of_getElem? (i := 108) rfl) rfl
theorem wd_1069 : (Jvm.Cond.code ({ cls := "PostingShelfModel", name := "write", desc := "(I)I" } : Jvm.MethodName) prog_13_method_26_code (3 : Nat) (Option.some Jvm.ClassFile.FieldType.int)) ∈ ev_gw := ev_m5 (List.mem_of_getElem? (i := 109) rfl) rfl
theorem wd_107 : (Jvm.Cond.fieldLink "PostingShelf$Shelf" (16 : Nat) "PostingShelf$Shelf" "live" "Ljava/util/ArrayList;") ∈ ev_gw := ev_m1 (List.mem_of_getElem? (i := 107) rfl) rfl
theorem wd_1070 : (Jvm.Cond.methodLink "PostingShelfModel" (171 : Nat) ({ cls := "PostingShelfModel", name := "happen", desc := "()V" } : Jvm.MethodName)) ∈ ev_gw := ev_m5 (List.mem_of_getElem? (i := 110) rfl) rfl
theorem wd_1072 : (Jvm.Cond.instanceMethod ({ cls := "PostingShelfModel", name := "happen", desc := "()V" } : Jvm.MethodName)) ∈ ev_gw := ev_m5 (List.mem_of_getElem? (i := 112) rfl) rfl
theorem wd_1073 : (Jvm.Cond.code ({ cls := "PostingShelfModel", name := "happen", desc := "()V" } : Jvm.MethodName) prog_13_method_29_code (4 : Nat) (Option.none : Option Jvm.ClassFile.FieldType)) ∈ ev_gw := ev_m5 (List.mem_of_getElem? (i := 113) rfl) rfl
theorem wd_1074 : (Jvm.Cond.methodLink "PostingShelfModel" (174 : Nat) ({ cls := "PostingShelfModel", name := "stop", desc := "()V" } : Jvm.MethodName)) ∈ ev_gw := ev_m5 (List.mem_of_getElem? (i := 114) rfl) rfl
theorem wd_1076 : (Jvm.Cond.instanceMethod ({ cls := "PostingShelfModel", name := "stop", desc := "()V" } : Jvm.MethodName)) ∈ ev_gw := ev_m5 (List.mem_of_getElem? (i := 116) rfl) rfl
theorem wd_1077 : (Jvm.Cond.code ({ cls := "PostingShelfModel", name := "stop", desc := "()V" } : Jvm.MethodName) prog_13_method_25_code (2 : Nat) (Option.none : Option Jvm.ClassFile.FieldType)) ∈ ev_gw := ev_m5 (List.mem_of_getElem? (i := 117) rfl) rfl
theorem wd_1078 : (Jvm.Cond.methodLink "PostingShelfModel" (177 : Nat) ({ cls := "PostingShelfModel", name := "live", desc := "()I" } : Jvm.MethodName)) ∈ ev_gw := ev_m5 (List.mem_of_getElem? (i := 118) rfl) rfl
theorem wd_108 : (Jvm.Cond.fieldLinkNest "PostingShelf" (143 : Nat) "PostingShelf$Shelf" "live" "Ljava/util/ArrayList;" "PostingShelf") ∈ ev_gw := ev_m1 (List.mem_of_getElem? (i := 108) rfl) rfl
theorem wd_1080 : (Jvm.Cond.instanceMethod ({ cls := "PostingShelfModel", name := "live", desc := "()I" } : Jvm.MethodName)) ∈ ev_gw := ev_m5 (List.mem_of_getElem? (i := 120) rfl) rfl
theorem wd_1081 : (Jvm.Cond.code ({ cls := "PostingShelfModel", name := "live", desc := "()I" } : Jvm.MethodName) prog_13_method_28_code (3 : Nat) (Option.some Jvm.ClassFile.FieldType.int)) ∈ ev_gw := ev_m5 (List.mem_of_getElem? (i := 121) rfl) rfl
theorem wd_1082 : (Jvm.Cond.methodLink "PostingShelfLaw" (42 : Nat) ({ cls := "PostingShelfModel", name := "merge", desc := "(I)I" } : Jvm.MethodName)) ∈ ev_gw := ev_m5 (List.mem_of_getElem? (i := 122) rfl) rfl
theorem wd_1083 : (Jvm.Cond.instanceMethod ({ cls := "PostingShelfModel", name := "merge", desc := "(I)I" } : Jvm.MethodName)) ∈ ev_gw := ev_m5 (List.mem_of_getElem? (i := 123) rfl) rfl
theorem wd_1084 : (Jvm.Cond.selects "PostingShelfModel" ({ cls := "PostingShelfModel", name := "merge", desc := "(I)I" } : Jvm.MethodName) ({ cls := "PostingShelfModel", name := "merge", desc := "(I)I" } : Jvm.MethodName)) ∈ ev_gw := ev_m5 (List.mem_of_getElem? (i := 124) rfl) rfl
theorem wd_1085 : (Jvm.Cond.code ({ cls := "PostingShelfModel", name := "merge", desc := "(I)I" } : Jvm.MethodName) prog_13_method_32_code (5 : Nat) (Option.some Jvm.ClassFile.FieldType.int)) ∈ ev_gw := ev_m5 (List.mem_of_getElem? (i := 125) rfl) rfl
theorem wd_1086 : (Jvm.Cond.methodLink "PostingShelfModel" (184 : Nat) ({ cls := "PostingShelfModel", name := "join2", desc := "(I)V" } : Jvm.MethodName)) ∈ ev_gw := ev_m5 (List.mem_of_getElem? (i := 126) rfl) rfl
theorem wd_1088 : (Jvm.Cond.instanceMethod ({ cls := "PostingShelfModel", name := "join2", desc := "(I)V" } : Jvm.MethodName)) ∈ ev_gw := ev_m5 (List.mem_of_getElem? (i := 128) rfl) rfl
theorem wd_1089 : (Jvm.Cond.code ({ cls := "PostingShelfModel", name := "join2", desc := "(I)V" } : Jvm.MethodName) prog_13_method_31_code (6 : Nat) (Option.none : Option Jvm.ClassFile.FieldType)) ∈ ev_gw := ev_m5 (List.mem_of_getElem? (i := 129) rfl) rfl
theorem wd_1090 : (Jvm.Cond.methodLink "PostingShelfModel" (180 : Nat) ({ cls := "PostingShelfModel", name := "copyRow", desc := "(II)V" } : Jvm.MethodName)) ∈ ev_gw := ev_m5 (List.mem_of_getElem? (i := 130) rfl) rfl
theorem wd_1092 : (Jvm.Cond.instanceMethod ({ cls := "PostingShelfModel", name := "copyRow", desc := "(II)V" } : Jvm.MethodName)) ∈ ev_gw := ev_m5 (List.mem_of_getElem? (i := 132) rfl) rfl
theorem wd_1093 : (Jvm.Cond.code ({ cls := "PostingShelfModel", name := "copyRow", desc := "(II)V" } : Jvm.MethodName) prog_13_method_27_code (4 : Nat) (Option.none : Option Jvm.ClassFile.FieldType)) ∈ ev_gw := ev_m5 (List.mem_of_getElem? (i := 133) rfl) rfl
theorem wd_1094 : (Jvm.Cond.methodLink "PostingShelfLaw" (47 : Nat) ({ cls := "PostingShelfModel", name := "fuse", desc := "(I)Z" } : Jvm.MethodName)) ∈ ev_gw := ev_m5 (List.mem_of_getElem? (i := 134) rfl) rfl
theorem wd_1095 : (Jvm.Cond.instanceMethod ({ cls := "PostingShelfModel", name := "fuse", desc := "(I)Z" } : Jvm.MethodName)) ∈ ev_gw := ev_m5 (List.mem_of_getElem? (i := 135) rfl) rfl
theorem wd_1096 : (Jvm.Cond.selects "PostingShelfModel" ({ cls := "PostingShelfModel", name := "fuse", desc := "(I)Z" } : Jvm.MethodName) ({ cls := "PostingShelfModel", name := "fuse", desc := "(I)Z" } : Jvm.MethodName)) ∈ ev_gw := ev_m5 (List.mem_of_getElem? (i := 136) rfl) rfl
theorem wd_1097 : (Jvm.Cond.code ({ cls := "PostingShelfModel", name := "fuse", desc := "(I)Z" } : Jvm.MethodName) prog_13_method_33_code (2 : Nat) (Option.some Jvm.ClassFile.FieldType.boolean)) ∈ ev_gw := ev_m5 (List.mem_of_getElem? (i := 137) rfl) rfl
theorem wd_1098 : (Jvm.Cond.methodLink "PostingShelfLaw" (52 : Nat) ({ cls := "PostingShelfModel", name := "restart", desc := "()Z" } : Jvm.MethodName)) ∈ ev_gw := ev_m5 (List.mem_of_getElem? (i := 138) rfl) rfl
theorem wd_1099 : (Jvm.Cond.instanceMethod ({ cls := "PostingShelfModel", name := "restart", desc := "()Z" } : Jvm.MethodName)) ∈ ev_gw := ev_m5 (List.mem_of_getElem? (i := 139) rfl) rfl
theorem wd_11 : (Jvm.Cond.initialized "PostingShelf$Results") ∈ ev_gw := ev_m1 (List.mem_of_getElem? (i := 11) rfl) rfl
theorem wd_1100 : (Jvm.Cond.selects "PostingShelfModel" ({ cls := "PostingShelfModel", name := "restart", desc := "()Z" } : Jvm.MethodName) ({ cls := "PostingShelfModel", name := "restart", desc := "()Z" } : Jvm.MethodName)) ∈ ev_gw := ev_m5 (List.mem_of_getElem? (i := 140) rfl) rfl
theorem wd_1101 : (Jvm.Cond.code ({ cls := "PostingShelfModel", name := "restart", desc := "()Z" } : Jvm.MethodName) prog_13_method_34_code (2 : Nat) (Option.some Jvm.ClassFile.FieldType.boolean)) ∈ ev_gw := ev_m5 (List.mem_of_getElem? (i := 141) rfl) rfl
theorem wd_1102 : (Jvm.Cond.methodLink "PostingShelfLaw" (56 : Nat) ({ cls := "PostingShelfModel", name := "term", desc := "(J)I" } : Jvm.MethodName)) ∈ ev_gw := ev_m5 (List.mem_of_getElem? (i := 142) rfl) rfl
theorem wd_1103 : (Jvm.Cond.instanceMethod ({ cls := "PostingShelfModel", name := "term", desc := "(J)I" } : Jvm.MethodName)) ∈ ev_gw := ev_m5 (List.mem_of_getElem? (i := 143) rfl) rfl
theorem wd_1104 : (Jvm.Cond.selects "PostingShelfModel" ({ cls := "PostingShelfModel", name := "term", desc := "(J)I" } : Jvm.MethodName) ({ cls := "PostingShelfModel", name := "term", desc := "(J)I" } : Jvm.MethodName)) ∈ ev_gw := ev_m5 (List.mem_of_getElem? (i := 144) rfl) rfl
theorem wd_1105 : (Jvm.Cond.code ({ cls := "PostingShelfModel", name := "term", desc := "(J)I" } : Jvm.MethodName) prog_13_method_36_code (3 : Nat) (Option.some Jvm.ClassFile.FieldType.int)) ∈ ev_gw := ev_m5 (List.mem_of_getElem? (i := 145) rfl) rfl
theorem wd_1106 : (Jvm.Cond.methodLink "PostingShelfModel" (188 : Nat) ({ cls := "PostingShelfModel", name := "push", desc := "(IJZ)V" } : Jvm.MethodName)) ∈ ev_gw := ev_m5 (List.mem_of_getElem? (i := 146) rfl) rfl
theorem wd_1108 : (Jvm.Cond.instanceMethod ({ cls := "PostingShelfModel", name := "push", desc := "(IJZ)V" } : Jvm.MethodName)) ∈ ev_gw := ev_m5 (List.mem_of_getElem? (i := 148) rfl) rfl
theorem wd_1109 : (Jvm.Cond.code ({ cls := "PostingShelfModel", name := "push", desc := "(IJZ)V" } : Jvm.MethodName) prog_13_method_35_code (5 : Nat) (Option.none : Option Jvm.ClassFile.FieldType)) ∈ ev_gw := ev_m5 (List.mem_of_getElem? (i := 149) rfl) rfl
theorem wd_1110 : (Jvm.Cond.methodLink "PostingShelfLaw" (60 : Nat) ({ cls := "PostingShelfModel", name := "phrase", desc := "(I)I" } : Jvm.MethodName)) ∈ ev_gw := ev_m5 (List.mem_of_getElem? (i := 150) rfl) rfl
theorem wd_1111 : (Jvm.Cond.instanceMethod ({ cls := "PostingShelfModel", name := "phrase", desc := "(I)I" } : Jvm.MethodName)) ∈ ev_gw := ev_m5 (List.mem_of_getElem? (i := 151) rfl) rfl
theorem wd_1112 : (Jvm.Cond.selects "PostingShelfModel" ({ cls := "PostingShelfModel", name := "phrase", desc := "(I)I" } : Jvm.MethodName) ({ cls := "PostingShelfModel", name := "phrase", desc := "(I)I" } : Jvm.MethodName)) ∈ ev_gw := ev_m5 (List.mem_of_getElem? (i := 152) rfl) rfl
theorem wd_1113 : (Jvm.Cond.code ({ cls := "PostingShelfModel", name := "phrase", desc := "(I)I" } : Jvm.MethodName) prog_13_method_37_code (3 : Nat) (Option.some Jvm.ClassFile.FieldType.int)) ∈ ev_gw := ev_m5 (List.mem_of_getElem? (i := 153) rfl) rfl
theorem wd_1114 : (Jvm.Cond.methodLink "PostingShelfLaw" (64 : Nat) ({ cls := "PostingShelfModel", name := "join", desc := "(I)I" } : Jvm.MethodName)) ∈ ev_gw := ev_m5 (List.mem_of_getElem? (i := 154) rfl) rfl
theorem wd_1115 : (Jvm.Cond.instanceMethod ({ cls := "PostingShelfModel", name := "join", desc := "(I)I" } : Jvm.MethodName)) ∈ ev_gw := ev_m5 (List.mem_of_getElem? (i := 155) rfl) rfl
theorem wd_1116 : (Jvm.Cond.selects "PostingShelfModel" ({ cls := "PostingShelfModel", name := "join", desc := "(I)I" } : Jvm.MethodName) ({ cls := "PostingShelfModel", name := "join", desc := "(I)I" } : Jvm.MethodName)) ∈ ev_gw := ev_m5 (List.mem_of_getElem? (i := 156) rfl) rfl
theorem wd_1117 : (Jvm.Cond.code ({ cls := "PostingShelfModel", name := "join", desc := "(I)I" } : Jvm.MethodName) prog_13_method_38_code (3 : Nat) (Option.some Jvm.ClassFile.FieldType.int)) ∈ ev_gw := ev_m5 (List.mem_of_getElem? (i := 157) rfl) rfl
theorem wd_1118 : (Jvm.Cond.methodLink "PostingShelfLaw" (68 : Nat) ({ cls := "PostingShelfModel", name := "find", desc := "()I" } : Jvm.MethodName)) ∈ ev_gw := ev_m5 (List.mem_of_getElem? (i := 158) rfl) rfl
theorem wd_1119 : (Jvm.Cond.instanceMethod ({ cls := "PostingShelfModel", name := "find", desc := "()I" } : Jvm.MethodName)) ∈ ev_gw := ev_m5 (List.mem_of_getElem? (i := 159) rfl) rfl
theorem wd_1120 : (Jvm.Cond.selects "PostingShelfModel" ({ cls := "PostingShelfModel", name := "find", desc := "()I" } : Jvm.MethodName) ({ cls := "PostingShelfModel", name := "find", desc := "()I" } : Jvm.MethodName)) ∈ ev_gw := ev_m5 (List.mem_of_getElem? (i := 160) rfl) rfl
theorem wd_1121 : (Jvm.Cond.code ({ cls := "PostingShelfModel", name := "find", desc := "()I" } : Jvm.MethodName) prog_13_method_43_code (3 : Nat) (Option.some Jvm.ClassFile.FieldType.int)) ∈ ev_gw := ev_m5 (List.mem_of_getElem? (i := 161) rfl) rfl
theorem wd_1122 : (Jvm.Cond.methodLink "PostingShelfModel" (203 : Nat) ({ cls := "PostingShelfModel", name := "lookUp", desc := "()V" } : Jvm.MethodName)) ∈ ev_gw := ev_m5 (List.mem_of_getElem? (i := 162) rfl) rfl
theorem wd_1124 : (Jvm.Cond.instanceMethod ({ cls := "PostingShelfModel", name := "lookUp", desc := "()V" } : Jvm.MethodName)) ∈ ev_gw := ev_m5 (List.mem_of_getElem? (i := 164) rfl) rfl
theorem wd_1125 : (Jvm.Cond.code ({ cls := "PostingShelfModel", name := "lookUp", desc := "()V" } : Jvm.MethodName) prog_13_method_42_code (2 : Nat) (Option.none : Option Jvm.ClassFile.FieldType)) ∈ ev_gw := ev_m5 (List.mem_of_getElem? (i := 165) rfl) rfl
theorem wd_1126 : (Jvm.Cond.methodLink "PostingShelfModel" (206 : Nat) ({ cls := "PostingShelfModel", name := "matches", desc := "(I)Z" } : Jvm.MethodName)) ∈ ev_gw := ev_m5 (List.mem_of_getElem? (i := 166) rfl) rfl
theorem wd_1128 : (Jvm.Cond.instanceMethod ({ cls := "PostingShelfModel", name := "matches", desc := "(I)Z" } : Jvm.MethodName)) ∈ ev_gw := ev_m5 (List.mem_of_getElem? (i := 168) rfl) rfl
theorem wd_1129 : (Jvm.Cond.code ({ cls := "PostingShelfModel", name := "matches", desc := "(I)Z" } : Jvm.MethodName) prog_13_method_41_code (5 : Nat) (Option.some Jvm.ClassFile.FieldType.boolean)) ∈ ev_gw := ev_m5 (List.mem_of_getElem? (i := 169) rfl) rfl
theorem wd_1130 : (Jvm.Cond.methodLink "PostingShelfModel" (192 : Nat) ({ cls := "PostingShelfModel", name := "times", desc := "(IJ)I" } : Jvm.MethodName)) ∈ ev_gw := ev_m5 (List.mem_of_getElem? (i := 170) rfl) rfl
theorem wd_1132 : (Jvm.Cond.instanceMethod ({ cls := "PostingShelfModel", name := "times", desc := "(IJ)I" } : Jvm.MethodName)) ∈ ev_gw := ev_m5 (List.mem_of_getElem? (i := 172) rfl) rfl
theorem wd_1133 : (Jvm.Cond.code ({ cls := "PostingShelfModel", name := "times", desc := "(IJ)I" } : Jvm.MethodName) prog_13_method_39_code (6 : Nat) (Option.some Jvm.ClassFile.FieldType.int)) ∈ ev_gw := ev_m5 (List.mem_of_getElem? (i := 173) rfl) rfl
theorem wd_1134 : (Jvm.Cond.methodLink "PostingShelfModel" (196 : Nat) ({ cls := "PostingShelfModel", name := "phraseIn", desc := "(III)Z" } : Jvm.MethodName)) ∈ ev_gw := ev_m5 (List.mem_of_getElem? (i := 174) rfl) rfl
theorem wd_1136 : (Jvm.Cond.instanceMethod ({ cls := "PostingShelfModel", name := "phraseIn", desc := "(III)Z" } : Jvm.MethodName)) ∈ ev_gw := ev_m5 (List.mem_of_getElem? (i := 176) rfl) rfl
theorem wd_1137 : (Jvm.Cond.code ({ cls := "PostingShelfModel", name := "phraseIn", desc := "(III)Z" } : Jvm.MethodName) prog_13_method_40_code (9 : Nat) (Option.some Jvm.ClassFile.FieldType.boolean)) ∈ ev_gw := ev_m5 (List.mem_of_getElem? (i := 177) rfl) rfl
theorem wd_1138 : (Jvm.Cond.methodLink "PostingShelfLaw" (72 : Nat) ({ cls := "PostingShelfModel", name := "rank", desc := "(I)I" } : Jvm.MethodName)) ∈ ev_gw := ev_m5 (List.mem_of_getElem? (i := 178) rfl) rfl
theorem wd_1139 : (Jvm.Cond.instanceMethod ({ cls := "PostingShelfModel", name := "rank", desc := "(I)I" } : Jvm.MethodName)) ∈ ev_gw := ev_m5 (List.mem_of_getElem? (i := 179) rfl) rfl
theorem wd_114 : (Jvm.Cond.classLink "PostingShelf" (38 : Nat) "PostingShelf$Machine") ∈ ev_gw := ev_m1 (List.mem_of_getElem? (i := 114) rfl) rfl
theorem wd_1140 : (Jvm.Cond.selects "PostingShelfModel" ({ cls := "PostingShelfModel", name := "rank", desc := "(I)I" } : Jvm.MethodName) ({ cls := "PostingShelfModel", name := "rank", desc := "(I)I" } : Jvm.MethodName)) ∈ ev_gw := ev_m5 (List.mem_of_getElem? (i := 180) rfl) rfl
theorem wd_1141 : (Jvm.Cond.code ({ cls := "PostingShelfModel", name := "rank", desc := "(I)I" } : Jvm.MethodName) prog_13_method_52_code (4 : Nat) (Option.some Jvm.ClassFile.FieldType.int)) ∈ ev_gw := ev_m5 (List.mem_of_getElem? (i := 181) rfl) rfl
theorem wd_1142 : (Jvm.Cond.methodLink "PostingShelfModel" (250 : Nat) ({ cls := "PostingShelfModel", name := "weighAll", desc := "(I)V" } : Jvm.MethodName)) ∈ ev_gw := ev_m5 (List.mem_of_getElem? (i := 182) rfl) rfl
theorem wd_1144 : (Jvm.Cond.instanceMethod ({ cls := "PostingShelfModel", name := "weighAll", desc := "(I)V" } : Jvm.MethodName)) ∈ ev_gw := ev_m5 (List.mem_of_getElem? (i := 184) rfl) rfl
theorem wd_1145 : (Jvm.Cond.code ({ cls := "PostingShelfModel", name := "weighAll", desc := "(I)V" } : Jvm.MethodName) prog_13_method_50_code (5 : Nat) (Option.none : Option Jvm.ClassFile.FieldType)) ∈ ev_gw := ev_m5 (List.mem_of_getElem? (i := 185) rfl) rfl
theorem wd_1146 : (Jvm.Cond.constantLong "PostingShelfModel" (237 : Nat) (-1 : Int64)) ∈ ev_gw := ev_m5 (List.mem_of_getElem? (i := 186) rfl) rfl
theorem wd_1147 : (Jvm.Cond.methodLink "PostingShelfModel" (242 : Nat) ({ cls := "PostingShelfModel", name := "sum", desc := "(IZ)J" } : Jvm.MethodName)) ∈ ev_gw := ev_m5 (List.mem_of_getElem? (i := 187) rfl) rfl
theorem wd_1149 : (Jvm.Cond.instanceMethod ({ cls := "PostingShelfModel", name := "sum", desc := "(IZ)J" } : Jvm.MethodName)) ∈ ev_gw := ev_m5 (List.mem_of_getElem? (i := 189) rfl) rfl
theorem wd_115 : (Jvm.Cond.instantiable "PostingShelf$Machine" (3 : Nat)) ∈ ev_gw := ev_m1 (List.mem_of_getElem? (i := 115) rfl) rfl
theorem wd_1150 : (Jvm.Cond.code ({ cls := "PostingShelfModel", name := "sum", desc := "(IZ)J" } : Jvm.MethodName) prog_13_method_48_code (7 : Nat) (Option.some Jvm.ClassFile.FieldType.long)) ∈ ev_gw := ev_m5 (List.mem_of_getElem? (i := 190) rfl) rfl
theorem wd_1151 : (Jvm.Cond.methodLink "PostingShelfModel" (234 : Nat) ({ cls := "PostingShelfModel", name := "bound", desc := "(J)J" } : Jvm.MethodName)) ∈ ev_gw := ev_m5 (List.mem_of_getElem? (i := 191) rfl) rfl
theorem wd_1153 : (Jvm.Cond.instanceMethod ({ cls := "PostingShelfModel", name := "bound", desc := "(J)J" } : Jvm.MethodName)) ∈ ev_gw := ev_m5 (List.mem_of_getElem? (i := 193) rfl) rfl
theorem wd_1154 : (Jvm.Cond.code ({ cls := "PostingShelfModel", name := "bound", desc := "(J)J" } : Jvm.MethodName) prog_13_method_47_code (8 : Nat) (Option.some Jvm.ClassFile.FieldType.long)) ∈ ev_gw := ev_m5 (List.mem_of_getElem? (i := 194) rfl) rfl
theorem wd_1155 : (Jvm.Cond.methodLink "PostingShelfModel" (230 : Nat) ({ cls := "PostingShelfModel", name := "weightOf", desc := "(IJ)J" } : Jvm.MethodName)) ∈ ev_gw := ev_m5 (List.mem_of_getElem? (i := 195) rfl) rfl
theorem wd_1157 : (Jvm.Cond.instanceMethod ({ cls := "PostingShelfModel", name := "weightOf", desc := "(IJ)J" } : Jvm.MethodName)) ∈ ev_gw := ev_m5 (List.mem_of_getElem? (i := 197) rfl) rfl
theorem wd_1158 : (Jvm.Cond.code ({ cls := "PostingShelfModel", name := "weightOf", desc := "(IJ)J" } : Jvm.MethodName) prog_13_method_46_code (17 : Nat) (Option.some Jvm.ClassFile.FieldType.long)) ∈ ev_gw := ev_m5 (List.mem_of_getElem? (i := 198) rfl) rfl
theorem wd_1159 : (Jvm.Cond.methodLink "PostingShelfModel" (213 : Nat) ({ cls := "PostingShelfModel", name := "lengths", desc := "()I" } : Jvm.MethodName)) ∈ ev_gw := ev_m5 (List.mem_of_getElem? (i := 199) rfl) rfl
theorem wd_116 : (Jvm.Cond.methodLinkNest "PostingShelf" (40 : Nat) ({ cls := "PostingShelf$Machine", name := "<init>", desc := "()V" } : Jvm.MethodName) "PostingShelf") ∈ ev_gw := ev_m1 (List.mem_of_getElem? (i := 116) rfl) rfl
theorem wd_1161 : (Jvm.Cond.instanceMethod ({ cls := "PostingShelfModel", name := "lengths", desc := "()I" } : Jvm.MethodName)) ∈ ev_gw := ev_m5 (List.mem_of_getElem? (i := 201) rfl) rfl
theorem wd_1162 : (Jvm.Cond.code ({ cls := "PostingShelfModel", name := "lengths", desc := "()I" } : Jvm.MethodName) prog_13_method_45_code (3 : Nat) (Option.some Jvm.ClassFile.FieldType.int)) ∈ ev_gw := ev_m5 (List.mem_of_getElem? (i := 202) rfl) rfl
theorem wd_1163 : (Jvm.Cond.methodLink "PostingShelfModel" (210 : Nat) ({ cls := "PostingShelfModel", name := "lengthOf", desc := "(I)I" } : Jvm.MethodName)) ∈ ev_gw := ev_m5 (List.mem_of_getElem? (i := 203) rfl) rfl
theorem wd_1165 : (Jvm.Cond.instanceMethod ({ cls := "PostingShelfModel", name := "lengthOf", desc := "(I)I" } : Jvm.MethodName)) ∈ ev_gw := ev_m5 (List.mem_of_getElem? (i := 205) rfl) rfl
theorem wd_1166 : (Jvm.Cond.code ({ cls := "PostingShelfModel", name := "lengthOf", desc := "(I)I" } : Jvm.MethodName) prog_13_method_44_code (4 : Nat) (Option.some Jvm.ClassFile.FieldType.int)) ∈ ev_gw := ev_m5 (List.mem_of_getElem? (i := 206) rfl) rfl
theorem wd_1167 : (Jvm.Cond.constantLong "PostingShelfModel" (216 : Nat) (256 : Int64)) ∈ ev_gw := ev_m5 (List.mem_of_getElem? (i := 207) rfl) rfl
theorem wd_1168 : (Jvm.Cond.constantLong "PostingShelfModel" (218 : Nat) (2 : Int64)) ∈ ev_gw := ev_m5 (List.mem_of_getElem? (i := 208) rfl) rfl
theorem wd_1169 : (Jvm.Cond.constantLong "PostingShelfModel" (220 : Nat) (16 : Int64)) ∈ ev_gw := ev_m5 (List.mem_of_getElem? (i := 209) rfl) rfl
theorem wd_117 : (Jvm.Cond.instanceMethod ({ cls := "PostingShelf$Machine", name := "<init>", desc := "()V" } : Jvm.MethodName)) ∈ ev_gw := ev_m1 (List.mem_of_getElem? (i := 117) rfl) rfl
theorem wd_1170 : (Jvm.Cond.constantLong "PostingShelfModel" (222 : Nat) (2200 : Int64)) ∈ ev_gw := ev_m5 (List.mem_of_getElem? (i := 210) rfl) rfl
theorem wd_1171 : (Jvm.Cond.constantLong "PostingShelfModel" (224 : Nat) (1000 : Int64)) ∈ ev_gw := ev_m5 (List.mem_of_getElem? (i := 211) rfl) rfl
theorem wd_1172 : (Jvm.Cond.constantLong "PostingShelfModel" (226 : Nat) (300 : Int64)) ∈ ev_gw := ev_m5 (List.mem_of_getElem? (i := 212) rfl) rfl
theorem wd_1173 : (Jvm.Cond.constantLong "PostingShelfModel" (228 : Nat) (900 : Int64)) ∈ ev_gw := ev_m5 (List.mem_of_getElem? (i := 213) rfl) rfl
theorem wd_1174 : (Jvm.Cond.methodLink "PostingShelfModel" (246 : Nat) ({ cls := "PostingShelfModel", name := "least", desc := "(I)J" } : Jvm.MethodName)) ∈ ev_gw := ev_m5 (List.mem_of_getElem? (i := 214) rfl) rfl
theorem wd_1176 : (Jvm.Cond.instanceMethod ({ cls := "PostingShelfModel", name := "least", desc := "(I)J" } : Jvm.MethodName)) ∈ ev_gw := ev_m5 (List.mem_of_getElem? (i := 216) rfl) rfl
theorem wd_1177 : (Jvm.Cond.code ({ cls := "PostingShelfModel", name := "least", desc := "(I)J" } : Jvm.MethodName) prog_13_method_49_code (8 : Nat) (Option.some Jvm.ClassFile.FieldType.long)) ∈ ev_gw := ev_m5 (List.mem_of_getElem? (i := 217) rfl) rfl
theorem wd_1178 : (Jvm.Cond.methodLink "PostingShelfModel" (253 : Nat) ({ cls := "PostingShelfModel", name := "best", desc := "(I)V" } : Jvm.MethodName)) ∈ ev_gw := ev_m5 (List.mem_of_getElem? (i := 218) rfl) rfl
theorem wd_118 : (Jvm.Cond.code ({ cls := "PostingShelf$Machine", name := "<init>", desc := "()V" } : Jvm.MethodName) prog_3_method_1_code (1 : Nat) (Option.none : Option Jvm.ClassFile.FieldType)) ∈ ev_gw := ev_m1 (List.mem_of_getElem? (i := 118) rfl) rfl
theorem wd_1180 : (Jvm.Cond.instanceMethod ({ cls := "PostingShelfModel", name := "best", desc := "(I)V" } : Jvm.MethodName)) ∈ ev_gw := ev_m5 (List.mem_of_getElem? (i := 220) rfl) rfl
theorem wd_1181 : (Jvm.Cond.code ({ cls := "PostingShelfModel", name := "best", desc := "(I)V" } : Jvm.MethodName) prog_13_method_51_code (5 : Nat) (Option.none : Option Jvm.ClassFile.FieldType)) ∈ ev_gw := ev_m5 (List.mem_of_getElem? (i := 221) rfl) rfl
theorem wd_1182 : (Jvm.Cond.methodLink "PostingShelfLaw" (76 : Nat) ({ cls := "PostingShelfModel", name := "result", desc := "(I)I" } : Jvm.MethodName)) ∈ ev_gw := ev_m5 (List.mem_of_getElem? (i := 222) rfl) rfl
theorem wd_1183 : (Jvm.Cond.instanceMethod ({ cls := "PostingShelfModel", name := "result", desc := "(I)I" } : Jvm.MethodName)) ∈ ev_gw := ev_m5 (List.mem_of_getElem? (i := 223) rfl) rfl
theorem wd_1184 : (Jvm.Cond.selects "PostingShelfModel" ({ cls := "PostingShelfModel", name := "result", desc := "(I)I" } : Jvm.MethodName) ({ cls := "PostingShelfModel", name := "result", desc := "(I)I" } : Jvm.MethodName)) ∈ ev_gw := ev_m5 (List.mem_of_getElem? (i := 224) rfl) rfl
theorem wd_1185 : (Jvm.Cond.code ({ cls := "PostingShelfModel", name := "result", desc := "(I)I" } : Jvm.MethodName) prog_13_method_53_code (2 : Nat) (Option.some Jvm.ClassFile.FieldType.int)) ∈ ev_gw := ev_m5 (List.mem_of_getElem? (i := 225) rfl) rfl
theorem wd_1186 : (Jvm.Cond.methodLink "PostingShelfLaw" (80 : Nat) ({ cls := "PostingShelfModel", name := "weight", desc := "(I)I" } : Jvm.MethodName)) ∈ ev_gw := ev_m5 (List.mem_of_getElem? (i := 226) rfl) rfl
theorem wd_1187 : (Jvm.Cond.instanceMethod ({ cls := "PostingShelfModel", name := "weight", desc := "(I)I" } : Jvm.MethodName)) ∈ ev_gw := ev_m5 (List.mem_of_getElem? (i := 227) rfl) rfl
theorem wd_1188 : (Jvm.Cond.selects "PostingShelfModel" ({ cls := "PostingShelfModel", name := "weight", desc := "(I)I" } : Jvm.MethodName) ({ cls := "PostingShelfModel", name := "weight", desc := "(I)I" } : Jvm.MethodName)) ∈ ev_gw := ev_m5 (List.mem_of_getElem? (i := 228) rfl) rfl
theorem wd_1189 : (Jvm.Cond.code ({ cls := "PostingShelfModel", name := "weight", desc := "(I)I" } : Jvm.MethodName) prog_13_method_54_code (2 : Nat) (Option.some Jvm.ClassFile.FieldType.int)) ∈ ev_gw := ev_m5 (List.mem_of_getElem? (i := 229) rfl) rfl
theorem wd_119 : (Jvm.Cond.methodLink "PostingShelf$Machine" (1 : Nat) ({ cls := "java/lang/Object", name := "<init>", desc := "()V" } : Jvm.MethodName)) ∈ ev_gw := ev_m1 (List.mem_of_getElem? (i := 119) rfl) rfl
theorem wd_1190 : (Jvm.Cond.methodLink "PostingShelfLaw" (84 : Nat) ({ cls := "PostingShelfModel", name := "weighed", desc := "()I" } : Jvm.MethodName)) ∈ ev_gw := ev_m5 (List.mem_of_getElem? (i := 230) rfl) rfl
theorem wd_1191 : (Jvm.Cond.instanceMethod ({ cls := "PostingShelfModel", name := "weighed", desc := "()I" } : Jvm.MethodName)) ∈ ev_gw := ev_m5 (List.mem_of_getElem? (i := 231) rfl) rfl
theorem wd_1192 : (Jvm.Cond.selects "PostingShelfModel" ({ cls := "PostingShelfModel", name := "weighed", desc := "()I" } : Jvm.MethodName) ({ cls := "PostingShelfModel", name := "weighed", desc := "()I" } : Jvm.MethodName)) ∈ ev_gw := ev_m5 (List.mem_of_getElem? (i := 232) rfl) rfl
theorem wd_1193 : (Jvm.Cond.code ({ cls := "PostingShelfModel", name := "weighed", desc := "()I" } : Jvm.MethodName) prog_13_method_55_code (1 : Nat) (Option.some Jvm.ClassFile.FieldType.int)) ∈ ev_gw := ev_m5 (List.mem_of_getElem? (i := 233) rfl) rfl
theorem wd_1194 : (Jvm.Cond.methodLink "PostingShelfLaw" (88 : Nat) ({ cls := "PostingShelfModel", name := "size", desc := "(I)I" } : Jvm.MethodName)) ∈ ev_gw := ev_m5 (List.mem_of_getElem? (i := 234) rfl) rfl
theorem wd_1195 : (Jvm.Cond.instanceMethod ({ cls := "PostingShelfModel", name := "size", desc := "(I)I" } : Jvm.MethodName)) ∈ ev_gw := ev_m5 (List.mem_of_getElem? (i := 235) rfl) rfl
theorem wd_1196 : (Jvm.Cond.selects "PostingShelfModel" ({ cls := "PostingShelfModel", name := "size", desc := "(I)I" } : Jvm.MethodName) ({ cls := "PostingShelfModel", name := "size", desc := "(I)I" } : Jvm.MethodName)) ∈ ev_gw := ev_m5 (List.mem_of_getElem? (i := 236) rfl) rfl
theorem wd_1197 : (Jvm.Cond.code ({ cls := "PostingShelfModel", name := "size", desc := "(I)I" } : Jvm.MethodName) prog_13_method_57_code (4 : Nat) (Option.some Jvm.ClassFile.FieldType.int)) ∈ ev_gw := ev_m5 (List.mem_of_getElem? (i := 237) rfl) rfl
theorem wd_1198 : (Jvm.Cond.methodLink "PostingShelfModel" (256 : Nat) ({ cls := "PostingShelfModel", name := "different", desc := "(I)I" } : Jvm.MethodName)) ∈ ev_gw := ev_m5 (List.mem_of_getElem? (i := 238) rfl) rfl
theorem wd_12 : (Jvm.Cond.initialized "PostingShelfModel") ∈ ev_gw := ev_m1 (List.mem_of_getElem? (i := 12) rfl) rfl
theorem wd_120 : (Jvm.Cond.fieldLink "PostingShelf$Machine" (7 : Nat) "PostingShelf$Machine" "blocksWritten" "I") ∈ ev_gw := ev_m1 (List.mem_of_getElem? (i := 120) rfl) rfl
theorem wd_1200 : (Jvm.Cond.instanceMethod ({ cls := "PostingShelfModel", name := "different", desc := "(I)I" } : Jvm.MethodName)) ∈ ev_gw := ev_m6 (List.mem_of_getElem? (i := 0) rfl) rfl
theorem wd_1201 : (Jvm.Cond.code ({ cls := "PostingShelfModel", name := "different", desc := "(I)I" } : Jvm.MethodName) prog_13_method_56_code (8 : Nat) (Option.some Jvm.ClassFile.FieldType.int)) ∈ ev_gw := ev_m6 (List.mem_of_getElem? (i := 1) rfl) rfl
theorem wd_1202 : (Jvm.Cond.constantLong "PostingShelfLaw" (13 : Nat) (4294967295 : Int64)) ∈ ev_gw := ev_m6 (List.mem_of_getElem? (i := 2) rfl) rfl
theorem wd_1203 : (Jvm.Cond.castable "PostingShelf$Document" "PostingShelf$Document") ∈ ev_gw := ev_m6 (List.mem_of_getElem? (i := 3) rfl) rfl
theorem wd_1204 : (Jvm.Cond.castable "PostingShelf$Segment" "PostingShelf$Segment") ∈ ev_gw := ev_m6 (List.mem_of_getElem? (i := 4) rfl) rfl
theorem wd_1205 : (Jvm.Cond.castable "PostingShelf$Step" "PostingShelf$Step") ∈ ev_gw := ev_m6 (List.mem_of_getElem? (i := 5) rfl) rfl
theorem wd_1209 : (Jvm.Cond.castable "PostingShelf" "java/lang/Object") ∈ ev_gw := ev_m6 (List.mem_of_getElem? (i := 9) rfl) rfl
theorem wd_121 : (Jvm.Cond.fieldLinkNest "PostingShelf" (217 : Nat) "PostingShelf$Machine" "blocksWritten" "I" "PostingShelf") ∈ ev_gw := ev_m1 (List.mem_of_getElem? (i := 121) rfl) rfl
theorem wd_1210 : (Jvm.Cond.castable "PostingShelf$Stemmer" "java/lang/Object") ∈ ev_gw := ev_m6 (List.mem_of_getElem? (i := 10) rfl) rfl
theorem wd_1211 : (Jvm.Cond.castable "PostingShelf$Pending" "java/lang/Object") ∈ ev_gw := ev_m6 (List.mem_of_getElem? (i := 11) rfl) rfl
theorem wd_1212 : (Jvm.Cond.castable "PostingShelf$Shelf" "java/lang/Object") ∈ ev_gw := ev_m6 (List.mem_of_getElem? (i := 12) rfl) rfl
theorem wd_1213 : (Jvm.Cond.castable "PostingShelf$Machine" "java/lang/Object") ∈ ev_gw := ev_m6 (List.mem_of_getElem? (i := 13) rfl) rfl
theorem wd_1214 : (Jvm.Cond.castable "PostingShelf$QueryStack" "java/lang/Object") ∈ ev_gw := ev_m6 (List.mem_of_getElem? (i := 14) rfl) rfl
theorem wd_1215 : (Jvm.Cond.castable "PostingShelf$Ranking" "java/lang/Object") ∈ ev_gw := ev_m6 (List.mem_of_getElem? (i := 15) rfl) rfl
theorem wd_1216 : (Jvm.Cond.castable "PostingShelf$Results" "java/lang/Object") ∈ ev_gw := ev_m6 (List.mem_of_getElem? (i := 16) rfl) rfl
theorem wd_1217 : (Jvm.Cond.castable "PostingShelfModel" "java/lang/Object") ∈ ev_gw := ev_m6 (List.mem_of_getElem? (i := 17) rfl) rfl
theorem wd_1218 : (Jvm.Cond.castable "PostingShelf$Document" "java/lang/Object") ∈ ev_gw := ev_m6 (List.mem_of_getElem? (i := 18) rfl) rfl
theorem wd_1219 : (Jvm.Cond.castable "PostingShelf$Segment" "java/lang/Object") ∈ ev_gw := ev_m6 (List.mem_of_getElem? (i := 19) rfl) rfl
theorem wd_122 : (Jvm.Cond.fieldLink "PostingShelf$Machine" (13 : Nat) "PostingShelf$Machine" "blocksToStop" "I") ∈ ev_gw := ev_m1 (List.mem_of_getElem? (i := 122) rfl) rfl
theorem wd_1220 : (Jvm.Cond.castable "PostingShelf$Step" "java/lang/Object") ∈ ev_gw := ev_m6 (List.mem_of_getElem? (i := 20) rfl) rfl
theorem wd_123 : (Jvm.Cond.fieldLinkNest "PostingShelf" (157 : Nat) "PostingShelf$Machine" "blocksToStop" "I" "PostingShelf") ∈ ev_gw := ev_m1 (List.mem_of_getElem? (i := 123) rfl) rfl
theorem wd_124 : (Jvm.Cond.fieldLink "PostingShelf$Machine" (16 : Nat) "PostingShelf$Machine" "stopped" "Z") ∈ ev_gw := ev_m1 (List.mem_of_getElem? (i := 124) rfl) rfl
theorem wd_125 : (Jvm.Cond.fieldLinkNest "PostingShelf" (74 : Nat) "PostingShelf$Machine" "stopped" "Z" "PostingShelf") ∈ ev_gw := ev_m1 (List.mem_of_getElem? (i := 125) rfl) rfl
theorem wd_13 : (Jvm.Cond.initialized "java/lang/String") ∈ ev_gw := ev_m1 (List.mem_of_getElem? (i := 13) rfl) rfl
theorem wd_133 : (Jvm.Cond.classLink "PostingShelf" (45 : Nat) "PostingShelf$QueryStack") ∈ ev_gw := ev_m1 (List.mem_of_getElem? (i := 133) rfl) rfl
theorem wd_134 : (Jvm.Cond.instantiable "PostingShelf$QueryStack" (3 : Nat)) ∈ ev_gw := ev_m1 (List.mem_of_getElem? (i := 134) rfl) rfl
theorem wd_135 : (Jvm.Cond.methodLinkNest "PostingShelf" (47 : Nat) ({ cls := "PostingShelf$QueryStack", name := "<init>", desc := "()V" } : Jvm.MethodName) "PostingShelf") ∈ ev_gw := ev_m1 (List.mem_of_getElem? (i := 135) rfl) rfl
theorem wd_136 : (Jvm.Cond.instanceMethod ({ cls := "PostingShelf$QueryStack", name := "<init>", desc := "()V" } : Jvm.MethodName)) ∈ ev_gw := ev_m1 (List.mem_of_getElem? (i := 136) rfl) rfl
theorem wd_137 : (Jvm.Cond.code ({ cls := "PostingShelf$QueryStack", name := "<init>", desc := "()V" } : Jvm.MethodName) prog_5_method_1_code (1 : Nat) (Option.none : Option Jvm.ClassFile.FieldType)) ∈ ev_gw := ev_m1 (List.mem_of_getElem? (i := 137) rfl) rfl
theorem wd_138 : (Jvm.Cond.methodLink "PostingShelf$QueryStack" (3 : Nat) ({ cls := "java/lang/Object", name := "<init>", desc := "()V" } : Jvm.MethodName)) ∈ ev_gw := ev_m1 (List.mem_of_getElem? (i := 138) rfl) rfl
theorem wd_139 : (Jvm.Cond.classLink "PostingShelf$QueryStack" (9 : Nat) "java/util/ArrayList") ∈ ev_gw := ev_m1 (List.mem_of_getElem? (i := 139) rfl) rfl
theorem wd_14 : (Jvm.Cond.initialized "java/lang/StringLatin1") ∈ ev_gw := ev_m1 (List.mem_of_getElem? (i := 14) rfl) rfl
theorem wd_140 : (Jvm.Cond.methodLink "PostingShelf$QueryStack" (11 : Nat) ({ cls := "java/util/ArrayList", name := "<init>", desc := "()V" } : Jvm.MethodName)) ∈ ev_gw := ev_m1 (List.mem_of_getElem? (i := 140) rfl) rfl
theorem wd_141 : (Jvm.Cond.fieldLink "PostingShelf$QueryStack" (12 : Nat) "PostingShelf$QueryStack" "steps" "Ljava/util/ArrayList;") ∈ ev_gw := ev_m1 (List.mem_of_getElem? (i := 141) rfl) rfl
theorem wd_142 : (Jvm.Cond.fieldLink "PostingShelf$QueryStack" (18 : Nat) "PostingShelf$QueryStack" "depths" "[I") ∈ ev_gw := ev_m1 (List.mem_of_getElem? (i := 142) rfl) rfl
theorem wd_143 : (Jvm.Cond.fieldLink "PostingShelf$QueryStack" (22 : Nat) "PostingShelf$QueryStack" "height" "I") ∈ ev_gw := ev_m1 (List.mem_of_getElem? (i := 143) rfl) rfl
theorem wd_144 : (Jvm.Cond.fieldLinkNest "PostingShelf$Ranking" (31 : Nat) "PostingShelf$QueryStack" "height" "I" "PostingShelf") ∈ ev_gw := ev_m1 (List.mem_of_getElem? (i := 144) rfl) rfl
theorem wd_145 : (Jvm.Cond.fieldLinkNest "PostingShelf" (160 : Nat) "PostingShelf$QueryStack" "height" "I" "PostingShelf") ∈ ev_gw := ev_m1 (List.mem_of_getElem? (i := 145) rfl) rfl
theorem wd_15 : (Jvm.Cond.initialized "java/lang/Math") ∈ ev_gw := ev_m1 (List.mem_of_getElem? (i := 15) rfl) rfl
theorem wd_153 : (Jvm.Cond.arrayClass Jvm.ClassFile.FieldType.int) ∈ ev_gw := ev_m1 (List.mem_of_getElem? (i := 153) rfl) rfl
theorem wd_154 : (Jvm.Cond.classLink "PostingShelf" (52 : Nat) "PostingShelf$Ranking") ∈ ev_gw := ev_m1 (List.mem_of_getElem? (i := 154) rfl) rfl
theorem wd_155 : (Jvm.Cond.instantiable "PostingShelf$Ranking" (4 : Nat)) ∈ ev_gw := ev_m1 (List.mem_of_getElem? (i := 155) rfl) rfl
theorem wd_156 : (Jvm.Cond.methodLinkNest "PostingShelf" (54 : Nat) ({ cls := "PostingShelf$Ranking", name := "<init>", desc := "()V" } : Jvm.MethodName) "PostingShelf") ∈ ev_gw := ev_m1 (List.mem_of_getElem? (i := 156) rfl) rfl
theorem wd_157 : (Jvm.Cond.instanceMethod ({ cls := "PostingShelf$Ranking", name := "<init>", desc := "()V" } : Jvm.MethodName)) ∈ ev_gw := ev_m1 (List.mem_of_getElem? (i := 157) rfl) rfl
theorem wd_158 : (Jvm.Cond.code ({ cls := "PostingShelf$Ranking", name := "<init>", desc := "()V" } : Jvm.MethodName) prog_6_method_1_code (1 : Nat) (Option.none : Option Jvm.ClassFile.FieldType)) ∈ ev_gw := ev_m1 (List.mem_of_getElem? (i := 158) rfl) rfl
theorem wd_159 : (Jvm.Cond.methodLink "PostingShelf$Ranking" (3 : Nat) ({ cls := "java/lang/Object", name := "<init>", desc := "()V" } : Jvm.MethodName)) ∈ ev_gw := ev_m1 (List.mem_of_getElem? (i := 159) rfl) rfl
theorem wd_16 : (Jvm.Cond.initialized "java/lang/StringUTF16") ∈ ev_gw := ev_m1 (List.mem_of_getElem? (i := 16) rfl) rfl
theorem wd_162 : (Jvm.Cond.fieldLink "PostingShelf$Ranking" (11 : Nat) "PostingShelf$Ranking" "weights" "[[I") ∈ ev_gw := ev_m1 (List.mem_of_getElem? (i := 162) rfl) rfl
theorem wd_163 : (Jvm.Cond.fieldLink "PostingShelf$Ranking" (16 : Nat) "PostingShelf$Ranking" "bounds" "[I") ∈ ev_gw := ev_m1 (List.mem_of_getElem? (i := 163) rfl) rfl
theorem wd_164 : (Jvm.Cond.fieldLink "PostingShelf$Ranking" (20 : Nat) "PostingShelf$Ranking" "termCount" "I") ∈ ev_gw := ev_m1 (List.mem_of_getElem? (i := 164) rfl) rfl
theorem wd_165 : (Jvm.Cond.fieldLink "PostingShelf$Ranking" (24 : Nat) "PostingShelf$Ranking" "weighedCount" "I") ∈ ev_gw := ev_m1 (List.mem_of_getElem? (i := 165) rfl) rfl
theorem wd_166 : (Jvm.Cond.fieldLinkNest "PostingShelf" (207 : Nat) "PostingShelf$Ranking" "weighedCount" "I" "PostingShelf") ∈ ev_gw := ev_m1 (List.mem_of_getElem? (i := 166) rfl) rfl
theorem wd_17 : (Jvm.Cond.initialized "jdk/internal/util/Preconditions") ∈ ev_gw := ev_m1 (List.mem_of_getElem? (i := 17) rfl) rfl
theorem wd_176 : (Jvm.Cond.classLink "PostingShelf" (59 : Nat) "PostingShelf$Results") ∈ ev_gw := ev_m1 (List.mem_of_getElem? (i := 176) rfl) rfl
theorem wd_177 : (Jvm.Cond.instantiable "PostingShelf$Results" (3 : Nat)) ∈ ev_gw := ev_m1 (List.mem_of_getElem? (i := 177) rfl) rfl
theorem wd_178 : (Jvm.Cond.methodLinkNest "PostingShelf" (61 : Nat) ({ cls := "PostingShelf$Results", name := "<init>", desc := "()V" } : Jvm.MethodName) "PostingShelf") ∈ ev_gw := ev_m1 (List.mem_of_getElem? (i := 178) rfl) rfl
theorem wd_179 : (Jvm.Cond.instanceMethod ({ cls := "PostingShelf$Results", name := "<init>", desc := "()V" } : Jvm.MethodName)) ∈ ev_gw := ev_m1 (List.mem_of_getElem? (i := 179) rfl) rfl
theorem wd_18 : (Jvm.Cond.initialized "java/lang/Character") ∈ ev_gw := ev_m1 (List.mem_of_getElem? (i := 18) rfl) rfl
theorem wd_180 : (Jvm.Cond.code ({ cls := "PostingShelf$Results", name := "<init>", desc := "()V" } : Jvm.MethodName) prog_7_method_1_code (1 : Nat) (Option.none : Option Jvm.ClassFile.FieldType)) ∈ ev_gw := ev_m1 (List.mem_of_getElem? (i := 180) rfl) rfl
theorem wd_181 : (Jvm.Cond.methodLink "PostingShelf$Results" (3 : Nat) ({ cls := "java/lang/Object", name := "<init>", desc := "()V" } : Jvm.MethodName)) ∈ ev_gw := ev_m1 (List.mem_of_getElem? (i := 181) rfl) rfl
theorem wd_182 : (Jvm.Cond.fieldLink "PostingShelf$Results" (9 : Nat) "PostingShelf$Results" "ids" "[I") ∈ ev_gw := ev_m1 (List.mem_of_getElem? (i := 182) rfl) rfl
theorem wd_183 : (Jvm.Cond.fieldLinkNest "PostingShelf" (201 : Nat) "PostingShelf$Results" "ids" "[I" "PostingShelf") ∈ ev_gw := ev_m1 (List.mem_of_getElem? (i := 183) rfl) rfl
theorem wd_184 : (Jvm.Cond.fieldLink "PostingShelf$Results" (15 : Nat) "PostingShelf$Results" "weights" "[I") ∈ ev_gw := ev_m1 (List.mem_of_getElem? (i := 184) rfl) rfl
theorem wd_185 : (Jvm.Cond.fieldLinkNest "PostingShelf" (204 : Nat) "PostingShelf$Results" "weights" "[I" "PostingShelf") ∈ ev_gw := ev_m1 (List.mem_of_getElem? (i := 185) rfl) rfl
theorem wd_186 : (Jvm.Cond.fieldLink "PostingShelf$Results" (18 : Nat) "PostingShelf$Results" "count" "I") ∈ ev_gw := ev_m1 (List.mem_of_getElem? (i := 186) rfl) rfl
theorem wd_187 : (Jvm.Cond.fieldLinkNest "PostingShelf" (186 : Nat) "PostingShelf$Results" "count" "I" "PostingShelf") ∈ ev_gw := ev_m1 (List.mem_of_getElem? (i := 187) rfl) rfl
theorem wd_19 : (Jvm.Cond.initialized "PostingShelf$Document") ∈ ev_gw := ev_m1 (List.mem_of_getElem? (i := 19) rfl) rfl
theorem wd_195 : (Jvm.Cond.fieldLink "PostingShelf" (10 : Nat) "PostingShelf" "stemmer" "LPostingShelf$Stemmer;") ∈ ev_gw := ev_m1 (List.mem_of_getElem? (i := 195) rfl) rfl
theorem wd_196 : (Jvm.Cond.fieldLink "PostingShelf" (16 : Nat) "PostingShelf" "draft" "[J") ∈ ev_gw := ev_m1 (List.mem_of_getElem? (i := 196) rfl) rfl
theorem wd_197 : (Jvm.Cond.fieldLink "PostingShelf" (20 : Nat) "PostingShelf" "draftWords" "I") ∈ ev_gw := ev_m1 (List.mem_of_getElem? (i := 197) rfl) rfl
theorem wd_198 : (Jvm.Cond.fieldLink "PostingShelf" (27 : Nat) "PostingShelf" "pending" "LPostingShelf$Pending;") ∈ ev_gw := ev_m1 (List.mem_of_getElem? (i := 198) rfl) rfl
theorem wd_199 : (Jvm.Cond.fieldLink "PostingShelf" (34 : Nat) "PostingShelf" "shelf" "LPostingShelf$Shelf;") ∈ ev_gw := ev_m1 (List.mem_of_getElem? (i := 199) rfl) rfl
theorem wd_2 : (Jvm.Cond.initialized "PostingShelf$Stemmer") ∈ ev_gw := ev_m1 (List.mem_of_getElem? (i := 2) rfl) rfl
theorem wd_20 : (Jvm.Cond.initialized "java/util/Arrays") ∈ ev_gw := ev_m1 (List.mem_of_getElem? (i := 20) rfl) rfl
theorem wd_200 : (Jvm.Cond.fieldLink "PostingShelf" (41 : Nat) "PostingShelf" "machine" "LPostingShelf$Machine;") ∈ ev_gw := ev_m1 (List.mem_of_getElem? (i := 200) rfl) rfl
theorem wd_201 : (Jvm.Cond.fieldLink "PostingShelf" (48 : Nat) "PostingShelf" "stack" "LPostingShelf$QueryStack;") ∈ ev_gw := ev_m1 (List.mem_of_getElem? (i := 201) rfl) rfl
theorem wd_202 : (Jvm.Cond.fieldLink "PostingShelf" (55 : Nat) "PostingShelf" "ranking" "LPostingShelf$Ranking;") ∈ ev_gw := ev_m1 (List.mem_of_getElem? (i := 202) rfl) rfl
theorem wd_203 : (Jvm.Cond.fieldLink "PostingShelf" (62 : Nat) "PostingShelf" "results" "LPostingShelf$Results;") ∈ ev_gw := ev_m1 (List.mem_of_getElem? (i := 203) rfl) rfl
theorem wd_21 : (Jvm.Cond.initialized "java/lang/System") ∈ ev_gw := ev_m1 (List.mem_of_getElem? (i := 21) rfl) rfl
theorem wd_22 : (Jvm.Cond.initialized "java/util/Objects") ∈ ev_gw := ev_m1 (List.mem_of_getElem? (i := 22) rfl) rfl
theorem wd_223 : (Jvm.Cond.methodLink "PostingShelfLaw" (15 : Nat) ({ cls := "PostingShelf", name := "stem", desc := "(J)J" } : Jvm.MethodName)) ∈ ev_gw := ev_m1 (List.mem_of_getElem? (i := 223) rfl) rfl
theorem wd_224 : (Jvm.Cond.instanceMethod ({ cls := "PostingShelf", name := "stem", desc := "(J)J" } : Jvm.MethodName)) ∈ ev_gw := ev_m1 (List.mem_of_getElem? (i := 224) rfl) rfl
theorem wd_225 : (Jvm.Cond.selects "PostingShelf" ({ cls := "PostingShelf", name := "stem", desc := "(J)J" } : Jvm.MethodName) ({ cls := "PostingShelf", name := "stem", desc := "(J)J" } : Jvm.MethodName)) ∈ ev_gw := ev_m1 (List.mem_of_getElem? (i := 225) rfl) rfl
theorem wd_226 : (Jvm.Cond.code ({ cls := "PostingShelf", name := "stem", desc := "(J)J" } : Jvm.MethodName) prog_1_method_2_code (3 : Nat) (Option.some Jvm.ClassFile.FieldType.long)) ∈ ev_gw := ev_m1 (List.mem_of_getElem? (i := 226) rfl) rfl
theorem wd_227 : (Jvm.Cond.methodLink "PostingShelf" (66 : Nat) ({ cls := "PostingShelf$Stemmer", name := "isWord", desc := "(J)Z" } : Jvm.MethodName)) ∈ ev_gw := ev_m1 (List.mem_of_getElem? (i := 227) rfl) rfl
theorem wd_228 : (Jvm.Cond.static ({ cls := "PostingShelf$Stemmer", name := "isWord", desc := "(J)Z" } : Jvm.MethodName)) ∈ ev_gw := ev_m1 (List.mem_of_getElem? (i := 228) rfl) rfl
theorem wd_229 : (Jvm.Cond.code ({ cls := "PostingShelf$Stemmer", name := "isWord", desc := "(J)Z" } : Jvm.MethodName) prog_10_method_2_code (7 : Nat) (Option.some Jvm.ClassFile.FieldType.boolean)) ∈ ev_gw := ev_m1 (List.mem_of_getElem? (i := 229) rfl) rfl
theorem wd_23 : (Jvm.Cond.initialized "jdk/internal/util/ArraysSupport") ∈ ev_gw := ev_m1 (List.mem_of_getElem? (i := 23) rfl) rfl
theorem wd_230 : (Jvm.Cond.constantLong "PostingShelf$Stemmer" (23 : Nat) (31 : Int64)) ∈ ev_gw := ev_m1 (List.mem_of_getElem? (i := 230) rfl) rfl
theorem wd_231 : (Jvm.Cond.constantLong "PostingShelf$Stemmer" (25 : Nat) (26 : Int64)) ∈ ev_gw := ev_m1 (List.mem_of_getElem? (i := 231) rfl) rfl
theorem wd_232 : (Jvm.Cond.methodLink "PostingShelf" (70 : Nat) ({ cls := "PostingShelf$Stemmer", name := "stemOf", desc := "(J)J" } : Jvm.MethodName)) ∈ ev_gw := ev_m1 (List.mem_of_getElem? (i := 232) rfl) rfl
theorem wd_233 : (Jvm.Cond.instanceMethod ({ cls := "PostingShelf$Stemmer", name := "stemOf", desc := "(J)J" } : Jvm.MethodName)) ∈ ev_gw := ev_m1 (List.mem_of_getElem? (i := 233) rfl) rfl
theorem wd_234 : (Jvm.Cond.selects "PostingShelf$Stemmer" ({ cls := "PostingShelf$Stemmer", name := "stemOf", desc := "(J)J" } : Jvm.MethodName) ({ cls := "PostingShelf$Stemmer", name := "stemOf", desc := "(J)J" } : Jvm.MethodName)) ∈ ev_gw := ev_m1 (List.mem_of_getElem? (i := 234) rfl) rfl
theorem wd_235 : (Jvm.Cond.code ({ cls := "PostingShelf$Stemmer", name := "stemOf", desc := "(J)J" } : Jvm.MethodName) prog_10_method_5_code (3 : Nat) (Option.some Jvm.ClassFile.FieldType.long)) ∈ ev_gw := ev_m1 (List.mem_of_getElem? (i := 235) rfl) rfl
theorem wd_236 : (Jvm.Cond.methodLink "PostingShelf$Stemmer" (39 : Nat) ({ cls := "PostingShelf$Stemmer", name := "unpack", desc := "(J)V" } : Jvm.MethodName)) ∈ ev_gw := ev_m1 (List.mem_of_getElem? (i := 236) rfl) rfl
theorem wd_238 : (Jvm.Cond.instanceMethod ({ cls := "PostingShelf$Stemmer", name := "unpack", desc := "(J)V" } : Jvm.MethodName)) ∈ ev_gw := ev_m1 (List.mem_of_getElem? (i := 238) rfl) rfl
theorem wd_239 : (Jvm.Cond.code ({ cls := "PostingShelf$Stemmer", name := "unpack", desc := "(J)V" } : Jvm.MethodName) prog_10_method_6_code (6 : Nat) (Option.none : Option Jvm.ClassFile.FieldType)) ∈ ev_gw := ev_m1 (List.mem_of_getElem? (i := 239) rfl) rfl
theorem wd_24 : (Jvm.Cond.initialized "java/lang/Integer") ∈ ev_gw := ev_m1 (List.mem_of_getElem? (i := 24) rfl) rfl
theorem wd_240 : (Jvm.Cond.constantLong "PostingShelf$Stemmer" (56 : Nat) (96 : Int64)) ∈ ev_gw := ev_m2 (List.mem_of_getElem? (i := 0) rfl) rfl
theorem wd_241 : (Jvm.Cond.methodLink "PostingShelf$Stemmer" (58 : Nat) ({ cls := "PostingShelf$Stemmer", name := "append", desc := "(C)V" } : Jvm.MethodName)) ∈ ev_gw := ev_m2 (List.mem_of_getElem? (i := 1) rfl) rfl
theorem wd_243 : (Jvm.Cond.instanceMethod ({ cls := "PostingShelf$Stemmer", name := "append", desc := "(C)V" } : Jvm.MethodName)) ∈ ev_gw := ev_m2 (List.mem_of_getElem? (i := 3) rfl) rfl
theorem wd_244 : (Jvm.Cond.code ({ cls := "PostingShelf$Stemmer", name := "append", desc := "(C)V" } : Jvm.MethodName) prog_10_method_8_code (3 : Nat) (Option.none : Option Jvm.ClassFile.FieldType)) ∈ ev_gw := ev_m2 (List.mem_of_getElem? (i := 4) rfl) rfl
theorem wd_246 : (Jvm.Cond.methodLink "PostingShelf$Stemmer" (64 : Nat) ({ cls := "java/lang/String", name := "indexOf", desc := "(I)I" } : Jvm.MethodName)) ∈ ev_gw := ev_m2 (List.mem_of_getElem? (i := 6) rfl) rfl
theorem wd_247 : (Jvm.Cond.instanceMethod ({ cls := "java/lang/String", name := "indexOf", desc := "(I)I" } : Jvm.MethodName)) ∈ ev_gw := ev_m2 (List.mem_of_getElem? (i := 7) rfl) rfl
theorem wd_248 : (Jvm.Cond.selects "java/lang/String" ({ cls := "java/lang/String", name := "indexOf", desc := "(I)I" } : Jvm.MethodName) ({ cls := "java/lang/String", name := "indexOf", desc := "(I)I" } : Jvm.MethodName)) ∈ ev_gw := ev_m2 (List.mem_of_getElem? (i := 8) rfl) rfl
theorem wd_249 : (Jvm.Cond.code ({ cls := "java/lang/String", name := "indexOf", desc := "(I)I" } : Jvm.MethodName) prog_20_method_79_code (2 : Nat) (Option.some Jvm.ClassFile.FieldType.int)) ∈ ev_gw := ev_m2 (List.mem_of_getElem? (i := 9) rfl) rfl
theorem wd_25 : (Jvm.Cond.initialized "PostingShelf$Segment") ∈ ev_gw := ev_m1 (List.mem_of_getElem? (i := 25) rfl) rfl
theorem wd_250 : (Jvm.Cond.methodLink "java/lang/String" (633 : Nat) ({ cls := "java/lang/String", name := "indexOf", desc := "(II)I" } : Jvm.MethodName)) ∈ ev_gw := ev_m2 (List.mem_of_getElem? (i := 10) rfl) rfl
theorem wd_251 : (Jvm.Cond.instanceMethod ({ cls := "java/lang/String", name := "indexOf", desc := "(II)I" } : Jvm.MethodName)) ∈ ev_gw := ev_m2 (List.mem_of_getElem? (i := 11) rfl) rfl
theorem wd_252 : (Jvm.Cond.selects "java/lang/String" ({ cls := "java/lang/String", name := "indexOf", desc := "(II)I" } : Jvm.MethodName) ({ cls := "java/lang/String", name := "indexOf", desc := "(II)I" } : Jvm.MethodName)) ∈ ev_gw := ev_m2 (List.mem_of_getElem? (i := 12) rfl) rfl
theorem wd_253 : (Jvm.Cond.code ({ cls := "java/lang/String", name := "indexOf", desc := "(II)I" } : Jvm.MethodName) prog_20_method_80_code (3 : Nat) (Option.some Jvm.ClassFile.FieldType.int)) ∈ ev_gw := ev_m2 (List.mem_of_getElem? (i := 13) rfl) rfl
theorem wd_254 : (Jvm.Cond.methodLink "java/lang/String" (492 : Nat) ({ cls := "java/lang/String", name := "isLatin1", desc := "()Z" } : Jvm.MethodName)) ∈ ev_gw := ev_m2 (List.mem_of_getElem? (i := 14) rfl) rfl
theorem wd_255 : (Jvm.Cond.instanceMethod ({ cls := "java/lang/String", name := "isLatin1", desc := "()Z" } : Jvm.MethodName)) ∈ ev_gw := ev_m2 (List.mem_of_getElem? (i := 15) rfl) rfl
theorem wd_256 : (Jvm.Cond.selects "java/lang/String" ({ cls := "java/lang/String", name := "isLatin1", desc := "()Z" } : Jvm.MethodName) ({ cls := "java/lang/String", name := "isLatin1", desc := "()Z" } : Jvm.MethodName)) ∈ ev_gw := ev_m2 (List.mem_of_getElem? (i := 16) rfl) rfl
theorem wd_257 : (Jvm.Cond.code ({ cls := "java/lang/String", name := "isLatin1", desc := "()Z" } : Jvm.MethodName) prog_20_method_154_code (1 : Nat) (Option.some Jvm.ClassFile.FieldType.boolean)) ∈ ev_gw := ev_m2 (List.mem_of_getElem? (i := 17) rfl) rfl
theorem wd_26 : (Jvm.Cond.initialized "PostingShelf$Step") ∈ ev_gw := ev_m1 (List.mem_of_getElem? (i := 26) rfl) rfl
theorem wd_260 : (Jvm.Cond.methodLink "java/lang/String" (505 : Nat) ({ cls := "java/lang/String", name := "length", desc := "()I" } : Jvm.MethodName)) ∈ ev_gw := ev_m2 (List.mem_of_getElem? (i := 20) rfl) rfl
theorem wd_261 : (Jvm.Cond.instanceMethod ({ cls := "java/lang/String", name := "length", desc := "()I" } : Jvm.MethodName)) ∈ ev_gw := ev_m2 (List.mem_of_getElem? (i := 21) rfl) rfl
theorem wd_262 : (Jvm.Cond.selects "java/lang/String" ({ cls := "java/lang/String", name := "length", desc := "()I" } : Jvm.MethodName) ({ cls := "java/lang/String", name := "length", desc := "()I" } : Jvm.MethodName)) ∈ ev_gw := ev_m2 (List.mem_of_getElem? (i := 22) rfl) rfl
theorem wd_263 : (Jvm.Cond.code ({ cls := "java/lang/String", name := "length", desc := "()I" } : Jvm.MethodName) prog_20_method_54_code (1 : Nat) (Option.some Jvm.ClassFile.FieldType.int)) ∈ ev_gw := ev_m2 (List.mem_of_getElem? (i := 23) rfl) rfl
theorem wd_264 : (Jvm.Cond.methodLink "java/lang/String" (335 : Nat) ({ cls := "java/lang/String", name := "coder", desc := "()B" } : Jvm.MethodName)) ∈ ev_gw := ev_m2 (List.mem_of_getElem? (i := 24) rfl) rfl
theorem wd_265 : (Jvm.Cond.instanceMethod ({ cls := "java/lang/String", name := "coder", desc := "()B" } : Jvm.MethodName)) ∈ ev_gw := ev_m2 (List.mem_of_getElem? (i := 25) rfl) rfl
theorem wd_266 : (Jvm.Cond.selects "java/lang/String" ({ cls := "java/lang/String", name := "coder", desc := "()B" } : Jvm.MethodName) ({ cls := "java/lang/String", name := "coder", desc := "()B" } : Jvm.MethodName)) ∈ ev_gw := ev_m2 (List.mem_of_getElem? (i := 26) rfl) rfl
theorem wd_267 : (Jvm.Cond.code ({ cls := "java/lang/String", name := "coder", desc := "()B" } : Jvm.MethodName) prog_20_method_152_code (1 : Nat) (Option.some Jvm.ClassFile.FieldType.byte)) ∈ ev_gw := ev_m2 (List.mem_of_getElem? (i := 27) rfl) rfl
theorem wd_268 : (Jvm.Cond.methodLink "java/lang/String" (637 : Nat) ({ cls := "java/lang/StringLatin1", name := "indexOf", desc := "([BIII)I" } : Jvm.MethodName)) ∈ ev_gw := ev_m2 (List.mem_of_getElem? (i := 28) rfl) rfl
theorem wd_269 : (Jvm.Cond.static ({ cls := "java/lang/StringLatin1", name := "indexOf", desc := "([BIII)I" } : Jvm.MethodName)) ∈ ev_gw := ev_m2 (List.mem_of_getElem? (i := 29) rfl) rfl
theorem wd_27 : (Jvm.Cond.classLink "PostingShelfLaw" (7 : Nat) "PostingShelf") ∈ ev_gw := ev_m1 (List.mem_of_getElem? (i := 27) rfl) rfl
theorem wd_270 : (Jvm.Cond.code ({ cls := "java/lang/StringLatin1", name := "indexOf", desc := "([BIII)I" } : Jvm.MethodName) prog_21_method_22_code (4 : Nat) (Option.some Jvm.ClassFile.FieldType.int)) ∈ ev_gw := ev_m2 (List.mem_of_getElem? (i := 30) rfl) rfl
theorem wd_271 : (Jvm.Cond.methodLink "java/lang/StringLatin1" (88 : Nat) ({ cls := "java/lang/StringLatin1", name := "canEncode", desc := "(I)Z" } : Jvm.MethodName)) ∈ ev_gw := ev_m2 (List.mem_of_getElem? (i := 31) rfl) rfl
theorem wd_272 : (Jvm.Cond.static ({ cls := "java/lang/StringLatin1", name := "canEncode", desc := "(I)Z" } : Jvm.MethodName)) ∈ ev_gw := ev_m2 (List.mem_of_getElem? (i := 32) rfl) rfl
theorem wd_273 : (Jvm.Cond.code ({ cls := "java/lang/StringLatin1", name := "canEncode", desc := "(I)Z" } : Jvm.MethodName) prog_21_method_4_code (1 : Nat) (Option.some Jvm.ClassFile.FieldType.boolean)) ∈ ev_gw := ev_m2 (List.mem_of_getElem? (i := 33) rfl) rfl
theorem wd_274 : (Jvm.Cond.methodLink "java/lang/StringLatin1" (92 : Nat) ({ cls := "java/lang/Math", name := "max", desc := "(II)I" } : Jvm.MethodName)) ∈ ev_gw := ev_m2 (List.mem_of_getElem? (i := 34) rfl) rfl
theorem wd_275 : (Jvm.Cond.static ({ cls := "java/lang/Math", name := "max", desc := "(II)I" } : Jvm.MethodName)) ∈ ev_gw := ev_m2 (List.mem_of_getElem? (i := 35) rfl) rfl
theorem wd_276 : (Jvm.Cond.code ({ cls := "java/lang/Math", name := "max", desc := "(II)I" } : Jvm.MethodName) prog_19_method_65_code (2 : Nat) (Option.some Jvm.ClassFile.FieldType.int)) ∈ ev_gw := ev_m2 (List.mem_of_getElem? (i := 36) rfl) rfl
theorem wd_277 : (Jvm.Cond.methodLink "java/lang/StringLatin1" (38 : Nat) ({ cls := "java/lang/Math", name := "min", desc := "(II)I" } : Jvm.MethodName)) ∈ ev_gw := ev_m2 (List.mem_of_getElem? (i := 37) rfl) rfl
theorem wd_278 : (Jvm.Cond.static ({ cls := "java/lang/Math", name := "min", desc := "(II)I" } : Jvm.MethodName)) ∈ ev_gw := ev_m2 (List.mem_of_getElem? (i := 38) rfl) rfl
theorem wd_279 : (Jvm.Cond.code ({ cls := "java/lang/Math", name := "min", desc := "(II)I" } : Jvm.MethodName) prog_19_method_69_code (2 : Nat) (Option.some Jvm.ClassFile.FieldType.int)) ∈ ev_gw := ev_m2 (List.mem_of_getElem? (i := 39) rfl) rfl
theorem wd_28 : (Jvm.Cond.instantiable "PostingShelf" (9 : Nat)) ∈ ev_gw := ev_m1 (List.mem_of_getElem? (i := 28) rfl) rfl
theorem wd_280 : (Jvm.Cond.methodLink "java/lang/StringLatin1" (95 : Nat) ({ cls := "java/lang/StringLatin1", name := "indexOfChar", desc := "([BIII)I" } : Jvm.MethodName)) ∈ ev_gw := ev_m2 (List.mem_of_getElem? (i := 40) rfl) rfl
theorem wd_281 : (Jvm.Cond.static ({ cls := "java/lang/StringLatin1", name := "indexOfChar", desc := "([BIII)I" } : Jvm.MethodName)) ∈ ev_gw := ev_m2 (List.mem_of_getElem? (i := 41) rfl) rfl
theorem wd_282 : (Jvm.Cond.code ({ cls := "java/lang/StringLatin1", name := "indexOfChar", desc := "([BIII)I" } : Jvm.MethodName) prog_21_method_23_code (6 : Nat) (Option.some Jvm.ClassFile.FieldType.int)) ∈ ev_gw := ev_m2 (List.mem_of_getElem? (i := 42) rfl) rfl
theorem wd_283 : (Jvm.Cond.methodLink "java/lang/String" (640 : Nat) ({ cls := "java/lang/StringUTF16", name := "indexOf", desc := "([BIII)I" } : Jvm.MethodName)) ∈ ev_gw := ev_m2 (List.mem_of_getElem? (i := 43) rfl) rfl
theorem wd_284 : (Jvm.Cond.static ({ cls := "java/lang/StringUTF16", name := "indexOf", desc := "([BIII)I" } : Jvm.MethodName)) ∈ ev_gw := ev_m2 (List.mem_of_getElem? (i := 44) rfl) rfl
theorem wd_285 : (Jvm.Cond.code ({ cls := "java/lang/StringUTF16", name := "indexOf", desc := "([BIII)I" } : Jvm.MethodName) prog_22_method_40_code (4 : Nat) (Option.some Jvm.ClassFile.FieldType.int)) ∈ ev_gw := ev_m2 (List.mem_of_getElem? (i := 45) rfl) rfl
theorem wd_286 : (Jvm.Cond.methodLink "java/lang/StringUTF16" (224 : Nat) ({ cls := "java/lang/Math", name := "max", desc := "(II)I" } : Jvm.MethodName)) ∈ ev_gw := ev_m2 (List.mem_of_getElem? (i := 46) rfl) rfl
theorem wd_287 : (Jvm.Cond.methodLink "java/lang/StringUTF16" (183 : Nat) ({ cls := "java/lang/Math", name := "min", desc := "(II)I" } : Jvm.MethodName)) ∈ ev_gw := ev_m2 (List.mem_of_getElem? (i := 47) rfl) rfl
theorem wd_288 : (Jvm.Cond.constant "java/lang/StringUTF16" (227 : Nat) (65536 : Int32)) ∈ ev_gw := ev_m2 (List.mem_of_getElem? (i := 48) rfl) rfl
theorem wd_289 : (Jvm.Cond.methodLink "java/lang/StringUTF16" (228 : Nat) ({ cls := "java/lang/StringUTF16", name := "indexOfChar", desc := "([BIII)I" } : Jvm.MethodName)) ∈ ev_gw := ev_m2 (List.mem_of_getElem? (i := 49) rfl) rfl
theorem wd_29 : (Jvm.Cond.methodLink "PostingShelfLaw" (9 : Nat) ({ cls := "PostingShelf", name := "<init>", desc := "()V" } : Jvm.MethodName)) ∈ ev_gw := ev_m1 (List.mem_of_getElem? (i := 29) rfl) rfl
theorem wd_290 : (Jvm.Cond.static ({ cls := "java/lang/StringUTF16", name := "indexOfChar", desc := "([BIII)I" } : Jvm.MethodName)) ∈ ev_gw := ev_m2 (List.mem_of_getElem? (i := 50) rfl) rfl
theorem wd_291 : (Jvm.Cond.code ({ cls := "java/lang/StringUTF16", name := "indexOfChar", desc := "([BIII)I" } : Jvm.MethodName) prog_22_method_47_code (4 : Nat) (Option.some Jvm.ClassFile.FieldType.int)) ∈ ev_gw := ev_m2 (List.mem_of_getElem? (i := 51) rfl) rfl
theorem wd_292 : (Jvm.Cond.methodLink "java/lang/StringUTF16" (96 : Nat) ({ cls := "java/lang/StringUTF16", name := "checkBoundsBeginEnd", desc := "(II[B)V" } : Jvm.MethodName)) ∈ ev_gw := ev_m2 (List.mem_of_getElem? (i := 52) rfl) rfl
theorem wd_293 : (Jvm.Cond.static ({ cls := "java/lang/StringUTF16", name := "checkBoundsBeginEnd", desc := "(II[B)V" } : Jvm.MethodName)) ∈ ev_gw := ev_m2 (List.mem_of_getElem? (i := 53) rfl) rfl
theorem wd_294 : (Jvm.Cond.code ({ cls := "java/lang/StringUTF16", name := "checkBoundsBeginEnd", desc := "(II[B)V" } : Jvm.MethodName) prog_22_method_93_code (3 : Nat) (Option.none : Option Jvm.ClassFile.FieldType)) ∈ ev_gw := ev_m2 (List.mem_of_getElem? (i := 54) rfl) rfl
theorem wd_295 : (Jvm.Cond.methodLink "java/lang/StringUTF16" (48 : Nat) ({ cls := "java/lang/StringUTF16", name := "length", desc := "([B)I" } : Jvm.MethodName)) ∈ ev_gw := ev_m2 (List.mem_of_getElem? (i := 55) rfl) rfl
theorem wd_296 : (Jvm.Cond.static ({ cls := "java/lang/StringUTF16", name := "length", desc := "([B)I" } : Jvm.MethodName)) ∈ ev_gw := ev_m2 (List.mem_of_getElem? (i := 56) rfl) rfl
theorem wd_297 : (Jvm.Cond.code ({ cls := "java/lang/StringUTF16", name := "length", desc := "([B)I" } : Jvm.MethodName) prog_22_method_6_code (1 : Nat) (Option.some Jvm.ClassFile.FieldType.int)) ∈ ev_gw := ev_m2 (List.mem_of_getElem? (i := 57) rfl) rfl
theorem wd_298 : (Jvm.Cond.methodLink "java/lang/StringUTF16" (241 : Nat) ({ cls := "java/lang/String", name := "checkBoundsBeginEnd", desc := "(III)V" } : Jvm.MethodName)) ∈ ev_gw := ev_m2 (List.mem_of_getElem? (i := 58) rfl) rfl
theorem wd_299 : (Jvm.Cond.static ({ cls := "java/lang/String", name := "checkBoundsBeginEnd", desc := "(III)V" } : Jvm.MethodName)) ∈ ev_gw := ev_m2 (List.mem_of_getElem? (i := 59) rfl) rfl
theorem wd_3 : (Jvm.Cond.initialized "PostingShelf$Pending") ∈ ev_gw := ev_m1 (List.mem_of_getElem? (i := 3) rfl) rfl
theorem wd_30 : (Jvm.Cond.instanceMethod ({ cls := "PostingShelf", name := "<init>", desc := "()V" } : Jvm.MethodName)) ∈ ev_gw := ev_m1 (List.mem_of_getElem? (i := 30) rfl) rfl
theorem wd_300 : (Jvm.Cond.code ({ cls := "java/lang/String", name := "checkBoundsBeginEnd", desc := "(III)V" } : Jvm.MethodName) prog_20_method_158_code (3 : Nat) (Option.none : Option Jvm.ClassFile.FieldType)) ∈ ev_gw := ev_m2 (List.mem_of_getElem? (i := 60) rfl) rfl
theorem wd_303 : (Jvm.Cond.methodLink "java/lang/String" (1062 : Nat) ({ cls := "jdk/internal/util/Preconditions", name := "checkFromToIndex", desc := "(IIILjava/util/function/BiFunction;)I" } : Jvm.MethodName)) ∈ ev_gw := ev_m2 (List.mem_of_getElem? (i := 63) rfl) rfl
theorem wd_304 : (Jvm.Cond.static ({ cls := "jdk/internal/util/Preconditions", name := "checkFromToIndex", desc := "(IIILjava/util/function/BiFunction;)I" } : Jvm.MethodName)) ∈ ev_gw := ev_m2 (List.mem_of_getElem? (i := 64) rfl) rfl
theorem wd_305 : (Jvm.Cond.code ({ cls := "jdk/internal/util/Preconditions", name := "checkFromToIndex", desc := "(IIILjava/util/function/BiFunction;)I" } : Jvm.MethodName) prog_34_method_12_code (4 : Nat) (Option.some Jvm.ClassFile.FieldType.int)) ∈ ev_gw := ev_m2 (List.mem_of_getElem? (i := 65) rfl) rfl
theorem wd_306 : (Jvm.Cond.methodLink "java/lang/StringUTF16" (244 : Nat) ({ cls := "java/lang/StringUTF16", name := "indexOfCharUnsafe", desc := "([BIII)I" } : Jvm.MethodName)) ∈ ev_gw := ev_m2 (List.mem_of_getElem? (i := 66) rfl) rfl
theorem wd_307 : (Jvm.Cond.static ({ cls := "java/lang/StringUTF16", name := "indexOfCharUnsafe", desc := "([BIII)I" } : Jvm.MethodName)) ∈ ev_gw := ev_m2 (List.mem_of_getElem? (i := 67) rfl) rfl
theorem wd_308 : (Jvm.Cond.code ({ cls := "java/lang/StringUTF16", name := "indexOfCharUnsafe", desc := "([BIII)I" } : Jvm.MethodName) prog_22_method_48_code (5 : Nat) (Option.some Jvm.ClassFile.FieldType.int)) ∈ ev_gw := ev_m2 (List.mem_of_getElem? (i := 68) rfl) rfl
theorem wd_309 : (Jvm.Cond.methodLink "java/lang/StringUTF16" (71 : Nat) ({ cls := "java/lang/StringUTF16", name := "getChar", desc := "([BI)C" } : Jvm.MethodName)) ∈ ev_gw := ev_m2 (List.mem_of_getElem? (i := 69) rfl) rfl
theorem wd_31 : (Jvm.Cond.code ({ cls := "PostingShelf", name := "<init>", desc := "()V" } : Jvm.MethodName) prog_1_method_1_code (1 : Nat) (Option.none : Option Jvm.ClassFile.FieldType)) ∈ ev_gw := ev_m1 (List.mem_of_getElem? (i := 31) rfl) rfl
theorem wd_310 : (Jvm.Cond.static ({ cls := "java/lang/StringUTF16", name := "getChar", desc := "([BI)C" } : Jvm.MethodName)) ∈ ev_gw := ev_m2 (List.mem_of_getElem? (i := 70) rfl) rfl
theorem wd_311 : (Jvm.Cond.code ({ cls := "java/lang/StringUTF16", name := "getChar", desc := "([BI)C" } : Jvm.MethodName) prog_22_method_5_code (2 : Nat) (Option.some Jvm.ClassFile.FieldType.char)) ∈ ev_gw := ev_m2 (List.mem_of_getElem? (i := 71) rfl) rfl
theorem wd_318 : (Jvm.Cond.methodLink "java/lang/StringUTF16" (232 : Nat) ({ cls := "java/lang/StringUTF16", name := "indexOfSupplementary", desc := "([BIII)I" } : Jvm.MethodName)) ∈ ev_gw := ev_m2 (List.mem_of_getElem? (i := 78) rfl) rfl
theorem wd_319 : (Jvm.Cond.static ({ cls := "java/lang/StringUTF16", name := "indexOfSupplementary", desc := "([BIII)I" } : Jvm.MethodName)) ∈ ev_gw := ev_m2 (List.mem_of_getElem? (i := 79) rfl) rfl
theorem wd_32 : (Jvm.Cond.methodLink "PostingShelf" (1 : Nat) ({ cls := "java/lang/Object", name := "<init>", desc := "()V" } : Jvm.MethodName)) ∈ ev_gw := ev_m1 (List.mem_of_getElem? (i := 32) rfl) rfl
theorem wd_320 : (Jvm.Cond.code ({ cls := "java/lang/StringUTF16", name := "indexOfSupplementary", desc := "([BIII)I" } : Jvm.MethodName) prog_22_method_49_code (7 : Nat) (Option.some Jvm.ClassFile.FieldType.int)) ∈ ev_gw := ev_m2 (List.mem_of_getElem? (i := 80) rfl) rfl
theorem wd_321 : (Jvm.Cond.methodLink "java/lang/StringUTF16" (164 : Nat) ({ cls := "java/lang/Character", name := "isValidCodePoint", desc := "(I)Z" } : Jvm.MethodName)) ∈ ev_gw := ev_m2 (List.mem_of_getElem? (i := 81) rfl) rfl
theorem wd_322 : (Jvm.Cond.static ({ cls := "java/lang/Character", name := "isValidCodePoint", desc := "(I)Z" } : Jvm.MethodName)) ∈ ev_gw := ev_m2 (List.mem_of_getElem? (i := 82) rfl) rfl
theorem wd_323 : (Jvm.Cond.code ({ cls := "java/lang/Character", name := "isValidCodePoint", desc := "(I)Z" } : Jvm.MethodName) prog_15_method_11_code (2 : Nat) (Option.some Jvm.ClassFile.FieldType.boolean)) ∈ ev_gw := ev_m2 (List.mem_of_getElem? (i := 83) rfl) rfl
theorem wd_324 : (Jvm.Cond.methodLink "java/lang/StringUTF16" (157 : Nat) ({ cls := "java/lang/Character", name := "highSurrogate", desc := "(I)C" } : Jvm.MethodName)) ∈ ev_gw := ev_m2 (List.mem_of_getElem? (i := 84) rfl) rfl
theorem wd_325 : (Jvm.Cond.static ({ cls := "java/lang/Character", name := "highSurrogate", desc := "(I)C" } : Jvm.MethodName)) ∈ ev_gw := ev_m2 (List.mem_of_getElem? (i := 85) rfl) rfl
theorem wd_326 : (Jvm.Cond.code ({ cls := "java/lang/Character", name := "highSurrogate", desc := "(I)C" } : Jvm.MethodName) prog_15_method_28_code (1 : Nat) (Option.some Jvm.ClassFile.FieldType.char)) ∈ ev_gw := ev_m2 (List.mem_of_getElem? (i := 86) rfl) rfl
theorem wd_327 : (Jvm.Cond.constant "java/lang/Character" (110 : Nat) (55232 : Int32)) ∈ ev_gw := ev_m2 (List.mem_of_getElem? (i := 87) rfl) rfl
theorem wd_328 : (Jvm.Cond.methodLink "java/lang/StringUTF16" (161 : Nat) ({ cls := "java/lang/Character", name := "lowSurrogate", desc := "(I)C" } : Jvm.MethodName)) ∈ ev_gw := ev_m2 (List.mem_of_getElem? (i := 88) rfl) rfl
theorem wd_329 : (Jvm.Cond.static ({ cls := "java/lang/Character", name := "lowSurrogate", desc := "(I)C" } : Jvm.MethodName)) ∈ ev_gw := ev_m2 (List.mem_of_getElem? (i := 89) rfl) rfl
theorem wd_33 : (Jvm.Cond.instanceMethod ({ cls := "java/lang/Object", name := "<init>", desc := "()V" } : Jvm.MethodName)) ∈ ev_gw := ev_m1 (List.mem_of_getElem? (i := 33) rfl) rfl
theorem wd_330 : (Jvm.Cond.code ({ cls := "java/lang/Character", name := "lowSurrogate", desc := "(I)C" } : Jvm.MethodName) prog_15_method_29_code (1 : Nat) (Option.some Jvm.ClassFile.FieldType.char)) ∈ ev_gw := ev_m2 (List.mem_of_getElem? (i := 90) rfl) rfl
theorem wd_331 : (Jvm.Cond.constant "java/lang/Character" (76 : Nat) (56320 : Int32)) ∈ ev_gw := ev_m2 (List.mem_of_getElem? (i := 91) rfl) rfl
theorem wd_332 : (Jvm.Cond.methodLink "PostingShelf$Stemmer" (43 : Nat) ({ cls := "PostingShelf$Stemmer", name := "dropPlural", desc := "()V" } : Jvm.MethodName)) ∈ ev_gw := ev_m2 (List.mem_of_getElem? (i := 92) rfl) rfl
theorem wd_334 : (Jvm.Cond.instanceMethod ({ cls := "PostingShelf$Stemmer", name := "dropPlural", desc := "()V" } : Jvm.MethodName)) ∈ ev_gw := ev_m2 (List.mem_of_getElem? (i := 94) rfl) rfl
theorem wd_335 : (Jvm.Cond.code ({ cls := "PostingShelf$Stemmer", name := "dropPlural", desc := "()V" } : Jvm.MethodName) prog_10_method_9_code (1 : Nat) (Option.none : Option Jvm.ClassFile.FieldType)) ∈ ev_gw := ev_m2 (List.mem_of_getElem? (i := 95) rfl) rfl
theorem wd_337 : (Jvm.Cond.methodLink "PostingShelf$Stemmer" (72 : Nat) ({ cls := "PostingShelf$Stemmer", name := "endsIn", desc := "(Ljava/lang/String;)Z" } : Jvm.MethodName)) ∈ ev_gw := ev_m2 (List.mem_of_getElem? (i := 97) rfl) rfl
theorem wd_339 : (Jvm.Cond.instanceMethod ({ cls := "PostingShelf$Stemmer", name := "endsIn", desc := "(Ljava/lang/String;)Z" } : Jvm.MethodName)) ∈ ev_gw := ev_m2 (List.mem_of_getElem? (i := 99) rfl) rfl
theorem wd_34 : (Jvm.Cond.code ({ cls := "java/lang/Object", name := "<init>", desc := "()V" } : Jvm.MethodName) object_method_1_code (1 : Nat) (Option.none : Option Jvm.ClassFile.FieldType)) ∈ ev_gw := ev_m1 (List.mem_of_getElem? (i := 34) rfl) rfl
theorem wd_340 : (Jvm.Cond.code ({ cls := "PostingShelf$Stemmer", name := "endsIn", desc := "(Ljava/lang/String;)Z" } : Jvm.MethodName) prog_10_method_13_code (4 : Nat) (Option.some Jvm.ClassFile.FieldType.boolean)) ∈ ev_gw := ev_m2 (List.mem_of_getElem? (i := 100) rfl) rfl
theorem wd_341 : (Jvm.Cond.methodLink "PostingShelf$Stemmer" (113 : Nat) ({ cls := "java/lang/String", name := "length", desc := "()I" } : Jvm.MethodName)) ∈ ev_gw := ev_m2 (List.mem_of_getElem? (i := 101) rfl) rfl
theorem wd_342 : (Jvm.Cond.methodLink "PostingShelf$Stemmer" (116 : Nat) ({ cls := "java/lang/String", name := "charAt", desc := "(I)C" } : Jvm.MethodName)) ∈ ev_gw := ev_m2 (List.mem_of_getElem? (i := 102) rfl) rfl
theorem wd_343 : (Jvm.Cond.instanceMethod ({ cls := "java/lang/String", name := "charAt", desc := "(I)C" } : Jvm.MethodName)) ∈ ev_gw := ev_m2 (List.mem_of_getElem? (i := 103) rfl) rfl
theorem wd_344 : (Jvm.Cond.selects "java/lang/String" ({ cls := "java/lang/String", name := "charAt", desc := "(I)C" } : Jvm.MethodName) ({ cls := "java/lang/String", name := "charAt", desc := "(I)C" } : Jvm.MethodName)) ∈ ev_gw := ev_m2 (List.mem_of_getElem? (i := 104) rfl) rfl
theorem wd_345 : (Jvm.Cond.code ({ cls := "java/lang/String", name := "charAt", desc := "(I)C" } : Jvm.MethodName) prog_20_method_56_code (2 : Nat) (Option.some Jvm.ClassFile.FieldType.char)) ∈ ev_gw := ev_m2 (List.mem_of_getElem? (i := 105) rfl) rfl
theorem wd_346 : (Jvm.Cond.methodLink "java/lang/String" (495 : Nat) ({ cls := "java/lang/StringLatin1", name := "charAt", desc := "([BI)C" } : Jvm.MethodName)) ∈ ev_gw := ev_m2 (List.mem_of_getElem? (i := 106) rfl) rfl
theorem wd_347 : (Jvm.Cond.static ({ cls := "java/lang/StringLatin1", name := "charAt", desc := "([BI)C" } : Jvm.MethodName)) ∈ ev_gw := ev_m2 (List.mem_of_getElem? (i := 107) rfl) rfl
theorem wd_348 : (Jvm.Cond.code ({ cls := "java/lang/StringLatin1", name := "charAt", desc := "([BI)C" } : Jvm.MethodName) prog_21_method_2_code (2 : Nat) (Option.some Jvm.ClassFile.FieldType.char)) ∈ ev_gw := ev_m2 (List.mem_of_getElem? (i := 108) rfl) rfl
theorem wd_349 : (Jvm.Cond.methodLink "java/lang/StringLatin1" (9 : Nat) ({ cls := "java/lang/String", name := "checkIndex", desc := "(II)V" } : Jvm.MethodName)) ∈ ev_gw := ev_m2 (List.mem_of_getElem? (i := 109) rfl) rfl
theorem wd_35 : (Jvm.Cond.classLink "PostingShelf" (7 : Nat) "PostingShelf$Stemmer") ∈ ev_gw := ev_m1 (List.mem_of_getElem? (i := 35) rfl) rfl
theorem wd_350 : (Jvm.Cond.static ({ cls := "java/lang/String", name := "checkIndex", desc := "(II)V" } : Jvm.MethodName)) ∈ ev_gw := ev_m2 (List.mem_of_getElem? (i := 110) rfl) rfl
theorem wd_351 : (Jvm.Cond.code ({ cls := "java/lang/String", name := "checkIndex", desc := "(II)V" } : Jvm.MethodName) prog_20_method_155_code (2 : Nat) (Option.none : Option Jvm.ClassFile.FieldType)) ∈ ev_gw := ev_m2 (List.mem_of_getElem? (i := 111) rfl) rfl
theorem wd_352 : (Jvm.Cond.methodLink "java/lang/String" (1059 : Nat) ({ cls := "jdk/internal/util/Preconditions", name := "checkIndex", desc := "(IILjava/util/function/BiFunction;)I" } : Jvm.MethodName)) ∈ ev_gw := ev_m2 (List.mem_of_getElem? (i := 112) rfl) rfl
theorem wd_353 : (Jvm.Cond.static ({ cls := "jdk/internal/util/Preconditions", name := "checkIndex", desc := "(IILjava/util/function/BiFunction;)I" } : Jvm.MethodName)) ∈ ev_gw := ev_m2 (List.mem_of_getElem? (i := 113) rfl) rfl
theorem wd_354 : (Jvm.Cond.code ({ cls := "jdk/internal/util/Preconditions", name := "checkIndex", desc := "(IILjava/util/function/BiFunction;)I" } : Jvm.MethodName) prog_34_method_11_code (3 : Nat) (Option.some Jvm.ClassFile.FieldType.int)) ∈ ev_gw := ev_m2 (List.mem_of_getElem? (i := 114) rfl) rfl
theorem wd_355 : (Jvm.Cond.methodLink "java/lang/String" (498 : Nat) ({ cls := "java/lang/StringUTF16", name := "charAt", desc := "([BI)C" } : Jvm.MethodName)) ∈ ev_gw := ev_m2 (List.mem_of_getElem? (i := 115) rfl) rfl
theorem wd_356 : (Jvm.Cond.static ({ cls := "java/lang/StringUTF16", name := "charAt", desc := "([BI)C" } : Jvm.MethodName)) ∈ ev_gw := ev_m2 (List.mem_of_getElem? (i := 116) rfl) rfl
theorem wd_357 : (Jvm.Cond.code ({ cls := "java/lang/StringUTF16", name := "charAt", desc := "([BI)C" } : Jvm.MethodName) prog_22_method_83_code (2 : Nat) (Option.some Jvm.ClassFile.FieldType.char)) ∈ ev_gw := ev_m2 (List.mem_of_getElem? (i := 117) rfl) rfl
theorem wd_358 : (Jvm.Cond.methodLink "java/lang/StringUTF16" (67 : Nat) ({ cls := "java/lang/StringUTF16", name := "checkIndex", desc := "(I[B)V" } : Jvm.MethodName)) ∈ ev_gw := ev_m2 (List.mem_of_getElem? (i := 118) rfl) rfl
theorem wd_359 : (Jvm.Cond.static ({ cls := "java/lang/StringUTF16", name := "checkIndex", desc := "(I[B)V" } : Jvm.MethodName)) ∈ ev_gw := ev_m2 (List.mem_of_getElem? (i := 119) rfl) rfl
theorem wd_36 : (Jvm.Cond.instantiable "PostingShelf$Stemmer" (3 : Nat)) ∈ ev_gw := ev_m1 (List.mem_of_getElem? (i := 36) rfl) rfl
theorem wd_360 : (Jvm.Cond.code ({ cls := "java/lang/StringUTF16", name := "checkIndex", desc := "(I[B)V" } : Jvm.MethodName) prog_22_method_91_code (2 : Nat) (Option.none : Option Jvm.ClassFile.FieldType)) ∈ ev_gw := ev_m2 (List.mem_of_getElem? (i := 120) rfl) rfl
theorem wd_361 : (Jvm.Cond.methodLink "java/lang/StringUTF16" (414 : Nat) ({ cls := "java/lang/String", name := "checkIndex", desc := "(II)V" } : Jvm.MethodName)) ∈ ev_gw := ev_m2 (List.mem_of_getElem? (i := 121) rfl) rfl
theorem wd_365 : (Jvm.Cond.methodLink "PostingShelf$Stemmer" (46 : Nat) ({ cls := "PostingShelf$Stemmer", name := "dropPastOrGerund", desc := "()V" } : Jvm.MethodName)) ∈ ev_gw := ev_m2 (List.mem_of_getElem? (i := 125) rfl) rfl
theorem wd_367 : (Jvm.Cond.instanceMethod ({ cls := "PostingShelf$Stemmer", name := "dropPastOrGerund", desc := "()V" } : Jvm.MethodName)) ∈ ev_gw := ev_m2 (List.mem_of_getElem? (i := 127) rfl) rfl
theorem wd_368 : (Jvm.Cond.code ({ cls := "PostingShelf$Stemmer", name := "dropPastOrGerund", desc := "()V" } : Jvm.MethodName) prog_10_method_10_code (2 : Nat) (Option.none : Option Jvm.ClassFile.FieldType)) ∈ ev_gw := ev_m2 (List.mem_of_getElem? (i := 128) rfl) rfl
theorem wd_37 : (Jvm.Cond.methodLinkNest "PostingShelf" (9 : Nat) ({ cls := "PostingShelf$Stemmer", name := "<init>", desc := "()V" } : Jvm.MethodName) "PostingShelf") ∈ ev_gw := ev_m1 (List.mem_of_getElem? (i := 37) rfl) rfl
theorem wd_370 : (Jvm.Cond.methodLink "PostingShelf$Stemmer" (84 : Nat) ({ cls := "PostingShelf$Stemmer", name := "measure", desc := "(I)I" } : Jvm.MethodName)) ∈ ev_gw := ev_m2 (List.mem_of_getElem? (i := 130) rfl) rfl
theorem wd_372 : (Jvm.Cond.instanceMethod ({ cls := "PostingShelf$Stemmer", name := "measure", desc := "(I)I" } : Jvm.MethodName)) ∈ ev_gw := ev_m2 (List.mem_of_getElem? (i := 132) rfl) rfl
theorem wd_373 : (Jvm.Cond.code ({ cls := "PostingShelf$Stemmer", name := "measure", desc := "(I)I" } : Jvm.MethodName) prog_10_method_16_code (4 : Nat) (Option.some Jvm.ClassFile.FieldType.int)) ∈ ev_gw := ev_m2 (List.mem_of_getElem? (i := 133) rfl) rfl
theorem wd_376 : (Jvm.Cond.methodLink "PostingShelf$Stemmer" (91 : Nat) ({ cls := "PostingShelf$Stemmer", name := "hasVowel", desc := "(I)Z" } : Jvm.MethodName)) ∈ ev_gw := ev_m2 (List.mem_of_getElem? (i := 136) rfl) rfl
theorem wd_378 : (Jvm.Cond.instanceMethod ({ cls := "PostingShelf$Stemmer", name := "hasVowel", desc := "(I)Z" } : Jvm.MethodName)) ∈ ev_gw := ev_m2 (List.mem_of_getElem? (i := 138) rfl) rfl
theorem wd_379 : (Jvm.Cond.code ({ cls := "PostingShelf$Stemmer", name := "hasVowel", desc := "(I)Z" } : Jvm.MethodName) prog_10_method_17_code (3 : Nat) (Option.some Jvm.ClassFile.FieldType.boolean)) ∈ ev_gw := ev_m2 (List.mem_of_getElem? (i := 139) rfl) rfl
theorem wd_38 : (Jvm.Cond.instanceMethod ({ cls := "PostingShelf$Stemmer", name := "<init>", desc := "()V" } : Jvm.MethodName)) ∈ ev_gw := ev_m1 (List.mem_of_getElem? (i := 38) rfl) rfl
theorem wd_380 : (Jvm.Cond.methodLink "PostingShelf$Stemmer" (95 : Nat) ({ cls := "PostingShelf$Stemmer", name := "mendEnd", desc := "()V" } : Jvm.MethodName)) ∈ ev_gw := ev_m2 (List.mem_of_getElem? (i := 140) rfl) rfl
theorem wd_382 : (Jvm.Cond.instanceMethod ({ cls := "PostingShelf$Stemmer", name := "mendEnd", desc := "()V" } : Jvm.MethodName)) ∈ ev_gw := ev_m2 (List.mem_of_getElem? (i := 142) rfl) rfl
theorem wd_383 : (Jvm.Cond.code ({ cls := "PostingShelf$Stemmer", name := "mendEnd", desc := "()V" } : Jvm.MethodName) prog_10_method_11_code (1 : Nat) (Option.none : Option Jvm.ClassFile.FieldType)) ∈ ev_gw := ev_m2 (List.mem_of_getElem? (i := 143) rfl) rfl
theorem wd_387 : (Jvm.Cond.methodLink "PostingShelf$Stemmer" (104 : Nat) ({ cls := "PostingShelf$Stemmer", name := "endsInDouble", desc := "()Z" } : Jvm.MethodName)) ∈ ev_gw := ev_m2 (List.mem_of_getElem? (i := 147) rfl) rfl
theorem wd_389 : (Jvm.Cond.instanceMethod ({ cls := "PostingShelf$Stemmer", name := "endsInDouble", desc := "()Z" } : Jvm.MethodName)) ∈ ev_gw := ev_m2 (List.mem_of_getElem? (i := 149) rfl) rfl
theorem wd_39 : (Jvm.Cond.code ({ cls := "PostingShelf$Stemmer", name := "<init>", desc := "()V" } : Jvm.MethodName) prog_10_method_1_code (1 : Nat) (Option.none : Option Jvm.ClassFile.FieldType)) ∈ ev_gw := ev_m1 (List.mem_of_getElem? (i := 39) rfl) rfl
theorem wd_390 : (Jvm.Cond.code ({ cls := "PostingShelf$Stemmer", name := "endsInDouble", desc := "()Z" } : Jvm.MethodName) prog_10_method_14_code (2 : Nat) (Option.some Jvm.ClassFile.FieldType.boolean)) ∈ ev_gw := ev_m2 (List.mem_of_getElem? (i := 150) rfl) rfl
theorem wd_392 : (Jvm.Cond.methodLink "PostingShelf$Stemmer" (108 : Nat) ({ cls := "PostingShelf$Stemmer", name := "endsShort", desc := "()Z" } : Jvm.MethodName)) ∈ ev_gw := ev_m2 (List.mem_of_getElem? (i := 152) rfl) rfl
theorem wd_394 : (Jvm.Cond.instanceMethod ({ cls := "PostingShelf$Stemmer", name := "endsShort", desc := "()Z" } : Jvm.MethodName)) ∈ ev_gw := ev_m2 (List.mem_of_getElem? (i := 154) rfl) rfl
theorem wd_395 : (Jvm.Cond.code ({ cls := "PostingShelf$Stemmer", name := "endsShort", desc := "()Z" } : Jvm.MethodName) prog_10_method_15_code (1 : Nat) (Option.some Jvm.ClassFile.FieldType.boolean)) ∈ ev_gw := ev_m2 (List.mem_of_getElem? (i := 155) rfl) rfl
theorem wd_397 : (Jvm.Cond.methodLink "PostingShelf$Stemmer" (49 : Nat) ({ cls := "PostingShelf$Stemmer", name := "turnFinalY", desc := "()V" } : Jvm.MethodName)) ∈ ev_gw := ev_m2 (List.mem_of_getElem? (i := 157) rfl) rfl
theorem wd_399 : (Jvm.Cond.instanceMethod ({ cls := "PostingShelf$Stemmer", name := "turnFinalY", desc := "()V" } : Jvm.MethodName)) ∈ ev_gw := ev_m2 (List.mem_of_getElem? (i := 159) rfl) rfl
theorem wd_4 : (Jvm.Cond.initialized "java/util/AbstractCollection") ∈ ev_gw := ev_m1 (List.mem_of_getElem? (i := 4) rfl) rfl
theorem wd_40 : (Jvm.Cond.methodLink "PostingShelf$Stemmer" (3 : Nat) ({ cls := "java/lang/Object", name := "<init>", desc := "()V" } : Jvm.MethodName)) ∈ ev_gw := ev_m1 (List.mem_of_getElem? (i := 40) rfl) rfl
theorem wd_400 : (Jvm.Cond.code ({ cls := "PostingShelf$Stemmer", name := "turnFinalY", desc := "()V" } : Jvm.MethodName) prog_10_method_12_code (1 : Nat) (Option.none : Option Jvm.ClassFile.FieldType)) ∈ ev_gw := ev_m2 (List.mem_of_getElem? (i := 160) rfl) rfl
theorem wd_402 : (Jvm.Cond.methodLink "PostingShelf$Stemmer" (52 : Nat) ({ cls := "PostingShelf$Stemmer", name := "packed", desc := "()J" } : Jvm.MethodName)) ∈ ev_gw := ev_m2 (List.mem_of_getElem? (i := 162) rfl) rfl
theorem wd_404 : (Jvm.Cond.instanceMethod ({ cls := "PostingShelf$Stemmer", name := "packed", desc := "()J" } : Jvm.MethodName)) ∈ ev_gw := ev_m2 (List.mem_of_getElem? (i := 164) rfl) rfl
theorem wd_405 : (Jvm.Cond.code ({ cls := "PostingShelf$Stemmer", name := "packed", desc := "()J" } : Jvm.MethodName) prog_10_method_7_code (4 : Nat) (Option.some Jvm.ClassFile.FieldType.long)) ∈ ev_gw := ev_m2 (List.mem_of_getElem? (i := 165) rfl) rfl
theorem wd_406 : (Jvm.Cond.arrayClass Jvm.ClassFile.FieldType.byte) ∈ ev_gw := ev_m2 (List.mem_of_getElem? (i := 166) rfl) rfl
theorem wd_407 : (Jvm.Cond.methodLink "PostingShelfLaw" (20 : Nat) ({ cls := "PostingShelf", name := "feed", desc := "(J)I" } : Jvm.MethodName)) ∈ ev_gw := ev_m2 (List.mem_of_getElem? (i := 167) rfl) rfl
theorem wd_408 : (Jvm.Cond.instanceMethod ({ cls := "PostingShelf", name := "feed", desc := "(J)I" } : Jvm.MethodName)) ∈ ev_gw := ev_m2 (List.mem_of_getElem? (i := 168) rfl) rfl
theorem wd_409 : (Jvm.Cond.selects "PostingShelf" ({ cls := "PostingShelf", name := "feed", desc := "(J)I" } : Jvm.MethodName) ({ cls := "PostingShelf", name := "feed", desc := "(J)I" } : Jvm.MethodName)) ∈ ev_gw := ev_m2 (List.mem_of_getElem? (i := 169) rfl) rfl
theorem wd_41 : (Jvm.Cond.fieldLink "PostingShelf$Stemmer" (9 : Nat) "PostingShelf$Stemmer" "letters" "[C") ∈ ev_gw := ev_m1 (List.mem_of_getElem? (i := 41) rfl) rfl
theorem wd_410 : (Jvm.Cond.code ({ cls := "PostingShelf", name := "feed", desc := "(J)I" } : Jvm.MethodName) prog_1_method_3_code (3 : Nat) (Option.some Jvm.ClassFile.FieldType.int)) ∈ ev_gw := ev_m2 (List.mem_of_getElem? (i := 170) rfl) rfl
theorem wd_411 : (Jvm.Cond.methodLink "PostingShelf" (78 : Nat) ({ cls := "PostingShelf$Stemmer", name := "termOf", desc := "(J)J" } : Jvm.MethodName)) ∈ ev_gw := ev_m2 (List.mem_of_getElem? (i := 171) rfl) rfl
theorem wd_412 : (Jvm.Cond.instanceMethod ({ cls := "PostingShelf$Stemmer", name := "termOf", desc := "(J)J" } : Jvm.MethodName)) ∈ ev_gw := ev_m2 (List.mem_of_getElem? (i := 172) rfl) rfl
theorem wd_413 : (Jvm.Cond.selects "PostingShelf$Stemmer" ({ cls := "PostingShelf$Stemmer", name := "termOf", desc := "(J)J" } : Jvm.MethodName) ({ cls := "PostingShelf$Stemmer", name := "termOf", desc := "(J)J" } : Jvm.MethodName)) ∈ ev_gw := ev_m2 (List.mem_of_getElem? (i := 173) rfl) rfl
theorem wd_414 : (Jvm.Cond.code ({ cls := "PostingShelf$Stemmer", name := "termOf", desc := "(J)J" } : Jvm.MethodName) prog_10_method_4_code (3 : Nat) (Option.some Jvm.ClassFile.FieldType.long)) ∈ ev_gw := ev_m2 (List.mem_of_getElem? (i := 174) rfl) rfl
theorem wd_415 : (Jvm.Cond.methodLink "PostingShelf$Stemmer" (31 : Nat) ({ cls := "PostingShelf$Stemmer", name := "isStopWord", desc := "(J)Z" } : Jvm.MethodName)) ∈ ev_gw := ev_m2 (List.mem_of_getElem? (i := 175) rfl) rfl
theorem wd_416 : (Jvm.Cond.static ({ cls := "PostingShelf$Stemmer", name := "isStopWord", desc := "(J)Z" } : Jvm.MethodName)) ∈ ev_gw := ev_m2 (List.mem_of_getElem? (i := 176) rfl) rfl
theorem wd_417 : (Jvm.Cond.code ({ cls := "PostingShelf$Stemmer", name := "isStopWord", desc := "(J)Z" } : Jvm.MethodName) prog_10_method_3_code (3 : Nat) (Option.some Jvm.ClassFile.FieldType.boolean)) ∈ ev_gw := ev_m2 (List.mem_of_getElem? (i := 177) rfl) rfl
theorem wd_42 : (Jvm.Cond.fieldLink "PostingShelf$Stemmer" (15 : Nat) "PostingShelf$Stemmer" "vowels" "[Z") ∈ ev_gw := ev_m1 (List.mem_of_getElem? (i := 42) rfl) rfl
theorem wd_420 : (Jvm.Cond.methodLink "PostingShelf$Stemmer" (35 : Nat) ({ cls := "PostingShelf$Stemmer", name := "stemOf", desc := "(J)J" } : Jvm.MethodName)) ∈ ev_gw := ev_m2 (List.mem_of_getElem? (i := 180) rfl) rfl
theorem wd_421 : (Jvm.Cond.methodLink "PostingShelfLaw" (25 : Nat) ({ cls := "PostingShelf", name := "add", desc := "(I)I" } : Jvm.MethodName)) ∈ ev_gw := ev_m2 (List.mem_of_getElem? (i := 181) rfl) rfl
theorem wd_422 : (Jvm.Cond.instanceMethod ({ cls := "PostingShelf", name := "add", desc := "(I)I" } : Jvm.MethodName)) ∈ ev_gw := ev_m2 (List.mem_of_getElem? (i := 182) rfl) rfl
theorem wd_423 : (Jvm.Cond.selects "PostingShelf" ({ cls := "PostingShelf", name := "add", desc := "(I)I" } : Jvm.MethodName) ({ cls := "PostingShelf", name := "add", desc := "(I)I" } : Jvm.MethodName)) ∈ ev_gw := ev_m2 (List.mem_of_getElem? (i := 183) rfl) rfl
theorem wd_424 : (Jvm.Cond.code ({ cls := "PostingShelf", name := "add", desc := "(I)I" } : Jvm.MethodName) prog_1_method_4_code (2 : Nat) (Option.some Jvm.ClassFile.FieldType.int)) ∈ ev_gw := ev_m2 (List.mem_of_getElem? (i := 184) rfl) rfl
theorem wd_425 : (Jvm.Cond.methodLink "PostingShelf" (81 : Nat) ({ cls := "PostingShelf", name := "isId", desc := "(I)Z" } : Jvm.MethodName)) ∈ ev_gw := ev_m2 (List.mem_of_getElem? (i := 185) rfl) rfl
theorem wd_426 : (Jvm.Cond.static ({ cls := "PostingShelf", name := "isId", desc := "(I)Z" } : Jvm.MethodName)) ∈ ev_gw := ev_m2 (List.mem_of_getElem? (i := 186) rfl) rfl
theorem wd_427 : (Jvm.Cond.code ({ cls := "PostingShelf", name := "isId", desc := "(I)Z" } : Jvm.MethodName) prog_1_method_19_code (1 : Nat) (Option.some Jvm.ClassFile.FieldType.boolean)) ∈ ev_gw := ev_m2 (List.mem_of_getElem? (i := 187) rfl) rfl
theorem wd_428 : (Jvm.Cond.classLink "PostingShelf" (85 : Nat) "PostingShelf$Document") ∈ ev_gw := ev_m2 (List.mem_of_getElem? (i := 188) rfl) rfl
theorem wd_429 : (Jvm.Cond.instantiable "PostingShelf$Document" (2 : Nat)) ∈ ev_gw := ev_m2 (List.mem_of_getElem? (i := 189) rfl) rfl
theorem wd_43 : (Jvm.Cond.fieldLink "PostingShelf$Stemmer" (19 : Nat) "PostingShelf$Stemmer" "length" "I") ∈ ev_gw := ev_m1 (List.mem_of_getElem? (i := 43) rfl) rfl
theorem wd_430 : (Jvm.Cond.methodLink "PostingShelf" (87 : Nat) ({ cls := "java/util/Arrays", name := "copyOf", desc := "([JI)[J" } : Jvm.MethodName)) ∈ ev_gw := ev_m2 (List.mem_of_getElem? (i := 190) rfl) rfl
theorem wd_431 : (Jvm.Cond.static ({ cls := "java/util/Arrays", name := "copyOf", desc := "([JI)[J" } : Jvm.MethodName)) ∈ ev_gw := ev_m2 (List.mem_of_getElem? (i := 191) rfl) rfl
theorem wd_432 : (Jvm.Cond.code ({ cls := "java/util/Arrays", name := "copyOf", desc := "([JI)[J" } : Jvm.MethodName) prog_27_method_124_code (3 : Nat) (Option.some (Jvm.ClassFile.FieldType.array Jvm.ClassFile.FieldType.long))) ∈ ev_gw := ev_m2 (List.mem_of_getElem? (i := 192) rfl) rfl
theorem wd_435 : (Jvm.Cond.native ({ cls := "java/lang/Object", name := "clone", desc := "()Ljava/lang/Object;" } : Jvm.MethodName)) ∈ ev_gw := ev_m2 (List.mem_of_getElem? (i := 195) rfl) rfl
theorem wd_439 : (Jvm.Cond.classLink "java/util/Arrays" (320 : Nat) "[J") ∈ ev_gw := ev_m2 (List.mem_of_getElem? (i := 199) rfl) rfl
theorem wd_440 : (Jvm.Cond.methodLink "java/util/Arrays" (304 : Nat) ({ cls := "java/lang/Math", name := "min", desc := "(II)I" } : Jvm.MethodName)) ∈ ev_gw := ev_m2 (List.mem_of_getElem? (i := 200) rfl) rfl
theorem wd_441 : (Jvm.Cond.methodLink "java/util/Arrays" (150 : Nat) ({ cls := "java/lang/System", name := "arraycopy", desc := "(Ljava/lang/Object;ILjava/lang/Object;II)V" } : Jvm.MethodName)) ∈ ev_gw := ev_m2 (List.mem_of_getElem? (i := 201) rfl) rfl
theorem wd_442 : (Jvm.Cond.static ({ cls := "java/lang/System", name := "arraycopy", desc := "(Ljava/lang/Object;ILjava/lang/Object;II)V" } : Jvm.MethodName)) ∈ ev_gw := ev_m2 (List.mem_of_getElem? (i := 202) rfl) rfl
theorem wd_443 : (Jvm.Cond.native ({ cls := "java/lang/System", name := "arraycopy", desc := "(Ljava/lang/Object;ILjava/lang/Object;II)V" } : Jvm.MethodName)) ∈ ev_gw := ev_m2 (List.mem_of_getElem? (i := 203) rfl) rfl
theorem wd_444 : (Jvm.Cond.methodLink "PostingShelf" (93 : Nat) ({ cls := "PostingShelf$Document", name := "<init>", desc := "(I[J)V" } : Jvm.MethodName)) ∈ ev_gw := ev_m2 (List.mem_of_getElem? (i := 204) rfl) rfl
theorem wd_445 : (Jvm.Cond.instanceMethod ({ cls := "PostingShelf$Document", name := "<init>", desc := "(I[J)V" } : Jvm.MethodName)) ∈ ev_gw := ev_m2 (List.mem_of_getElem? (i := 205) rfl) rfl
theorem wd_446 : (Jvm.Cond.code ({ cls := "PostingShelf$Document", name := "<init>", desc := "(I[J)V" } : Jvm.MethodName) prog_2_method_1_code (3 : Nat) (Option.none : Option Jvm.ClassFile.FieldType)) ∈ ev_gw := ev_m2 (List.mem_of_getElem? (i := 206) rfl) rfl
theorem wd_447 : (Jvm.Cond.methodLink "PostingShelf$Document" (3 : Nat) ({ cls := "java/lang/Object", name := "<init>", desc := "()V" } : Jvm.MethodName)) ∈ ev_gw := ev_m2 (List.mem_of_getElem? (i := 207) rfl) rfl
theorem wd_448 : (Jvm.Cond.fieldLink "PostingShelf$Document" (9 : Nat) "PostingShelf$Document" "id" "I") ∈ ev_gw := ev_m2 (List.mem_of_getElem? (i := 208) rfl) rfl
theorem wd_449 : (Jvm.Cond.fieldLinkNest "PostingShelf$Segment" (26 : Nat) "PostingShelf$Document" "id" "I" "PostingShelf") ∈ ev_gw := ev_m2 (List.mem_of_getElem? (i := 209) rfl) rfl
theorem wd_450 : (Jvm.Cond.fieldLinkNest "PostingShelf$Shelf" (29 : Nat) "PostingShelf$Document" "id" "I" "PostingShelf") ∈ ev_gw := ev_m2 (List.mem_of_getElem? (i := 210) rfl) rfl
theorem wd_451 : (Jvm.Cond.fieldLinkNest "PostingShelf$Pending" (26 : Nat) "PostingShelf$Document" "id" "I" "PostingShelf") ∈ ev_gw := ev_m2 (List.mem_of_getElem? (i := 211) rfl) rfl
theorem wd_452 : (Jvm.Cond.fieldLinkNest "PostingShelf$Ranking" (92 : Nat) "PostingShelf$Document" "id" "I" "PostingShelf") ∈ ev_gw := ev_m2 (List.mem_of_getElem? (i := 212) rfl) rfl
theorem wd_453 : (Jvm.Cond.fieldLinkNest "PostingShelf" (234 : Nat) "PostingShelf$Document" "id" "I" "PostingShelf") ∈ ev_gw := ev_m2 (List.mem_of_getElem? (i := 213) rfl) rfl
theorem wd_454 : (Jvm.Cond.fieldLink "PostingShelf$Document" (15 : Nat) "PostingShelf$Document" "terms" "[J") ∈ ev_gw := ev_m2 (List.mem_of_getElem? (i := 214) rfl) rfl
theorem wd_460 : (Jvm.Cond.methodLink "PostingShelf" (96 : Nat) ({ cls := "PostingShelf$Pending", name := "putDocument", desc := "(LPostingShelf$Document;)V" } : Jvm.MethodName)) ∈ ev_gw := ev_m2 (List.mem_of_getElem? (i := 220) rfl) rfl
theorem wd_461 : (Jvm.Cond.instanceMethod ({ cls := "PostingShelf$Pending", name := "putDocument", desc := "(LPostingShelf$Document;)V" } : Jvm.MethodName)) ∈ ev_gw := ev_m2 (List.mem_of_getElem? (i := 221) rfl) rfl
theorem wd_462 : (Jvm.Cond.selects "PostingShelf$Pending" ({ cls := "PostingShelf$Pending", name := "putDocument", desc := "(LPostingShelf$Document;)V" } : Jvm.MethodName) ({ cls := "PostingShelf$Pending", name := "putDocument", desc := "(LPostingShelf$Document;)V" } : Jvm.MethodName)) ∈ ev_gw := ev_m2 (List.mem_of_getElem? (i := 222) rfl) rfl
theorem wd_463 : (Jvm.Cond.code ({ cls := "PostingShelf$Pending", name := "putDocument", desc := "(LPostingShelf$Document;)V" } : Jvm.MethodName) prog_4_method_3_code (2 : Nat) (Option.none : Option Jvm.ClassFile.FieldType)) ∈ ev_gw := ev_m2 (List.mem_of_getElem? (i := 223) rfl) rfl
theorem wd_464 : (Jvm.Cond.methodLink "PostingShelf$Pending" (31 : Nat) ({ cls := "PostingShelf$Pending", name := "dropDocument", desc := "(I)V" } : Jvm.MethodName)) ∈ ev_gw := ev_m2 (List.mem_of_getElem? (i := 224) rfl) rfl
theorem wd_466 : (Jvm.Cond.instanceMethod ({ cls := "PostingShelf$Pending", name := "dropDocument", desc := "(I)V" } : Jvm.MethodName)) ∈ ev_gw := ev_m2 (List.mem_of_getElem? (i := 226) rfl) rfl
theorem wd_467 : (Jvm.Cond.code ({ cls := "PostingShelf$Pending", name := "dropDocument", desc := "(I)V" } : Jvm.MethodName) prog_4_method_5_code (3 : Nat) (Option.none : Option Jvm.ClassFile.FieldType)) ∈ ev_gw := ev_m2 (List.mem_of_getElem? (i := 227) rfl) rfl
theorem wd_468 : (Jvm.Cond.methodLink "PostingShelf$Pending" (39 : Nat) ({ cls := "java/util/ArrayList", name := "size", desc := "()I" } : Jvm.MethodName)) ∈ ev_gw := ev_m2 (List.mem_of_getElem? (i := 228) rfl) rfl
theorem wd_469 : (Jvm.Cond.instanceMethod ({ cls := "java/util/ArrayList", name := "size", desc := "()I" } : Jvm.MethodName)) ∈ ev_gw := ev_m2 (List.mem_of_getElem? (i := 229) rfl) rfl
theorem wd_470 : (Jvm.Cond.selects "java/util/ArrayList" ({ cls := "java/util/ArrayList", name := "size", desc := "()I" } : Jvm.MethodName) ({ cls := "java/util/ArrayList", name := "size", desc := "()I" } : Jvm.MethodName)) ∈ ev_gw := ev_m2 (List.mem_of_getElem? (i := 230) rfl) rfl
theorem wd_471 : (Jvm.Cond.code ({ cls := "java/util/ArrayList", name := "size", desc := "()I" } : Jvm.MethodName) prog_26_method_8_code (1 : Nat) (Option.some Jvm.ClassFile.FieldType.int)) ∈ ev_gw := ev_m2 (List.mem_of_getElem? (i := 231) rfl) rfl
theorem wd_472 : (Jvm.Cond.methodLink "PostingShelf$Pending" (43 : Nat) ({ cls := "java/util/ArrayList", name := "get", desc := "(I)Ljava/lang/Object;" } : Jvm.MethodName)) ∈ ev_gw := ev_m2 (List.mem_of_getElem? (i := 232) rfl) rfl
theorem wd_473 : (Jvm.Cond.instanceMethod ({ cls := "java/util/ArrayList", name := "get", desc := "(I)Ljava/lang/Object;" } : Jvm.MethodName)) ∈ ev_gw := ev_m2 (List.mem_of_getElem? (i := 233) rfl) rfl
theorem wd_474 : (Jvm.Cond.selects "java/util/ArrayList" ({ cls := "java/util/ArrayList", name := "get", desc := "(I)Ljava/lang/Object;" } : Jvm.MethodName) ({ cls := "java/util/ArrayList", name := "get", desc := "(I)Ljava/lang/Object;" } : Jvm.MethodName)) ∈ ev_gw := ev_m2 (List.mem_of_getElem? (i := 234) rfl) rfl
theorem wd_475 : (Jvm.Cond.code ({ cls := "java/util/ArrayList", name := "get", desc := "(I)Ljava/lang/Object;" } : Jvm.MethodName) prog_26_method_20_code (2 : Nat) (Option.some (Jvm.ClassFile.FieldType.object "java/lang/Object"))) ∈ ev_gw := ev_m2 (List.mem_of_getElem? (i := 235) rfl) rfl
theorem wd_476 : (Jvm.Cond.methodLink "java/util/ArrayList" (118 : Nat) ({ cls := "java/util/Objects", name := "checkIndex", desc := "(II)I" } : Jvm.MethodName)) ∈ ev_gw := ev_m2 (List.mem_of_getElem? (i := 236) rfl) rfl
theorem wd_477 : (Jvm.Cond.static ({ cls := "java/util/Objects", name := "checkIndex", desc := "(II)I" } : Jvm.MethodName)) ∈ ev_gw := ev_m2 (List.mem_of_getElem? (i := 237) rfl) rfl
theorem wd_478 : (Jvm.Cond.code ({ cls := "java/util/Objects", name := "checkIndex", desc := "(II)I" } : Jvm.MethodName) prog_30_method_17_code (2 : Nat) (Option.some Jvm.ClassFile.FieldType.int)) ∈ ev_gw := ev_m2 (List.mem_of_getElem? (i := 238) rfl) rfl
theorem wd_479 : (Jvm.Cond.methodLink "java/util/Objects" (105 : Nat) ({ cls := "jdk/internal/util/Preconditions", name := "checkIndex", desc := "(IILjava/util/function/BiFunction;)I" } : Jvm.MethodName)) ∈ ev_gw := ev_m2 (List.mem_of_getElem? (i := 239) rfl) rfl
theorem wd_480 : (Jvm.Cond.methodLink "java/util/ArrayList" (123 : Nat) ({ cls := "java/util/ArrayList", name := "elementData", desc := "(I)Ljava/lang/Object;" } : Jvm.MethodName)) ∈ ev_gw := ev_m3 (List.mem_of_getElem? (i := 0) rfl) rfl
theorem wd_481 : (Jvm.Cond.instanceMethod ({ cls := "java/util/ArrayList", name := "elementData", desc := "(I)Ljava/lang/Object;" } : Jvm.MethodName)) ∈ ev_gw := ev_m3 (List.mem_of_getElem? (i := 1) rfl) rfl
theorem wd_482 : (Jvm.Cond.selects "java/util/ArrayList" ({ cls := "java/util/ArrayList", name := "elementData", desc := "(I)Ljava/lang/Object;" } : Jvm.MethodName) ({ cls := "java/util/ArrayList", name := "elementData", desc := "(I)Ljava/lang/Object;" } : Jvm.MethodName)) ∈ ev_gw := ev_m3 (List.mem_of_getElem? (i := 2) rfl) rfl
theorem wd_483 : (Jvm.Cond.code ({ cls := "java/util/ArrayList", name := "elementData", desc := "(I)Ljava/lang/Object;" } : Jvm.MethodName) prog_26_method_18_code (2 : Nat) (Option.some (Jvm.ClassFile.FieldType.object "java/lang/Object"))) ∈ ev_gw := ev_m3 (List.mem_of_getElem? (i := 3) rfl) rfl
theorem wd_484 : (Jvm.Cond.classLink "PostingShelf$Pending" (27 : Nat) "PostingShelf$Document") ∈ ev_gw := ev_m3 (List.mem_of_getElem? (i := 4) rfl) rfl
theorem wd_485 : (Jvm.Cond.methodLink "PostingShelf$Pending" (47 : Nat) ({ cls := "java/util/ArrayList", name := "remove", desc := "(I)Ljava/lang/Object;" } : Jvm.MethodName)) ∈ ev_gw := ev_m3 (List.mem_of_getElem? (i := 5) rfl) rfl
theorem wd_486 : (Jvm.Cond.instanceMethod ({ cls := "java/util/ArrayList", name := "remove", desc := "(I)Ljava/lang/Object;" } : Jvm.MethodName)) ∈ ev_gw := ev_m3 (List.mem_of_getElem? (i := 6) rfl) rfl
theorem wd_487 : (Jvm.Cond.selects "java/util/ArrayList" ({ cls := "java/util/ArrayList", name := "remove", desc := "(I)Ljava/lang/Object;" } : Jvm.MethodName) ({ cls := "java/util/ArrayList", name := "remove", desc := "(I)Ljava/lang/Object;" } : Jvm.MethodName)) ∈ ev_gw := ev_m3 (List.mem_of_getElem? (i := 7) rfl) rfl
theorem wd_488 : (Jvm.Cond.code ({ cls := "java/util/ArrayList", name := "remove", desc := "(I)Ljava/lang/Object;" } : Jvm.MethodName) prog_26_method_29_code (4 : Nat) (Option.some (Jvm.ClassFile.FieldType.object "java/lang/Object"))) ∈ ev_gw := ev_m3 (List.mem_of_getElem? (i := 8) rfl) rfl
theorem wd_489 : (Jvm.Cond.methodLink "java/util/ArrayList" (144 : Nat) ({ cls := "java/util/ArrayList", name := "fastRemove", desc := "([Ljava/lang/Object;I)V" } : Jvm.MethodName)) ∈ ev_gw := ev_m3 (List.mem_of_getElem? (i := 9) rfl) rfl
theorem wd_491 : (Jvm.Cond.instanceMethod ({ cls := "java/util/ArrayList", name := "fastRemove", desc := "([Ljava/lang/Object;I)V" } : Jvm.MethodName)) ∈ ev_gw := ev_m3 (List.mem_of_getElem? (i := 11) rfl) rfl
theorem wd_492 : (Jvm.Cond.code ({ cls := "java/util/ArrayList", name := "fastRemove", desc := "([Ljava/lang/Object;I)V" } : Jvm.MethodName) prog_26_method_39_code (4 : Nat) (Option.none : Option Jvm.ClassFile.FieldType)) ∈ ev_gw := ev_m3 (List.mem_of_getElem? (i := 12) rfl) rfl
theorem wd_493 : (Jvm.Cond.methodLink "java/util/ArrayList" (112 : Nat) ({ cls := "java/lang/System", name := "arraycopy", desc := "(Ljava/lang/Object;ILjava/lang/Object;II)V" } : Jvm.MethodName)) ∈ ev_gw := ev_m3 (List.mem_of_getElem? (i := 13) rfl) rfl
theorem wd_494 : (Jvm.Cond.methodLink "PostingShelf$Pending" (35 : Nat) ({ cls := "java/util/ArrayList", name := "add", desc := "(Ljava/lang/Object;)Z" } : Jvm.MethodName)) ∈ ev_gw := ev_m3 (List.mem_of_getElem? (i := 14) rfl) rfl
theorem wd_495 : (Jvm.Cond.instanceMethod ({ cls := "java/util/ArrayList", name := "add", desc := "(Ljava/lang/Object;)Z" } : Jvm.MethodName)) ∈ ev_gw := ev_m3 (List.mem_of_getElem? (i := 15) rfl) rfl
theorem wd_496 : (Jvm.Cond.selects "java/util/ArrayList" ({ cls := "java/util/ArrayList", name := "add", desc := "(Ljava/lang/Object;)Z" } : Jvm.MethodName) ({ cls := "java/util/ArrayList", name := "add", desc := "(Ljava/lang/Object;)Z" } : Jvm.MethodName)) ∈ ev_gw := ev_m3 (List.mem_of_getElem? (i := 16) rfl) rfl
theorem wd_497 : (Jvm.Cond.code ({ cls := "java/util/ArrayList", name := "add", desc := "(Ljava/lang/Object;)Z" } : Jvm.MethodName) prog_26_method_25_code (2 : Nat) (Option.some Jvm.ClassFile.FieldType.boolean)) ∈ ev_gw := ev_m3 (List.mem_of_getElem? (i := 17) rfl) rfl
theorem wd_498 : (Jvm.Cond.methodLink "java/util/ArrayList" (131 : Nat) ({ cls := "java/util/ArrayList", name := "add", desc := "(Ljava/lang/Object;[Ljava/lang/Object;I)V" } : Jvm.MethodName)) ∈ ev_gw := ev_m3 (List.mem_of_getElem? (i := 18) rfl) rfl
theorem wd_5 : (Jvm.Cond.initialized "java/util/AbstractList") ∈ ev_gw := ev_m1 (List.mem_of_getElem? (i := 5) rfl) rfl
theorem wd_500 : (Jvm.Cond.instanceMethod ({ cls := "java/util/ArrayList", name := "add", desc := "(Ljava/lang/Object;[Ljava/lang/Object;I)V" } : Jvm.MethodName)) ∈ ev_gw := ev_m3 (List.mem_of_getElem? (i := 20) rfl) rfl
theorem wd_501 : (Jvm.Cond.code ({ cls := "java/util/ArrayList", name := "add", desc := "(Ljava/lang/Object;[Ljava/lang/Object;I)V" } : Jvm.MethodName) prog_26_method_24_code (4 : Nat) (Option.none : Option Jvm.ClassFile.FieldType)) ∈ ev_gw := ev_m3 (List.mem_of_getElem? (i := 21) rfl) rfl
theorem wd_502 : (Jvm.Cond.methodLink "java/util/ArrayList" (129 : Nat) ({ cls := "java/util/ArrayList", name := "grow", desc := "()[Ljava/lang/Object;" } : Jvm.MethodName)) ∈ ev_gw := ev_m3 (List.mem_of_getElem? (i := 22) rfl) rfl
theorem wd_504 : (Jvm.Cond.instanceMethod ({ cls := "java/util/ArrayList", name := "grow", desc := "()[Ljava/lang/Object;" } : Jvm.MethodName)) ∈ ev_gw := ev_m3 (List.mem_of_getElem? (i := 24) rfl) rfl
theorem wd_505 : (Jvm.Cond.code ({ cls := "java/util/ArrayList", name := "grow", desc := "()[Ljava/lang/Object;" } : Jvm.MethodName) prog_26_method_7_code (1 : Nat) (Option.some (Jvm.ClassFile.FieldType.array (Jvm.ClassFile.FieldType.object "java/lang/Object")))) ∈ ev_gw := ev_m3 (List.mem_of_getElem? (i := 25) rfl) rfl
theorem wd_506 : (Jvm.Cond.methodLink "java/util/ArrayList" (69 : Nat) ({ cls := "java/util/ArrayList", name := "grow", desc := "(I)[Ljava/lang/Object;" } : Jvm.MethodName)) ∈ ev_gw := ev_m3 (List.mem_of_getElem? (i := 26) rfl) rfl
theorem wd_508 : (Jvm.Cond.instanceMethod ({ cls := "java/util/ArrayList", name := "grow", desc := "(I)[Ljava/lang/Object;" } : Jvm.MethodName)) ∈ ev_gw := ev_m3 (List.mem_of_getElem? (i := 28) rfl) rfl
theorem wd_509 : (Jvm.Cond.code ({ cls := "java/util/ArrayList", name := "grow", desc := "(I)[Ljava/lang/Object;" } : Jvm.MethodName) prog_26_method_6_code (4 : Nat) (Option.some (Jvm.ClassFile.FieldType.array (Jvm.ClassFile.FieldType.object "java/lang/Object")))) ∈ ev_gw := ev_m3 (List.mem_of_getElem? (i := 29) rfl) rfl
theorem wd_51 : (Jvm.Cond.arrayClass Jvm.ClassFile.FieldType.char) ∈ ev_gw := ev_m1 (List.mem_of_getElem? (i := 51) rfl) rfl
theorem wd_510 : (Jvm.Cond.methodLink "java/util/ArrayList" (73 : Nat) ({ cls := "jdk/internal/util/ArraysSupport", name := "newLength", desc := "(III)I" } : Jvm.MethodName)) ∈ ev_gw := ev_m3 (List.mem_of_getElem? (i := 30) rfl) rfl
theorem wd_511 : (Jvm.Cond.static ({ cls := "jdk/internal/util/ArraysSupport", name := "newLength", desc := "(III)I" } : Jvm.MethodName)) ∈ ev_gw := ev_m3 (List.mem_of_getElem? (i := 31) rfl) rfl
theorem wd_512 : (Jvm.Cond.code ({ cls := "jdk/internal/util/ArraysSupport", name := "newLength", desc := "(III)I" } : Jvm.MethodName) prog_33_method_27_code (4 : Nat) (Option.some Jvm.ClassFile.FieldType.int)) ∈ ev_gw := ev_m3 (List.mem_of_getElem? (i := 32) rfl) rfl
theorem wd_513 : (Jvm.Cond.methodLink "jdk/internal/util/ArraysSupport" (194 : Nat) ({ cls := "java/lang/Math", name := "max", desc := "(II)I" } : Jvm.MethodName)) ∈ ev_gw := ev_m3 (List.mem_of_getElem? (i := 33) rfl) rfl
theorem wd_514 : (Jvm.Cond.constant "jdk/internal/util/ArraysSupport" (200 : Nat) (2147483639 : Int32)) ∈ ev_gw := ev_m3 (List.mem_of_getElem? (i := 34) rfl) rfl
theorem wd_515 : (Jvm.Cond.methodLink "jdk/internal/util/ArraysSupport" (201 : Nat) ({ cls := "jdk/internal/util/ArraysSupport", name := "hugeLength", desc := "(II)I" } : Jvm.MethodName)) ∈ ev_gw := ev_m3 (List.mem_of_getElem? (i := 35) rfl) rfl
theorem wd_516 : (Jvm.Cond.static ({ cls := "jdk/internal/util/ArraysSupport", name := "hugeLength", desc := "(II)I" } : Jvm.MethodName)) ∈ ev_gw := ev_m3 (List.mem_of_getElem? (i := 36) rfl) rfl
theorem wd_517 : (Jvm.Cond.code ({ cls := "jdk/internal/util/ArraysSupport", name := "hugeLength", desc := "(II)I" } : Jvm.MethodName) prog_33_method_28_code (3 : Nat) (Option.some Jvm.ClassFile.FieldType.int)) ∈ ev_gw := ev_m3 (List.mem_of_getElem? (i := 37) rfl) rfl
theorem wd_518 : (Jvm.Cond.methodLink "java/util/ArrayList" (66 : Nat) ({ cls := "java/util/Arrays", name := "copyOf", desc := "([Ljava/lang/Object;I)[Ljava/lang/Object;" } : Jvm.MethodName)) ∈ ev_gw := ev_m3 (List.mem_of_getElem? (i := 38) rfl) rfl
theorem wd_519 : (Jvm.Cond.static ({ cls := "java/util/Arrays", name := "copyOf", desc := "([Ljava/lang/Object;I)[Ljava/lang/Object;" } : Jvm.MethodName)) ∈ ev_gw := ev_m3 (List.mem_of_getElem? (i := 39) rfl) rfl
theorem wd_52 : (Jvm.Cond.arrayClass Jvm.ClassFile.FieldType.boolean) ∈ ev_gw := ev_m1 (List.mem_of_getElem? (i := 52) rfl) rfl
theorem wd_520 : (Jvm.Cond.code ({ cls := "java/util/Arrays", name := "copyOf", desc := "([Ljava/lang/Object;I)[Ljava/lang/Object;" } : Jvm.MethodName) prog_27_method_119_code (2 : Nat) (Option.some (Jvm.ClassFile.FieldType.array (Jvm.ClassFile.FieldType.object "java/lang/Object")))) ∈ ev_gw := ev_m3 (List.mem_of_getElem? (i := 40) rfl) rfl
theorem wd_521 : (Jvm.Cond.methodLink "java/util/Arrays" (86 : Nat) ({ cls := "java/lang/Object", name := "getClass", desc := "()Ljava/lang/Class;" } : Jvm.MethodName)) ∈ ev_gw := ev_m3 (List.mem_of_getElem? (i := 41) rfl) rfl
theorem wd_53 : (Jvm.Cond.classLink "PostingShelf" (24 : Nat) "PostingShelf$Pending") ∈ ev_gw := ev_m1 (List.mem_of_getElem? (i := 53) rfl) rfl
theorem wd_537 : (Jvm.Cond.native ({ cls := "java/lang/Object", name := "getClass", desc := "()Ljava/lang/Class;" } : Jvm.MethodName)) ∈ ev_gw := ev_m3 (List.mem_of_getElem? (i := 57) rfl) rfl
theorem wd_538 : (Jvm.Cond.methodLink "java/util/Arrays" (300 : Nat) ({ cls := "java/util/Arrays", name := "copyOf", desc := "([Ljava/lang/Object;ILjava/lang/Class;)[Ljava/lang/Object;" } : Jvm.MethodName)) ∈ ev_gw := ev_m3 (List.mem_of_getElem? (i := 58) rfl) rfl
theorem wd_539 : (Jvm.Cond.static ({ cls := "java/util/Arrays", name := "copyOf", desc := "([Ljava/lang/Object;ILjava/lang/Class;)[Ljava/lang/Object;" } : Jvm.MethodName)) ∈ ev_gw := ev_m3 (List.mem_of_getElem? (i := 59) rfl) rfl
theorem wd_54 : (Jvm.Cond.instantiable "PostingShelf$Pending" (2 : Nat)) ∈ ev_gw := ev_m1 (List.mem_of_getElem? (i := 54) rfl) rfl
theorem wd_540 : (Jvm.Cond.code ({ cls := "java/util/Arrays", name := "copyOf", desc := "([Ljava/lang/Object;ILjava/lang/Class;)[Ljava/lang/Object;" } : Jvm.MethodName) prog_27_method_120_code (4 : Nat) (Option.some (Jvm.ClassFile.FieldType.array (Jvm.ClassFile.FieldType.object "java/lang/Object")))) ∈ ev_gw := ev_m3 (List.mem_of_getElem? (i := 60) rfl) rfl
theorem wd_541 : (Jvm.Cond.classLink "java/util/Arrays" (110 : Nat) "[Ljava/lang/Object;") ∈ ev_gw := ev_m3 (List.mem_of_getElem? (i := 61) rfl) rfl
theorem wd_542 : (Jvm.Cond.arrayOver (Jvm.ClassFile.FieldType.object "java/lang/Object")) ∈ ev_gw := ev_m3 (List.mem_of_getElem? (i := 62) rfl) rfl
theorem wd_543 : (Jvm.Cond.classLink "java/util/Arrays" (2 : Nat) "java/lang/Object") ∈ ev_gw := ev_m3 (List.mem_of_getElem? (i := 63) rfl) rfl
theorem wd_544 : (Jvm.Cond.methodLink "java/util/ArrayList" (79 : Nat) ({ cls := "java/lang/Math", name := "max", desc := "(II)I" } : Jvm.MethodName)) ∈ ev_gw := ev_m3 (List.mem_of_getElem? (i := 64) rfl) rfl
theorem wd_545 : (Jvm.Cond.classLink "java/util/ArrayList" (7 : Nat) "java/lang/Object") ∈ ev_gw := ev_m3 (List.mem_of_getElem? (i := 65) rfl) rfl
theorem wd_546 : (Jvm.Cond.methodLink "PostingShelf" (100 : Nat) ({ cls := "PostingShelf$Pending", name := "idCount", desc := "()I" } : Jvm.MethodName)) ∈ ev_gw := ev_m3 (List.mem_of_getElem? (i := 66) rfl) rfl
theorem wd_547 : (Jvm.Cond.instanceMethod ({ cls := "PostingShelf$Pending", name := "idCount", desc := "()I" } : Jvm.MethodName)) ∈ ev_gw := ev_m3 (List.mem_of_getElem? (i := 67) rfl) rfl
theorem wd_548 : (Jvm.Cond.selects "PostingShelf$Pending" ({ cls := "PostingShelf$Pending", name := "idCount", desc := "()I" } : Jvm.MethodName) ({ cls := "PostingShelf$Pending", name := "idCount", desc := "()I" } : Jvm.MethodName)) ∈ ev_gw := ev_m3 (List.mem_of_getElem? (i := 68) rfl) rfl
theorem wd_549 : (Jvm.Cond.code ({ cls := "PostingShelf$Pending", name := "idCount", desc := "()I" } : Jvm.MethodName) prog_4_method_2_code (1 : Nat) (Option.some Jvm.ClassFile.FieldType.int)) ∈ ev_gw := ev_m3 (List.mem_of_getElem? (i := 69) rfl) rfl
theorem wd_55 : (Jvm.Cond.methodLinkNest "PostingShelf" (26 : Nat) ({ cls := "PostingShelf$Pending", name := "<init>", desc := "()V" } : Jvm.MethodName) "PostingShelf") ∈ ev_gw := ev_m1 (List.mem_of_getElem? (i := 55) rfl) rfl
theorem wd_550 : (Jvm.Cond.methodLink "PostingShelf$Pending" (20 : Nat) ({ cls := "java/lang/Integer", name := "bitCount", desc := "(I)I" } : Jvm.MethodName)) ∈ ev_gw := ev_m3 (List.mem_of_getElem? (i := 70) rfl) rfl
theorem wd_551 : (Jvm.Cond.static ({ cls := "java/lang/Integer", name := "bitCount", desc := "(I)I" } : Jvm.MethodName)) ∈ ev_gw := ev_m3 (List.mem_of_getElem? (i := 71) rfl) rfl
theorem wd_552 : (Jvm.Cond.code ({ cls := "java/lang/Integer", name := "bitCount", desc := "(I)I" } : Jvm.MethodName) prog_17_method_49_code (1 : Nat) (Option.some Jvm.ClassFile.FieldType.int)) ∈ ev_gw := ev_m3 (List.mem_of_getElem? (i := 72) rfl) rfl
theorem wd_556 : (Jvm.Cond.methodLink "PostingShelfLaw" (30 : Nat) ({ cls := "PostingShelf", name := "delete", desc := "(I)I" } : Jvm.MethodName)) ∈ ev_gw := ev_m3 (List.mem_of_getElem? (i := 76) rfl) rfl
theorem wd_557 : (Jvm.Cond.instanceMethod ({ cls := "PostingShelf", name := "delete", desc := "(I)I" } : Jvm.MethodName)) ∈ ev_gw := ev_m3 (List.mem_of_getElem? (i := 77) rfl) rfl
theorem wd_558 : (Jvm.Cond.selects "PostingShelf" ({ cls := "PostingShelf", name := "delete", desc := "(I)I" } : Jvm.MethodName) ({ cls := "PostingShelf", name := "delete", desc := "(I)I" } : Jvm.MethodName)) ∈ ev_gw := ev_m3 (List.mem_of_getElem? (i := 78) rfl) rfl
theorem wd_559 : (Jvm.Cond.code ({ cls := "PostingShelf", name := "delete", desc := "(I)I" } : Jvm.MethodName) prog_1_method_5_code (2 : Nat) (Option.some Jvm.ClassFile.FieldType.int)) ∈ ev_gw := ev_m3 (List.mem_of_getElem? (i := 79) rfl) rfl
theorem wd_56 : (Jvm.Cond.instanceMethod ({ cls := "PostingShelf$Pending", name := "<init>", desc := "()V" } : Jvm.MethodName)) ∈ ev_gw := ev_m1 (List.mem_of_getElem? (i := 56) rfl) rfl
theorem wd_560 : (Jvm.Cond.methodLink "PostingShelf" (104 : Nat) ({ cls := "PostingShelf$Pending", name := "putDeletion", desc := "(I)V" } : Jvm.MethodName)) ∈ ev_gw := ev_m3 (List.mem_of_getElem? (i := 80) rfl) rfl
theorem wd_561 : (Jvm.Cond.instanceMethod ({ cls := "PostingShelf$Pending", name := "putDeletion", desc := "(I)V" } : Jvm.MethodName)) ∈ ev_gw := ev_m3 (List.mem_of_getElem? (i := 81) rfl) rfl
theorem wd_562 : (Jvm.Cond.selects "PostingShelf$Pending" ({ cls := "PostingShelf$Pending", name := "putDeletion", desc := "(I)V" } : Jvm.MethodName) ({ cls := "PostingShelf$Pending", name := "putDeletion", desc := "(I)V" } : Jvm.MethodName)) ∈ ev_gw := ev_m3 (List.mem_of_getElem? (i := 82) rfl) rfl
theorem wd_563 : (Jvm.Cond.code ({ cls := "PostingShelf$Pending", name := "putDeletion", desc := "(I)V" } : Jvm.MethodName) prog_4_method_4_code (2 : Nat) (Option.none : Option Jvm.ClassFile.FieldType)) ∈ ev_gw := ev_m3 (List.mem_of_getElem? (i := 83) rfl) rfl
theorem wd_564 : (Jvm.Cond.methodLink "PostingShelfLaw" (34 : Nat) ({ cls := "PostingShelf", name := "commit", desc := "()I" } : Jvm.MethodName)) ∈ ev_gw := ev_m3 (List.mem_of_getElem? (i := 84) rfl) rfl
theorem wd_565 : (Jvm.Cond.instanceMethod ({ cls := "PostingShelf", name := "commit", desc := "()I" } : Jvm.MethodName)) ∈ ev_gw := ev_m3 (List.mem_of_getElem? (i := 85) rfl) rfl
theorem wd_566 : (Jvm.Cond.selects "PostingShelf" ({ cls := "PostingShelf", name := "commit", desc := "()I" } : Jvm.MethodName) ({ cls := "PostingShelf", name := "commit", desc := "()I" } : Jvm.MethodName)) ∈ ev_gw := ev_m3 (List.mem_of_getElem? (i := 86) rfl) rfl
theorem wd_567 : (Jvm.Cond.code ({ cls := "PostingShelf", name := "commit", desc := "()I" } : Jvm.MethodName) prog_1_method_6_code (2 : Nat) (Option.some Jvm.ClassFile.FieldType.int)) ∈ ev_gw := ev_m3 (List.mem_of_getElem? (i := 87) rfl) rfl
theorem wd_568 : (Jvm.Cond.methodLink "PostingShelf" (112 : Nat) ({ cls := "java/util/ArrayList", name := "isEmpty", desc := "()Z" } : Jvm.MethodName)) ∈ ev_gw := ev_m3 (List.mem_of_getElem? (i := 88) rfl) rfl
theorem wd_569 : (Jvm.Cond.instanceMethod ({ cls := "java/util/ArrayList", name := "isEmpty", desc := "()Z" } : Jvm.MethodName)) ∈ ev_gw := ev_m3 (List.mem_of_getElem? (i := 89) rfl) rfl
theorem wd_57 : (Jvm.Cond.code ({ cls := "PostingShelf$Pending", name := "<init>", desc := "()V" } : Jvm.MethodName) prog_4_method_1_code (1 : Nat) (Option.none : Option Jvm.ClassFile.FieldType)) ∈ ev_gw := ev_m1 (List.mem_of_getElem? (i := 57) rfl) rfl
theorem wd_570 : (Jvm.Cond.selects "java/util/ArrayList" ({ cls := "java/util/ArrayList", name := "isEmpty", desc := "()Z" } : Jvm.MethodName) ({ cls := "java/util/ArrayList", name := "isEmpty", desc := "()Z" } : Jvm.MethodName)) ∈ ev_gw := ev_m3 (List.mem_of_getElem? (i := 90) rfl) rfl
theorem wd_571 : (Jvm.Cond.code ({ cls := "java/util/ArrayList", name := "isEmpty", desc := "()Z" } : Jvm.MethodName) prog_26_method_9_code (1 : Nat) (Option.some Jvm.ClassFile.FieldType.boolean)) ∈ ev_gw := ev_m3 (List.mem_of_getElem? (i := 91) rfl) rfl
theorem wd_572 : (Jvm.Cond.methodLink "PostingShelf" (121 : Nat) ({ cls := "java/util/ArrayList", name := "size", desc := "()I" } : Jvm.MethodName)) ∈ ev_gw := ev_m3 (List.mem_of_getElem? (i := 92) rfl) rfl
theorem wd_573 : (Jvm.Cond.methodLink "PostingShelf" (127 : Nat) ({ cls := "PostingShelf$Shelf", name := "hasLiveAmong", desc := "(I)Z" } : Jvm.MethodName)) ∈ ev_gw := ev_m3 (List.mem_of_getElem? (i := 93) rfl) rfl
theorem wd_574 : (Jvm.Cond.instanceMethod ({ cls := "PostingShelf$Shelf", name := "hasLiveAmong", desc := "(I)Z" } : Jvm.MethodName)) ∈ ev_gw := ev_m3 (List.mem_of_getElem? (i := 94) rfl) rfl
theorem wd_575 : (Jvm.Cond.selects "PostingShelf$Shelf" ({ cls := "PostingShelf$Shelf", name := "hasLiveAmong", desc := "(I)Z" } : Jvm.MethodName) ({ cls := "PostingShelf$Shelf", name := "hasLiveAmong", desc := "(I)Z" } : Jvm.MethodName)) ∈ ev_gw := ev_m3 (List.mem_of_getElem? (i := 95) rfl) rfl
theorem wd_576 : (Jvm.Cond.code ({ cls := "PostingShelf$Shelf", name := "hasLiveAmong", desc := "(I)Z" } : Jvm.MethodName) prog_9_method_2_code (3 : Nat) (Option.some Jvm.ClassFile.FieldType.boolean)) ∈ ev_gw := ev_m3 (List.mem_of_getElem? (i := 96) rfl) rfl
theorem wd_577 : (Jvm.Cond.methodLink "PostingShelf$Shelf" (19 : Nat) ({ cls := "java/util/ArrayList", name := "size", desc := "()I" } : Jvm.MethodName)) ∈ ev_gw := ev_m3 (List.mem_of_getElem? (i := 97) rfl) rfl
theorem wd_578 : (Jvm.Cond.methodLink "PostingShelf$Shelf" (23 : Nat) ({ cls := "java/util/ArrayList", name := "get", desc := "(I)Ljava/lang/Object;" } : Jvm.MethodName)) ∈ ev_gw := ev_m3 (List.mem_of_getElem? (i := 98) rfl) rfl
theorem wd_579 : (Jvm.Cond.classLink "PostingShelf$Shelf" (27 : Nat) "PostingShelf$Document") ∈ ev_gw := ev_m3 (List.mem_of_getElem? (i := 99) rfl) rfl
theorem wd_58 : (Jvm.Cond.methodLink "PostingShelf$Pending" (1 : Nat) ({ cls := "java/lang/Object", name := "<init>", desc := "()V" } : Jvm.MethodName)) ∈ ev_gw := ev_m1 (List.mem_of_getElem? (i := 58) rfl) rfl
theorem wd_580 : (Jvm.Cond.methodLinkNest "PostingShelf$Shelf" (33 : Nat) ({ cls := "PostingShelf", name := "isAmong", desc := "(II)Z" } : Jvm.MethodName) "PostingShelf") ∈ ev_gw := ev_m3 (List.mem_of_getElem? (i := 100) rfl) rfl
theorem wd_581 : (Jvm.Cond.static ({ cls := "PostingShelf", name := "isAmong", desc := "(II)Z" } : Jvm.MethodName)) ∈ ev_gw := ev_m3 (List.mem_of_getElem? (i := 101) rfl) rfl
theorem wd_582 : (Jvm.Cond.code ({ cls := "PostingShelf", name := "isAmong", desc := "(II)Z" } : Jvm.MethodName) prog_1_method_20_code (2 : Nat) (Option.some Jvm.ClassFile.FieldType.boolean)) ∈ ev_gw := ev_m3 (List.mem_of_getElem? (i := 102) rfl) rfl
theorem wd_583 : (Jvm.Cond.methodLink "PostingShelf" (130 : Nat) ({ cls := "PostingShelf$Machine", name := "writeBlocks", desc := "(I)Z" } : Jvm.MethodName)) ∈ ev_gw := ev_m3 (List.mem_of_getElem? (i := 103) rfl) rfl
theorem wd_584 : (Jvm.Cond.instanceMethod ({ cls := "PostingShelf$Machine", name := "writeBlocks", desc := "(I)Z" } : Jvm.MethodName)) ∈ ev_gw := ev_m3 (List.mem_of_getElem? (i := 104) rfl) rfl
theorem wd_585 : (Jvm.Cond.selects "PostingShelf$Machine" ({ cls := "PostingShelf$Machine", name := "writeBlocks", desc := "(I)Z" } : Jvm.MethodName) ({ cls := "PostingShelf$Machine", name := "writeBlocks", desc := "(I)Z" } : Jvm.MethodName)) ∈ ev_gw := ev_m3 (List.mem_of_getElem? (i := 105) rfl) rfl
theorem wd_586 : (Jvm.Cond.code ({ cls := "PostingShelf$Machine", name := "writeBlocks", desc := "(I)Z" } : Jvm.MethodName) prog_3_method_2_code (3 : Nat) (Option.some Jvm.ClassFile.FieldType.boolean)) ∈ ev_gw := ev_m3 (List.mem_of_getElem? (i := 106) rfl) rfl
theorem wd_587 : (Jvm.Cond.methodLink "PostingShelf$Machine" (20 : Nat) ({ cls := "PostingShelf$Machine", name := "writeBlock", desc := "()V" } : Jvm.MethodName)) ∈ ev_gw := ev_m3 (List.mem_of_getElem? (i := 107) rfl) rfl
theorem wd_589 : (Jvm.Cond.instanceMethod ({ cls := "PostingShelf$Machine", name := "writeBlock", desc := "()V" } : Jvm.MethodName)) ∈ ev_gw := ev_m3 (List.mem_of_getElem? (i := 109) rfl) rfl
theorem wd_59 : (Jvm.Cond.classLink "PostingShelf$Pending" (7 : Nat) "java/util/ArrayList") ∈ ev_gw := ev_m1 (List.mem_of_getElem? (i := 59) rfl) rfl
theorem wd_590 : (Jvm.Cond.code ({ cls := "PostingShelf$Machine", name := "writeBlock", desc := "()V" } : Jvm.MethodName) prog_3_method_3_code (1 : Nat) (Option.none : Option Jvm.ClassFile.FieldType)) ∈ ev_gw := ev_m3 (List.mem_of_getElem? (i := 110) rfl) rfl
theorem wd_591 : (Jvm.Cond.methodLink "PostingShelf" (133 : Nat) ({ cls := "PostingShelf$Shelf", name := "takeIn", desc := "(LPostingShelf$Pending;)V" } : Jvm.MethodName)) ∈ ev_gw := ev_m3 (List.mem_of_getElem? (i := 111) rfl) rfl
theorem wd_592 : (Jvm.Cond.instanceMethod ({ cls := "PostingShelf$Shelf", name := "takeIn", desc := "(LPostingShelf$Pending;)V" } : Jvm.MethodName)) ∈ ev_gw := ev_m3 (List.mem_of_getElem? (i := 112) rfl) rfl
theorem wd_593 : (Jvm.Cond.selects "PostingShelf$Shelf" ({ cls := "PostingShelf$Shelf", name := "takeIn", desc := "(LPostingShelf$Pending;)V" } : Jvm.MethodName) ({ cls := "PostingShelf$Shelf", name := "takeIn", desc := "(LPostingShelf$Pending;)V" } : Jvm.MethodName)) ∈ ev_gw := ev_m3 (List.mem_of_getElem? (i := 113) rfl) rfl
theorem wd_594 : (Jvm.Cond.code ({ cls := "PostingShelf$Shelf", name := "takeIn", desc := "(LPostingShelf$Pending;)V" } : Jvm.MethodName) prog_9_method_3_code (2 : Nat) (Option.none : Option Jvm.ClassFile.FieldType)) ∈ ev_gw := ev_m3 (List.mem_of_getElem? (i := 114) rfl) rfl
theorem wd_595 : (Jvm.Cond.methodLink "PostingShelf$Shelf" (44 : Nat) ({ cls := "PostingShelf$Shelf", name := "markDeleted", desc := "(I)V" } : Jvm.MethodName)) ∈ ev_gw := ev_m3 (List.mem_of_getElem? (i := 115) rfl) rfl
theorem wd_597 : (Jvm.Cond.instanceMethod ({ cls := "PostingShelf$Shelf", name := "markDeleted", desc := "(I)V" } : Jvm.MethodName)) ∈ ev_gw := ev_m3 (List.mem_of_getElem? (i := 117) rfl) rfl
theorem wd_598 : (Jvm.Cond.code ({ cls := "PostingShelf$Shelf", name := "markDeleted", desc := "(I)V" } : Jvm.MethodName) prog_9_method_4_code (3 : Nat) (Option.none : Option Jvm.ClassFile.FieldType)) ∈ ev_gw := ev_m3 (List.mem_of_getElem? (i := 118) rfl) rfl
theorem wd_599 : (Jvm.Cond.classLink "PostingShelf$Shelf" (59 : Nat) "PostingShelf$Segment") ∈ ev_gw := ev_m3 (List.mem_of_getElem? (i := 119) rfl) rfl
theorem wd_6 : (Jvm.Cond.initialized "java/util/ArrayList") ∈ ev_gw := ev_m1 (List.mem_of_getElem? (i := 6) rfl) rfl
theorem wd_60 : (Jvm.Cond.instantiable "java/util/ArrayList" (3 : Nat)) ∈ ev_gw := ev_m1 (List.mem_of_getElem? (i := 60) rfl) rfl
theorem wd_600 : (Jvm.Cond.methodLink "PostingShelf$Shelf" (64 : Nat) ({ cls := "java/util/ArrayList", name := "remove", desc := "(I)Ljava/lang/Object;" } : Jvm.MethodName)) ∈ ev_gw := ev_m3 (List.mem_of_getElem? (i := 120) rfl) rfl
theorem wd_601 : (Jvm.Cond.methodLink "PostingShelf$Shelf" (51 : Nat) ({ cls := "java/util/ArrayList", name := "isEmpty", desc := "()Z" } : Jvm.MethodName)) ∈ ev_gw := ev_m3 (List.mem_of_getElem? (i := 121) rfl) rfl
theorem wd_602 : (Jvm.Cond.methodLink "PostingShelf$Shelf" (55 : Nat) ({ cls := "PostingShelf$Shelf", name := "appendSegment", desc := "(Ljava/util/ArrayList;)V" } : Jvm.MethodName)) ∈ ev_gw := ev_m3 (List.mem_of_getElem? (i := 122) rfl) rfl
theorem wd_604 : (Jvm.Cond.instanceMethod ({ cls := "PostingShelf$Shelf", name := "appendSegment", desc := "(Ljava/util/ArrayList;)V" } : Jvm.MethodName)) ∈ ev_gw := ev_m3 (List.mem_of_getElem? (i := 124) rfl) rfl
theorem wd_605 : (Jvm.Cond.code ({ cls := "PostingShelf$Shelf", name := "appendSegment", desc := "(Ljava/util/ArrayList;)V" } : Jvm.MethodName) prog_9_method_5_code (4 : Nat) (Option.none : Option Jvm.ClassFile.FieldType)) ∈ ev_gw := ev_m3 (List.mem_of_getElem? (i := 125) rfl) rfl
theorem wd_606 : (Jvm.Cond.instantiable "PostingShelf$Segment" (2 : Nat)) ∈ ev_gw := ev_m3 (List.mem_of_getElem? (i := 126) rfl) rfl
theorem wd_607 : (Jvm.Cond.methodLinkNest "PostingShelf$Shelf" (67 : Nat) ({ cls := "PostingShelf$Segment", name := "<init>", desc := "()V" } : Jvm.MethodName) "PostingShelf") ∈ ev_gw := ev_m3 (List.mem_of_getElem? (i := 127) rfl) rfl
theorem wd_608 : (Jvm.Cond.instanceMethod ({ cls := "PostingShelf$Segment", name := "<init>", desc := "()V" } : Jvm.MethodName)) ∈ ev_gw := ev_m3 (List.mem_of_getElem? (i := 128) rfl) rfl
theorem wd_609 : (Jvm.Cond.code ({ cls := "PostingShelf$Segment", name := "<init>", desc := "()V" } : Jvm.MethodName) prog_8_method_1_code (1 : Nat) (Option.none : Option Jvm.ClassFile.FieldType)) ∈ ev_gw := ev_m3 (List.mem_of_getElem? (i := 129) rfl) rfl
theorem wd_61 : (Jvm.Cond.methodLink "PostingShelf$Pending" (9 : Nat) ({ cls := "java/util/ArrayList", name := "<init>", desc := "()V" } : Jvm.MethodName)) ∈ ev_gw := ev_m1 (List.mem_of_getElem? (i := 61) rfl) rfl
theorem wd_610 : (Jvm.Cond.methodLink "PostingShelf$Segment" (1 : Nat) ({ cls := "java/lang/Object", name := "<init>", desc := "()V" } : Jvm.MethodName)) ∈ ev_gw := ev_m3 (List.mem_of_getElem? (i := 130) rfl) rfl
theorem wd_611 : (Jvm.Cond.classLink "PostingShelf$Segment" (7 : Nat) "java/util/ArrayList") ∈ ev_gw := ev_m3 (List.mem_of_getElem? (i := 131) rfl) rfl
theorem wd_612 : (Jvm.Cond.methodLink "PostingShelf$Segment" (9 : Nat) ({ cls := "java/util/ArrayList", name := "<init>", desc := "()V" } : Jvm.MethodName)) ∈ ev_gw := ev_m3 (List.mem_of_getElem? (i := 132) rfl) rfl
theorem wd_613 : (Jvm.Cond.fieldLink "PostingShelf$Segment" (10 : Nat) "PostingShelf$Segment" "documents" "Ljava/util/ArrayList;") ∈ ev_gw := ev_m3 (List.mem_of_getElem? (i := 133) rfl) rfl
theorem wd_614 : (Jvm.Cond.fieldLinkNest "PostingShelf$Shelf" (68 : Nat) "PostingShelf$Segment" "documents" "Ljava/util/ArrayList;" "PostingShelf") ∈ ev_gw := ev_m3 (List.mem_of_getElem? (i := 134) rfl) rfl
theorem wd_615 : (Jvm.Cond.fieldLinkNest "PostingShelf" (150 : Nat) "PostingShelf$Segment" "documents" "Ljava/util/ArrayList;" "PostingShelf") ∈ ev_gw := ev_m3 (List.mem_of_getElem? (i := 135) rfl) rfl
theorem wd_616 : (Jvm.Cond.fieldLink "PostingShelf$Segment" (16 : Nat) "PostingShelf$Segment" "deletedIds" "I") ∈ ev_gw := ev_m3 (List.mem_of_getElem? (i := 136) rfl) rfl
theorem wd_617 : (Jvm.Cond.fieldLinkNest "PostingShelf$Shelf" (61 : Nat) "PostingShelf$Segment" "deletedIds" "I" "PostingShelf") ∈ ev_gw := ev_m3 (List.mem_of_getElem? (i := 137) rfl) rfl
theorem wd_62 : (Jvm.Cond.instanceMethod ({ cls := "java/util/ArrayList", name := "<init>", desc := "()V" } : Jvm.MethodName)) ∈ ev_gw := ev_m1 (List.mem_of_getElem? (i := 62) rfl) rfl
theorem wd_623 : (Jvm.Cond.methodLink "PostingShelf$Shelf" (69 : Nat) ({ cls := "java/util/ArrayList", name := "add", desc := "(Ljava/lang/Object;)Z" } : Jvm.MethodName)) ∈ ev_gw := ev_m3 (List.mem_of_getElem? (i := 143) rfl) rfl
theorem wd_624 : (Jvm.Cond.methodLink "PostingShelf$Shelf" (73 : Nat) ({ cls := "PostingShelf$Shelf", name := "insertLive", desc := "(LPostingShelf$Document;)V" } : Jvm.MethodName)) ∈ ev_gw := ev_m3 (List.mem_of_getElem? (i := 144) rfl) rfl
theorem wd_626 : (Jvm.Cond.instanceMethod ({ cls := "PostingShelf$Shelf", name := "insertLive", desc := "(LPostingShelf$Document;)V" } : Jvm.MethodName)) ∈ ev_gw := ev_m3 (List.mem_of_getElem? (i := 146) rfl) rfl
theorem wd_627 : (Jvm.Cond.code ({ cls := "PostingShelf$Shelf", name := "insertLive", desc := "(LPostingShelf$Document;)V" } : Jvm.MethodName) prog_9_method_6_code (3 : Nat) (Option.none : Option Jvm.ClassFile.FieldType)) ∈ ev_gw := ev_m3 (List.mem_of_getElem? (i := 147) rfl) rfl
theorem wd_628 : (Jvm.Cond.methodLink "PostingShelf$Shelf" (77 : Nat) ({ cls := "java/util/ArrayList", name := "add", desc := "(ILjava/lang/Object;)V" } : Jvm.MethodName)) ∈ ev_gw := ev_m3 (List.mem_of_getElem? (i := 148) rfl) rfl
theorem wd_629 : (Jvm.Cond.instanceMethod ({ cls := "java/util/ArrayList", name := "add", desc := "(ILjava/lang/Object;)V" } : Jvm.MethodName)) ∈ ev_gw := ev_m3 (List.mem_of_getElem? (i := 149) rfl) rfl
theorem wd_63 : (Jvm.Cond.code ({ cls := "java/util/ArrayList", name := "<init>", desc := "()V" } : Jvm.MethodName) prog_26_method_2_code (1 : Nat) (Option.none : Option Jvm.ClassFile.FieldType)) ∈ ev_gw := ev_m1 (List.mem_of_getElem? (i := 63) rfl) rfl
theorem wd_630 : (Jvm.Cond.selects "java/util/ArrayList" ({ cls := "java/util/ArrayList", name := "add", desc := "(ILjava/lang/Object;)V" } : Jvm.MethodName) ({ cls := "java/util/ArrayList", name := "add", desc := "(ILjava/lang/Object;)V" } : Jvm.MethodName)) ∈ ev_gw := ev_m3 (List.mem_of_getElem? (i := 150) rfl) rfl
theorem wd_631 : (Jvm.Cond.code ({ cls := "java/util/ArrayList", name := "add", desc := "(ILjava/lang/Object;)V" } : Jvm.MethodName) prog_26_method_26_code (5 : Nat) (Option.none : Option Jvm.ClassFile.FieldType)) ∈ ev_gw := ev_m3 (List.mem_of_getElem? (i := 151) rfl) rfl
theorem wd_632 : (Jvm.Cond.methodLink "java/util/ArrayList" (135 : Nat) ({ cls := "java/util/ArrayList", name := "rangeCheckForAdd", desc := "(I)V" } : Jvm.MethodName)) ∈ ev_gw := ev_m3 (List.mem_of_getElem? (i := 152) rfl) rfl
theorem wd_634 : (Jvm.Cond.instanceMethod ({ cls := "java/util/ArrayList", name := "rangeCheckForAdd", desc := "(I)V" } : Jvm.MethodName)) ∈ ev_gw := ev_m3 (List.mem_of_getElem? (i := 154) rfl) rfl
theorem wd_635 : (Jvm.Cond.code ({ cls := "java/util/ArrayList", name := "rangeCheckForAdd", desc := "(I)V" } : Jvm.MethodName) prog_26_method_45_code (2 : Nat) (Option.none : Option Jvm.ClassFile.FieldType)) ∈ ev_gw := ev_m3 (List.mem_of_getElem? (i := 155) rfl) rfl
theorem wd_636 : (Jvm.Cond.methodLink "PostingShelf" (137 : Nat) ({ cls := "PostingShelf$Pending", name := "clear", desc := "()V" } : Jvm.MethodName)) ∈ ev_gw := ev_m3 (List.mem_of_getElem? (i := 156) rfl) rfl
theorem wd_637 : (Jvm.Cond.instanceMethod ({ cls := "PostingShelf$Pending", name := "clear", desc := "()V" } : Jvm.MethodName)) ∈ ev_gw := ev_m3 (List.mem_of_getElem? (i := 157) rfl) rfl
theorem wd_638 : (Jvm.Cond.selects "PostingShelf$Pending" ({ cls := "PostingShelf$Pending", name := "clear", desc := "()V" } : Jvm.MethodName) ({ cls := "PostingShelf$Pending", name := "clear", desc := "()V" } : Jvm.MethodName)) ∈ ev_gw := ev_m3 (List.mem_of_getElem? (i := 158) rfl) rfl
theorem wd_639 : (Jvm.Cond.code ({ cls := "PostingShelf$Pending", name := "clear", desc := "()V" } : Jvm.MethodName) prog_4_method_6_code (1 : Nat) (Option.none : Option Jvm.ClassFile.FieldType)) ∈ ev_gw := ev_m3 (List.mem_of_getElem? (i := 159) rfl) rfl
theorem wd_64 : (Jvm.Cond.methodLink "java/util/ArrayList" (1 : Nat) ({ cls := "java/util/AbstractList", name := "<init>", desc := "()V" } : Jvm.MethodName)) ∈ ev_gw := ev_m1 (List.mem_of_getElem? (i := 64) rfl) rfl
theorem wd_640 : (Jvm.Cond.methodLink "PostingShelf$Pending" (50 : Nat) ({ cls := "java/util/ArrayList", name := "clear", desc := "()V" } : Jvm.MethodName)) ∈ ev_gw := ev_m3 (List.mem_of_getElem? (i := 160) rfl) rfl
theorem wd_641 : (Jvm.Cond.instanceMethod ({ cls := "java/util/ArrayList", name := "clear", desc := "()V" } : Jvm.MethodName)) ∈ ev_gw := ev_m3 (List.mem_of_getElem? (i := 161) rfl) rfl
theorem wd_642 : (Jvm.Cond.selects "java/util/ArrayList" ({ cls := "java/util/ArrayList", name := "clear", desc := "()V" } : Jvm.MethodName) ({ cls := "java/util/ArrayList", name := "clear", desc := "()V" } : Jvm.MethodName)) ∈ ev_gw := ev_m3 (List.mem_of_getElem? (i := 162) rfl) rfl
theorem wd_643 : (Jvm.Cond.code ({ cls := "java/util/ArrayList", name := "clear", desc := "()V" } : Jvm.MethodName) prog_26_method_40_code (4 : Nat) (Option.none : Option Jvm.ClassFile.FieldType)) ∈ ev_gw := ev_m3 (List.mem_of_getElem? (i := 163) rfl) rfl
theorem wd_644 : (Jvm.Cond.methodLink "PostingShelf" (140 : Nat) ({ cls := "PostingShelf", name := "goDown", desc := "()I" } : Jvm.MethodName)) ∈ ev_gw := ev_m3 (List.mem_of_getElem? (i := 164) rfl) rfl
theorem wd_646 : (Jvm.Cond.instanceMethod ({ cls := "PostingShelf", name := "goDown", desc := "()I" } : Jvm.MethodName)) ∈ ev_gw := ev_m3 (List.mem_of_getElem? (i := 166) rfl) rfl
theorem wd_647 : (Jvm.Cond.code ({ cls := "PostingShelf", name := "goDown", desc := "()I" } : Jvm.MethodName) prog_1_method_22_code (1 : Nat) (Option.some Jvm.ClassFile.FieldType.int)) ∈ ev_gw := ev_m3 (List.mem_of_getElem? (i := 167) rfl) rfl
theorem wd_648 : (Jvm.Cond.methodLink "PostingShelf" (185 : Nat) ({ cls := "PostingShelf$QueryStack", name := "clear", desc := "()V" } : Jvm.MethodName)) ∈ ev_gw := ev_m3 (List.mem_of_getElem? (i := 168) rfl) rfl
theorem wd_649 : (Jvm.Cond.instanceMethod ({ cls := "PostingShelf$QueryStack", name := "clear", desc := "()V" } : Jvm.MethodName)) ∈ ev_gw := ev_m3 (List.mem_of_getElem? (i := 169) rfl) rfl
theorem wd_65 : (Jvm.Cond.instanceMethod ({ cls := "java/util/AbstractList", name := "<init>", desc := "()V" } : Jvm.MethodName)) ∈ ev_gw := ev_m1 (List.mem_of_getElem? (i := 65) rfl) rfl
theorem wd_650 : (Jvm.Cond.selects "PostingShelf$QueryStack" ({ cls := "PostingShelf$QueryStack", name := "clear", desc := "()V" } : Jvm.MethodName) ({ cls := "PostingShelf$QueryStack", name := "clear", desc := "()V" } : Jvm.MethodName)) ∈ ev_gw := ev_m3 (List.mem_of_getElem? (i := 170) rfl) rfl
theorem wd_651 : (Jvm.Cond.code ({ cls := "PostingShelf$QueryStack", name := "clear", desc := "()V" } : Jvm.MethodName) prog_5_method_2_code (1 : Nat) (Option.none : Option Jvm.ClassFile.FieldType)) ∈ ev_gw := ev_m3 (List.mem_of_getElem? (i := 171) rfl) rfl
theorem wd_652 : (Jvm.Cond.methodLink "PostingShelf$QueryStack" (26 : Nat) ({ cls := "java/util/ArrayList", name := "clear", desc := "()V" } : Jvm.MethodName)) ∈ ev_gw := ev_m3 (List.mem_of_getElem? (i := 172) rfl) rfl
theorem wd_653 : (Jvm.Cond.methodLink "PostingShelfLaw" (39 : Nat) ({ cls := "PostingShelf", name := "merge", desc := "(I)I" } : Jvm.MethodName)) ∈ ev_gw := ev_m3 (List.mem_of_getElem? (i := 173) rfl) rfl
theorem wd_654 : (Jvm.Cond.instanceMethod ({ cls := "PostingShelf", name := "merge", desc := "(I)I" } : Jvm.MethodName)) ∈ ev_gw := ev_m3 (List.mem_of_getElem? (i := 174) rfl) rfl
theorem wd_655 : (Jvm.Cond.selects "PostingShelf" ({ cls := "PostingShelf", name := "merge", desc := "(I)I" } : Jvm.MethodName) ({ cls := "PostingShelf", name := "merge", desc := "(I)I" } : Jvm.MethodName)) ∈ ev_gw := ev_m3 (List.mem_of_getElem? (i := 175) rfl) rfl
theorem wd_656 : (Jvm.Cond.code ({ cls := "PostingShelf", name := "merge", desc := "(I)I" } : Jvm.MethodName) prog_1_method_7_code (3 : Nat) (Option.some Jvm.ClassFile.FieldType.int)) ∈ ev_gw := ev_m3 (List.mem_of_getElem? (i := 176) rfl) rfl
theorem wd_657 : (Jvm.Cond.methodLink "PostingShelf" (146 : Nat) ({ cls := "PostingShelf$Shelf", name := "joinedFrom", desc := "(I)LPostingShelf$Segment;" } : Jvm.MethodName)) ∈ ev_gw := ev_m3 (List.mem_of_getElem? (i := 177) rfl) rfl
theorem wd_658 : (Jvm.Cond.instanceMethod ({ cls := "PostingShelf$Shelf", name := "joinedFrom", desc := "(I)LPostingShelf$Segment;" } : Jvm.MethodName)) ∈ ev_gw := ev_m3 (List.mem_of_getElem? (i := 178) rfl) rfl
theorem wd_659 : (Jvm.Cond.selects "PostingShelf$Shelf" ({ cls := "PostingShelf$Shelf", name := "joinedFrom", desc := "(I)LPostingShelf$Segment;" } : Jvm.MethodName) ({ cls := "PostingShelf$Shelf", name := "joinedFrom", desc := "(I)LPostingShelf$Segment;" } : Jvm.MethodName)) ∈ ev_gw := ev_m3 (List.mem_of_getElem? (i := 179) rfl) rfl
theorem wd_66 : (Jvm.Cond.code ({ cls := "java/util/AbstractList", name := "<init>", desc := "()V" } : Jvm.MethodName) prog_25_method_1_code (1 : Nat) (Option.none : Option Jvm.ClassFile.FieldType)) ∈ ev_gw := ev_m1 (List.mem_of_getElem? (i := 66) rfl) rfl
theorem wd_660 : (Jvm.Cond.code ({ cls := "PostingShelf$Shelf", name := "joinedFrom", desc := "(I)LPostingShelf$Segment;" } : Jvm.MethodName) prog_9_method_7_code (4 : Nat) (Option.some (Jvm.ClassFile.FieldType.object "PostingShelf$Segment"))) ∈ ev_gw := ev_m3 (List.mem_of_getElem? (i := 180) rfl) rfl
theorem wd_661 : (Jvm.Cond.methodLink "PostingShelf$Shelf" (80 : Nat) ({ cls := "PostingShelf$Segment", name := "copyLive", desc := "(Ljava/util/ArrayList;)V" } : Jvm.MethodName)) ∈ ev_gw := ev_m3 (List.mem_of_getElem? (i := 181) rfl) rfl
theorem wd_662 : (Jvm.Cond.instanceMethod ({ cls := "PostingShelf$Segment", name := "copyLive", desc := "(Ljava/util/ArrayList;)V" } : Jvm.MethodName)) ∈ ev_gw := ev_m3 (List.mem_of_getElem? (i := 182) rfl) rfl
theorem wd_663 : (Jvm.Cond.selects "PostingShelf$Segment" ({ cls := "PostingShelf$Segment", name := "copyLive", desc := "(Ljava/util/ArrayList;)V" } : Jvm.MethodName) ({ cls := "PostingShelf$Segment", name := "copyLive", desc := "(Ljava/util/ArrayList;)V" } : Jvm.MethodName)) ∈ ev_gw := ev_m3 (List.mem_of_getElem? (i := 183) rfl) rfl
theorem wd_664 : (Jvm.Cond.code ({ cls := "PostingShelf$Segment", name := "copyLive", desc := "(Ljava/util/ArrayList;)V" } : Jvm.MethodName) prog_8_method_3_code (3 : Nat) (Option.none : Option Jvm.ClassFile.FieldType)) ∈ ev_gw := ev_m3 (List.mem_of_getElem? (i := 184) rfl) rfl
theorem wd_665 : (Jvm.Cond.methodLink "PostingShelf$Segment" (35 : Nat) ({ cls := "java/util/ArrayList", name := "size", desc := "()I" } : Jvm.MethodName)) ∈ ev_gw := ev_m3 (List.mem_of_getElem? (i := 185) rfl) rfl
theorem wd_666 : (Jvm.Cond.methodLink "PostingShelf$Segment" (39 : Nat) ({ cls := "PostingShelf$Segment", name := "isLive", desc := "(I)Z" } : Jvm.MethodName)) ∈ ev_gw := ev_m3 (List.mem_of_getElem? (i := 186) rfl) rfl
theorem wd_667 : (Jvm.Cond.instanceMethod ({ cls := "PostingShelf$Segment", name := "isLive", desc := "(I)Z" } : Jvm.MethodName)) ∈ ev_gw := ev_m3 (List.mem_of_getElem? (i := 187) rfl) rfl
theorem wd_668 : (Jvm.Cond.selects "PostingShelf$Segment" ({ cls := "PostingShelf$Segment", name := "isLive", desc := "(I)Z" } : Jvm.MethodName) ({ cls := "PostingShelf$Segment", name := "isLive", desc := "(I)Z" } : Jvm.MethodName)) ∈ ev_gw := ev_m3 (List.mem_of_getElem? (i := 188) rfl) rfl
theorem wd_669 : (Jvm.Cond.code ({ cls := "PostingShelf$Segment", name := "isLive", desc := "(I)Z" } : Jvm.MethodName) prog_8_method_2_code (2 : Nat) (Option.some Jvm.ClassFile.FieldType.boolean)) ∈ ev_gw := ev_m3 (List.mem_of_getElem? (i := 189) rfl) rfl
theorem wd_67 : (Jvm.Cond.methodLink "java/util/AbstractList" (1 : Nat) ({ cls := "java/util/AbstractCollection", name := "<init>", desc := "()V" } : Jvm.MethodName)) ∈ ev_gw := ev_m1 (List.mem_of_getElem? (i := 67) rfl) rfl
theorem wd_670 : (Jvm.Cond.methodLink "PostingShelf$Segment" (20 : Nat) ({ cls := "java/util/ArrayList", name := "get", desc := "(I)Ljava/lang/Object;" } : Jvm.MethodName)) ∈ ev_gw := ev_m3 (List.mem_of_getElem? (i := 190) rfl) rfl
theorem wd_671 : (Jvm.Cond.classLink "PostingShelf$Segment" (24 : Nat) "PostingShelf$Document") ∈ ev_gw := ev_m3 (List.mem_of_getElem? (i := 191) rfl) rfl
theorem wd_672 : (Jvm.Cond.methodLinkNest "PostingShelf$Segment" (29 : Nat) ({ cls := "PostingShelf", name := "isAmong", desc := "(II)Z" } : Jvm.MethodName) "PostingShelf") ∈ ev_gw := ev_m3 (List.mem_of_getElem? (i := 192) rfl) rfl
theorem wd_673 : (Jvm.Cond.methodLink "PostingShelf$Segment" (43 : Nat) ({ cls := "java/util/ArrayList", name := "add", desc := "(Ljava/lang/Object;)Z" } : Jvm.MethodName)) ∈ ev_gw := ev_m3 (List.mem_of_getElem? (i := 193) rfl) rfl
theorem wd_674 : (Jvm.Cond.methodLink "PostingShelf" (153 : Nat) ({ cls := "PostingShelf$Shelf", name := "replaceTwo", desc := "(ILPostingShelf$Segment;)V" } : Jvm.MethodName)) ∈ ev_gw := ev_m3 (List.mem_of_getElem? (i := 194) rfl) rfl
theorem wd_675 : (Jvm.Cond.instanceMethod ({ cls := "PostingShelf$Shelf", name := "replaceTwo", desc := "(ILPostingShelf$Segment;)V" } : Jvm.MethodName)) ∈ ev_gw := ev_m3 (List.mem_of_getElem? (i := 195) rfl) rfl
theorem wd_676 : (Jvm.Cond.selects "PostingShelf$Shelf" ({ cls := "PostingShelf$Shelf", name := "replaceTwo", desc := "(ILPostingShelf$Segment;)V" } : Jvm.MethodName) ({ cls := "PostingShelf$Shelf", name := "replaceTwo", desc := "(ILPostingShelf$Segment;)V" } : Jvm.MethodName)) ∈ ev_gw := ev_m3 (List.mem_of_getElem? (i := 196) rfl) rfl
theorem wd_677 : (Jvm.Cond.code ({ cls := "PostingShelf$Shelf", name := "replaceTwo", desc := "(ILPostingShelf$Segment;)V" } : Jvm.MethodName) prog_9_method_8_code (3 : Nat) (Option.none : Option Jvm.ClassFile.FieldType)) ∈ ev_gw := ev_m3 (List.mem_of_getElem? (i := 197) rfl) rfl
theorem wd_678 : (Jvm.Cond.methodLink "PostingShelf$Shelf" (83 : Nat) ({ cls := "java/util/ArrayList", name := "set", desc := "(ILjava/lang/Object;)Ljava/lang/Object;" } : Jvm.MethodName)) ∈ ev_gw := ev_m3 (List.mem_of_getElem? (i := 198) rfl) rfl
theorem wd_679 : (Jvm.Cond.instanceMethod ({ cls := "java/util/ArrayList", name := "set", desc := "(ILjava/lang/Object;)Ljava/lang/Object;" } : Jvm.MethodName)) ∈ ev_gw := ev_m3 (List.mem_of_getElem? (i := 199) rfl) rfl
theorem wd_68 : (Jvm.Cond.instanceMethod ({ cls := "java/util/AbstractCollection", name := "<init>", desc := "()V" } : Jvm.MethodName)) ∈ ev_gw := ev_m1 (List.mem_of_getElem? (i := 68) rfl) rfl
theorem wd_680 : (Jvm.Cond.selects "java/util/ArrayList" ({ cls := "java/util/ArrayList", name := "set", desc := "(ILjava/lang/Object;)Ljava/lang/Object;" } : Jvm.MethodName) ({ cls := "java/util/ArrayList", name := "set", desc := "(ILjava/lang/Object;)Ljava/lang/Object;" } : Jvm.MethodName)) ∈ ev_gw := ev_m3 (List.mem_of_getElem? (i := 200) rfl) rfl
theorem wd_681 : (Jvm.Cond.code ({ cls := "java/util/ArrayList", name := "set", desc := "(ILjava/lang/Object;)Ljava/lang/Object;" } : Jvm.MethodName) prog_26_method_23_code (4 : Nat) (Option.some (Jvm.ClassFile.FieldType.object "java/lang/Object"))) ∈ ev_gw := ev_m3 (List.mem_of_getElem? (i := 201) rfl) rfl
theorem wd_682 : (Jvm.Cond.methodLink "PostingShelfLaw" (43 : Nat) ({ cls := "PostingShelf", name := "fuse", desc := "(I)Z" } : Jvm.MethodName)) ∈ ev_gw := ev_m3 (List.mem_of_getElem? (i := 202) rfl) rfl
theorem wd_683 : (Jvm.Cond.instanceMethod ({ cls := "PostingShelf", name := "fuse", desc := "(I)Z" } : Jvm.MethodName)) ∈ ev_gw := ev_m3 (List.mem_of_getElem? (i := 203) rfl) rfl
theorem wd_684 : (Jvm.Cond.selects "PostingShelf" ({ cls := "PostingShelf", name := "fuse", desc := "(I)Z" } : Jvm.MethodName) ({ cls := "PostingShelf", name := "fuse", desc := "(I)Z" } : Jvm.MethodName)) ∈ ev_gw := ev_m3 (List.mem_of_getElem? (i := 204) rfl) rfl
theorem wd_685 : (Jvm.Cond.code ({ cls := "PostingShelf", name := "fuse", desc := "(I)Z" } : Jvm.MethodName) prog_1_method_8_code (2 : Nat) (Option.some Jvm.ClassFile.FieldType.boolean)) ∈ ev_gw := ev_m3 (List.mem_of_getElem? (i := 205) rfl) rfl
theorem wd_686 : (Jvm.Cond.methodLink "PostingShelfLaw" (48 : Nat) ({ cls := "PostingShelf", name := "restart", desc := "()Z" } : Jvm.MethodName)) ∈ ev_gw := ev_m3 (List.mem_of_getElem? (i := 206) rfl) rfl
theorem wd_687 : (Jvm.Cond.instanceMethod ({ cls := "PostingShelf", name := "restart", desc := "()Z" } : Jvm.MethodName)) ∈ ev_gw := ev_m3 (List.mem_of_getElem? (i := 207) rfl) rfl
theorem wd_688 : (Jvm.Cond.selects "PostingShelf" ({ cls := "PostingShelf", name := "restart", desc := "()Z" } : Jvm.MethodName) ({ cls := "PostingShelf", name := "restart", desc := "()Z" } : Jvm.MethodName)) ∈ ev_gw := ev_m3 (List.mem_of_getElem? (i := 208) rfl) rfl
theorem wd_689 : (Jvm.Cond.code ({ cls := "PostingShelf", name := "restart", desc := "()Z" } : Jvm.MethodName) prog_1_method_9_code (2 : Nat) (Option.some Jvm.ClassFile.FieldType.boolean)) ∈ ev_gw := ev_m3 (List.mem_of_getElem? (i := 209) rfl) rfl
theorem wd_69 : (Jvm.Cond.code ({ cls := "java/util/AbstractCollection", name := "<init>", desc := "()V" } : Jvm.MethodName) prog_24_method_1_code (1 : Nat) (Option.none : Option Jvm.ClassFile.FieldType)) ∈ ev_gw := ev_m1 (List.mem_of_getElem? (i := 69) rfl) rfl
theorem wd_690 : (Jvm.Cond.methodLink "PostingShelfLaw" (53 : Nat) ({ cls := "PostingShelf", name := "term", desc := "(J)I" } : Jvm.MethodName)) ∈ ev_gw := ev_m3 (List.mem_of_getElem? (i := 210) rfl) rfl
theorem wd_691 : (Jvm.Cond.instanceMethod ({ cls := "PostingShelf", name := "term", desc := "(J)I" } : Jvm.MethodName)) ∈ ev_gw := ev_m3 (List.mem_of_getElem? (i := 211) rfl) rfl
theorem wd_692 : (Jvm.Cond.selects "PostingShelf" ({ cls := "PostingShelf", name := "term", desc := "(J)I" } : Jvm.MethodName) ({ cls := "PostingShelf", name := "term", desc := "(J)I" } : Jvm.MethodName)) ∈ ev_gw := ev_m3 (List.mem_of_getElem? (i := 212) rfl) rfl
theorem wd_693 : (Jvm.Cond.code ({ cls := "PostingShelf", name := "term", desc := "(J)I" } : Jvm.MethodName) prog_1_method_10_code (3 : Nat) (Option.some Jvm.ClassFile.FieldType.int)) ∈ ev_gw := ev_m3 (List.mem_of_getElem? (i := 213) rfl) rfl
theorem wd_694 : (Jvm.Cond.methodLink "PostingShelf" (163 : Nat) ({ cls := "PostingShelf$QueryStack", name := "pushTerm", desc := "(J)I" } : Jvm.MethodName)) ∈ ev_gw := ev_m3 (List.mem_of_getElem? (i := 214) rfl) rfl
theorem wd_695 : (Jvm.Cond.instanceMethod ({ cls := "PostingShelf$QueryStack", name := "pushTerm", desc := "(J)I" } : Jvm.MethodName)) ∈ ev_gw := ev_m3 (List.mem_of_getElem? (i := 215) rfl) rfl
theorem wd_696 : (Jvm.Cond.selects "PostingShelf$QueryStack" ({ cls := "PostingShelf$QueryStack", name := "pushTerm", desc := "(J)I" } : Jvm.MethodName) ({ cls := "PostingShelf$QueryStack", name := "pushTerm", desc := "(J)I" } : Jvm.MethodName)) ∈ ev_gw := ev_m3 (List.mem_of_getElem? (i := 216) rfl) rfl
theorem wd_697 : (Jvm.Cond.code ({ cls := "PostingShelf$QueryStack", name := "pushTerm", desc := "(J)I" } : Jvm.MethodName) prog_5_method_7_code (4 : Nat) (Option.some Jvm.ClassFile.FieldType.int)) ∈ ev_gw := ev_m3 (List.mem_of_getElem? (i := 217) rfl) rfl
theorem wd_698 : (Jvm.Cond.classLink "PostingShelf$QueryStack" (47 : Nat) "PostingShelf$Step") ∈ ev_gw := ev_m3 (List.mem_of_getElem? (i := 218) rfl) rfl
theorem wd_699 : (Jvm.Cond.instantiable "PostingShelf$Step" (2 : Nat)) ∈ ev_gw := ev_m3 (List.mem_of_getElem? (i := 219) rfl) rfl
theorem wd_7 : (Jvm.Cond.initialized "PostingShelf$Shelf") ∈ ev_gw := ev_m1 (List.mem_of_getElem? (i := 7) rfl) rfl
theorem wd_70 : (Jvm.Cond.methodLink "java/util/AbstractCollection" (1 : Nat) ({ cls := "java/lang/Object", name := "<init>", desc := "()V" } : Jvm.MethodName)) ∈ ev_gw := ev_m1 (List.mem_of_getElem? (i := 70) rfl) rfl
theorem wd_700 : (Jvm.Cond.methodLink "PostingShelf$QueryStack" (57 : Nat) ({ cls := "PostingShelf$Step", name := "<init>", desc := "(I[J)V" } : Jvm.MethodName)) ∈ ev_gw := ev_m3 (List.mem_of_getElem? (i := 220) rfl) rfl
theorem wd_701 : (Jvm.Cond.instanceMethod ({ cls := "PostingShelf$Step", name := "<init>", desc := "(I[J)V" } : Jvm.MethodName)) ∈ ev_gw := ev_m3 (List.mem_of_getElem? (i := 221) rfl) rfl
theorem wd_702 : (Jvm.Cond.code ({ cls := "PostingShelf$Step", name := "<init>", desc := "(I[J)V" } : Jvm.MethodName) prog_11_method_1_code (3 : Nat) (Option.none : Option Jvm.ClassFile.FieldType)) ∈ ev_gw := ev_m3 (List.mem_of_getElem? (i := 222) rfl) rfl
theorem wd_703 : (Jvm.Cond.methodLink "PostingShelf$Step" (1 : Nat) ({ cls := "java/lang/Object", name := "<init>", desc := "()V" } : Jvm.MethodName)) ∈ ev_gw := ev_m3 (List.mem_of_getElem? (i := 223) rfl) rfl
theorem wd_704 : (Jvm.Cond.fieldLink "PostingShelf$Step" (7 : Nat) "PostingShelf$Step" "kind" "I") ∈ ev_gw := ev_m3 (List.mem_of_getElem? (i := 224) rfl) rfl
theorem wd_705 : (Jvm.Cond.fieldLinkNest "PostingShelf$QueryStack" (79 : Nat) "PostingShelf$Step" "kind" "I" "PostingShelf") ∈ ev_gw := ev_m3 (List.mem_of_getElem? (i := 225) rfl) rfl
theorem wd_706 : (Jvm.Cond.fieldLink "PostingShelf$Step" (13 : Nat) "PostingShelf$Step" "terms" "[J") ∈ ev_gw := ev_m3 (List.mem_of_getElem? (i := 226) rfl) rfl
theorem wd_707 : (Jvm.Cond.fieldLinkNest "PostingShelf$QueryStack" (53 : Nat) "PostingShelf$Step" "terms" "[J" "PostingShelf") ∈ ev_gw := ev_m3 (List.mem_of_getElem? (i := 227) rfl) rfl
theorem wd_713 : (Jvm.Cond.methodLink "PostingShelf$QueryStack" (60 : Nat) ({ cls := "PostingShelf$QueryStack", name := "push", desc := "(LPostingShelf$Step;II)I" } : Jvm.MethodName)) ∈ ev_gw := ev_m3 (List.mem_of_getElem? (i := 233) rfl) rfl
theorem wd_715 : (Jvm.Cond.instanceMethod ({ cls := "PostingShelf$QueryStack", name := "push", desc := "(LPostingShelf$Step;II)I" } : Jvm.MethodName)) ∈ ev_gw := ev_m3 (List.mem_of_getElem? (i := 235) rfl) rfl
theorem wd_716 : (Jvm.Cond.code ({ cls := "PostingShelf$QueryStack", name := "push", desc := "(LPostingShelf$Step;II)I" } : Jvm.MethodName) prog_5_method_10_code (5 : Nat) (Option.some Jvm.ClassFile.FieldType.int)) ∈ ev_gw := ev_m3 (List.mem_of_getElem? (i := 236) rfl) rfl
theorem wd_717 : (Jvm.Cond.methodLink "PostingShelf$QueryStack" (71 : Nat) ({ cls := "java/util/ArrayList", name := "add", desc := "(Ljava/lang/Object;)Z" } : Jvm.MethodName)) ∈ ev_gw := ev_m3 (List.mem_of_getElem? (i := 237) rfl) rfl
theorem wd_718 : (Jvm.Cond.methodLink "PostingShelfLaw" (57 : Nat) ({ cls := "PostingShelf", name := "phrase", desc := "(I)I" } : Jvm.MethodName)) ∈ ev_gw := ev_m3 (List.mem_of_getElem? (i := 238) rfl) rfl
theorem wd_719 : (Jvm.Cond.instanceMethod ({ cls := "PostingShelf", name := "phrase", desc := "(I)I" } : Jvm.MethodName)) ∈ ev_gw := ev_m3 (List.mem_of_getElem? (i := 239) rfl) rfl
theorem wd_720 : (Jvm.Cond.selects "PostingShelf" ({ cls := "PostingShelf", name := "phrase", desc := "(I)I" } : Jvm.MethodName) ({ cls := "PostingShelf", name := "phrase", desc := "(I)I" } : Jvm.MethodName)) ∈ ev_gw := ev_m4 (List.mem_of_getElem? (i := 0) rfl) rfl
theorem wd_721 : (Jvm.Cond.code ({ cls := "PostingShelf", name := "phrase", desc := "(I)I" } : Jvm.MethodName) prog_1_method_11_code (2 : Nat) (Option.some Jvm.ClassFile.FieldType.int)) ∈ ev_gw := ev_m4 (List.mem_of_getElem? (i := 1) rfl) rfl
theorem wd_722 : (Jvm.Cond.methodLink "PostingShelf" (167 : Nat) ({ cls := "PostingShelf$QueryStack", name := "areTerms", desc := "(I)Z" } : Jvm.MethodName)) ∈ ev_gw := ev_m4 (List.mem_of_getElem? (i := 2) rfl) rfl
theorem wd_723 : (Jvm.Cond.instanceMethod ({ cls := "PostingShelf$QueryStack", name := "areTerms", desc := "(I)Z" } : Jvm.MethodName)) ∈ ev_gw := ev_m4 (List.mem_of_getElem? (i := 3) rfl) rfl
theorem wd_724 : (Jvm.Cond.selects "PostingShelf$QueryStack" ({ cls := "PostingShelf$QueryStack", name := "areTerms", desc := "(I)Z" } : Jvm.MethodName) ({ cls := "PostingShelf$QueryStack", name := "areTerms", desc := "(I)Z" } : Jvm.MethodName)) ∈ ev_gw := ev_m4 (List.mem_of_getElem? (i := 4) rfl) rfl
theorem wd_725 : (Jvm.Cond.code ({ cls := "PostingShelf$QueryStack", name := "areTerms", desc := "(I)Z" } : Jvm.MethodName) prog_5_method_3_code (2 : Nat) (Option.some Jvm.ClassFile.FieldType.boolean)) ∈ ev_gw := ev_m4 (List.mem_of_getElem? (i := 5) rfl) rfl
theorem wd_726 : (Jvm.Cond.methodLink "PostingShelf$QueryStack" (29 : Nat) ({ cls := "PostingShelf$QueryStack", name := "deepest", desc := "(I)I" } : Jvm.MethodName)) ∈ ev_gw := ev_m4 (List.mem_of_getElem? (i := 6) rfl) rfl
theorem wd_727 : (Jvm.Cond.instanceMethod ({ cls := "PostingShelf$QueryStack", name := "deepest", desc := "(I)I" } : Jvm.MethodName)) ∈ ev_gw := ev_m4 (List.mem_of_getElem? (i := 7) rfl) rfl
theorem wd_728 : (Jvm.Cond.selects "PostingShelf$QueryStack" ({ cls := "PostingShelf$QueryStack", name := "deepest", desc := "(I)I" } : Jvm.MethodName) ({ cls := "PostingShelf$QueryStack", name := "deepest", desc := "(I)I" } : Jvm.MethodName)) ∈ ev_gw := ev_m4 (List.mem_of_getElem? (i := 8) rfl) rfl
theorem wd_729 : (Jvm.Cond.code ({ cls := "PostingShelf$QueryStack", name := "deepest", desc := "(I)I" } : Jvm.MethodName) prog_5_method_4_code (4 : Nat) (Option.some Jvm.ClassFile.FieldType.int)) ∈ ev_gw := ev_m4 (List.mem_of_getElem? (i := 9) rfl) rfl
theorem wd_73 : (Jvm.Cond.fieldLink "java/util/ArrayList" (9 : Nat) "java/util/ArrayList" "elementData" "[Ljava/lang/Object;") ∈ ev_gw := ev_m1 (List.mem_of_getElem? (i := 73) rfl) rfl
theorem wd_730 : (Jvm.Cond.methodLink "PostingShelf$QueryStack" (33 : Nat) ({ cls := "java/lang/Math", name := "max", desc := "(II)I" } : Jvm.MethodName)) ∈ ev_gw := ev_m4 (List.mem_of_getElem? (i := 10) rfl) rfl
theorem wd_731 : (Jvm.Cond.methodLink "PostingShelf" (170 : Nat) ({ cls := "PostingShelf$QueryStack", name := "makePhrase", desc := "(I)I" } : Jvm.MethodName)) ∈ ev_gw := ev_m4 (List.mem_of_getElem? (i := 11) rfl) rfl
theorem wd_732 : (Jvm.Cond.instanceMethod ({ cls := "PostingShelf$QueryStack", name := "makePhrase", desc := "(I)I" } : Jvm.MethodName)) ∈ ev_gw := ev_m4 (List.mem_of_getElem? (i := 12) rfl) rfl
theorem wd_733 : (Jvm.Cond.selects "PostingShelf$QueryStack" ({ cls := "PostingShelf$QueryStack", name := "makePhrase", desc := "(I)I" } : Jvm.MethodName) ({ cls := "PostingShelf$QueryStack", name := "makePhrase", desc := "(I)I" } : Jvm.MethodName)) ∈ ev_gw := ev_m4 (List.mem_of_getElem? (i := 13) rfl) rfl
theorem wd_734 : (Jvm.Cond.code ({ cls := "PostingShelf$QueryStack", name := "makePhrase", desc := "(I)I" } : Jvm.MethodName) prog_5_method_8_code (4 : Nat) (Option.some Jvm.ClassFile.FieldType.int)) ∈ ev_gw := ev_m4 (List.mem_of_getElem? (i := 14) rfl) rfl
theorem wd_735 : (Jvm.Cond.methodLink "PostingShelf$QueryStack" (64 : Nat) ({ cls := "java/util/ArrayList", name := "isEmpty", desc := "()Z" } : Jvm.MethodName)) ∈ ev_gw := ev_m4 (List.mem_of_getElem? (i := 15) rfl) rfl
theorem wd_736 : (Jvm.Cond.methodLink "PostingShelf$QueryStack" (39 : Nat) ({ cls := "java/util/ArrayList", name := "size", desc := "()I" } : Jvm.MethodName)) ∈ ev_gw := ev_m4 (List.mem_of_getElem? (i := 16) rfl) rfl
theorem wd_737 : (Jvm.Cond.methodLink "PostingShelf$QueryStack" (68 : Nat) ({ cls := "java/util/ArrayList", name := "remove", desc := "(I)Ljava/lang/Object;" } : Jvm.MethodName)) ∈ ev_gw := ev_m4 (List.mem_of_getElem? (i := 17) rfl) rfl
theorem wd_738 : (Jvm.Cond.methodLink "PostingShelf$QueryStack" (49 : Nat) ({ cls := "PostingShelf$QueryStack", name := "firstTerm", desc := "(LPostingShelf$Step;)J" } : Jvm.MethodName)) ∈ ev_gw := ev_m4 (List.mem_of_getElem? (i := 18) rfl) rfl
theorem wd_74 : (Jvm.Cond.fieldLink "java/util/ArrayList" (48 : Nat) "java/util/ArrayList" "size" "I") ∈ ev_gw := ev_m1 (List.mem_of_getElem? (i := 74) rfl) rfl
theorem wd_740 : (Jvm.Cond.instanceMethod ({ cls := "PostingShelf$QueryStack", name := "firstTerm", desc := "(LPostingShelf$Step;)J" } : Jvm.MethodName)) ∈ ev_gw := ev_m4 (List.mem_of_getElem? (i := 20) rfl) rfl
theorem wd_741 : (Jvm.Cond.code ({ cls := "PostingShelf$QueryStack", name := "firstTerm", desc := "(LPostingShelf$Step;)J" } : Jvm.MethodName) prog_5_method_6_code (2 : Nat) (Option.some Jvm.ClassFile.FieldType.long)) ∈ ev_gw := ev_m4 (List.mem_of_getElem? (i := 21) rfl) rfl
theorem wd_742 : (Jvm.Cond.methodLink "PostingShelfLaw" (61 : Nat) ({ cls := "PostingShelf", name := "join", desc := "(I)I" } : Jvm.MethodName)) ∈ ev_gw := ev_m4 (List.mem_of_getElem? (i := 22) rfl) rfl
theorem wd_743 : (Jvm.Cond.instanceMethod ({ cls := "PostingShelf", name := "join", desc := "(I)I" } : Jvm.MethodName)) ∈ ev_gw := ev_m4 (List.mem_of_getElem? (i := 23) rfl) rfl
theorem wd_744 : (Jvm.Cond.selects "PostingShelf" ({ cls := "PostingShelf", name := "join", desc := "(I)I" } : Jvm.MethodName) ({ cls := "PostingShelf", name := "join", desc := "(I)I" } : Jvm.MethodName)) ∈ ev_gw := ev_m4 (List.mem_of_getElem? (i := 24) rfl) rfl
theorem wd_745 : (Jvm.Cond.code ({ cls := "PostingShelf", name := "join", desc := "(I)I" } : Jvm.MethodName) prog_1_method_12_code (3 : Nat) (Option.some Jvm.ClassFile.FieldType.int)) ∈ ev_gw := ev_m4 (List.mem_of_getElem? (i := 25) rfl) rfl
theorem wd_746 : (Jvm.Cond.methodLink "PostingShelf" (174 : Nat) ({ cls := "PostingShelf$QueryStack", name := "deepest", desc := "(I)I" } : Jvm.MethodName)) ∈ ev_gw := ev_m4 (List.mem_of_getElem? (i := 26) rfl) rfl
theorem wd_747 : (Jvm.Cond.methodLink "PostingShelf" (177 : Nat) ({ cls := "PostingShelf$QueryStack", name := "makeJoin", desc := "(II)I" } : Jvm.MethodName)) ∈ ev_gw := ev_m4 (List.mem_of_getElem? (i := 27) rfl) rfl
theorem wd_748 : (Jvm.Cond.instanceMethod ({ cls := "PostingShelf$QueryStack", name := "makeJoin", desc := "(II)I" } : Jvm.MethodName)) ∈ ev_gw := ev_m4 (List.mem_of_getElem? (i := 28) rfl) rfl
theorem wd_749 : (Jvm.Cond.selects "PostingShelf$QueryStack" ({ cls := "PostingShelf$QueryStack", name := "makeJoin", desc := "(II)I" } : Jvm.MethodName) ({ cls := "PostingShelf$QueryStack", name := "makeJoin", desc := "(II)I" } : Jvm.MethodName)) ∈ ev_gw := ev_m4 (List.mem_of_getElem? (i := 29) rfl) rfl
theorem wd_75 : (Jvm.Cond.fieldLink "java/util/AbstractList" (7 : Nat) "java/util/AbstractList" "modCount" "I") ∈ ev_gw := ev_m1 (List.mem_of_getElem? (i := 75) rfl) rfl
theorem wd_750 : (Jvm.Cond.code ({ cls := "PostingShelf$QueryStack", name := "makeJoin", desc := "(II)I" } : Jvm.MethodName) prog_5_method_9_code (3 : Nat) (Option.some Jvm.ClassFile.FieldType.int)) ∈ ev_gw := ev_m4 (List.mem_of_getElem? (i := 30) rfl) rfl
theorem wd_751 : (Jvm.Cond.methodLink "PostingShelfLaw" (65 : Nat) ({ cls := "PostingShelf", name := "find", desc := "()I" } : Jvm.MethodName)) ∈ ev_gw := ev_m4 (List.mem_of_getElem? (i := 31) rfl) rfl
theorem wd_752 : (Jvm.Cond.instanceMethod ({ cls := "PostingShelf", name := "find", desc := "()I" } : Jvm.MethodName)) ∈ ev_gw := ev_m4 (List.mem_of_getElem? (i := 32) rfl) rfl
theorem wd_753 : (Jvm.Cond.selects "PostingShelf" ({ cls := "PostingShelf", name := "find", desc := "()I" } : Jvm.MethodName) ({ cls := "PostingShelf", name := "find", desc := "()I" } : Jvm.MethodName)) ∈ ev_gw := ev_m4 (List.mem_of_getElem? (i := 33) rfl) rfl
theorem wd_754 : (Jvm.Cond.code ({ cls := "PostingShelf", name := "find", desc := "()I" } : Jvm.MethodName) prog_1_method_13_code (2 : Nat) (Option.some Jvm.ClassFile.FieldType.int)) ∈ ev_gw := ev_m4 (List.mem_of_getElem? (i := 34) rfl) rfl
theorem wd_755 : (Jvm.Cond.methodLink "PostingShelf" (181 : Nat) ({ cls := "PostingShelf$Results", name := "clear", desc := "()V" } : Jvm.MethodName)) ∈ ev_gw := ev_m4 (List.mem_of_getElem? (i := 35) rfl) rfl
theorem wd_756 : (Jvm.Cond.instanceMethod ({ cls := "PostingShelf$Results", name := "clear", desc := "()V" } : Jvm.MethodName)) ∈ ev_gw := ev_m4 (List.mem_of_getElem? (i := 36) rfl) rfl
theorem wd_757 : (Jvm.Cond.selects "PostingShelf$Results" ({ cls := "PostingShelf$Results", name := "clear", desc := "()V" } : Jvm.MethodName) ({ cls := "PostingShelf$Results", name := "clear", desc := "()V" } : Jvm.MethodName)) ∈ ev_gw := ev_m4 (List.mem_of_getElem? (i := 37) rfl) rfl
theorem wd_758 : (Jvm.Cond.code ({ cls := "PostingShelf$Results", name := "clear", desc := "()V" } : Jvm.MethodName) prog_7_method_2_code (1 : Nat) (Option.none : Option Jvm.ClassFile.FieldType)) ∈ ev_gw := ev_m4 (List.mem_of_getElem? (i := 38) rfl) rfl
theorem wd_759 : (Jvm.Cond.methodLink "PostingShelf" (182 : Nat) ({ cls := "PostingShelf", name := "collectMatches", desc := "()V" } : Jvm.MethodName)) ∈ ev_gw := ev_m4 (List.mem_of_getElem? (i := 39) rfl) rfl
theorem wd_76 : (Jvm.Cond.fieldLink "java/util/ArrayList" (63 : Nat) "java/util/ArrayList" "modCount" "I") ∈ ev_gw := ev_m1 (List.mem_of_getElem? (i := 76) rfl) rfl
theorem wd_761 : (Jvm.Cond.instanceMethod ({ cls := "PostingShelf", name := "collectMatches", desc := "()V" } : Jvm.MethodName)) ∈ ev_gw := ev_m4 (List.mem_of_getElem? (i := 41) rfl) rfl
theorem wd_762 : (Jvm.Cond.code ({ cls := "PostingShelf", name := "collectMatches", desc := "()V" } : Jvm.MethodName) prog_1_method_23_code (3 : Nat) (Option.none : Option Jvm.ClassFile.FieldType)) ∈ ev_gw := ev_m4 (List.mem_of_getElem? (i := 42) rfl) rfl
theorem wd_763 : (Jvm.Cond.methodLink "PostingShelf" (223 : Nat) ({ cls := "java/util/ArrayList", name := "get", desc := "(I)Ljava/lang/Object;" } : Jvm.MethodName)) ∈ ev_gw := ev_m4 (List.mem_of_getElem? (i := 43) rfl) rfl
theorem wd_764 : (Jvm.Cond.methodLink "PostingShelf" (230 : Nat) ({ cls := "PostingShelf$QueryStack", name := "matches", desc := "(LPostingShelf$Document;)Z" } : Jvm.MethodName)) ∈ ev_gw := ev_m4 (List.mem_of_getElem? (i := 44) rfl) rfl
theorem wd_765 : (Jvm.Cond.instanceMethod ({ cls := "PostingShelf$QueryStack", name := "matches", desc := "(LPostingShelf$Document;)Z" } : Jvm.MethodName)) ∈ ev_gw := ev_m4 (List.mem_of_getElem? (i := 45) rfl) rfl
theorem wd_766 : (Jvm.Cond.selects "PostingShelf$QueryStack" ({ cls := "PostingShelf$QueryStack", name := "matches", desc := "(LPostingShelf$Document;)Z" } : Jvm.MethodName) ({ cls := "PostingShelf$QueryStack", name := "matches", desc := "(LPostingShelf$Document;)Z" } : Jvm.MethodName)) ∈ ev_gw := ev_m4 (List.mem_of_getElem? (i := 46) rfl) rfl
theorem wd_767 : (Jvm.Cond.code ({ cls := "PostingShelf$QueryStack", name := "matches", desc := "(LPostingShelf$Document;)Z" } : Jvm.MethodName) prog_5_method_11_code (4 : Nat) (Option.some Jvm.ClassFile.FieldType.boolean)) ∈ ev_gw := ev_m4 (List.mem_of_getElem? (i := 47) rfl) rfl
theorem wd_768 : (Jvm.Cond.methodLink "PostingShelf$QueryStack" (43 : Nat) ({ cls := "java/util/ArrayList", name := "get", desc := "(I)Ljava/lang/Object;" } : Jvm.MethodName)) ∈ ev_gw := ev_m4 (List.mem_of_getElem? (i := 48) rfl) rfl
theorem wd_769 : (Jvm.Cond.methodLink "PostingShelf$QueryStack" (75 : Nat) ({ cls := "PostingShelf$QueryStack", name := "answersBehind", desc := "(LPostingShelf$Step;ILPostingShelf$Document;)I" } : Jvm.MethodName)) ∈ ev_gw := ev_m4 (List.mem_of_getElem? (i := 49) rfl) rfl
theorem wd_77 : (Jvm.Cond.sameField "java/util/ArrayList" "java/util/AbstractList" "modCount" "I") ∈ ev_gw := ev_m1 (List.mem_of_getElem? (i := 77) rfl) rfl
theorem wd_770 : (Jvm.Cond.static ({ cls := "PostingShelf$QueryStack", name := "answersBehind", desc := "(LPostingShelf$Step;ILPostingShelf$Document;)I" } : Jvm.MethodName)) ∈ ev_gw := ev_m4 (List.mem_of_getElem? (i := 50) rfl) rfl
theorem wd_771 : (Jvm.Cond.code ({ cls := "PostingShelf$QueryStack", name := "answersBehind", desc := "(LPostingShelf$Step;ILPostingShelf$Document;)I" } : Jvm.MethodName) prog_5_method_12_code (3 : Nat) (Option.some Jvm.ClassFile.FieldType.int)) ∈ ev_gw := ev_m4 (List.mem_of_getElem? (i := 51) rfl) rfl
theorem wd_772 : (Jvm.Cond.methodLink "PostingShelf$QueryStack" (82 : Nat) ({ cls := "PostingShelf$Document", name := "hasRow", desc := "([J)Z" } : Jvm.MethodName)) ∈ ev_gw := ev_m4 (List.mem_of_getElem? (i := 52) rfl) rfl
theorem wd_773 : (Jvm.Cond.instanceMethod ({ cls := "PostingShelf$Document", name := "hasRow", desc := "([J)Z" } : Jvm.MethodName)) ∈ ev_gw := ev_m4 (List.mem_of_getElem? (i := 53) rfl) rfl
theorem wd_774 : (Jvm.Cond.selects "PostingShelf$Document" ({ cls := "PostingShelf$Document", name := "hasRow", desc := "([J)Z" } : Jvm.MethodName) ({ cls := "PostingShelf$Document", name := "hasRow", desc := "([J)Z" } : Jvm.MethodName)) ∈ ev_gw := ev_m4 (List.mem_of_getElem? (i := 54) rfl) rfl
theorem wd_775 : (Jvm.Cond.code ({ cls := "PostingShelf$Document", name := "hasRow", desc := "([J)Z" } : Jvm.MethodName) prog_2_method_6_code (3 : Nat) (Option.some Jvm.ClassFile.FieldType.boolean)) ∈ ev_gw := ev_m4 (List.mem_of_getElem? (i := 55) rfl) rfl
theorem wd_776 : (Jvm.Cond.methodLink "PostingShelf$Document" (23 : Nat) ({ cls := "PostingShelf$Document", name := "hasRowAt", desc := "(I[J)Z" } : Jvm.MethodName)) ∈ ev_gw := ev_m4 (List.mem_of_getElem? (i := 56) rfl) rfl
theorem wd_778 : (Jvm.Cond.instanceMethod ({ cls := "PostingShelf$Document", name := "hasRowAt", desc := "(I[J)Z" } : Jvm.MethodName)) ∈ ev_gw := ev_m4 (List.mem_of_getElem? (i := 58) rfl) rfl
theorem wd_779 : (Jvm.Cond.code ({ cls := "PostingShelf$Document", name := "hasRowAt", desc := "(I[J)Z" } : Jvm.MethodName) prog_2_method_7_code (4 : Nat) (Option.some Jvm.ClassFile.FieldType.boolean)) ∈ ev_gw := ev_m4 (List.mem_of_getElem? (i := 59) rfl) rfl
theorem wd_780 : (Jvm.Cond.methodLink "PostingShelf" (237 : Nat) ({ cls := "PostingShelf$Results", name := "insert", desc := "(III)V" } : Jvm.MethodName)) ∈ ev_gw := ev_m4 (List.mem_of_getElem? (i := 60) rfl) rfl
theorem wd_781 : (Jvm.Cond.instanceMethod ({ cls := "PostingShelf$Results", name := "insert", desc := "(III)V" } : Jvm.MethodName)) ∈ ev_gw := ev_m4 (List.mem_of_getElem? (i := 61) rfl) rfl
theorem wd_782 : (Jvm.Cond.selects "PostingShelf$Results" ({ cls := "PostingShelf$Results", name := "insert", desc := "(III)V" } : Jvm.MethodName) ({ cls := "PostingShelf$Results", name := "insert", desc := "(III)V" } : Jvm.MethodName)) ∈ ev_gw := ev_m4 (List.mem_of_getElem? (i := 62) rfl) rfl
theorem wd_783 : (Jvm.Cond.code ({ cls := "PostingShelf$Results", name := "insert", desc := "(III)V" } : Jvm.MethodName) prog_7_method_5_code (6 : Nat) (Option.none : Option Jvm.ClassFile.FieldType)) ∈ ev_gw := ev_m4 (List.mem_of_getElem? (i := 63) rfl) rfl
theorem wd_784 : (Jvm.Cond.methodLink "PostingShelf$Results" (22 : Nat) ({ cls := "java/lang/Math", name := "min", desc := "(II)I" } : Jvm.MethodName)) ∈ ev_gw := ev_m4 (List.mem_of_getElem? (i := 64) rfl) rfl
theorem wd_785 : (Jvm.Cond.methodLink "PostingShelfLaw" (69 : Nat) ({ cls := "PostingShelf", name := "rank", desc := "(I)I" } : Jvm.MethodName)) ∈ ev_gw := ev_m4 (List.mem_of_getElem? (i := 65) rfl) rfl
theorem wd_786 : (Jvm.Cond.instanceMethod ({ cls := "PostingShelf", name := "rank", desc := "(I)I" } : Jvm.MethodName)) ∈ ev_gw := ev_m4 (List.mem_of_getElem? (i := 66) rfl) rfl
theorem wd_787 : (Jvm.Cond.selects "PostingShelf" ({ cls := "PostingShelf", name := "rank", desc := "(I)I" } : Jvm.MethodName) ({ cls := "PostingShelf", name := "rank", desc := "(I)I" } : Jvm.MethodName)) ∈ ev_gw := ev_m4 (List.mem_of_getElem? (i := 67) rfl) rfl
theorem wd_788 : (Jvm.Cond.code ({ cls := "PostingShelf", name := "rank", desc := "(I)I" } : Jvm.MethodName) prog_1_method_14_code (3 : Nat) (Option.some Jvm.ClassFile.FieldType.int)) ∈ ev_gw := ev_m4 (List.mem_of_getElem? (i := 68) rfl) rfl
theorem wd_789 : (Jvm.Cond.methodLink "PostingShelf" (189 : Nat) ({ cls := "PostingShelf$Ranking", name := "clear", desc := "()V" } : Jvm.MethodName)) ∈ ev_gw := ev_m4 (List.mem_of_getElem? (i := 69) rfl) rfl
theorem wd_790 : (Jvm.Cond.instanceMethod ({ cls := "PostingShelf$Ranking", name := "clear", desc := "()V" } : Jvm.MethodName)) ∈ ev_gw := ev_m4 (List.mem_of_getElem? (i := 70) rfl) rfl
theorem wd_791 : (Jvm.Cond.selects "PostingShelf$Ranking" ({ cls := "PostingShelf$Ranking", name := "clear", desc := "()V" } : Jvm.MethodName) ({ cls := "PostingShelf$Ranking", name := "clear", desc := "()V" } : Jvm.MethodName)) ∈ ev_gw := ev_m4 (List.mem_of_getElem? (i := 71) rfl) rfl
theorem wd_792 : (Jvm.Cond.code ({ cls := "PostingShelf$Ranking", name := "clear", desc := "()V" } : Jvm.MethodName) prog_6_method_2_code (1 : Nat) (Option.none : Option Jvm.ClassFile.FieldType)) ∈ ev_gw := ev_m4 (List.mem_of_getElem? (i := 72) rfl) rfl
theorem wd_793 : (Jvm.Cond.methodLink "PostingShelf" (190 : Nat) ({ cls := "PostingShelf$Ranking", name := "weighBag", desc := "(LPostingShelf$QueryStack;Ljava/util/ArrayList;)V" } : Jvm.MethodName)) ∈ ev_gw := ev_m4 (List.mem_of_getElem? (i := 73) rfl) rfl
theorem wd_794 : (Jvm.Cond.instanceMethod ({ cls := "PostingShelf$Ranking", name := "weighBag", desc := "(LPostingShelf$QueryStack;Ljava/util/ArrayList;)V" } : Jvm.MethodName)) ∈ ev_gw := ev_m4 (List.mem_of_getElem? (i := 74) rfl) rfl
theorem wd_795 : (Jvm.Cond.selects "PostingShelf$Ranking" ({ cls := "PostingShelf$Ranking", name := "weighBag", desc := "(LPostingShelf$QueryStack;Ljava/util/ArrayList;)V" } : Jvm.MethodName) ({ cls := "PostingShelf$Ranking", name := "weighBag", desc := "(LPostingShelf$QueryStack;Ljava/util/ArrayList;)V" } : Jvm.MethodName)) ∈ ev_gw := ev_m4 (List.mem_of_getElem? (i := 75) rfl) rfl
theorem wd_796 : (Jvm.Cond.code ({ cls := "PostingShelf$Ranking", name := "weighBag", desc := "(LPostingShelf$QueryStack;Ljava/util/ArrayList;)V" } : Jvm.MethodName) prog_6_method_3_code (5 : Nat) (Option.none : Option Jvm.ClassFile.FieldType)) ∈ ev_gw := ev_m4 (List.mem_of_getElem? (i := 76) rfl) rfl
theorem wd_797 : (Jvm.Cond.methodLinkNest "PostingShelf$Ranking" (27 : Nat) ({ cls := "PostingShelf", name := "totalLength", desc := "(Ljava/util/ArrayList;)I" } : Jvm.MethodName) "PostingShelf") ∈ ev_gw := ev_m4 (List.mem_of_getElem? (i := 77) rfl) rfl
theorem wd_798 : (Jvm.Cond.static ({ cls := "PostingShelf", name := "totalLength", desc := "(Ljava/util/ArrayList;)I" } : Jvm.MethodName)) ∈ ev_gw := ev_m4 (List.mem_of_getElem? (i := 78) rfl) rfl
theorem wd_799 : (Jvm.Cond.code ({ cls := "PostingShelf", name := "totalLength", desc := "(Ljava/util/ArrayList;)I" } : Jvm.MethodName) prog_1_method_21_code (3 : Nat) (Option.some Jvm.ClassFile.FieldType.int)) ∈ ev_gw := ev_m4 (List.mem_of_getElem? (i := 79) rfl) rfl
theorem wd_8 : (Jvm.Cond.initialized "PostingShelf$Machine") ∈ ev_gw := ev_m1 (List.mem_of_getElem? (i := 8) rfl) rfl
theorem wd_800 : (Jvm.Cond.methodLink "PostingShelf" (227 : Nat) ({ cls := "PostingShelf$Document", name := "length", desc := "()I" } : Jvm.MethodName)) ∈ ev_gw := ev_m4 (List.mem_of_getElem? (i := 80) rfl) rfl
theorem wd_801 : (Jvm.Cond.instanceMethod ({ cls := "PostingShelf$Document", name := "length", desc := "()I" } : Jvm.MethodName)) ∈ ev_gw := ev_m4 (List.mem_of_getElem? (i := 81) rfl) rfl
theorem wd_802 : (Jvm.Cond.selects "PostingShelf$Document" ({ cls := "PostingShelf$Document", name := "length", desc := "()I" } : Jvm.MethodName) ({ cls := "PostingShelf$Document", name := "length", desc := "()I" } : Jvm.MethodName)) ∈ ev_gw := ev_m4 (List.mem_of_getElem? (i := 82) rfl) rfl
theorem wd_803 : (Jvm.Cond.code ({ cls := "PostingShelf$Document", name := "length", desc := "()I" } : Jvm.MethodName) prog_2_method_2_code (3 : Nat) (Option.some Jvm.ClassFile.FieldType.int)) ∈ ev_gw := ev_m4 (List.mem_of_getElem? (i := 83) rfl) rfl
theorem wd_804 : (Jvm.Cond.methodLink "PostingShelf$Ranking" (36 : Nat) ({ cls := "java/lang/Math", name := "min", desc := "(II)I" } : Jvm.MethodName)) ∈ ev_gw := ev_m4 (List.mem_of_getElem? (i := 84) rfl) rfl
theorem wd_805 : (Jvm.Cond.methodLink "PostingShelf$Ranking" (42 : Nat) ({ cls := "PostingShelf$QueryStack", name := "termAt", desc := "(I)J" } : Jvm.MethodName)) ∈ ev_gw := ev_m4 (List.mem_of_getElem? (i := 85) rfl) rfl
theorem wd_806 : (Jvm.Cond.instanceMethod ({ cls := "PostingShelf$QueryStack", name := "termAt", desc := "(I)J" } : Jvm.MethodName)) ∈ ev_gw := ev_m4 (List.mem_of_getElem? (i := 86) rfl) rfl
theorem wd_807 : (Jvm.Cond.selects "PostingShelf$QueryStack" ({ cls := "PostingShelf$QueryStack", name := "termAt", desc := "(I)J" } : Jvm.MethodName) ({ cls := "PostingShelf$QueryStack", name := "termAt", desc := "(I)J" } : Jvm.MethodName)) ∈ ev_gw := ev_m4 (List.mem_of_getElem? (i := 87) rfl) rfl
theorem wd_808 : (Jvm.Cond.code ({ cls := "PostingShelf$QueryStack", name := "termAt", desc := "(I)J" } : Jvm.MethodName) prog_5_method_5_code (2 : Nat) (Option.some Jvm.ClassFile.FieldType.long)) ∈ ev_gw := ev_m4 (List.mem_of_getElem? (i := 88) rfl) rfl
theorem wd_809 : (Jvm.Cond.methodLink "PostingShelf$Ranking" (46 : Nat) ({ cls := "PostingShelf$Ranking", name := "weighTerm", desc := "(IJLjava/util/ArrayList;I)V" } : Jvm.MethodName)) ∈ ev_gw := ev_m4 (List.mem_of_getElem? (i := 89) rfl) rfl
theorem wd_811 : (Jvm.Cond.instanceMethod ({ cls := "PostingShelf$Ranking", name := "weighTerm", desc := "(IJLjava/util/ArrayList;I)V" } : Jvm.MethodName)) ∈ ev_gw := ev_m4 (List.mem_of_getElem? (i := 91) rfl) rfl
theorem wd_812 : (Jvm.Cond.code ({ cls := "PostingShelf$Ranking", name := "weighTerm", desc := "(IJLjava/util/ArrayList;I)V" } : Jvm.MethodName) prog_6_method_4_code (11 : Nat) (Option.none : Option Jvm.ClassFile.FieldType)) ∈ ev_gw := ev_m4 (List.mem_of_getElem? (i := 92) rfl) rfl
theorem wd_813 : (Jvm.Cond.methodLink "PostingShelf$Ranking" (50 : Nat) ({ cls := "java/util/ArrayList", name := "size", desc := "()I" } : Jvm.MethodName)) ∈ ev_gw := ev_m4 (List.mem_of_getElem? (i := 93) rfl) rfl
theorem wd_814 : (Jvm.Cond.methodLink "PostingShelf$Ranking" (56 : Nat) ({ cls := "PostingShelf$Ranking", name := "holders", desc := "(JLjava/util/ArrayList;)I" } : Jvm.MethodName)) ∈ ev_gw := ev_m4 (List.mem_of_getElem? (i := 94) rfl) rfl
theorem wd_815 : (Jvm.Cond.static ({ cls := "PostingShelf$Ranking", name := "holders", desc := "(JLjava/util/ArrayList;)I" } : Jvm.MethodName)) ∈ ev_gw := ev_m4 (List.mem_of_getElem? (i := 95) rfl) rfl
theorem wd_816 : (Jvm.Cond.code ({ cls := "PostingShelf$Ranking", name := "holders", desc := "(JLjava/util/ArrayList;)I" } : Jvm.MethodName) prog_6_method_5_code (5 : Nat) (Option.some Jvm.ClassFile.FieldType.int)) ∈ ev_gw := ev_m4 (List.mem_of_getElem? (i := 96) rfl) rfl
theorem wd_817 : (Jvm.Cond.methodLink "PostingShelf$Ranking" (63 : Nat) ({ cls := "java/util/ArrayList", name := "get", desc := "(I)Ljava/lang/Object;" } : Jvm.MethodName)) ∈ ev_gw := ev_m4 (List.mem_of_getElem? (i := 97) rfl) rfl
theorem wd_818 : (Jvm.Cond.classLink "PostingShelf$Ranking" (67 : Nat) "PostingShelf$Document") ∈ ev_gw := ev_m4 (List.mem_of_getElem? (i := 98) rfl) rfl
theorem wd_819 : (Jvm.Cond.methodLink "PostingShelf$Ranking" (69 : Nat) ({ cls := "PostingShelf$Document", name := "timesOf", desc := "(J)I" } : Jvm.MethodName)) ∈ ev_gw := ev_m4 (List.mem_of_getElem? (i := 99) rfl) rfl
theorem wd_820 : (Jvm.Cond.instanceMethod ({ cls := "PostingShelf$Document", name := "timesOf", desc := "(J)I" } : Jvm.MethodName)) ∈ ev_gw := ev_m4 (List.mem_of_getElem? (i := 100) rfl) rfl
theorem wd_821 : (Jvm.Cond.selects "PostingShelf$Document" ({ cls := "PostingShelf$Document", name := "timesOf", desc := "(J)I" } : Jvm.MethodName) ({ cls := "PostingShelf$Document", name := "timesOf", desc := "(J)I" } : Jvm.MethodName)) ∈ ev_gw := ev_m4 (List.mem_of_getElem? (i := 101) rfl) rfl
theorem wd_822 : (Jvm.Cond.code ({ cls := "PostingShelf$Document", name := "timesOf", desc := "(J)I" } : Jvm.MethodName) prog_2_method_3_code (5 : Nat) (Option.some Jvm.ClassFile.FieldType.int)) ∈ ev_gw := ev_m4 (List.mem_of_getElem? (i := 102) rfl) rfl
theorem wd_823 : (Jvm.Cond.methodLink "PostingShelf$Ranking" (60 : Nat) ({ cls := "PostingShelf$Ranking", name := "rarity", desc := "(II)I" } : Jvm.MethodName)) ∈ ev_gw := ev_m4 (List.mem_of_getElem? (i := 103) rfl) rfl
theorem wd_824 : (Jvm.Cond.static ({ cls := "PostingShelf$Ranking", name := "rarity", desc := "(II)I" } : Jvm.MethodName)) ∈ ev_gw := ev_m4 (List.mem_of_getElem? (i := 104) rfl) rfl
theorem wd_825 : (Jvm.Cond.code ({ cls := "PostingShelf$Ranking", name := "rarity", desc := "(II)I" } : Jvm.MethodName) prog_6_method_6_code (4 : Nat) (Option.some Jvm.ClassFile.FieldType.int)) ∈ ev_gw := ev_m4 (List.mem_of_getElem? (i := 105) rfl) rfl
theorem wd_826 : (Jvm.Cond.methodLink "PostingShelf$Ranking" (73 : Nat) ({ cls := "PostingShelf$Document", name := "length", desc := "()I" } : Jvm.MethodName)) ∈ ev_gw := ev_m4 (List.mem_of_getElem? (i := 106) rfl) rfl
theorem wd_827 : (Jvm.Cond.methodLink "PostingShelf$Ranking" (76 : Nat) ({ cls := "java/lang/Math", name := "max", desc := "(II)I" } : Jvm.MethodName)) ∈ ev_gw := ev_m4 (List.mem_of_getElem? (i := 107) rfl) rfl
theorem wd_828 : (Jvm.Cond.methodLink "PostingShelf" (194 : Nat) ({ cls := "PostingShelf$Ranking", name := "chooseBest", desc := "(ILjava/util/ArrayList;LPostingShelf$Results;)V" } : Jvm.MethodName)) ∈ ev_gw := ev_m4 (List.mem_of_getElem? (i := 108) rfl) rfl
theorem wd_829 : (Jvm.Cond.instanceMethod ({ cls := "PostingShelf$Ranking", name := "chooseBest", desc := "(ILjava/util/ArrayList;LPostingShelf$Results;)V" } : Jvm.MethodName)) ∈ ev_gw := ev_m4 (List.mem_of_getElem? (i := 109) rfl) rfl
theorem wd_830 : (Jvm.Cond.selects "PostingShelf$Ranking" ({ cls := "PostingShelf$Ranking", name := "chooseBest", desc := "(ILjava/util/ArrayList;LPostingShelf$Results;)V" } : Jvm.MethodName) ({ cls := "PostingShelf$Ranking", name := "chooseBest", desc := "(ILjava/util/ArrayList;LPostingShelf$Results;)V" } : Jvm.MethodName)) ∈ ev_gw := ev_m4 (List.mem_of_getElem? (i := 110) rfl) rfl
theorem wd_831 : (Jvm.Cond.code ({ cls := "PostingShelf$Ranking", name := "chooseBest", desc := "(ILjava/util/ArrayList;LPostingShelf$Results;)V" } : Jvm.MethodName) prog_6_method_7_code (5 : Nat) (Option.none : Option Jvm.ClassFile.FieldType)) ∈ ev_gw := ev_m4 (List.mem_of_getElem? (i := 111) rfl) rfl
theorem wd_832 : (Jvm.Cond.methodLink "PostingShelf$Ranking" (79 : Nat) ({ cls := "PostingShelf$Ranking", name := "hasTermOfBag", desc := "(I)Z" } : Jvm.MethodName)) ∈ ev_gw := ev_m4 (List.mem_of_getElem? (i := 112) rfl) rfl
theorem wd_834 : (Jvm.Cond.instanceMethod ({ cls := "PostingShelf$Ranking", name := "hasTermOfBag", desc := "(I)Z" } : Jvm.MethodName)) ∈ ev_gw := ev_m4 (List.mem_of_getElem? (i := 114) rfl) rfl
theorem wd_835 : (Jvm.Cond.code ({ cls := "PostingShelf$Ranking", name := "hasTermOfBag", desc := "(I)Z" } : Jvm.MethodName) prog_6_method_8_code (3 : Nat) (Option.some Jvm.ClassFile.FieldType.boolean)) ∈ ev_gw := ev_m4 (List.mem_of_getElem? (i := 115) rfl) rfl
theorem wd_836 : (Jvm.Cond.methodLink "PostingShelf$Ranking" (83 : Nat) ({ cls := "PostingShelf$Ranking", name := "boundOf", desc := "(I)I" } : Jvm.MethodName)) ∈ ev_gw := ev_m4 (List.mem_of_getElem? (i := 116) rfl) rfl
theorem wd_838 : (Jvm.Cond.instanceMethod ({ cls := "PostingShelf$Ranking", name := "boundOf", desc := "(I)I" } : Jvm.MethodName)) ∈ ev_gw := ev_m4 (List.mem_of_getElem? (i := 118) rfl) rfl
theorem wd_839 : (Jvm.Cond.code ({ cls := "PostingShelf$Ranking", name := "boundOf", desc := "(I)I" } : Jvm.MethodName) prog_6_method_10_code (4 : Nat) (Option.some Jvm.ClassFile.FieldType.int)) ∈ ev_gw := ev_m4 (List.mem_of_getElem? (i := 119) rfl) rfl
theorem wd_840 : (Jvm.Cond.methodLink "PostingShelf$Ranking" (87 : Nat) ({ cls := "PostingShelf$Results", name := "leastWeight", desc := "()I" } : Jvm.MethodName)) ∈ ev_gw := ev_m4 (List.mem_of_getElem? (i := 120) rfl) rfl
theorem wd_841 : (Jvm.Cond.instanceMethod ({ cls := "PostingShelf$Results", name := "leastWeight", desc := "()I" } : Jvm.MethodName)) ∈ ev_gw := ev_m4 (List.mem_of_getElem? (i := 121) rfl) rfl
theorem wd_842 : (Jvm.Cond.selects "PostingShelf$Results" ({ cls := "PostingShelf$Results", name := "leastWeight", desc := "()I" } : Jvm.MethodName) ({ cls := "PostingShelf$Results", name := "leastWeight", desc := "()I" } : Jvm.MethodName)) ∈ ev_gw := ev_m4 (List.mem_of_getElem? (i := 122) rfl) rfl
theorem wd_843 : (Jvm.Cond.code ({ cls := "PostingShelf$Results", name := "leastWeight", desc := "()I" } : Jvm.MethodName) prog_7_method_4_code (1 : Nat) (Option.some Jvm.ClassFile.FieldType.int)) ∈ ev_gw := ev_m4 (List.mem_of_getElem? (i := 123) rfl) rfl
theorem wd_844 : (Jvm.Cond.methodLink "PostingShelf$Ranking" (95 : Nat) ({ cls := "PostingShelf$Ranking", name := "weightOf", desc := "(I)I" } : Jvm.MethodName)) ∈ ev_gw := ev_m4 (List.mem_of_getElem? (i := 124) rfl) rfl
theorem wd_846 : (Jvm.Cond.instanceMethod ({ cls := "PostingShelf$Ranking", name := "weightOf", desc := "(I)I" } : Jvm.MethodName)) ∈ ev_gw := ev_m4 (List.mem_of_getElem? (i := 126) rfl) rfl
theorem wd_847 : (Jvm.Cond.code ({ cls := "PostingShelf$Ranking", name := "weightOf", desc := "(I)I" } : Jvm.MethodName) prog_6_method_9_code (4 : Nat) (Option.some Jvm.ClassFile.FieldType.int)) ∈ ev_gw := ev_m4 (List.mem_of_getElem? (i := 127) rfl) rfl
theorem wd_848 : (Jvm.Cond.methodLink "PostingShelf$Ranking" (98 : Nat) ({ cls := "PostingShelf$Results", name := "insert", desc := "(III)V" } : Jvm.MethodName)) ∈ ev_gw := ev_m4 (List.mem_of_getElem? (i := 128) rfl) rfl
theorem wd_849 : (Jvm.Cond.methodLink "PostingShelfLaw" (73 : Nat) ({ cls := "PostingShelf", name := "result", desc := "(I)I" } : Jvm.MethodName)) ∈ ev_gw := ev_m4 (List.mem_of_getElem? (i := 129) rfl) rfl
theorem wd_85 : (Jvm.Cond.arrayClass Jvm.ClassFile.FieldType.long) ∈ ev_gw := ev_m1 (List.mem_of_getElem? (i := 85) rfl) rfl
theorem wd_850 : (Jvm.Cond.instanceMethod ({ cls := "PostingShelf", name := "result", desc := "(I)I" } : Jvm.MethodName)) ∈ ev_gw := ev_m4 (List.mem_of_getElem? (i := 130) rfl) rfl
theorem wd_851 : (Jvm.Cond.selects "PostingShelf" ({ cls := "PostingShelf", name := "result", desc := "(I)I" } : Jvm.MethodName) ({ cls := "PostingShelf", name := "result", desc := "(I)I" } : Jvm.MethodName)) ∈ ev_gw := ev_m4 (List.mem_of_getElem? (i := 131) rfl) rfl
theorem wd_852 : (Jvm.Cond.code ({ cls := "PostingShelf", name := "result", desc := "(I)I" } : Jvm.MethodName) prog_1_method_15_code (2 : Nat) (Option.some Jvm.ClassFile.FieldType.int)) ∈ ev_gw := ev_m4 (List.mem_of_getElem? (i := 132) rfl) rfl
theorem wd_853 : (Jvm.Cond.methodLink "PostingShelf" (198 : Nat) ({ cls := "PostingShelf$Results", name := "has", desc := "(I)Z" } : Jvm.MethodName)) ∈ ev_gw := ev_m4 (List.mem_of_getElem? (i := 133) rfl) rfl
theorem wd_854 : (Jvm.Cond.instanceMethod ({ cls := "PostingShelf$Results", name := "has", desc := "(I)Z" } : Jvm.MethodName)) ∈ ev_gw := ev_m4 (List.mem_of_getElem? (i := 134) rfl) rfl
theorem wd_855 : (Jvm.Cond.selects "PostingShelf$Results" ({ cls := "PostingShelf$Results", name := "has", desc := "(I)Z" } : Jvm.MethodName) ({ cls := "PostingShelf$Results", name := "has", desc := "(I)Z" } : Jvm.MethodName)) ∈ ev_gw := ev_m4 (List.mem_of_getElem? (i := 135) rfl) rfl
theorem wd_856 : (Jvm.Cond.code ({ cls := "PostingShelf$Results", name := "has", desc := "(I)Z" } : Jvm.MethodName) prog_7_method_3_code (2 : Nat) (Option.some Jvm.ClassFile.FieldType.boolean)) ∈ ev_gw := ev_m4 (List.mem_of_getElem? (i := 136) rfl) rfl
theorem wd_857 : (Jvm.Cond.methodLink "PostingShelfLaw" (77 : Nat) ({ cls := "PostingShelf", name := "weight", desc := "(I)I" } : Jvm.MethodName)) ∈ ev_gw := ev_m4 (List.mem_of_getElem? (i := 137) rfl) rfl
theorem wd_858 : (Jvm.Cond.instanceMethod ({ cls := "PostingShelf", name := "weight", desc := "(I)I" } : Jvm.MethodName)) ∈ ev_gw := ev_m4 (List.mem_of_getElem? (i := 138) rfl) rfl
theorem wd_859 : (Jvm.Cond.selects "PostingShelf" ({ cls := "PostingShelf", name := "weight", desc := "(I)I" } : Jvm.MethodName) ({ cls := "PostingShelf", name := "weight", desc := "(I)I" } : Jvm.MethodName)) ∈ ev_gw := ev_m4 (List.mem_of_getElem? (i := 139) rfl) rfl
theorem wd_86 : (Jvm.Cond.fieldLink "PostingShelf$Pending" (10 : Nat) "PostingShelf$Pending" "documents" "Ljava/util/ArrayList;") ∈ ev_gw := ev_m1 (List.mem_of_getElem? (i := 86) rfl) rfl
theorem wd_860 : (Jvm.Cond.code ({ cls := "PostingShelf", name := "weight", desc := "(I)I" } : Jvm.MethodName) prog_1_method_16_code (2 : Nat) (Option.some Jvm.ClassFile.FieldType.int)) ∈ ev_gw := ev_m4 (List.mem_of_getElem? (i := 140) rfl) rfl
theorem wd_861 : (Jvm.Cond.methodLink "PostingShelfLaw" (81 : Nat) ({ cls := "PostingShelf", name := "weighed", desc := "()I" } : Jvm.MethodName)) ∈ ev_gw := ev_m4 (List.mem_of_getElem? (i := 141) rfl) rfl
theorem wd_862 : (Jvm.Cond.instanceMethod ({ cls := "PostingShelf", name := "weighed", desc := "()I" } : Jvm.MethodName)) ∈ ev_gw := ev_m4 (List.mem_of_getElem? (i := 142) rfl) rfl
theorem wd_863 : (Jvm.Cond.selects "PostingShelf" ({ cls := "PostingShelf", name := "weighed", desc := "()I" } : Jvm.MethodName) ({ cls := "PostingShelf", name := "weighed", desc := "()I" } : Jvm.MethodName)) ∈ ev_gw := ev_m4 (List.mem_of_getElem? (i := 143) rfl) rfl
theorem wd_864 : (Jvm.Cond.code ({ cls := "PostingShelf", name := "weighed", desc := "()I" } : Jvm.MethodName) prog_1_method_17_code (1 : Nat) (Option.some Jvm.ClassFile.FieldType.int)) ∈ ev_gw := ev_m4 (List.mem_of_getElem? (i := 144) rfl) rfl
theorem wd_865 : (Jvm.Cond.methodLink "PostingShelfLaw" (85 : Nat) ({ cls := "PostingShelf", name := "size", desc := "(I)I" } : Jvm.MethodName)) ∈ ev_gw := ev_m4 (List.mem_of_getElem? (i := 145) rfl) rfl
theorem wd_866 : (Jvm.Cond.instanceMethod ({ cls := "PostingShelf", name := "size", desc := "(I)I" } : Jvm.MethodName)) ∈ ev_gw := ev_m4 (List.mem_of_getElem? (i := 146) rfl) rfl
theorem wd_867 : (Jvm.Cond.selects "PostingShelf" ({ cls := "PostingShelf", name := "size", desc := "(I)I" } : Jvm.MethodName) ({ cls := "PostingShelf", name := "size", desc := "(I)I" } : Jvm.MethodName)) ∈ ev_gw := ev_m4 (List.mem_of_getElem? (i := 147) rfl) rfl
theorem wd_868 : (Jvm.Cond.code ({ cls := "PostingShelf", name := "size", desc := "(I)I" } : Jvm.MethodName) prog_1_method_18_code (2 : Nat) (Option.some Jvm.ClassFile.FieldType.int)) ∈ ev_gw := ev_m4 (List.mem_of_getElem? (i := 148) rfl) rfl
theorem wd_869 : (Jvm.Cond.methodLink "PostingShelf" (210 : Nat) ({ cls := "PostingShelf$Shelf", name := "documentCount", desc := "()I" } : Jvm.MethodName)) ∈ ev_gw := ev_m4 (List.mem_of_getElem? (i := 149) rfl) rfl
theorem wd_87 : (Jvm.Cond.fieldLinkNest "PostingShelf$Shelf" (48 : Nat) "PostingShelf$Pending" "documents" "Ljava/util/ArrayList;" "PostingShelf") ∈ ev_gw := ev_m1 (List.mem_of_getElem? (i := 87) rfl) rfl
theorem wd_870 : (Jvm.Cond.instanceMethod ({ cls := "PostingShelf$Shelf", name := "documentCount", desc := "()I" } : Jvm.MethodName)) ∈ ev_gw := ev_m4 (List.mem_of_getElem? (i := 150) rfl) rfl
theorem wd_871 : (Jvm.Cond.selects "PostingShelf$Shelf" ({ cls := "PostingShelf$Shelf", name := "documentCount", desc := "()I" } : Jvm.MethodName) ({ cls := "PostingShelf$Shelf", name := "documentCount", desc := "()I" } : Jvm.MethodName)) ∈ ev_gw := ev_m4 (List.mem_of_getElem? (i := 151) rfl) rfl
theorem wd_872 : (Jvm.Cond.code ({ cls := "PostingShelf$Shelf", name := "documentCount", desc := "()I" } : Jvm.MethodName) prog_9_method_9_code (3 : Nat) (Option.some Jvm.ClassFile.FieldType.int)) ∈ ev_gw := ev_m4 (List.mem_of_getElem? (i := 152) rfl) rfl
theorem wd_873 : (Jvm.Cond.methodLink "PostingShelf" (213 : Nat) ({ cls := "PostingShelf", name := "totalLength", desc := "(Ljava/util/ArrayList;)I" } : Jvm.MethodName)) ∈ ev_gw := ev_m4 (List.mem_of_getElem? (i := 153) rfl) rfl
theorem wd_874 : (Jvm.Cond.methodLink "PostingShelf" (220 : Nat) ({ cls := "PostingShelf$Shelf", name := "entryCount", desc := "()I" } : Jvm.MethodName)) ∈ ev_gw := ev_m4 (List.mem_of_getElem? (i := 154) rfl) rfl
theorem wd_875 : (Jvm.Cond.instanceMethod ({ cls := "PostingShelf$Shelf", name := "entryCount", desc := "()I" } : Jvm.MethodName)) ∈ ev_gw := ev_m4 (List.mem_of_getElem? (i := 155) rfl) rfl
theorem wd_876 : (Jvm.Cond.selects "PostingShelf$Shelf" ({ cls := "PostingShelf$Shelf", name := "entryCount", desc := "()I" } : Jvm.MethodName) ({ cls := "PostingShelf$Shelf", name := "entryCount", desc := "()I" } : Jvm.MethodName)) ∈ ev_gw := ev_m4 (List.mem_of_getElem? (i := 156) rfl) rfl
theorem wd_877 : (Jvm.Cond.code ({ cls := "PostingShelf$Shelf", name := "entryCount", desc := "()I" } : Jvm.MethodName) prog_9_method_10_code (3 : Nat) (Option.some Jvm.ClassFile.FieldType.int)) ∈ ev_gw := ev_m4 (List.mem_of_getElem? (i := 157) rfl) rfl
theorem wd_878 : (Jvm.Cond.methodLink "PostingShelf$Shelf" (87 : Nat) ({ cls := "PostingShelf$Segment", name := "entryCount", desc := "()I" } : Jvm.MethodName)) ∈ ev_gw := ev_m4 (List.mem_of_getElem? (i := 158) rfl) rfl
theorem wd_879 : (Jvm.Cond.instanceMethod ({ cls := "PostingShelf$Segment", name := "entryCount", desc := "()I" } : Jvm.MethodName)) ∈ ev_gw := ev_m4 (List.mem_of_getElem? (i := 159) rfl) rfl
theorem wd_88 : (Jvm.Cond.fieldLinkNest "PostingShelf" (108 : Nat) "PostingShelf$Pending" "documents" "Ljava/util/ArrayList;" "PostingShelf") ∈ ev_gw := ev_m1 (List.mem_of_getElem? (i := 88) rfl) rfl
theorem wd_880 : (Jvm.Cond.selects "PostingShelf$Segment" ({ cls := "PostingShelf$Segment", name := "entryCount", desc := "()I" } : Jvm.MethodName) ({ cls := "PostingShelf$Segment", name := "entryCount", desc := "()I" } : Jvm.MethodName)) ∈ ev_gw := ev_m4 (List.mem_of_getElem? (i := 160) rfl) rfl
theorem wd_881 : (Jvm.Cond.code ({ cls := "PostingShelf$Segment", name := "entryCount", desc := "()I" } : Jvm.MethodName) prog_8_method_4_code (3 : Nat) (Option.some Jvm.ClassFile.FieldType.int)) ∈ ev_gw := ev_m4 (List.mem_of_getElem? (i := 161) rfl) rfl
theorem wd_882 : (Jvm.Cond.methodLink "PostingShelf$Segment" (47 : Nat) ({ cls := "PostingShelf$Document", name := "differentTerms", desc := "()I" } : Jvm.MethodName)) ∈ ev_gw := ev_m4 (List.mem_of_getElem? (i := 162) rfl) rfl
theorem wd_883 : (Jvm.Cond.instanceMethod ({ cls := "PostingShelf$Document", name := "differentTerms", desc := "()I" } : Jvm.MethodName)) ∈ ev_gw := ev_m4 (List.mem_of_getElem? (i := 163) rfl) rfl
theorem wd_884 : (Jvm.Cond.selects "PostingShelf$Document" ({ cls := "PostingShelf$Document", name := "differentTerms", desc := "()I" } : Jvm.MethodName) ({ cls := "PostingShelf$Document", name := "differentTerms", desc := "()I" } : Jvm.MethodName)) ∈ ev_gw := ev_m4 (List.mem_of_getElem? (i := 164) rfl) rfl
theorem wd_885 : (Jvm.Cond.code ({ cls := "PostingShelf$Document", name := "differentTerms", desc := "()I" } : Jvm.MethodName) prog_2_method_4_code (3 : Nat) (Option.some Jvm.ClassFile.FieldType.int)) ∈ ev_gw := ev_m4 (List.mem_of_getElem? (i := 165) rfl) rfl
theorem wd_886 : (Jvm.Cond.methodLink "PostingShelf$Document" (19 : Nat) ({ cls := "PostingShelf$Document", name := "isFirst", desc := "(I)Z" } : Jvm.MethodName)) ∈ ev_gw := ev_m4 (List.mem_of_getElem? (i := 166) rfl) rfl
theorem wd_888 : (Jvm.Cond.instanceMethod ({ cls := "PostingShelf$Document", name := "isFirst", desc := "(I)Z" } : Jvm.MethodName)) ∈ ev_gw := ev_m4 (List.mem_of_getElem? (i := 168) rfl) rfl
theorem wd_889 : (Jvm.Cond.code ({ cls := "PostingShelf$Document", name := "isFirst", desc := "(I)Z" } : Jvm.MethodName) prog_2_method_5_code (3 : Nat) (Option.some Jvm.ClassFile.FieldType.boolean)) ∈ ev_gw := ev_m4 (List.mem_of_getElem? (i := 169) rfl) rfl
theorem wd_89 : (Jvm.Cond.fieldLink "PostingShelf$Pending" (16 : Nat) "PostingShelf$Pending" "ids" "I") ∈ ev_gw := ev_m1 (List.mem_of_getElem? (i := 89) rfl) rfl
theorem wd_890 : (Jvm.Cond.classLink "PostingShelfLaw" (10 : Nat) "PostingShelfModel") ∈ ev_gw := ev_m4 (List.mem_of_getElem? (i := 170) rfl) rfl
theorem wd_891 : (Jvm.Cond.instantiable "PostingShelfModel" (29 : Nat)) ∈ ev_gw := ev_m4 (List.mem_of_getElem? (i := 171) rfl) rfl
theorem wd_892 : (Jvm.Cond.methodLink "PostingShelfLaw" (12 : Nat) ({ cls := "PostingShelfModel", name := "<init>", desc := "()V" } : Jvm.MethodName)) ∈ ev_gw := ev_m4 (List.mem_of_getElem? (i := 172) rfl) rfl
theorem wd_893 : (Jvm.Cond.instanceMethod ({ cls := "PostingShelfModel", name := "<init>", desc := "()V" } : Jvm.MethodName)) ∈ ev_gw := ev_m4 (List.mem_of_getElem? (i := 173) rfl) rfl
theorem wd_894 : (Jvm.Cond.code ({ cls := "PostingShelfModel", name := "<init>", desc := "()V" } : Jvm.MethodName) prog_13_method_1_code (1 : Nat) (Option.none : Option Jvm.ClassFile.FieldType)) ∈ ev_gw := ev_m4 (List.mem_of_getElem? (i := 174) rfl) rfl
theorem wd_895 : (Jvm.Cond.methodLink "PostingShelfModel" (1 : Nat) ({ cls := "java/lang/Object", name := "<init>", desc := "()V" } : Jvm.MethodName)) ∈ ev_gw := ev_m4 (List.mem_of_getElem? (i := 175) rfl) rfl
theorem wd_896 : (Jvm.Cond.fieldLink "PostingShelfModel" (7 : Nat) "PostingShelfModel" "draft" "[J") ∈ ev_gw := ev_m4 (List.mem_of_getElem? (i := 176) rfl) rfl
theorem wd_897 : (Jvm.Cond.fieldLink "PostingShelfModel" (135 : Nat) "PostingShelfModel" "drafted" "I") ∈ ev_gw := ev_m4 (List.mem_of_getElem? (i := 177) rfl) rfl
theorem wd_898 : (Jvm.Cond.fieldLink "PostingShelfModel" (13 : Nat) "PostingShelfModel" "pending" "[I") ∈ ev_gw := ev_m4 (List.mem_of_getElem? (i := 178) rfl) rfl
theorem wd_899 : (Jvm.Cond.fieldLink "PostingShelfModel" (17 : Nat) "PostingShelfModel" "pendingSize" "[I") ∈ ev_gw := ev_m4 (List.mem_of_getElem? (i := 179) rfl) rfl
theorem wd_9 : (Jvm.Cond.initialized "PostingShelf$QueryStack") ∈ ev_gw := ev_m1 (List.mem_of_getElem? (i := 9) rfl) rfl
theorem wd_90 : (Jvm.Cond.fieldLinkNest "PostingShelf$Shelf" (39 : Nat) "PostingShelf$Pending" "ids" "I" "PostingShelf") ∈ ev_gw := ev_m1 (List.mem_of_getElem? (i := 90) rfl) rfl
theorem wd_900 : (Jvm.Cond.fieldLink "PostingShelfModel" (20 : Nat) "PostingShelfModel" "pendingTerm" "[J") ∈ ev_gw := ev_m4 (List.mem_of_getElem? (i := 180) rfl) rfl
theorem wd_901 : (Jvm.Cond.fieldLink "PostingShelfModel" (158 : Nat) "PostingShelfModel" "rows" "I") ∈ ev_gw := ev_m4 (List.mem_of_getElem? (i := 181) rfl) rfl
theorem wd_902 : (Jvm.Cond.fieldLink "PostingShelfModel" (23 : Nat) "PostingShelfModel" "rowId" "[I") ∈ ev_gw := ev_m4 (List.mem_of_getElem? (i := 182) rfl) rfl
theorem wd_903 : (Jvm.Cond.fieldLink "PostingShelfModel" (26 : Nat) "PostingShelfModel" "rowSegment" "[I") ∈ ev_gw := ev_m4 (List.mem_of_getElem? (i := 183) rfl) rfl
theorem wd_904 : (Jvm.Cond.fieldLink "PostingShelfModel" (29 : Nat) "PostingShelfModel" "rowDead" "[Z") ∈ ev_gw := ev_m4 (List.mem_of_getElem? (i := 184) rfl) rfl
theorem wd_905 : (Jvm.Cond.fieldLink "PostingShelfModel" (33 : Nat) "PostingShelfModel" "rowSize" "[I") ∈ ev_gw := ev_m4 (List.mem_of_getElem? (i := 185) rfl) rfl
theorem wd_906 : (Jvm.Cond.fieldLink "PostingShelfModel" (36 : Nat) "PostingShelfModel" "rowTerm" "[J") ∈ ev_gw := ev_m4 (List.mem_of_getElem? (i := 186) rfl) rfl
theorem wd_907 : (Jvm.Cond.fieldLink "PostingShelfModel" (161 : Nat) "PostingShelfModel" "segments" "I") ∈ ev_gw := ev_m4 (List.mem_of_getElem? (i := 187) rfl) rfl
theorem wd_908 : (Jvm.Cond.fieldLink "PostingShelfModel" (131 : Nat) "PostingShelfModel" "stopped" "Z") ∈ ev_gw := ev_m4 (List.mem_of_getElem? (i := 188) rfl) rfl
theorem wd_909 : (Jvm.Cond.fieldLink "PostingShelfModel" (152 : Nat) "PostingShelfModel" "fuse" "I") ∈ ev_gw := ev_m4 (List.mem_of_getElem? (i := 189) rfl) rfl
theorem wd_91 : (Jvm.Cond.fieldLinkNest "PostingShelf" (124 : Nat) "PostingShelf$Pending" "ids" "I" "PostingShelf") ∈ ev_gw := ev_m1 (List.mem_of_getElem? (i := 91) rfl) rfl
theorem wd_910 : (Jvm.Cond.fieldLink "PostingShelfModel" (155 : Nat) "PostingShelfModel" "written" "I") ∈ ev_gw := ev_m4 (List.mem_of_getElem? (i := 190) rfl) rfl
theorem wd_911 : (Jvm.Cond.fieldLink "PostingShelfModel" (146 : Nat) "PostingShelfModel" "tokens" "I") ∈ ev_gw := ev_m4 (List.mem_of_getElem? (i := 191) rfl) rfl
theorem wd_912 : (Jvm.Cond.fieldLink "PostingShelfModel" (39 : Nat) "PostingShelfModel" "token" "[I") ∈ ev_gw := ev_m4 (List.mem_of_getElem? (i := 192) rfl) rfl
theorem wd_913 : (Jvm.Cond.fieldLink "PostingShelfModel" (42 : Nat) "PostingShelfModel" "tokenTerm" "[J") ∈ ev_gw := ev_m4 (List.mem_of_getElem? (i := 193) rfl) rfl
theorem wd_914 : (Jvm.Cond.fieldLink "PostingShelfModel" (149 : Nat) "PostingShelfModel" "height" "I") ∈ ev_gw := ev_m4 (List.mem_of_getElem? (i := 194) rfl) rfl
theorem wd_915 : (Jvm.Cond.fieldLink "PostingShelfModel" (45 : Nat) "PostingShelfModel" "isTerm" "[Z") ∈ ev_gw := ev_m4 (List.mem_of_getElem? (i := 195) rfl) rfl
theorem wd_916 : (Jvm.Cond.fieldLink "PostingShelfModel" (48 : Nat) "PostingShelfModel" "deep" "[I") ∈ ev_gw := ev_m4 (List.mem_of_getElem? (i := 196) rfl) rfl
theorem wd_917 : (Jvm.Cond.fieldLink "PostingShelfModel" (51 : Nat) "PostingShelfModel" "truth" "[Z") ∈ ev_gw := ev_m4 (List.mem_of_getElem? (i := 197) rfl) rfl
theorem wd_918 : (Jvm.Cond.fieldLink "PostingShelfModel" (200 : Nat) "PostingShelfModel" "results" "I") ∈ ev_gw := ev_m4 (List.mem_of_getElem? (i := 198) rfl) rfl
theorem wd_919 : (Jvm.Cond.fieldLink "PostingShelfModel" (54 : Nat) "PostingShelfModel" "resultId" "[I") ∈ ev_gw := ev_m4 (List.mem_of_getElem? (i := 199) rfl) rfl
theorem wd_920 : (Jvm.Cond.fieldLink "PostingShelfModel" (57 : Nat) "PostingShelfModel" "resultWeight" "[J") ∈ ev_gw := ev_m4 (List.mem_of_getElem? (i := 200) rfl) rfl
theorem wd_921 : (Jvm.Cond.fieldLink "PostingShelfModel" (239 : Nat) "PostingShelfModel" "weighed" "I") ∈ ev_gw := ev_m4 (List.mem_of_getElem? (i := 201) rfl) rfl
theorem wd_922 : (Jvm.Cond.fieldLink "PostingShelfModel" (60 : Nat) "PostingShelfModel" "rowOf" "[I") ∈ ev_gw := ev_m4 (List.mem_of_getElem? (i := 202) rfl) rfl
theorem wd_923 : (Jvm.Cond.fieldLink "PostingShelfModel" (63 : Nat) "PostingShelfModel" "weights" "[J") ∈ ev_gw := ev_m4 (List.mem_of_getElem? (i := 203) rfl) rfl
theorem wd_924 : (Jvm.Cond.fieldLink "PostingShelfModel" (66 : Nat) "PostingShelfModel" "taken" "[Z") ∈ ev_gw := ev_m4 (List.mem_of_getElem? (i := 204) rfl) rfl
theorem wd_97 : (Jvm.Cond.classLink "PostingShelf" (31 : Nat) "PostingShelf$Shelf") ∈ ev_gw := ev_m1 (List.mem_of_getElem? (i := 97) rfl) rfl
theorem wd_98 : (Jvm.Cond.instantiable "PostingShelf$Shelf" (2 : Nat)) ∈ ev_gw := ev_m1 (List.mem_of_getElem? (i := 98) rfl) rfl
theorem wd_984 : (Jvm.Cond.methodLink "PostingShelfLaw" (19 : Nat) ({ cls := "PostingShelfModel", name := "stem", desc := "(J)J" } : Jvm.MethodName)) ∈ ev_gw := ev_m5 (List.mem_of_getElem? (i := 24) rfl) rfl
theorem wd_985 : (Jvm.Cond.instanceMethod ({ cls := "PostingShelfModel", name := "stem", desc := "(J)J" } : Jvm.MethodName)) ∈ ev_gw := ev_m5 (List.mem_of_getElem? (i := 25) rfl) rfl
theorem wd_986 : (Jvm.Cond.selects "PostingShelfModel" ({ cls := "PostingShelfModel", name := "stem", desc := "(J)J" } : Jvm.MethodName) ({ cls := "PostingShelfModel", name := "stem", desc := "(J)J" } : Jvm.MethodName)) ∈ ev_gw := ev_m5 (List.mem_of_getElem? (i := 26) rfl) rfl
theorem wd_987 : (Jvm.Cond.code ({ cls := "PostingShelfModel", name := "stem", desc := "(J)J" } : Jvm.MethodName) prog_13_method_18_code (3 : Nat) (Option.some Jvm.ClassFile.FieldType.long)) ∈ ev_gw := ev_m5 (List.mem_of_getElem? (i := 27) rfl) rfl
theorem wd_988 : (Jvm.Cond.methodLink "PostingShelfModel" (122 : Nat) ({ cls := "PostingShelfModel", name := "isWord", desc := "(J)Z" } : Jvm.MethodName)) ∈ ev_gw := ev_m5 (List.mem_of_getElem? (i := 28) rfl) rfl
theorem wd_989 : (Jvm.Cond.static ({ cls := "PostingShelfModel", name := "isWord", desc := "(J)Z" } : Jvm.MethodName)) ∈ ev_gw := ev_m5 (List.mem_of_getElem? (i := 29) rfl) rfl
theorem wd_99 : (Jvm.Cond.methodLinkNest "PostingShelf" (33 : Nat) ({ cls := "PostingShelf$Shelf", name := "<init>", desc := "()V" } : Jvm.MethodName) "PostingShelf") ∈ ev_gw := ev_m1 (List.mem_of_getElem? (i := 99) rfl) rfl
theorem wd_990 : (Jvm.Cond.code ({ cls := "PostingShelfModel", name := "isWord", desc := "(J)Z" } : Jvm.MethodName) prog_13_method_4_code (4 : Nat) (Option.some Jvm.ClassFile.FieldType.boolean)) ∈ ev_gw := ev_m5 (List.mem_of_getElem? (i := 30) rfl) rfl
theorem wd_991 : (Jvm.Cond.methodLink "PostingShelfModel" (71 : Nat) ({ cls := "PostingShelfModel", name := "length", desc := "(J)I" } : Jvm.MethodName)) ∈ ev_gw := ev_m5 (List.mem_of_getElem? (i := 31) rfl) rfl
theorem wd_992 : (Jvm.Cond.static ({ cls := "PostingShelfModel", name := "length", desc := "(J)I" } : Jvm.MethodName)) ∈ ev_gw := ev_m5 (List.mem_of_getElem? (i := 32) rfl) rfl
theorem wd_993 : (Jvm.Cond.code ({ cls := "PostingShelfModel", name := "length", desc := "(J)I" } : Jvm.MethodName) prog_13_method_3_code (3 : Nat) (Option.some Jvm.ClassFile.FieldType.int)) ∈ ev_gw := ev_m5 (List.mem_of_getElem? (i := 33) rfl) rfl
theorem wd_994 : (Jvm.Cond.methodLink "PostingShelfModel" (75 : Nat) ({ cls := "PostingShelfModel", name := "letter", desc := "(JI)I" } : Jvm.MethodName)) ∈ ev_gw := ev_m5 (List.mem_of_getElem? (i := 34) rfl) rfl
theorem wd_995 : (Jvm.Cond.static ({ cls := "PostingShelfModel", name := "letter", desc := "(JI)I" } : Jvm.MethodName)) ∈ ev_gw := ev_m5 (List.mem_of_getElem? (i := 35) rfl) rfl
theorem wd_996 : (Jvm.Cond.code ({ cls := "PostingShelfModel", name := "letter", desc := "(JI)I" } : Jvm.MethodName) prog_13_method_2_code (3 : Nat) (Option.some Jvm.ClassFile.FieldType.int)) ∈ ev_gw := ev_m5 (List.mem_of_getElem? (i := 36) rfl) rfl
theorem wd_997 : (Jvm.Cond.constantLong "PostingShelfModel" (69 : Nat) (31 : Int64)) ∈ ev_gw := ev_m5 (List.mem_of_getElem? (i := 37) rfl) rfl
theorem wd_998 : (Jvm.Cond.methodLink "PostingShelfModel" (125 : Nat) ({ cls := "PostingShelfModel", name := "stemOf", desc := "(J)J" } : Jvm.MethodName)) ∈ ev_gw := ev_m5 (List.mem_of_getElem? (i := 38) rfl) rfl
theorem wd_999 : (Jvm.Cond.static ({ cls := "PostingShelfModel", name := "stemOf", desc := "(J)J" } : Jvm.MethodName)) ∈ ev_gw := ev_m5 (List.mem_of_getElem? (i := 39) rfl) rfl
theorem wd_s0 : Cond.selects "PostingShelf$Stemmer" (⟨"PostingShelf$Stemmer", "unpack", "(J)V"⟩ : MethodName) (⟨"PostingShelf$Stemmer", "unpack", "(J)V"⟩ : MethodName) ∈ ev_gw := ev_ms (List.mem_of_getElem? (i := 0) (by decide +kernel)) rfl
theorem wd_s1 : Cond.selects "PostingShelf$Stemmer" (⟨"PostingShelf$Stemmer", "append", "(C)V"⟩ : MethodName) (⟨"PostingShelf$Stemmer", "append", "(C)V"⟩ : MethodName) ∈ ev_gw := ev_ms (List.mem_of_getElem? (i := 1) (by decide +kernel)) rfl
theorem wd_s10 : Cond.selects "PostingShelf$Stemmer" (⟨"PostingShelf$Stemmer", "turnFinalY", "()V"⟩ : MethodName) (⟨"PostingShelf$Stemmer", "turnFinalY", "()V"⟩ : MethodName) ∈ ev_gw := ev_ms (List.mem_of_getElem? (i := 10) (by decide +kernel)) rfl
theorem wd_s11 : Cond.selects "PostingShelf$Stemmer" (⟨"PostingShelf$Stemmer", "packed", "()J"⟩ : MethodName) (⟨"PostingShelf$Stemmer", "packed", "()J"⟩ : MethodName) ∈ ev_gw := ev_ms (List.mem_of_getElem? (i := 11) (by decide +kernel)) rfl
theorem wd_s12 : Cond.selects "PostingShelf$Pending" (⟨"PostingShelf$Pending", "dropDocument", "(I)V"⟩ : MethodName) (⟨"PostingShelf$Pending", "dropDocument", "(I)V"⟩ : MethodName) ∈ ev_gw := ev_ms (List.mem_of_getElem? (i := 12) (by decide +kernel)) rfl
theorem wd_s13 : Cond.selects "java/util/ArrayList" (⟨"java/util/ArrayList", "fastRemove", "([Ljava/lang/Object;I)V"⟩ : MethodName) (⟨"java/util/ArrayList", "fastRemove", "([Ljava/lang/Object;I)V"⟩ : MethodName) ∈ ev_gw := ev_ms (List.mem_of_getElem? (i := 13) (by decide +kernel)) rfl
theorem wd_s14 : Cond.selects "java/util/ArrayList" (⟨"java/util/ArrayList", "add", "(Ljava/lang/Object;[Ljava/lang/Object;I)V"⟩ : MethodName) (⟨"java/util/ArrayList", "add", "(Ljava/lang/Object;[Ljava/lang/Object;I)V"⟩ : MethodName) ∈ ev_gw := ev_ms (List.mem_of_getElem? (i := 14) (by decide +kernel)) rfl
theorem wd_s15 : Cond.selects "java/util/ArrayList" (⟨"java/util/ArrayList", "grow", "()[Ljava/lang/Object;"⟩ : MethodName) (⟨"java/util/ArrayList", "grow", "()[Ljava/lang/Object;"⟩ : MethodName) ∈ ev_gw := ev_ms (List.mem_of_getElem? (i := 15) (by decide +kernel)) rfl
theorem wd_s16 : Cond.selects "java/util/ArrayList" (⟨"java/util/ArrayList", "grow", "(I)[Ljava/lang/Object;"⟩ : MethodName) (⟨"java/util/ArrayList", "grow", "(I)[Ljava/lang/Object;"⟩ : MethodName) ∈ ev_gw := ev_ms (List.mem_of_getElem? (i := 16) (by decide +kernel)) rfl
theorem wd_s17 : Cond.selects "PostingShelf$Machine" (⟨"PostingShelf$Machine", "writeBlock", "()V"⟩ : MethodName) (⟨"PostingShelf$Machine", "writeBlock", "()V"⟩ : MethodName) ∈ ev_gw := ev_ms (List.mem_of_getElem? (i := 17) (by decide +kernel)) rfl
theorem wd_s18 : Cond.selects "PostingShelf$Shelf" (⟨"PostingShelf$Shelf", "markDeleted", "(I)V"⟩ : MethodName) (⟨"PostingShelf$Shelf", "markDeleted", "(I)V"⟩ : MethodName) ∈ ev_gw := ev_ms (List.mem_of_getElem? (i := 18) (by decide +kernel)) rfl
theorem wd_s19 : Cond.selects "PostingShelf$Shelf" (⟨"PostingShelf$Shelf", "appendSegment", "(Ljava/util/ArrayList;)V"⟩ : MethodName) (⟨"PostingShelf$Shelf", "appendSegment", "(Ljava/util/ArrayList;)V"⟩ : MethodName) ∈ ev_gw := ev_ms (List.mem_of_getElem? (i := 19) (by decide +kernel)) rfl
theorem wd_s2 : Cond.selects "PostingShelf$Stemmer" (⟨"PostingShelf$Stemmer", "dropPlural", "()V"⟩ : MethodName) (⟨"PostingShelf$Stemmer", "dropPlural", "()V"⟩ : MethodName) ∈ ev_gw := ev_ms (List.mem_of_getElem? (i := 2) (by decide +kernel)) rfl
theorem wd_s20 : Cond.selects "PostingShelf$Shelf" (⟨"PostingShelf$Shelf", "insertLive", "(LPostingShelf$Document;)V"⟩ : MethodName) (⟨"PostingShelf$Shelf", "insertLive", "(LPostingShelf$Document;)V"⟩ : MethodName) ∈ ev_gw := ev_ms (List.mem_of_getElem? (i := 20) (by decide +kernel)) rfl
theorem wd_s21 : Cond.selects "java/util/ArrayList" (⟨"java/util/ArrayList", "rangeCheckForAdd", "(I)V"⟩ : MethodName) (⟨"java/util/ArrayList", "rangeCheckForAdd", "(I)V"⟩ : MethodName) ∈ ev_gw := ev_ms (List.mem_of_getElem? (i := 21) (by decide +kernel)) rfl
theorem wd_s22 : Cond.selects "PostingShelf" (⟨"PostingShelf", "goDown", "()I"⟩ : MethodName) (⟨"PostingShelf", "goDown", "()I"⟩ : MethodName) ∈ ev_gw := ev_ms (List.mem_of_getElem? (i := 22) (by decide +kernel)) rfl
theorem wd_s23 : Cond.selects "PostingShelf$QueryStack" (⟨"PostingShelf$QueryStack", "push", "(LPostingShelf$Step;II)I"⟩ : MethodName) (⟨"PostingShelf$QueryStack", "push", "(LPostingShelf$Step;II)I"⟩ : MethodName) ∈ ev_gw := ev_ms (List.mem_of_getElem? (i := 23) (by decide +kernel)) rfl
theorem wd_s24 : Cond.selects "PostingShelf$QueryStack" (⟨"PostingShelf$QueryStack", "firstTerm", "(LPostingShelf$Step;)J"⟩ : MethodName) (⟨"PostingShelf$QueryStack", "firstTerm", "(LPostingShelf$Step;)J"⟩ : MethodName) ∈ ev_gw := ev_ms (List.mem_of_getElem? (i := 24) (by decide +kernel)) rfl
theorem wd_s25 : Cond.selects "PostingShelf" (⟨"PostingShelf", "collectMatches", "()V"⟩ : MethodName) (⟨"PostingShelf", "collectMatches", "()V"⟩ : MethodName) ∈ ev_gw := ev_ms (List.mem_of_getElem? (i := 25) (by decide +kernel)) rfl
theorem wd_s26 : Cond.selects "PostingShelf$Document" (⟨"PostingShelf$Document", "hasRowAt", "(I[J)Z"⟩ : MethodName) (⟨"PostingShelf$Document", "hasRowAt", "(I[J)Z"⟩ : MethodName) ∈ ev_gw := ev_ms (List.mem_of_getElem? (i := 26) (by decide +kernel)) rfl
theorem wd_s27 : Cond.selects "PostingShelf$Ranking" (⟨"PostingShelf$Ranking", "weighTerm", "(IJLjava/util/ArrayList;I)V"⟩ : MethodName) (⟨"PostingShelf$Ranking", "weighTerm", "(IJLjava/util/ArrayList;I)V"⟩ : MethodName) ∈ ev_gw := ev_ms (List.mem_of_getElem? (i := 27) (by decide +kernel)) rfl
theorem wd_s28 : Cond.selects "PostingShelf$Ranking" (⟨"PostingShelf$Ranking", "hasTermOfBag", "(I)Z"⟩ : MethodName) (⟨"PostingShelf$Ranking", "hasTermOfBag", "(I)Z"⟩ : MethodName) ∈ ev_gw := ev_ms (List.mem_of_getElem? (i := 28) (by decide +kernel)) rfl
theorem wd_s29 : Cond.selects "PostingShelf$Ranking" (⟨"PostingShelf$Ranking", "boundOf", "(I)I"⟩ : MethodName) (⟨"PostingShelf$Ranking", "boundOf", "(I)I"⟩ : MethodName) ∈ ev_gw := ev_ms (List.mem_of_getElem? (i := 29) (by decide +kernel)) rfl
theorem wd_s3 : Cond.selects "PostingShelf$Stemmer" (⟨"PostingShelf$Stemmer", "endsIn", "(Ljava/lang/String;)Z"⟩ : MethodName) (⟨"PostingShelf$Stemmer", "endsIn", "(Ljava/lang/String;)Z"⟩ : MethodName) ∈ ev_gw := ev_ms (List.mem_of_getElem? (i := 3) (by decide +kernel)) rfl
theorem wd_s30 : Cond.selects "PostingShelf$Ranking" (⟨"PostingShelf$Ranking", "weightOf", "(I)I"⟩ : MethodName) (⟨"PostingShelf$Ranking", "weightOf", "(I)I"⟩ : MethodName) ∈ ev_gw := ev_ms (List.mem_of_getElem? (i := 30) (by decide +kernel)) rfl
theorem wd_s31 : Cond.selects "PostingShelf$Document" (⟨"PostingShelf$Document", "isFirst", "(I)Z"⟩ : MethodName) (⟨"PostingShelf$Document", "isFirst", "(I)Z"⟩ : MethodName) ∈ ev_gw := ev_ms (List.mem_of_getElem? (i := 31) (by decide +kernel)) rfl
theorem wd_s32 : Cond.selects "PostingShelfModel" (⟨"PostingShelfModel", "idle", "()I"⟩ : MethodName) (⟨"PostingShelfModel", "idle", "()I"⟩ : MethodName) ∈ ev_gw := ev_ms (List.mem_of_getElem? (i := 32) (by decide +kernel)) rfl
theorem wd_s33 : Cond.selects "PostingShelfModel" (⟨"PostingShelfModel", "documents", "()I"⟩ : MethodName) (⟨"PostingShelfModel", "documents", "()I"⟩ : MethodName) ∈ ev_gw := ev_ms (List.mem_of_getElem? (i := 33) (by decide +kernel)) rfl
theorem wd_s34 : Cond.selects "PostingShelfModel" (⟨"PostingShelfModel", "write", "(I)I"⟩ : MethodName) (⟨"PostingShelfModel", "write", "(I)I"⟩ : MethodName) ∈ ev_gw := ev_ms (List.mem_of_getElem? (i := 34) (by decide +kernel)) rfl
theorem wd_s35 : Cond.selects "PostingShelfModel" (⟨"PostingShelfModel", "happen", "()V"⟩ : MethodName) (⟨"PostingShelfModel", "happen", "()V"⟩ : MethodName) ∈ ev_gw := ev_ms (List.mem_of_getElem? (i := 35) (by decide +kernel)) rfl
theorem wd_s36 : Cond.selects "PostingShelfModel" (⟨"PostingShelfModel", "stop", "()V"⟩ : MethodName) (⟨"PostingShelfModel", "stop", "()V"⟩ : MethodName) ∈ ev_gw := ev_ms (List.mem_of_getElem? (i := 36) (by decide +kernel)) rfl
theorem wd_s37 : Cond.selects "PostingShelfModel" (⟨"PostingShelfModel", "live", "()I"⟩ : MethodName) (⟨"PostingShelfModel", "live", "()I"⟩ : MethodName) ∈ ev_gw := ev_ms (List.mem_of_getElem? (i := 37) (by decide +kernel)) rfl
theorem wd_s38 : Cond.selects "PostingShelfModel" (⟨"PostingShelfModel", "join2", "(I)V"⟩ : MethodName) (⟨"PostingShelfModel", "join2", "(I)V"⟩ : MethodName) ∈ ev_gw := ev_ms (List.mem_of_getElem? (i := 38) (by decide +kernel)) rfl
theorem wd_s39 : Cond.selects "PostingShelfModel" (⟨"PostingShelfModel", "copyRow", "(II)V"⟩ : MethodName) (⟨"PostingShelfModel", "copyRow", "(II)V"⟩ : MethodName) ∈ ev_gw := ev_ms (List.mem_of_getElem? (i := 39) (by decide +kernel)) rfl
theorem wd_s4 : Cond.selects "PostingShelf$Stemmer" (⟨"PostingShelf$Stemmer", "dropPastOrGerund", "()V"⟩ : MethodName) (⟨"PostingShelf$Stemmer", "dropPastOrGerund", "()V"⟩ : MethodName) ∈ ev_gw := ev_ms (List.mem_of_getElem? (i := 4) (by decide +kernel)) rfl
theorem wd_s40 : Cond.selects "PostingShelfModel" (⟨"PostingShelfModel", "push", "(IJZ)V"⟩ : MethodName) (⟨"PostingShelfModel", "push", "(IJZ)V"⟩ : MethodName) ∈ ev_gw := ev_ms (List.mem_of_getElem? (i := 40) (by decide +kernel)) rfl
theorem wd_s41 : Cond.selects "PostingShelfModel" (⟨"PostingShelfModel", "lookUp", "()V"⟩ : MethodName) (⟨"PostingShelfModel", "lookUp", "()V"⟩ : MethodName) ∈ ev_gw := ev_ms (List.mem_of_getElem? (i := 41) (by decide +kernel)) rfl
theorem wd_s42 : Cond.selects "PostingShelfModel" (⟨"PostingShelfModel", "matches", "(I)Z"⟩ : MethodName) (⟨"PostingShelfModel", "matches", "(I)Z"⟩ : MethodName) ∈ ev_gw := ev_ms (List.mem_of_getElem? (i := 42) (by decide +kernel)) rfl
theorem wd_s43 : Cond.selects "PostingShelfModel" (⟨"PostingShelfModel", "times", "(IJ)I"⟩ : MethodName) (⟨"PostingShelfModel", "times", "(IJ)I"⟩ : MethodName) ∈ ev_gw := ev_ms (List.mem_of_getElem? (i := 43) (by decide +kernel)) rfl
theorem wd_s44 : Cond.selects "PostingShelfModel" (⟨"PostingShelfModel", "phraseIn", "(III)Z"⟩ : MethodName) (⟨"PostingShelfModel", "phraseIn", "(III)Z"⟩ : MethodName) ∈ ev_gw := ev_ms (List.mem_of_getElem? (i := 44) (by decide +kernel)) rfl
theorem wd_s45 : Cond.selects "PostingShelfModel" (⟨"PostingShelfModel", "weighAll", "(I)V"⟩ : MethodName) (⟨"PostingShelfModel", "weighAll", "(I)V"⟩ : MethodName) ∈ ev_gw := ev_ms (List.mem_of_getElem? (i := 45) (by decide +kernel)) rfl
theorem wd_s46 : Cond.selects "PostingShelfModel" (⟨"PostingShelfModel", "sum", "(IZ)J"⟩ : MethodName) (⟨"PostingShelfModel", "sum", "(IZ)J"⟩ : MethodName) ∈ ev_gw := ev_ms (List.mem_of_getElem? (i := 46) (by decide +kernel)) rfl
theorem wd_s47 : Cond.selects "PostingShelfModel" (⟨"PostingShelfModel", "bound", "(J)J"⟩ : MethodName) (⟨"PostingShelfModel", "bound", "(J)J"⟩ : MethodName) ∈ ev_gw := ev_ms (List.mem_of_getElem? (i := 47) (by decide +kernel)) rfl
theorem wd_s48 : Cond.selects "PostingShelfModel" (⟨"PostingShelfModel", "weightOf", "(IJ)J"⟩ : MethodName) (⟨"PostingShelfModel", "weightOf", "(IJ)J"⟩ : MethodName) ∈ ev_gw := ev_ms (List.mem_of_getElem? (i := 48) (by decide +kernel)) rfl
theorem wd_s49 : Cond.selects "PostingShelfModel" (⟨"PostingShelfModel", "lengths", "()I"⟩ : MethodName) (⟨"PostingShelfModel", "lengths", "()I"⟩ : MethodName) ∈ ev_gw := ev_ms (List.mem_of_getElem? (i := 49) (by decide +kernel)) rfl
theorem wd_s5 : Cond.selects "PostingShelf$Stemmer" (⟨"PostingShelf$Stemmer", "measure", "(I)I"⟩ : MethodName) (⟨"PostingShelf$Stemmer", "measure", "(I)I"⟩ : MethodName) ∈ ev_gw := ev_ms (List.mem_of_getElem? (i := 5) (by decide +kernel)) rfl
theorem wd_s50 : Cond.selects "PostingShelfModel" (⟨"PostingShelfModel", "lengthOf", "(I)I"⟩ : MethodName) (⟨"PostingShelfModel", "lengthOf", "(I)I"⟩ : MethodName) ∈ ev_gw := ev_ms (List.mem_of_getElem? (i := 50) (by decide +kernel)) rfl
theorem wd_s51 : Cond.selects "PostingShelfModel" (⟨"PostingShelfModel", "least", "(I)J"⟩ : MethodName) (⟨"PostingShelfModel", "least", "(I)J"⟩ : MethodName) ∈ ev_gw := ev_ms (List.mem_of_getElem? (i := 51) (by decide +kernel)) rfl
theorem wd_s52 : Cond.selects "PostingShelfModel" (⟨"PostingShelfModel", "best", "(I)V"⟩ : MethodName) (⟨"PostingShelfModel", "best", "(I)V"⟩ : MethodName) ∈ ev_gw := ev_ms (List.mem_of_getElem? (i := 52) (by decide +kernel)) rfl
theorem wd_s53 : Cond.selects "PostingShelfModel" (⟨"PostingShelfModel", "different", "(I)I"⟩ : MethodName) (⟨"PostingShelfModel", "different", "(I)I"⟩ : MethodName) ∈ ev_gw := ev_ms (List.mem_of_getElem? (i := 53) (by decide +kernel)) rfl
theorem wd_s6 : Cond.selects "PostingShelf$Stemmer" (⟨"PostingShelf$Stemmer", "hasVowel", "(I)Z"⟩ : MethodName) (⟨"PostingShelf$Stemmer", "hasVowel", "(I)Z"⟩ : MethodName) ∈ ev_gw := ev_ms (List.mem_of_getElem? (i := 6) (by decide +kernel)) rfl
theorem wd_s7 : Cond.selects "PostingShelf$Stemmer" (⟨"PostingShelf$Stemmer", "mendEnd", "()V"⟩ : MethodName) (⟨"PostingShelf$Stemmer", "mendEnd", "()V"⟩ : MethodName) ∈ ev_gw := ev_ms (List.mem_of_getElem? (i := 7) (by decide +kernel)) rfl
theorem wd_s8 : Cond.selects "PostingShelf$Stemmer" (⟨"PostingShelf$Stemmer", "endsInDouble", "()Z"⟩ : MethodName) (⟨"PostingShelf$Stemmer", "endsInDouble", "()Z"⟩ : MethodName) ∈ ev_gw := ev_ms (List.mem_of_getElem? (i := 8) (by decide +kernel)) rfl
theorem wd_s9 : Cond.selects "PostingShelf$Stemmer" (⟨"PostingShelf$Stemmer", "endsShort", "()Z"⟩ : MethodName) (⟨"PostingShelf$Stemmer", "endsShort", "()Z"⟩ : MethodName) ∈ ev_gw := ev_ms (List.mem_of_getElem? (i := 9) (by decide +kernel)) rfl
end
section
theorem d_St_init_0 : decode prog_10_method_1_code 0 = .ok (.aload_n 0, 1) := by decide +kernel
theorem d_St_init_1 : decode prog_10_method_1_code 1 = .ok (.invokespecial 3, 3) := by decide +kernel
theorem d_St_init_4 : decode prog_10_method_1_code 4 = .ok (.aload_n 0, 1) := by decide +kernel
theorem d_St_init_5 : decode prog_10_method_1_code 5 = .ok (.bipush 12, 2) := by decide +kernel
theorem d_St_init_7 : decode prog_10_method_1_code 7 = .ok (.newarray .char, 2) := by decide +kernel
theorem d_St_init_9 : decode prog_10_method_1_code 9 = .ok (.putfield 9, 3) := by decide +kernel
theorem d_St_init_12 : decode prog_10_method_1_code 12 = .ok (.aload_n 0, 1) := by decide +kernel
theorem d_St_init_13 : decode prog_10_method_1_code 13 = .ok (.bipush 12, 2) := by decide +kernel
theorem d_St_init_15 : decode prog_10_method_1_code 15 = .ok (.newarray .boolean, 2) := by decide +kernel
theorem d_St_init_17 : decode prog_10_method_1_code 17 = .ok (.putfield 15, 3) := by decide +kernel
theorem d_St_init_20 : decode prog_10_method_1_code 20 = .ok (.aload_n 0, 1) := by decide +kernel
theorem d_St_init_21 : decode prog_10_method_1_code 21 = .ok (.iconst 0, 1) := by decide +kernel
theorem d_St_init_22 : decode prog_10_method_1_code 22 = .ok (.putfield 19, 3) := by decide +kernel
theorem d_St_init_25 : decode prog_10_method_1_code 25 = .ok (.return_, 1) := by decide +kernel
theorem d_St_isWord_0 : decode prog_10_method_2_code 0 = .ok (.lload_n 0, 1) := by decide +kernel
theorem d_St_isWord_1 : decode prog_10_method_2_code 1 = .ok (.lstore_n 2, 1) := by decide +kernel
theorem d_St_isWord_2 : decode prog_10_method_2_code 2 = .ok (.iconst 0, 1) := by decide +kernel
theorem d_St_isWord_3 : decode prog_10_method_2_code 3 = .ok (.istore 4, 2) := by decide +kernel
theorem d_St_isWord_5 : decode prog_10_method_2_code 5 = .ok (.iload 4, 2) := by decide +kernel
theorem d_St_isWord_7 : decode prog_10_method_2_code 7 = .ok (.bipush 12, 2) := by decide +kernel
theorem d_St_isWord_9 : decode prog_10_method_2_code 9 = .ok (.if_icmp .ge 44, 3) := by decide +kernel
theorem d_St_isWord_12 : decode prog_10_method_2_code 12 = .ok (.lload_n 2, 1) := by decide +kernel
theorem d_St_isWord_13 : decode prog_10_method_2_code 13 = .ok (.lconst 0, 1) := by decide +kernel
theorem d_St_isWord_14 : decode prog_10_method_2_code 14 = .ok (.lcmp, 1) := by decide +kernel
theorem d_St_isWord_15 : decode prog_10_method_2_code 15 = .ok (.ifCond .eq 38, 3) := by decide +kernel
theorem d_St_isWord_18 : decode prog_10_method_2_code 18 = .ok (.lload_n 2, 1) := by decide +kernel
theorem d_St_isWord_19 : decode prog_10_method_2_code 19 = .ok (.ldc2_w 23, 3) := by decide +kernel
theorem d_St_isWord_22 : decode prog_10_method_2_code 22 = .ok (.land, 1) := by decide +kernel
theorem d_St_isWord_23 : decode prog_10_method_2_code 23 = .ok (.lstore 5, 2) := by decide +kernel
theorem d_St_isWord_25 : decode prog_10_method_2_code 25 = .ok (.lload 5, 2) := by decide +kernel
theorem d_St_isWord_27 : decode prog_10_method_2_code 27 = .ok (.lconst 1, 1) := by decide +kernel
theorem d_St_isWord_28 : decode prog_10_method_2_code 28 = .ok (.lcmp, 1) := by decide +kernel
theorem d_St_isWord_29 : decode prog_10_method_2_code 29 = .ok (.ifCond .lt 12, 3) := by decide +kernel
theorem d_St_isWord_32 : decode prog_10_method_2_code 32 = .ok (.lload 5, 2) := by decide +kernel
theorem d_St_isWord_34 : decode prog_10_method_2_code 34 = .ok (.ldc2_w 25, 3) := by decide +kernel
theorem d_St_isWord_37 : decode prog_10_method_2_code 37 = .ok (.lcmp, 1) := by decide +kernel
theorem d_St_isWord_38 : decode prog_10_method_2_code 38 = .ok (.ifCond .le 5, 3) := by decide +kernel
theorem d_St_isWord_41 : decode prog_10_method_2_code 41 = .ok (.iconst 0, 1) := by decide +kernel
theorem d_St_isWord_42 : decode prog_10_method_2_code 42 = .ok (.ireturn, 1) := by decide +kernel
theorem d_St_isWord_43 : decode prog_10_method_2_code 43 = .ok (.lload_n 2, 1) := by decide +kernel
theorem d_St_isWord_44 : decode prog_10_method_2_code 44 = .ok (.iconst 5, 1) := by decide +kernel
theorem d_St_isWord_45 : decode prog_10_method_2_code 45 = .ok (.lushr, 1) := by decide +kernel
theorem d_St_isWord_46 : decode prog_10_method_2_code 46 = .ok (.lstore_n 2, 1) := by decide +kernel
theorem d_St_isWord_47 : decode prog_10_method_2_code 47 = .ok (.iinc 4 1, 3) := by decide +kernel
theorem d_St_isWord_50 : decode prog_10_method_2_code 50 = .ok (.goto (-45), 3) := by decide +kernel
theorem d_St_isWord_53 : decode prog_10_method_2_code 53 = .ok (.lload_n 0, 1) := by decide +kernel
theorem d_St_isWord_54 : decode prog_10_method_2_code 54 = .ok (.lconst 0, 1) := by decide +kernel
theorem d_St_isWord_55 : decode prog_10_method_2_code 55 = .ok (.lcmp, 1) := by decide +kernel
theorem d_St_isWord_56 : decode prog_10_method_2_code 56 = .ok (.ifCond .eq 13, 3) := by decide +kernel
theorem d_St_isWord_59 : decode prog_10_method_2_code 59 = .ok (.lload_n 2, 1) := by decide +kernel
theorem d_St_isWord_60 : decode prog_10_method_2_code 60 = .ok (.lconst 0, 1) := by decide +kernel
theorem d_St_isWord_61 : decode prog_10_method_2_code 61 = .ok (.lcmp, 1) := by decide +kernel
theorem d_St_isWord_62 : decode prog_10_method_2_code 62 = .ok (.ifCond .ne 7, 3) := by decide +kernel
theorem d_St_isWord_65 : decode prog_10_method_2_code 65 = .ok (.iconst 1, 1) := by decide +kernel
theorem d_St_isWord_66 : decode prog_10_method_2_code 66 = .ok (.goto 4, 3) := by decide +kernel
theorem d_St_isWord_69 : decode prog_10_method_2_code 69 = .ok (.iconst 0, 1) := by decide +kernel
theorem d_St_isWord_70 : decode prog_10_method_2_code 70 = .ok (.ireturn, 1) := by decide +kernel
theorem d_St_stemOf_0 : decode prog_10_method_5_code 0 = .ok (.aload_n 0, 1) := by decide +kernel
theorem d_St_stemOf_1 : decode prog_10_method_5_code 1 = .ok (.lload_n 1, 1) := by decide +kernel
theorem d_St_stemOf_2 : decode prog_10_method_5_code 2 = .ok (.invokevirtual 39, 3) := by decide +kernel
theorem d_St_stemOf_5 : decode prog_10_method_5_code 5 = .ok (.aload_n 0, 1) := by decide +kernel
theorem d_St_stemOf_6 : decode prog_10_method_5_code 6 = .ok (.getfield 19, 3) := by decide +kernel
theorem d_St_stemOf_9 : decode prog_10_method_5_code 9 = .ok (.iconst 2, 1) := by decide +kernel
theorem d_St_stemOf_10 : decode prog_10_method_5_code 10 = .ok (.if_icmp .le 15, 3) := by decide +kernel
theorem d_St_stemOf_13 : decode prog_10_method_5_code 13 = .ok (.aload_n 0, 1) := by decide +kernel
theorem d_St_stemOf_14 : decode prog_10_method_5_code 14 = .ok (.invokevirtual 43, 3) := by decide +kernel
theorem d_St_stemOf_17 : decode prog_10_method_5_code 17 = .ok (.aload_n 0, 1) := by decide +kernel
theorem d_St_stemOf_18 : decode prog_10_method_5_code 18 = .ok (.invokevirtual 46, 3) := by decide +kernel
theorem d_St_stemOf_21 : decode prog_10_method_5_code 21 = .ok (.aload_n 0, 1) := by decide +kernel
theorem d_St_stemOf_22 : decode prog_10_method_5_code 22 = .ok (.invokevirtual 49, 3) := by decide +kernel
theorem d_St_stemOf_25 : decode prog_10_method_5_code 25 = .ok (.aload_n 0, 1) := by decide +kernel
theorem d_St_stemOf_26 : decode prog_10_method_5_code 26 = .ok (.invokevirtual 52, 3) := by decide +kernel
theorem d_St_stemOf_29 : decode prog_10_method_5_code 29 = .ok (.lreturn, 1) := by decide +kernel
theorem d_St_unpack_0 : decode prog_10_method_6_code 0 = .ok (.aload_n 0, 1) := by decide +kernel
theorem d_St_unpack_1 : decode prog_10_method_6_code 1 = .ok (.iconst 0, 1) := by decide +kernel
theorem d_St_unpack_2 : decode prog_10_method_6_code 2 = .ok (.putfield 19, 3) := by decide +kernel
theorem d_St_unpack_5 : decode prog_10_method_6_code 5 = .ok (.lload_n 1, 1) := by decide +kernel
theorem d_St_unpack_6 : decode prog_10_method_6_code 6 = .ok (.lstore_n 3, 1) := by decide +kernel
theorem d_St_unpack_7 : decode prog_10_method_6_code 7 = .ok (.iconst 0, 1) := by decide +kernel
theorem d_St_unpack_8 : decode prog_10_method_6_code 8 = .ok (.istore 5, 2) := by decide +kernel
theorem d_St_unpack_10 : decode prog_10_method_6_code 10 = .ok (.iload 5, 2) := by decide +kernel
theorem d_St_unpack_12 : decode prog_10_method_6_code 12 = .ok (.bipush 12, 2) := by decide +kernel
theorem d_St_unpack_14 : decode prog_10_method_6_code 14 = .ok (.if_icmp .ge 34, 3) := by decide +kernel
theorem d_St_unpack_17 : decode prog_10_method_6_code 17 = .ok (.lload_n 3, 1) := by decide +kernel
theorem d_St_unpack_18 : decode prog_10_method_6_code 18 = .ok (.lconst 0, 1) := by decide +kernel
theorem d_St_unpack_19 : decode prog_10_method_6_code 19 = .ok (.lcmp, 1) := by decide +kernel
theorem d_St_unpack_20 : decode prog_10_method_6_code 20 = .ok (.ifCond .eq 28, 3) := by decide +kernel
theorem d_St_unpack_23 : decode prog_10_method_6_code 23 = .ok (.aload_n 0, 1) := by decide +kernel
theorem d_St_unpack_24 : decode prog_10_method_6_code 24 = .ok (.ldc2_w 56, 3) := by decide +kernel
theorem d_St_unpack_27 : decode prog_10_method_6_code 27 = .ok (.lload_n 3, 1) := by decide +kernel
theorem d_St_unpack_28 : decode prog_10_method_6_code 28 = .ok (.ldc2_w 23, 3) := by decide +kernel
theorem d_St_unpack_31 : decode prog_10_method_6_code 31 = .ok (.land, 1) := by decide +kernel
theorem d_St_unpack_32 : decode prog_10_method_6_code 32 = .ok (.ladd, 1) := by decide +kernel
theorem d_St_unpack_33 : decode prog_10_method_6_code 33 = .ok (.l2i, 1) := by decide +kernel
theorem d_St_unpack_34 : decode prog_10_method_6_code 34 = .ok (.i2c, 1) := by decide +kernel
theorem d_St_unpack_35 : decode prog_10_method_6_code 35 = .ok (.invokevirtual 58, 3) := by decide +kernel
theorem d_St_unpack_38 : decode prog_10_method_6_code 38 = .ok (.lload_n 3, 1) := by decide +kernel
theorem d_St_unpack_39 : decode prog_10_method_6_code 39 = .ok (.iconst 5, 1) := by decide +kernel
theorem d_St_unpack_40 : decode prog_10_method_6_code 40 = .ok (.lushr, 1) := by decide +kernel
theorem d_St_unpack_41 : decode prog_10_method_6_code 41 = .ok (.lstore_n 3, 1) := by decide +kernel
theorem d_St_unpack_42 : decode prog_10_method_6_code 42 = .ok (.iinc 5 1, 3) := by decide +kernel
theorem d_St_unpack_45 : decode prog_10_method_6_code 45 = .ok (.goto (-35), 3) := by decide +kernel
theorem d_St_unpack_48 : decode prog_10_method_6_code 48 = .ok (.return_, 1) := by decide +kernel
theorem d_St_append_0 : decode prog_10_method_8_code 0 = .ok (.aload_n 0, 1) := by decide +kernel
theorem d_St_append_1 : decode prog_10_method_8_code 1 = .ok (.getfield 19, 3) := by decide +kernel
theorem d_St_append_4 : decode prog_10_method_8_code 4 = .ok (.bipush 12, 2) := by decide +kernel
theorem d_St_append_6 : decode prog_10_method_8_code 6 = .ok (.if_icmp .lt 4, 3) := by decide +kernel
theorem d_St_append_9 : decode prog_10_method_8_code 9 = .ok (.return_, 1) := by decide +kernel
theorem d_St_append_10 : decode prog_10_method_8_code 10 = .ok (.aload_n 0, 1) := by decide +kernel
theorem d_St_append_11 : decode prog_10_method_8_code 11 = .ok (.getfield 19, 3) := by decide +kernel
theorem d_St_append_14 : decode prog_10_method_8_code 14 = .ok (.ifCond .le 21, 3) := by decide +kernel
theorem d_St_append_17 : decode prog_10_method_8_code 17 = .ok (.aload_n 0, 1) := by decide +kernel
theorem d_St_append_18 : decode prog_10_method_8_code 18 = .ok (.getfield 15, 3) := by decide +kernel
theorem d_St_append_21 : decode prog_10_method_8_code 21 = .ok (.aload_n 0, 1) := by decide +kernel
theorem d_St_append_22 : decode prog_10_method_8_code 22 = .ok (.getfield 19, 3) := by decide +kernel
theorem d_St_append_25 : decode prog_10_method_8_code 25 = .ok (.iconst 1, 1) := by decide +kernel
theorem d_St_append_26 : decode prog_10_method_8_code 26 = .ok (.isub, 1) := by decide +kernel
theorem d_St_append_27 : decode prog_10_method_8_code 27 = .ok (.baload, 1) := by decide +kernel
theorem d_St_append_28 : decode prog_10_method_8_code 28 = .ok (.ifCond .ne 7, 3) := by decide +kernel
theorem d_St_append_31 : decode prog_10_method_8_code 31 = .ok (.iconst 1, 1) := by decide +kernel
theorem d_St_append_32 : decode prog_10_method_8_code 32 = .ok (.goto 4, 3) := by decide +kernel
theorem d_St_append_35 : decode prog_10_method_8_code 35 = .ok (.iconst 0, 1) := by decide +kernel
theorem d_St_append_36 : decode prog_10_method_8_code 36 = .ok (.istore_n 2, 1) := by decide +kernel
theorem d_St_append_37 : decode prog_10_method_8_code 37 = .ok (.aload_n 0, 1) := by decide +kernel
theorem d_St_append_38 : decode prog_10_method_8_code 38 = .ok (.getfield 9, 3) := by decide +kernel
theorem d_St_append_41 : decode prog_10_method_8_code 41 = .ok (.aload_n 0, 1) := by decide +kernel
theorem d_St_append_42 : decode prog_10_method_8_code 42 = .ok (.getfield 19, 3) := by decide +kernel
theorem d_St_append_45 : decode prog_10_method_8_code 45 = .ok (.iload_n 1, 1) := by decide +kernel
theorem d_St_append_46 : decode prog_10_method_8_code 46 = .ok (.castore, 1) := by decide +kernel
theorem d_St_append_47 : decode prog_10_method_8_code 47 = .ok (.aload_n 0, 1) := by decide +kernel
theorem d_St_append_48 : decode prog_10_method_8_code 48 = .ok (.getfield 15, 3) := by decide +kernel
theorem d_St_append_51 : decode prog_10_method_8_code 51 = .ok (.aload_n 0, 1) := by decide +kernel
theorem d_St_append_52 : decode prog_10_method_8_code 52 = .ok (.getfield 19, 3) := by decide +kernel
theorem d_St_append_55 : decode prog_10_method_8_code 55 = .ok (.ldc 62, 2) := by decide +kernel
theorem d_St_append_57 : decode prog_10_method_8_code 57 = .ok (.iload_n 1, 1) := by decide +kernel
theorem d_St_append_58 : decode prog_10_method_8_code 58 = .ok (.invokevirtual 64, 3) := by decide +kernel
theorem d_St_append_61 : decode prog_10_method_8_code 61 = .ok (.ifCond .ge 13, 3) := by decide +kernel
theorem d_St_append_64 : decode prog_10_method_8_code 64 = .ok (.iload_n 1, 1) := by decide +kernel
theorem d_St_append_65 : decode prog_10_method_8_code 65 = .ok (.bipush 121, 2) := by decide +kernel
theorem d_St_append_67 : decode prog_10_method_8_code 67 = .ok (.if_icmp .ne 11, 3) := by decide +kernel
theorem d_St_append_70 : decode prog_10_method_8_code 70 = .ok (.iload_n 2, 1) := by decide +kernel
theorem d_St_append_71 : decode prog_10_method_8_code 71 = .ok (.ifCond .eq 7, 3) := by decide +kernel
theorem d_St_append_74 : decode prog_10_method_8_code 74 = .ok (.iconst 1, 1) := by decide +kernel
theorem d_St_append_75 : decode prog_10_method_8_code 75 = .ok (.goto 4, 3) := by decide +kernel
theorem d_St_append_78 : decode prog_10_method_8_code 78 = .ok (.iconst 0, 1) := by decide +kernel
theorem d_St_append_79 : decode prog_10_method_8_code 79 = .ok (.bastore, 1) := by decide +kernel
theorem d_St_append_80 : decode prog_10_method_8_code 80 = .ok (.aload_n 0, 1) := by decide +kernel
theorem d_St_append_81 : decode prog_10_method_8_code 81 = .ok (.dup, 1) := by decide +kernel
theorem d_St_append_82 : decode prog_10_method_8_code 82 = .ok (.getfield 19, 3) := by decide +kernel
theorem d_St_append_85 : decode prog_10_method_8_code 85 = .ok (.iconst 1, 1) := by decide +kernel
theorem d_St_append_86 : decode prog_10_method_8_code 86 = .ok (.iadd, 1) := by decide +kernel
theorem d_St_append_87 : decode prog_10_method_8_code 87 = .ok (.putfield 19, 3) := by decide +kernel
theorem d_St_append_90 : decode prog_10_method_8_code 90 = .ok (.return_, 1) := by decide +kernel
theorem d_St_dropPlural_0 : decode prog_10_method_9_code 0 = .ok (.aload_n 0, 1) := by decide +kernel
theorem d_St_dropPlural_1 : decode prog_10_method_9_code 1 = .ok (.ldc 70, 2) := by decide +kernel
theorem d_St_dropPlural_3 : decode prog_10_method_9_code 3 = .ok (.invokevirtual 72, 3) := by decide +kernel
theorem d_St_dropPlural_6 : decode prog_10_method_9_code 6 = .ok (.ifCond .ne 12, 3) := by decide +kernel
theorem d_St_dropPlural_9 : decode prog_10_method_9_code 9 = .ok (.aload_n 0, 1) := by decide +kernel
theorem d_St_dropPlural_10 : decode prog_10_method_9_code 10 = .ok (.ldc 76, 2) := by decide +kernel
theorem d_St_dropPlural_12 : decode prog_10_method_9_code 12 = .ok (.invokevirtual 72, 3) := by decide +kernel
theorem d_St_dropPlural_15 : decode prog_10_method_9_code 15 = .ok (.ifCond .eq 16, 3) := by decide +kernel
theorem d_St_dropPlural_18 : decode prog_10_method_9_code 18 = .ok (.aload_n 0, 1) := by decide +kernel
theorem d_St_dropPlural_19 : decode prog_10_method_9_code 19 = .ok (.dup, 1) := by decide +kernel
theorem d_St_dropPlural_20 : decode prog_10_method_9_code 20 = .ok (.getfield 19, 3) := by decide +kernel
theorem d_St_dropPlural_23 : decode prog_10_method_9_code 23 = .ok (.iconst 2, 1) := by decide +kernel
theorem d_St_dropPlural_24 : decode prog_10_method_9_code 24 = .ok (.isub, 1) := by decide +kernel
theorem d_St_dropPlural_25 : decode prog_10_method_9_code 25 = .ok (.putfield 19, 3) := by decide +kernel
theorem d_St_dropPlural_28 : decode prog_10_method_9_code 28 = .ok (.goto 31, 3) := by decide +kernel
theorem d_St_dropPlural_31 : decode prog_10_method_9_code 31 = .ok (.aload_n 0, 1) := by decide +kernel
theorem d_St_dropPlural_32 : decode prog_10_method_9_code 32 = .ok (.ldc 78, 2) := by decide +kernel
theorem d_St_dropPlural_34 : decode prog_10_method_9_code 34 = .ok (.invokevirtual 72, 3) := by decide +kernel
theorem d_St_dropPlural_37 : decode prog_10_method_9_code 37 = .ok (.ifCond .eq 22, 3) := by decide +kernel
theorem d_St_dropPlural_40 : decode prog_10_method_9_code 40 = .ok (.aload_n 0, 1) := by decide +kernel
theorem d_St_dropPlural_41 : decode prog_10_method_9_code 41 = .ok (.ldc 80, 2) := by decide +kernel
theorem d_St_dropPlural_43 : decode prog_10_method_9_code 43 = .ok (.invokevirtual 72, 3) := by decide +kernel
theorem d_St_dropPlural_46 : decode prog_10_method_9_code 46 = .ok (.ifCond .ne 13, 3) := by decide +kernel
theorem d_St_dropPlural_49 : decode prog_10_method_9_code 49 = .ok (.aload_n 0, 1) := by decide +kernel
theorem d_St_dropPlural_50 : decode prog_10_method_9_code 50 = .ok (.dup, 1) := by decide +kernel
theorem d_St_dropPlural_51 : decode prog_10_method_9_code 51 = .ok (.getfield 19, 3) := by decide +kernel
theorem d_St_dropPlural_54 : decode prog_10_method_9_code 54 = .ok (.iconst 1, 1) := by decide +kernel
theorem d_St_dropPlural_55 : decode prog_10_method_9_code 55 = .ok (.isub, 1) := by decide +kernel
theorem d_St_dropPlural_56 : decode prog_10_method_9_code 56 = .ok (.putfield 19, 3) := by decide +kernel
theorem d_St_dropPlural_59 : decode prog_10_method_9_code 59 = .ok (.return_, 1) := by decide +kernel
theorem d_St_endsIn_0 : decode prog_10_method_13_code 0 = .ok (.aload_n 0, 1) := by decide +kernel
theorem d_St_endsIn_1 : decode prog_10_method_13_code 1 = .ok (.getfield 19, 3) := by decide +kernel
theorem d_St_endsIn_4 : decode prog_10_method_13_code 4 = .ok (.aload_n 1, 1) := by decide +kernel
theorem d_St_endsIn_5 : decode prog_10_method_13_code 5 = .ok (.invokevirtual 113, 3) := by decide +kernel
theorem d_St_endsIn_8 : decode prog_10_method_13_code 8 = .ok (.isub, 1) := by decide +kernel
theorem d_St_endsIn_9 : decode prog_10_method_13_code 9 = .ok (.istore_n 2, 1) := by decide +kernel
theorem d_St_endsIn_10 : decode prog_10_method_13_code 10 = .ok (.iload_n 2, 1) := by decide +kernel
theorem d_St_endsIn_11 : decode prog_10_method_13_code 11 = .ok (.ifCond .ge 5, 3) := by decide +kernel
theorem d_St_endsIn_14 : decode prog_10_method_13_code 14 = .ok (.iconst 0, 1) := by decide +kernel
theorem d_St_endsIn_15 : decode prog_10_method_13_code 15 = .ok (.ireturn, 1) := by decide +kernel
theorem d_St_endsIn_16 : decode prog_10_method_13_code 16 = .ok (.iconst 0, 1) := by decide +kernel
theorem d_St_endsIn_17 : decode prog_10_method_13_code 17 = .ok (.istore_n 3, 1) := by decide +kernel
theorem d_St_endsIn_18 : decode prog_10_method_13_code 18 = .ok (.iload_n 3, 1) := by decide +kernel
theorem d_St_endsIn_19 : decode prog_10_method_13_code 19 = .ok (.aload_n 1, 1) := by decide +kernel
theorem d_St_endsIn_20 : decode prog_10_method_13_code 20 = .ok (.invokevirtual 113, 3) := by decide +kernel
theorem d_St_endsIn_23 : decode prog_10_method_13_code 23 = .ok (.if_icmp .ge 27, 3) := by decide +kernel
theorem d_St_endsIn_26 : decode prog_10_method_13_code 26 = .ok (.aload_n 0, 1) := by decide +kernel
theorem d_St_endsIn_27 : decode prog_10_method_13_code 27 = .ok (.getfield 9, 3) := by decide +kernel
theorem d_St_endsIn_30 : decode prog_10_method_13_code 30 = .ok (.iload_n 2, 1) := by decide +kernel
theorem d_St_endsIn_31 : decode prog_10_method_13_code 31 = .ok (.iload_n 3, 1) := by decide +kernel
theorem d_St_endsIn_32 : decode prog_10_method_13_code 32 = .ok (.iadd, 1) := by decide +kernel
theorem d_St_endsIn_33 : decode prog_10_method_13_code 33 = .ok (.caload, 1) := by decide +kernel
theorem d_St_endsIn_34 : decode prog_10_method_13_code 34 = .ok (.aload_n 1, 1) := by decide +kernel
theorem d_St_endsIn_35 : decode prog_10_method_13_code 35 = .ok (.iload_n 3, 1) := by decide +kernel
theorem d_St_endsIn_36 : decode prog_10_method_13_code 36 = .ok (.invokevirtual 116, 3) := by decide +kernel
theorem d_St_endsIn_39 : decode prog_10_method_13_code 39 = .ok (.if_icmp .eq 5, 3) := by decide +kernel
theorem d_St_endsIn_42 : decode prog_10_method_13_code 42 = .ok (.iconst 0, 1) := by decide +kernel
theorem d_St_endsIn_43 : decode prog_10_method_13_code 43 = .ok (.ireturn, 1) := by decide +kernel
theorem d_St_endsIn_44 : decode prog_10_method_13_code 44 = .ok (.iinc 3 1, 3) := by decide +kernel
theorem d_St_endsIn_47 : decode prog_10_method_13_code 47 = .ok (.goto (-29), 3) := by decide +kernel
theorem d_St_endsIn_50 : decode prog_10_method_13_code 50 = .ok (.iconst 1, 1) := by decide +kernel
theorem d_St_endsIn_51 : decode prog_10_method_13_code 51 = .ok (.ireturn, 1) := by decide +kernel
theorem d_St_dropPastOrGerund_0 : decode prog_10_method_10_code 0 = .ok (.aload_n 0, 1) := by decide +kernel
theorem d_St_dropPastOrGerund_1 : decode prog_10_method_10_code 1 = .ok (.ldc 82, 2) := by decide +kernel
theorem d_St_dropPastOrGerund_3 : decode prog_10_method_10_code 3 = .ok (.invokevirtual 72, 3) := by decide +kernel
theorem d_St_dropPastOrGerund_6 : decode prog_10_method_10_code 6 = .ok (.ifCond .eq 27, 3) := by decide +kernel
theorem d_St_dropPastOrGerund_9 : decode prog_10_method_10_code 9 = .ok (.aload_n 0, 1) := by decide +kernel
theorem d_St_dropPastOrGerund_10 : decode prog_10_method_10_code 10 = .ok (.aload_n 0, 1) := by decide +kernel
theorem d_St_dropPastOrGerund_11 : decode prog_10_method_10_code 11 = .ok (.getfield 19, 3) := by decide +kernel
theorem d_St_dropPastOrGerund_14 : decode prog_10_method_10_code 14 = .ok (.iconst 3, 1) := by decide +kernel
theorem d_St_dropPastOrGerund_15 : decode prog_10_method_10_code 15 = .ok (.isub, 1) := by decide +kernel
theorem d_St_dropPastOrGerund_16 : decode prog_10_method_10_code 16 = .ok (.invokevirtual 84, 3) := by decide +kernel
theorem d_St_dropPastOrGerund_19 : decode prog_10_method_10_code 19 = .ok (.ifCond .le 13, 3) := by decide +kernel
theorem d_St_dropPastOrGerund_22 : decode prog_10_method_10_code 22 = .ok (.aload_n 0, 1) := by decide +kernel
theorem d_St_dropPastOrGerund_23 : decode prog_10_method_10_code 23 = .ok (.dup, 1) := by decide +kernel
theorem d_St_dropPastOrGerund_24 : decode prog_10_method_10_code 24 = .ok (.getfield 19, 3) := by decide +kernel
theorem d_St_dropPastOrGerund_27 : decode prog_10_method_10_code 27 = .ok (.iconst 1, 1) := by decide +kernel
theorem d_St_dropPastOrGerund_28 : decode prog_10_method_10_code 28 = .ok (.isub, 1) := by decide +kernel
theorem d_St_dropPastOrGerund_29 : decode prog_10_method_10_code 29 = .ok (.putfield 19, 3) := by decide +kernel
theorem d_St_dropPastOrGerund_32 : decode prog_10_method_10_code 32 = .ok (.return_, 1) := by decide +kernel
theorem d_St_dropPastOrGerund_33 : decode prog_10_method_10_code 33 = .ok (.aload_n 0, 1) := by decide +kernel
theorem d_St_dropPastOrGerund_34 : decode prog_10_method_10_code 34 = .ok (.ldc 87, 2) := by decide +kernel
theorem d_St_dropPastOrGerund_36 : decode prog_10_method_10_code 36 = .ok (.invokevirtual 72, 3) := by decide +kernel
theorem d_St_dropPastOrGerund_39 : decode prog_10_method_10_code 39 = .ok (.ifCond .eq 7, 3) := by decide +kernel
theorem d_St_dropPastOrGerund_42 : decode prog_10_method_10_code 42 = .ok (.iconst 2, 1) := by decide +kernel
theorem d_St_dropPastOrGerund_43 : decode prog_10_method_10_code 43 = .ok (.goto 17, 3) := by decide +kernel
theorem d_St_dropPastOrGerund_46 : decode prog_10_method_10_code 46 = .ok (.aload_n 0, 1) := by decide +kernel
theorem d_St_dropPastOrGerund_47 : decode prog_10_method_10_code 47 = .ok (.ldc 89, 2) := by decide +kernel
theorem d_St_dropPastOrGerund_49 : decode prog_10_method_10_code 49 = .ok (.invokevirtual 72, 3) := by decide +kernel
theorem d_St_dropPastOrGerund_52 : decode prog_10_method_10_code 52 = .ok (.ifCond .eq 7, 3) := by decide +kernel
theorem d_St_dropPastOrGerund_55 : decode prog_10_method_10_code 55 = .ok (.iconst 3, 1) := by decide +kernel
theorem d_St_dropPastOrGerund_56 : decode prog_10_method_10_code 56 = .ok (.goto 4, 3) := by decide +kernel
theorem d_St_dropPastOrGerund_59 : decode prog_10_method_10_code 59 = .ok (.iconst 0, 1) := by decide +kernel
theorem d_St_dropPastOrGerund_60 : decode prog_10_method_10_code 60 = .ok (.istore_n 1, 1) := by decide +kernel
theorem d_St_dropPastOrGerund_61 : decode prog_10_method_10_code 61 = .ok (.iload_n 1, 1) := by decide +kernel
theorem d_St_dropPastOrGerund_62 : decode prog_10_method_10_code 62 = .ok (.ifCond .le 30, 3) := by decide +kernel
theorem d_St_dropPastOrGerund_65 : decode prog_10_method_10_code 65 = .ok (.aload_n 0, 1) := by decide +kernel
theorem d_St_dropPastOrGerund_66 : decode prog_10_method_10_code 66 = .ok (.aload_n 0, 1) := by decide +kernel
theorem d_St_dropPastOrGerund_67 : decode prog_10_method_10_code 67 = .ok (.getfield 19, 3) := by decide +kernel
theorem d_St_dropPastOrGerund_70 : decode prog_10_method_10_code 70 = .ok (.iload_n 1, 1) := by decide +kernel
theorem d_St_dropPastOrGerund_71 : decode prog_10_method_10_code 71 = .ok (.isub, 1) := by decide +kernel
theorem d_St_dropPastOrGerund_72 : decode prog_10_method_10_code 72 = .ok (.invokevirtual 91, 3) := by decide +kernel
theorem d_St_dropPastOrGerund_75 : decode prog_10_method_10_code 75 = .ok (.ifCond .eq 17, 3) := by decide +kernel
theorem d_St_dropPastOrGerund_78 : decode prog_10_method_10_code 78 = .ok (.aload_n 0, 1) := by decide +kernel
theorem d_St_dropPastOrGerund_79 : decode prog_10_method_10_code 79 = .ok (.dup, 1) := by decide +kernel
theorem d_St_dropPastOrGerund_80 : decode prog_10_method_10_code 80 = .ok (.getfield 19, 3) := by decide +kernel
theorem d_St_dropPastOrGerund_83 : decode prog_10_method_10_code 83 = .ok (.iload_n 1, 1) := by decide +kernel
theorem d_St_dropPastOrGerund_84 : decode prog_10_method_10_code 84 = .ok (.isub, 1) := by decide +kernel
theorem d_St_dropPastOrGerund_85 : decode prog_10_method_10_code 85 = .ok (.putfield 19, 3) := by decide +kernel
theorem d_St_dropPastOrGerund_88 : decode prog_10_method_10_code 88 = .ok (.aload_n 0, 1) := by decide +kernel
theorem d_St_dropPastOrGerund_89 : decode prog_10_method_10_code 89 = .ok (.invokevirtual 95, 3) := by decide +kernel
theorem d_St_dropPastOrGerund_92 : decode prog_10_method_10_code 92 = .ok (.return_, 1) := by decide +kernel
theorem d_St_measure_0 : decode prog_10_method_16_code 0 = .ok (.iconst 0, 1) := by decide +kernel
theorem d_St_measure_1 : decode prog_10_method_16_code 1 = .ok (.istore_n 2, 1) := by decide +kernel
theorem d_St_measure_2 : decode prog_10_method_16_code 2 = .ok (.iconst 0, 1) := by decide +kernel
theorem d_St_measure_3 : decode prog_10_method_16_code 3 = .ok (.istore_n 3, 1) := by decide +kernel
theorem d_St_measure_4 : decode prog_10_method_16_code 4 = .ok (.iload_n 3, 1) := by decide +kernel
theorem d_St_measure_5 : decode prog_10_method_16_code 5 = .ok (.iconst 1, 1) := by decide +kernel
theorem d_St_measure_6 : decode prog_10_method_16_code 6 = .ok (.iadd, 1) := by decide +kernel
theorem d_St_measure_7 : decode prog_10_method_16_code 7 = .ok (.iload_n 1, 1) := by decide +kernel
theorem d_St_measure_8 : decode prog_10_method_16_code 8 = .ok (.if_icmp .ge 32, 3) := by decide +kernel
theorem d_St_measure_11 : decode prog_10_method_16_code 11 = .ok (.aload_n 0, 1) := by decide +kernel
theorem d_St_measure_12 : decode prog_10_method_16_code 12 = .ok (.getfield 15, 3) := by decide +kernel
theorem d_St_measure_15 : decode prog_10_method_16_code 15 = .ok (.iload_n 3, 1) := by decide +kernel
theorem d_St_measure_16 : decode prog_10_method_16_code 16 = .ok (.baload, 1) := by decide +kernel
theorem d_St_measure_17 : decode prog_10_method_16_code 17 = .ok (.ifCond .eq 17, 3) := by decide +kernel
theorem d_St_measure_20 : decode prog_10_method_16_code 20 = .ok (.aload_n 0, 1) := by decide +kernel
theorem d_St_measure_21 : decode prog_10_method_16_code 21 = .ok (.getfield 15, 3) := by decide +kernel
theorem d_St_measure_24 : decode prog_10_method_16_code 24 = .ok (.iload_n 3, 1) := by decide +kernel
theorem d_St_measure_25 : decode prog_10_method_16_code 25 = .ok (.iconst 1, 1) := by decide +kernel
theorem d_St_measure_26 : decode prog_10_method_16_code 26 = .ok (.iadd, 1) := by decide +kernel
theorem d_St_measure_27 : decode prog_10_method_16_code 27 = .ok (.baload, 1) := by decide +kernel
theorem d_St_measure_28 : decode prog_10_method_16_code 28 = .ok (.ifCond .ne 6, 3) := by decide +kernel
theorem d_St_measure_31 : decode prog_10_method_16_code 31 = .ok (.iinc 2 1, 3) := by decide +kernel
theorem d_St_measure_34 : decode prog_10_method_16_code 34 = .ok (.iinc 3 1, 3) := by decide +kernel
theorem d_St_measure_37 : decode prog_10_method_16_code 37 = .ok (.goto (-33), 3) := by decide +kernel
theorem d_St_measure_40 : decode prog_10_method_16_code 40 = .ok (.iload_n 2, 1) := by decide +kernel
theorem d_St_measure_41 : decode prog_10_method_16_code 41 = .ok (.ireturn, 1) := by decide +kernel
theorem d_St_hasVowel_0 : decode prog_10_method_17_code 0 = .ok (.iconst 0, 1) := by decide +kernel
theorem d_St_hasVowel_1 : decode prog_10_method_17_code 1 = .ok (.istore_n 2, 1) := by decide +kernel
theorem d_St_hasVowel_2 : decode prog_10_method_17_code 2 = .ok (.iload_n 2, 1) := by decide +kernel
theorem d_St_hasVowel_3 : decode prog_10_method_17_code 3 = .ok (.iload_n 1, 1) := by decide +kernel
theorem d_St_hasVowel_4 : decode prog_10_method_17_code 4 = .ok (.if_icmp .ge 20, 3) := by decide +kernel
theorem d_St_hasVowel_7 : decode prog_10_method_17_code 7 = .ok (.aload_n 0, 1) := by decide +kernel
theorem d_St_hasVowel_8 : decode prog_10_method_17_code 8 = .ok (.getfield 15, 3) := by decide +kernel
theorem d_St_hasVowel_11 : decode prog_10_method_17_code 11 = .ok (.iload_n 2, 1) := by decide +kernel
theorem d_St_hasVowel_12 : decode prog_10_method_17_code 12 = .ok (.baload, 1) := by decide +kernel
theorem d_St_hasVowel_13 : decode prog_10_method_17_code 13 = .ok (.ifCond .eq 5, 3) := by decide +kernel
theorem d_St_hasVowel_16 : decode prog_10_method_17_code 16 = .ok (.iconst 1, 1) := by decide +kernel
theorem d_St_hasVowel_17 : decode prog_10_method_17_code 17 = .ok (.ireturn, 1) := by decide +kernel
theorem d_St_hasVowel_18 : decode prog_10_method_17_code 18 = .ok (.iinc 2 1, 3) := by decide +kernel
theorem d_St_hasVowel_21 : decode prog_10_method_17_code 21 = .ok (.goto (-19), 3) := by decide +kernel
theorem d_St_hasVowel_24 : decode prog_10_method_17_code 24 = .ok (.iconst 0, 1) := by decide +kernel
theorem d_St_hasVowel_25 : decode prog_10_method_17_code 25 = .ok (.ireturn, 1) := by decide +kernel
theorem d_St_mendEnd_0 : decode prog_10_method_11_code 0 = .ok (.aload_n 0, 1) := by decide +kernel
theorem d_St_mendEnd_1 : decode prog_10_method_11_code 1 = .ok (.ldc 98, 2) := by decide +kernel
theorem d_St_mendEnd_3 : decode prog_10_method_11_code 3 = .ok (.invokevirtual 72, 3) := by decide +kernel
theorem d_St_mendEnd_6 : decode prog_10_method_11_code 6 = .ok (.ifCond .ne 21, 3) := by decide +kernel
theorem d_St_mendEnd_9 : decode prog_10_method_11_code 9 = .ok (.aload_n 0, 1) := by decide +kernel
theorem d_St_mendEnd_10 : decode prog_10_method_11_code 10 = .ok (.ldc 100, 2) := by decide +kernel
theorem d_St_mendEnd_12 : decode prog_10_method_11_code 12 = .ok (.invokevirtual 72, 3) := by decide +kernel
theorem d_St_mendEnd_15 : decode prog_10_method_11_code 15 = .ok (.ifCond .ne 12, 3) := by decide +kernel
theorem d_St_mendEnd_18 : decode prog_10_method_11_code 18 = .ok (.aload_n 0, 1) := by decide +kernel
theorem d_St_mendEnd_19 : decode prog_10_method_11_code 19 = .ok (.ldc 102, 2) := by decide +kernel
theorem d_St_mendEnd_21 : decode prog_10_method_11_code 21 = .ok (.invokevirtual 72, 3) := by decide +kernel
theorem d_St_mendEnd_24 : decode prog_10_method_11_code 24 = .ok (.ifCond .eq 12, 3) := by decide +kernel
theorem d_St_mendEnd_27 : decode prog_10_method_11_code 27 = .ok (.aload_n 0, 1) := by decide +kernel
theorem d_St_mendEnd_28 : decode prog_10_method_11_code 28 = .ok (.bipush 101, 2) := by decide +kernel
theorem d_St_mendEnd_30 : decode prog_10_method_11_code 30 = .ok (.invokevirtual 58, 3) := by decide +kernel
theorem d_St_mendEnd_33 : decode prog_10_method_11_code 33 = .ok (.goto 48, 3) := by decide +kernel
theorem d_St_mendEnd_36 : decode prog_10_method_11_code 36 = .ok (.aload_n 0, 1) := by decide +kernel
theorem d_St_mendEnd_37 : decode prog_10_method_11_code 37 = .ok (.invokevirtual 104, 3) := by decide +kernel
theorem d_St_mendEnd_40 : decode prog_10_method_11_code 40 = .ok (.ifCond .eq 16, 3) := by decide +kernel
theorem d_St_mendEnd_43 : decode prog_10_method_11_code 43 = .ok (.aload_n 0, 1) := by decide +kernel
theorem d_St_mendEnd_44 : decode prog_10_method_11_code 44 = .ok (.dup, 1) := by decide +kernel
theorem d_St_mendEnd_45 : decode prog_10_method_11_code 45 = .ok (.getfield 19, 3) := by decide +kernel
theorem d_St_mendEnd_48 : decode prog_10_method_11_code 48 = .ok (.iconst 1, 1) := by decide +kernel
theorem d_St_mendEnd_49 : decode prog_10_method_11_code 49 = .ok (.isub, 1) := by decide +kernel
theorem d_St_mendEnd_50 : decode prog_10_method_11_code 50 = .ok (.putfield 19, 3) := by decide +kernel
theorem d_St_mendEnd_53 : decode prog_10_method_11_code 53 = .ok (.goto 28, 3) := by decide +kernel
theorem d_St_mendEnd_56 : decode prog_10_method_11_code 56 = .ok (.aload_n 0, 1) := by decide +kernel
theorem d_St_mendEnd_57 : decode prog_10_method_11_code 57 = .ok (.aload_n 0, 1) := by decide +kernel
theorem d_St_mendEnd_58 : decode prog_10_method_11_code 58 = .ok (.getfield 19, 3) := by decide +kernel
theorem d_St_mendEnd_61 : decode prog_10_method_11_code 61 = .ok (.invokevirtual 84, 3) := by decide +kernel
theorem d_St_mendEnd_64 : decode prog_10_method_11_code 64 = .ok (.iconst 1, 1) := by decide +kernel
theorem d_St_mendEnd_65 : decode prog_10_method_11_code 65 = .ok (.if_icmp .ne 16, 3) := by decide +kernel
theorem d_St_mendEnd_68 : decode prog_10_method_11_code 68 = .ok (.aload_n 0, 1) := by decide +kernel
theorem d_St_mendEnd_69 : decode prog_10_method_11_code 69 = .ok (.invokevirtual 108, 3) := by decide +kernel
theorem d_St_mendEnd_72 : decode prog_10_method_11_code 72 = .ok (.ifCond .eq 9, 3) := by decide +kernel
theorem d_St_mendEnd_75 : decode prog_10_method_11_code 75 = .ok (.aload_n 0, 1) := by decide +kernel
theorem d_St_mendEnd_76 : decode prog_10_method_11_code 76 = .ok (.bipush 101, 2) := by decide +kernel
theorem d_St_mendEnd_78 : decode prog_10_method_11_code 78 = .ok (.invokevirtual 58, 3) := by decide +kernel
theorem d_St_mendEnd_81 : decode prog_10_method_11_code 81 = .ok (.return_, 1) := by decide +kernel
theorem d_St_endsInDouble_0 : decode prog_10_method_14_code 0 = .ok (.aload_n 0, 1) := by decide +kernel
theorem d_St_endsInDouble_1 : decode prog_10_method_14_code 1 = .ok (.getfield 19, 3) := by decide +kernel
theorem d_St_endsInDouble_4 : decode prog_10_method_14_code 4 = .ok (.iconst 2, 1) := by decide +kernel
theorem d_St_endsInDouble_5 : decode prog_10_method_14_code 5 = .ok (.if_icmp .lt 31, 3) := by decide +kernel
theorem d_St_endsInDouble_8 : decode prog_10_method_14_code 8 = .ok (.aload_n 0, 1) := by decide +kernel
theorem d_St_endsInDouble_9 : decode prog_10_method_14_code 9 = .ok (.getfield 15, 3) := by decide +kernel
theorem d_St_endsInDouble_12 : decode prog_10_method_14_code 12 = .ok (.aload_n 0, 1) := by decide +kernel
theorem d_St_endsInDouble_13 : decode prog_10_method_14_code 13 = .ok (.getfield 19, 3) := by decide +kernel
theorem d_St_endsInDouble_16 : decode prog_10_method_14_code 16 = .ok (.iconst 1, 1) := by decide +kernel
theorem d_St_endsInDouble_17 : decode prog_10_method_14_code 17 = .ok (.isub, 1) := by decide +kernel
theorem d_St_endsInDouble_18 : decode prog_10_method_14_code 18 = .ok (.baload, 1) := by decide +kernel
theorem d_St_endsInDouble_19 : decode prog_10_method_14_code 19 = .ok (.ifCond .ne 17, 3) := by decide +kernel
theorem d_St_endsInDouble_22 : decode prog_10_method_14_code 22 = .ok (.aload_n 0, 1) := by decide +kernel
theorem d_St_endsInDouble_23 : decode prog_10_method_14_code 23 = .ok (.getfield 15, 3) := by decide +kernel
theorem d_St_endsInDouble_26 : decode prog_10_method_14_code 26 = .ok (.aload_n 0, 1) := by decide +kernel
theorem d_St_endsInDouble_27 : decode prog_10_method_14_code 27 = .ok (.getfield 19, 3) := by decide +kernel
theorem d_St_endsInDouble_30 : decode prog_10_method_14_code 30 = .ok (.iconst 2, 1) := by decide +kernel
theorem d_St_endsInDouble_31 : decode prog_10_method_14_code 31 = .ok (.isub, 1) := by decide +kernel
theorem d_St_endsInDouble_32 : decode prog_10_method_14_code 32 = .ok (.baload, 1) := by decide +kernel
theorem d_St_endsInDouble_33 : decode prog_10_method_14_code 33 = .ok (.ifCond .eq 5, 3) := by decide +kernel
theorem d_St_endsInDouble_36 : decode prog_10_method_14_code 36 = .ok (.iconst 0, 1) := by decide +kernel
theorem d_St_endsInDouble_37 : decode prog_10_method_14_code 37 = .ok (.ireturn, 1) := by decide +kernel
theorem d_St_endsInDouble_38 : decode prog_10_method_14_code 38 = .ok (.aload_n 0, 1) := by decide +kernel
theorem d_St_endsInDouble_39 : decode prog_10_method_14_code 39 = .ok (.getfield 9, 3) := by decide +kernel
theorem d_St_endsInDouble_42 : decode prog_10_method_14_code 42 = .ok (.aload_n 0, 1) := by decide +kernel
theorem d_St_endsInDouble_43 : decode prog_10_method_14_code 43 = .ok (.getfield 19, 3) := by decide +kernel
theorem d_St_endsInDouble_46 : decode prog_10_method_14_code 46 = .ok (.iconst 1, 1) := by decide +kernel
theorem d_St_endsInDouble_47 : decode prog_10_method_14_code 47 = .ok (.isub, 1) := by decide +kernel
theorem d_St_endsInDouble_48 : decode prog_10_method_14_code 48 = .ok (.caload, 1) := by decide +kernel
theorem d_St_endsInDouble_49 : decode prog_10_method_14_code 49 = .ok (.istore_n 1, 1) := by decide +kernel
theorem d_St_endsInDouble_50 : decode prog_10_method_14_code 50 = .ok (.iload_n 1, 1) := by decide +kernel
theorem d_St_endsInDouble_51 : decode prog_10_method_14_code 51 = .ok (.aload_n 0, 1) := by decide +kernel
theorem d_St_endsInDouble_52 : decode prog_10_method_14_code 52 = .ok (.getfield 9, 3) := by decide +kernel
theorem d_St_endsInDouble_55 : decode prog_10_method_14_code 55 = .ok (.aload_n 0, 1) := by decide +kernel
theorem d_St_endsInDouble_56 : decode prog_10_method_14_code 56 = .ok (.getfield 19, 3) := by decide +kernel
theorem d_St_endsInDouble_59 : decode prog_10_method_14_code 59 = .ok (.iconst 2, 1) := by decide +kernel
theorem d_St_endsInDouble_60 : decode prog_10_method_14_code 60 = .ok (.isub, 1) := by decide +kernel
theorem d_St_endsInDouble_61 : decode prog_10_method_14_code 61 = .ok (.caload, 1) := by decide +kernel
theorem d_St_endsInDouble_62 : decode prog_10_method_14_code 62 = .ok (.if_icmp .ne 16, 3) := by decide +kernel
theorem d_St_endsInDouble_65 : decode prog_10_method_14_code 65 = .ok (.ldc 120, 2) := by decide +kernel
theorem d_St_endsInDouble_67 : decode prog_10_method_14_code 67 = .ok (.iload_n 1, 1) := by decide +kernel
theorem d_St_endsInDouble_68 : decode prog_10_method_14_code 68 = .ok (.invokevirtual 64, 3) := by decide +kernel
theorem d_St_endsInDouble_71 : decode prog_10_method_14_code 71 = .ok (.ifCond .ge 7, 3) := by decide +kernel
theorem d_St_endsInDouble_74 : decode prog_10_method_14_code 74 = .ok (.iconst 1, 1) := by decide +kernel
theorem d_St_endsInDouble_75 : decode prog_10_method_14_code 75 = .ok (.goto 4, 3) := by decide +kernel
theorem d_St_endsInDouble_78 : decode prog_10_method_14_code 78 = .ok (.iconst 0, 1) := by decide +kernel
theorem d_St_endsInDouble_79 : decode prog_10_method_14_code 79 = .ok (.ireturn, 1) := by decide +kernel
theorem d_St_endsShort_0 : decode prog_10_method_15_code 0 = .ok (.aload_n 0, 1) := by decide +kernel
theorem d_St_endsShort_1 : decode prog_10_method_15_code 1 = .ok (.getfield 19, 3) := by decide +kernel
theorem d_St_endsShort_4 : decode prog_10_method_15_code 4 = .ok (.iconst 3, 1) := by decide +kernel
theorem d_St_endsShort_5 : decode prog_10_method_15_code 5 = .ok (.if_icmp .lt 68, 3) := by decide +kernel
theorem d_St_endsShort_8 : decode prog_10_method_15_code 8 = .ok (.aload_n 0, 1) := by decide +kernel
theorem d_St_endsShort_9 : decode prog_10_method_15_code 9 = .ok (.getfield 15, 3) := by decide +kernel
theorem d_St_endsShort_12 : decode prog_10_method_15_code 12 = .ok (.aload_n 0, 1) := by decide +kernel
theorem d_St_endsShort_13 : decode prog_10_method_15_code 13 = .ok (.getfield 19, 3) := by decide +kernel
theorem d_St_endsShort_16 : decode prog_10_method_15_code 16 = .ok (.iconst 3, 1) := by decide +kernel
theorem d_St_endsShort_17 : decode prog_10_method_15_code 17 = .ok (.isub, 1) := by decide +kernel
theorem d_St_endsShort_18 : decode prog_10_method_15_code 18 = .ok (.baload, 1) := by decide +kernel
theorem d_St_endsShort_19 : decode prog_10_method_15_code 19 = .ok (.ifCond .ne 54, 3) := by decide +kernel
theorem d_St_endsShort_22 : decode prog_10_method_15_code 22 = .ok (.aload_n 0, 1) := by decide +kernel
theorem d_St_endsShort_23 : decode prog_10_method_15_code 23 = .ok (.getfield 15, 3) := by decide +kernel
theorem d_St_endsShort_26 : decode prog_10_method_15_code 26 = .ok (.aload_n 0, 1) := by decide +kernel
theorem d_St_endsShort_27 : decode prog_10_method_15_code 27 = .ok (.getfield 19, 3) := by decide +kernel
theorem d_St_endsShort_30 : decode prog_10_method_15_code 30 = .ok (.iconst 2, 1) := by decide +kernel
theorem d_St_endsShort_31 : decode prog_10_method_15_code 31 = .ok (.isub, 1) := by decide +kernel
theorem d_St_endsShort_32 : decode prog_10_method_15_code 32 = .ok (.baload, 1) := by decide +kernel
theorem d_St_endsShort_33 : decode prog_10_method_15_code 33 = .ok (.ifCond .eq 40, 3) := by decide +kernel
theorem d_St_endsShort_36 : decode prog_10_method_15_code 36 = .ok (.aload_n 0, 1) := by decide +kernel
theorem d_St_endsShort_37 : decode prog_10_method_15_code 37 = .ok (.getfield 15, 3) := by decide +kernel
theorem d_St_endsShort_40 : decode prog_10_method_15_code 40 = .ok (.aload_n 0, 1) := by decide +kernel
theorem d_St_endsShort_41 : decode prog_10_method_15_code 41 = .ok (.getfield 19, 3) := by decide +kernel
theorem d_St_endsShort_44 : decode prog_10_method_15_code 44 = .ok (.iconst 1, 1) := by decide +kernel
theorem d_St_endsShort_45 : decode prog_10_method_15_code 45 = .ok (.isub, 1) := by decide +kernel
theorem d_St_endsShort_46 : decode prog_10_method_15_code 46 = .ok (.baload, 1) := by decide +kernel
theorem d_St_endsShort_47 : decode prog_10_method_15_code 47 = .ok (.ifCond .ne 26, 3) := by decide +kernel
theorem d_St_endsShort_50 : decode prog_10_method_15_code 50 = .ok (.ldc 122, 2) := by decide +kernel
theorem d_St_endsShort_52 : decode prog_10_method_15_code 52 = .ok (.aload_n 0, 1) := by decide +kernel
theorem d_St_endsShort_53 : decode prog_10_method_15_code 53 = .ok (.getfield 9, 3) := by decide +kernel
theorem d_St_endsShort_56 : decode prog_10_method_15_code 56 = .ok (.aload_n 0, 1) := by decide +kernel
theorem d_St_endsShort_57 : decode prog_10_method_15_code 57 = .ok (.getfield 19, 3) := by decide +kernel
theorem d_St_endsShort_60 : decode prog_10_method_15_code 60 = .ok (.iconst 1, 1) := by decide +kernel
theorem d_St_endsShort_61 : decode prog_10_method_15_code 61 = .ok (.isub, 1) := by decide +kernel
theorem d_St_endsShort_62 : decode prog_10_method_15_code 62 = .ok (.caload, 1) := by decide +kernel
theorem d_St_endsShort_63 : decode prog_10_method_15_code 63 = .ok (.invokevirtual 64, 3) := by decide +kernel
theorem d_St_endsShort_66 : decode prog_10_method_15_code 66 = .ok (.ifCond .ge 7, 3) := by decide +kernel
theorem d_St_endsShort_69 : decode prog_10_method_15_code 69 = .ok (.iconst 1, 1) := by decide +kernel
theorem d_St_endsShort_70 : decode prog_10_method_15_code 70 = .ok (.goto 4, 3) := by decide +kernel
theorem d_St_endsShort_73 : decode prog_10_method_15_code 73 = .ok (.iconst 0, 1) := by decide +kernel
theorem d_St_endsShort_74 : decode prog_10_method_15_code 74 = .ok (.ireturn, 1) := by decide +kernel
theorem d_St_turnFinalY_0 : decode prog_10_method_12_code 0 = .ok (.aload_n 0, 1) := by decide +kernel
theorem d_St_turnFinalY_1 : decode prog_10_method_12_code 1 = .ok (.ldc 111, 2) := by decide +kernel
theorem d_St_turnFinalY_3 : decode prog_10_method_12_code 3 = .ok (.invokevirtual 72, 3) := by decide +kernel
theorem d_St_turnFinalY_6 : decode prog_10_method_12_code 6 = .ok (.ifCond .eq 32, 3) := by decide +kernel
theorem d_St_turnFinalY_9 : decode prog_10_method_12_code 9 = .ok (.aload_n 0, 1) := by decide +kernel
theorem d_St_turnFinalY_10 : decode prog_10_method_12_code 10 = .ok (.aload_n 0, 1) := by decide +kernel
theorem d_St_turnFinalY_11 : decode prog_10_method_12_code 11 = .ok (.getfield 19, 3) := by decide +kernel
theorem d_St_turnFinalY_14 : decode prog_10_method_12_code 14 = .ok (.iconst 1, 1) := by decide +kernel
theorem d_St_turnFinalY_15 : decode prog_10_method_12_code 15 = .ok (.isub, 1) := by decide +kernel
theorem d_St_turnFinalY_16 : decode prog_10_method_12_code 16 = .ok (.invokevirtual 91, 3) := by decide +kernel
theorem d_St_turnFinalY_19 : decode prog_10_method_12_code 19 = .ok (.ifCond .eq 19, 3) := by decide +kernel
theorem d_St_turnFinalY_22 : decode prog_10_method_12_code 22 = .ok (.aload_n 0, 1) := by decide +kernel
theorem d_St_turnFinalY_23 : decode prog_10_method_12_code 23 = .ok (.dup, 1) := by decide +kernel
theorem d_St_turnFinalY_24 : decode prog_10_method_12_code 24 = .ok (.getfield 19, 3) := by decide +kernel
theorem d_St_turnFinalY_27 : decode prog_10_method_12_code 27 = .ok (.iconst 1, 1) := by decide +kernel
theorem d_St_turnFinalY_28 : decode prog_10_method_12_code 28 = .ok (.isub, 1) := by decide +kernel
theorem d_St_turnFinalY_29 : decode prog_10_method_12_code 29 = .ok (.putfield 19, 3) := by decide +kernel
theorem d_St_turnFinalY_32 : decode prog_10_method_12_code 32 = .ok (.aload_n 0, 1) := by decide +kernel
theorem d_St_turnFinalY_33 : decode prog_10_method_12_code 33 = .ok (.bipush 105, 2) := by decide +kernel
theorem d_St_turnFinalY_35 : decode prog_10_method_12_code 35 = .ok (.invokevirtual 58, 3) := by decide +kernel
theorem d_St_turnFinalY_38 : decode prog_10_method_12_code 38 = .ok (.return_, 1) := by decide +kernel
theorem d_St_packed_0 : decode prog_10_method_7_code 0 = .ok (.lconst 0, 1) := by decide +kernel
theorem d_St_packed_1 : decode prog_10_method_7_code 1 = .ok (.lstore_n 1, 1) := by decide +kernel
theorem d_St_packed_2 : decode prog_10_method_7_code 2 = .ok (.aload_n 0, 1) := by decide +kernel
theorem d_St_packed_3 : decode prog_10_method_7_code 3 = .ok (.getfield 19, 3) := by decide +kernel
theorem d_St_packed_6 : decode prog_10_method_7_code 6 = .ok (.iconst 1, 1) := by decide +kernel
theorem d_St_packed_7 : decode prog_10_method_7_code 7 = .ok (.isub, 1) := by decide +kernel
theorem d_St_packed_8 : decode prog_10_method_7_code 8 = .ok (.istore_n 3, 1) := by decide +kernel
theorem d_St_packed_9 : decode prog_10_method_7_code 9 = .ok (.iload_n 3, 1) := by decide +kernel
theorem d_St_packed_10 : decode prog_10_method_7_code 10 = .ok (.ifCond .lt 26, 3) := by decide +kernel
theorem d_St_packed_13 : decode prog_10_method_7_code 13 = .ok (.lload_n 1, 1) := by decide +kernel
theorem d_St_packed_14 : decode prog_10_method_7_code 14 = .ok (.iconst 5, 1) := by decide +kernel
theorem d_St_packed_15 : decode prog_10_method_7_code 15 = .ok (.lshl, 1) := by decide +kernel
theorem d_St_packed_16 : decode prog_10_method_7_code 16 = .ok (.aload_n 0, 1) := by decide +kernel
theorem d_St_packed_17 : decode prog_10_method_7_code 17 = .ok (.getfield 9, 3) := by decide +kernel
theorem d_St_packed_20 : decode prog_10_method_7_code 20 = .ok (.iload_n 3, 1) := by decide +kernel
theorem d_St_packed_21 : decode prog_10_method_7_code 21 = .ok (.caload, 1) := by decide +kernel
theorem d_St_packed_22 : decode prog_10_method_7_code 22 = .ok (.bipush 97, 2) := by decide +kernel
theorem d_St_packed_24 : decode prog_10_method_7_code 24 = .ok (.isub, 1) := by decide +kernel
theorem d_St_packed_25 : decode prog_10_method_7_code 25 = .ok (.iconst 1, 1) := by decide +kernel
theorem d_St_packed_26 : decode prog_10_method_7_code 26 = .ok (.iadd, 1) := by decide +kernel
theorem d_St_packed_27 : decode prog_10_method_7_code 27 = .ok (.i2l, 1) := by decide +kernel
theorem d_St_packed_28 : decode prog_10_method_7_code 28 = .ok (.lor, 1) := by decide +kernel
theorem d_St_packed_29 : decode prog_10_method_7_code 29 = .ok (.lstore_n 1, 1) := by decide +kernel
theorem d_St_packed_30 : decode prog_10_method_7_code 30 = .ok (.iinc 3 (-1), 3) := by decide +kernel
theorem d_St_packed_33 : decode prog_10_method_7_code 33 = .ok (.goto (-24), 3) := by decide +kernel
theorem d_St_packed_36 : decode prog_10_method_7_code 36 = .ok (.lload_n 1, 1) := by decide +kernel
theorem d_St_packed_37 : decode prog_10_method_7_code 37 = .ok (.lreturn, 1) := by decide +kernel
theorem d_St_termOf_0 : decode prog_10_method_4_code 0 = .ok (.lload_n 1, 1) := by decide +kernel
theorem d_St_termOf_1 : decode prog_10_method_4_code 1 = .ok (.invokestatic 31, 3) := by decide +kernel
theorem d_St_termOf_4 : decode prog_10_method_4_code 4 = .ok (.ifCond .eq 7, 3) := by decide +kernel
theorem d_St_termOf_7 : decode prog_10_method_4_code 7 = .ok (.lconst 0, 1) := by decide +kernel
theorem d_St_termOf_8 : decode prog_10_method_4_code 8 = .ok (.goto 8, 3) := by decide +kernel
theorem d_St_termOf_11 : decode prog_10_method_4_code 11 = .ok (.aload_n 0, 1) := by decide +kernel
theorem d_St_termOf_12 : decode prog_10_method_4_code 12 = .ok (.lload_n 1, 1) := by decide +kernel
theorem d_St_termOf_13 : decode prog_10_method_4_code 13 = .ok (.invokevirtual 35, 3) := by decide +kernel
theorem d_St_termOf_16 : decode prog_10_method_4_code 16 = .ok (.lreturn, 1) := by decide +kernel
theorem d_St_isStopWord_0 : decode prog_10_method_3_code 0 = .ok (.iconst 0, 1) := by decide +kernel
theorem d_St_isStopWord_1 : decode prog_10_method_3_code 1 = .ok (.istore_n 2, 1) := by decide +kernel
theorem d_St_isStopWord_2 : decode prog_10_method_3_code 2 = .ok (.iload_n 2, 1) := by decide +kernel
theorem d_St_isStopWord_3 : decode prog_10_method_3_code 3 = .ok (.getstatic 27, 3) := by decide +kernel
theorem d_St_isStopWord_6 : decode prog_10_method_3_code 6 = .ok (.arraylength, 1) := by decide +kernel
theorem d_St_isStopWord_7 : decode prog_10_method_3_code 7 = .ok (.if_icmp .ge 21, 3) := by decide +kernel
theorem d_St_isStopWord_10 : decode prog_10_method_3_code 10 = .ok (.getstatic 27, 3) := by decide +kernel
theorem d_St_isStopWord_13 : decode prog_10_method_3_code 13 = .ok (.iload_n 2, 1) := by decide +kernel
theorem d_St_isStopWord_14 : decode prog_10_method_3_code 14 = .ok (.laload, 1) := by decide +kernel
theorem d_St_isStopWord_15 : decode prog_10_method_3_code 15 = .ok (.lload_n 0, 1) := by decide +kernel
theorem d_St_isStopWord_16 : decode prog_10_method_3_code 16 = .ok (.lcmp, 1) := by decide +kernel
theorem d_St_isStopWord_17 : decode prog_10_method_3_code 17 = .ok (.ifCond .ne 5, 3) := by decide +kernel
theorem d_St_isStopWord_20 : decode prog_10_method_3_code 20 = .ok (.iconst 1, 1) := by decide +kernel
theorem d_St_isStopWord_21 : decode prog_10_method_3_code 21 = .ok (.ireturn, 1) := by decide +kernel
theorem d_St_isStopWord_22 : decode prog_10_method_3_code 22 = .ok (.iinc 2 1, 3) := by decide +kernel
theorem d_St_isStopWord_25 : decode prog_10_method_3_code 25 = .ok (.goto (-23), 3) := by decide +kernel
theorem d_St_isStopWord_28 : decode prog_10_method_3_code 28 = .ok (.iconst 0, 1) := by decide +kernel
theorem d_St_isStopWord_29 : decode prog_10_method_3_code 29 = .ok (.ireturn, 1) := by decide +kernel
end
section
theorem d_Mo_isWord_0 : decode prog_13_method_4_code 0 = .ok (.lload_n 0, 1) := by decide +kernel
theorem d_Mo_isWord_1 : decode prog_13_method_4_code 1 = .ok (.lconst 0, 1) := by decide +kernel
theorem d_Mo_isWord_2 : decode prog_13_method_4_code 2 = .ok (.lcmp, 1) := by decide +kernel
theorem d_Mo_isWord_3 : decode prog_13_method_4_code 3 = .ok (.ifCond .le 12, 3) := by decide +kernel
theorem d_Mo_isWord_6 : decode prog_13_method_4_code 6 = .ok (.lload_n 0, 1) := by decide +kernel
theorem d_Mo_isWord_7 : decode prog_13_method_4_code 7 = .ok (.bipush 60, 2) := by decide +kernel
theorem d_Mo_isWord_9 : decode prog_13_method_4_code 9 = .ok (.lshr, 1) := by decide +kernel
theorem d_Mo_isWord_10 : decode prog_13_method_4_code 10 = .ok (.lconst 0, 1) := by decide +kernel
theorem d_Mo_isWord_11 : decode prog_13_method_4_code 11 = .ok (.lcmp, 1) := by decide +kernel
theorem d_Mo_isWord_12 : decode prog_13_method_4_code 12 = .ok (.ifCond .eq 5, 3) := by decide +kernel
theorem d_Mo_isWord_15 : decode prog_13_method_4_code 15 = .ok (.iconst 0, 1) := by decide +kernel
theorem d_Mo_isWord_16 : decode prog_13_method_4_code 16 = .ok (.ireturn, 1) := by decide +kernel
theorem d_Mo_isWord_17 : decode prog_13_method_4_code 17 = .ok (.iconst 1, 1) := by decide +kernel
theorem d_Mo_isWord_18 : decode prog_13_method_4_code 18 = .ok (.istore_n 2, 1) := by decide +kernel
theorem d_Mo_isWord_19 : decode prog_13_method_4_code 19 = .ok (.iconst 0, 1) := by decide +kernel
theorem d_Mo_isWord_20 : decode prog_13_method_4_code 20 = .ok (.istore_n 3, 1) := by decide +kernel
theorem d_Mo_isWord_21 : decode prog_13_method_4_code 21 = .ok (.iload_n 3, 1) := by decide +kernel
theorem d_Mo_isWord_22 : decode prog_13_method_4_code 22 = .ok (.lload_n 0, 1) := by decide +kernel
theorem d_Mo_isWord_23 : decode prog_13_method_4_code 23 = .ok (.invokestatic 71, 3) := by decide +kernel
theorem d_Mo_isWord_26 : decode prog_13_method_4_code 26 = .ok (.if_icmp .ge 38, 3) := by decide +kernel
theorem d_Mo_isWord_29 : decode prog_13_method_4_code 29 = .ok (.iload_n 2, 1) := by decide +kernel
theorem d_Mo_isWord_30 : decode prog_13_method_4_code 30 = .ok (.ifCond .eq 26, 3) := by decide +kernel
theorem d_Mo_isWord_33 : decode prog_13_method_4_code 33 = .ok (.lload_n 0, 1) := by decide +kernel
theorem d_Mo_isWord_34 : decode prog_13_method_4_code 34 = .ok (.iload_n 3, 1) := by decide +kernel
theorem d_Mo_isWord_35 : decode prog_13_method_4_code 35 = .ok (.invokestatic 75, 3) := by decide +kernel
theorem d_Mo_isWord_38 : decode prog_13_method_4_code 38 = .ok (.iconst 1, 1) := by decide +kernel
theorem d_Mo_isWord_39 : decode prog_13_method_4_code 39 = .ok (.if_icmp .lt 17, 3) := by decide +kernel
theorem d_Mo_isWord_42 : decode prog_13_method_4_code 42 = .ok (.lload_n 0, 1) := by decide +kernel
theorem d_Mo_isWord_43 : decode prog_13_method_4_code 43 = .ok (.iload_n 3, 1) := by decide +kernel
theorem d_Mo_isWord_44 : decode prog_13_method_4_code 44 = .ok (.invokestatic 75, 3) := by decide +kernel
theorem d_Mo_isWord_47 : decode prog_13_method_4_code 47 = .ok (.bipush 26, 2) := by decide +kernel
theorem d_Mo_isWord_49 : decode prog_13_method_4_code 49 = .ok (.if_icmp .gt 7, 3) := by decide +kernel
theorem d_Mo_isWord_52 : decode prog_13_method_4_code 52 = .ok (.iconst 1, 1) := by decide +kernel
theorem d_Mo_isWord_53 : decode prog_13_method_4_code 53 = .ok (.goto 4, 3) := by decide +kernel
theorem d_Mo_isWord_56 : decode prog_13_method_4_code 56 = .ok (.iconst 0, 1) := by decide +kernel
theorem d_Mo_isWord_57 : decode prog_13_method_4_code 57 = .ok (.istore_n 2, 1) := by decide +kernel
theorem d_Mo_isWord_58 : decode prog_13_method_4_code 58 = .ok (.iinc 3 1, 3) := by decide +kernel
theorem d_Mo_isWord_61 : decode prog_13_method_4_code 61 = .ok (.goto (-40), 3) := by decide +kernel
theorem d_Mo_isWord_64 : decode prog_13_method_4_code 64 = .ok (.iload_n 2, 1) := by decide +kernel
theorem d_Mo_isWord_65 : decode prog_13_method_4_code 65 = .ok (.ireturn, 1) := by decide +kernel
theorem d_Mo_length_0 : decode prog_13_method_3_code 0 = .ok (.iconst 0, 1) := by decide +kernel
theorem d_Mo_length_1 : decode prog_13_method_3_code 1 = .ok (.istore_n 2, 1) := by decide +kernel
theorem d_Mo_length_2 : decode prog_13_method_3_code 2 = .ok (.iload_n 2, 1) := by decide +kernel
theorem d_Mo_length_3 : decode prog_13_method_3_code 3 = .ok (.bipush 12, 2) := by decide +kernel
theorem d_Mo_length_5 : decode prog_13_method_3_code 5 = .ok (.if_icmp .ge 19, 3) := by decide +kernel
theorem d_Mo_length_8 : decode prog_13_method_3_code 8 = .ok (.lload_n 0, 1) := by decide +kernel
theorem d_Mo_length_9 : decode prog_13_method_3_code 9 = .ok (.iconst 5, 1) := by decide +kernel
theorem d_Mo_length_10 : decode prog_13_method_3_code 10 = .ok (.iload_n 2, 1) := by decide +kernel
theorem d_Mo_length_11 : decode prog_13_method_3_code 11 = .ok (.imul, 1) := by decide +kernel
theorem d_Mo_length_12 : decode prog_13_method_3_code 12 = .ok (.lshr, 1) := by decide +kernel
theorem d_Mo_length_13 : decode prog_13_method_3_code 13 = .ok (.lconst 0, 1) := by decide +kernel
theorem d_Mo_length_14 : decode prog_13_method_3_code 14 = .ok (.lcmp, 1) := by decide +kernel
theorem d_Mo_length_15 : decode prog_13_method_3_code 15 = .ok (.ifCond .eq 9, 3) := by decide +kernel
theorem d_Mo_length_18 : decode prog_13_method_3_code 18 = .ok (.iinc 2 1, 3) := by decide +kernel
theorem d_Mo_length_21 : decode prog_13_method_3_code 21 = .ok (.goto (-19), 3) := by decide +kernel
theorem d_Mo_length_24 : decode prog_13_method_3_code 24 = .ok (.iload_n 2, 1) := by decide +kernel
theorem d_Mo_length_25 : decode prog_13_method_3_code 25 = .ok (.ireturn, 1) := by decide +kernel
theorem d_Mo_letter_0 : decode prog_13_method_2_code 0 = .ok (.lload_n 0, 1) := by decide +kernel
theorem d_Mo_letter_1 : decode prog_13_method_2_code 1 = .ok (.iconst 5, 1) := by decide +kernel
theorem d_Mo_letter_2 : decode prog_13_method_2_code 2 = .ok (.iload_n 2, 1) := by decide +kernel
theorem d_Mo_letter_3 : decode prog_13_method_2_code 3 = .ok (.imul, 1) := by decide +kernel
theorem d_Mo_letter_4 : decode prog_13_method_2_code 4 = .ok (.lshr, 1) := by decide +kernel
theorem d_Mo_letter_5 : decode prog_13_method_2_code 5 = .ok (.ldc2_w 69, 3) := by decide +kernel
theorem d_Mo_letter_8 : decode prog_13_method_2_code 8 = .ok (.land, 1) := by decide +kernel
theorem d_Mo_letter_9 : decode prog_13_method_2_code 9 = .ok (.l2i, 1) := by decide +kernel
theorem d_Mo_letter_10 : decode prog_13_method_2_code 10 = .ok (.ireturn, 1) := by decide +kernel
theorem d_Mo_stemOf_0 : decode prog_13_method_17_code 0 = .ok (.lload_n 0, 1) := by decide +kernel
theorem d_Mo_stemOf_1 : decode prog_13_method_17_code 1 = .ok (.invokestatic 71, 3) := by decide +kernel
theorem d_Mo_stemOf_4 : decode prog_13_method_17_code 4 = .ok (.iconst 3, 1) := by decide +kernel
theorem d_Mo_stemOf_5 : decode prog_13_method_17_code 5 = .ok (.if_icmp .ge 5, 3) := by decide +kernel
theorem d_Mo_stemOf_8 : decode prog_13_method_17_code 8 = .ok (.lload_n 0, 1) := by decide +kernel
theorem d_Mo_stemOf_9 : decode prog_13_method_17_code 9 = .ok (.lreturn, 1) := by decide +kernel
theorem d_Mo_stemOf_10 : decode prog_13_method_17_code 10 = .ok (.lload_n 0, 1) := by decide +kernel
theorem d_Mo_stemOf_11 : decode prog_13_method_17_code 11 = .ok (.invokestatic 114, 3) := by decide +kernel
theorem d_Mo_stemOf_14 : decode prog_13_method_17_code 14 = .ok (.invokestatic 117, 3) := by decide +kernel
theorem d_Mo_stemOf_17 : decode prog_13_method_17_code 17 = .ok (.lstore_n 2, 1) := by decide +kernel
theorem d_Mo_stemOf_18 : decode prog_13_method_17_code 18 = .ok (.lload_n 2, 1) := by decide +kernel
theorem d_Mo_stemOf_19 : decode prog_13_method_17_code 19 = .ok (.invokestatic 71, 3) := by decide +kernel
theorem d_Mo_stemOf_22 : decode prog_13_method_17_code 22 = .ok (.istore 4, 2) := by decide +kernel
theorem d_Mo_stemOf_24 : decode prog_13_method_17_code 24 = .ok (.lload_n 2, 1) := by decide +kernel
theorem d_Mo_stemOf_25 : decode prog_13_method_17_code 25 = .ok (.iload 4, 2) := by decide +kernel
theorem d_Mo_stemOf_27 : decode prog_13_method_17_code 27 = .ok (.iconst 1, 1) := by decide +kernel
theorem d_Mo_stemOf_28 : decode prog_13_method_17_code 28 = .ok (.isub, 1) := by decide +kernel
theorem d_Mo_stemOf_29 : decode prog_13_method_17_code 29 = .ok (.invokestatic 75, 3) := by decide +kernel
theorem d_Mo_stemOf_32 : decode prog_13_method_17_code 32 = .ok (.bipush 25, 2) := by decide +kernel
theorem d_Mo_stemOf_34 : decode prog_13_method_17_code 34 = .ok (.if_icmp .ne 18, 3) := by decide +kernel
theorem d_Mo_stemOf_37 : decode prog_13_method_17_code 37 = .ok (.lload_n 2, 1) := by decide +kernel
theorem d_Mo_stemOf_38 : decode prog_13_method_17_code 38 = .ok (.iload 4, 2) := by decide +kernel
theorem d_Mo_stemOf_40 : decode prog_13_method_17_code 40 = .ok (.iconst 1, 1) := by decide +kernel
theorem d_Mo_stemOf_41 : decode prog_13_method_17_code 41 = .ok (.isub, 1) := by decide +kernel
theorem d_Mo_stemOf_42 : decode prog_13_method_17_code 42 = .ok (.invokestatic 107, 3) := by decide +kernel
theorem d_Mo_stemOf_45 : decode prog_13_method_17_code 45 = .ok (.ifCond .eq 7, 3) := by decide +kernel
theorem d_Mo_stemOf_48 : decode prog_13_method_17_code 48 = .ok (.iconst 1, 1) := by decide +kernel
theorem d_Mo_stemOf_49 : decode prog_13_method_17_code 49 = .ok (.goto 4, 3) := by decide +kernel
theorem d_Mo_stemOf_52 : decode prog_13_method_17_code 52 = .ok (.iconst 0, 1) := by decide +kernel
theorem d_Mo_stemOf_53 : decode prog_13_method_17_code 53 = .ok (.istore 5, 2) := by decide +kernel
theorem d_Mo_stemOf_55 : decode prog_13_method_17_code 55 = .ok (.iload 5, 2) := by decide +kernel
theorem d_Mo_stemOf_57 : decode prog_13_method_17_code 57 = .ok (.ifCond .eq 25, 3) := by decide +kernel
theorem d_Mo_stemOf_60 : decode prog_13_method_17_code 60 = .ok (.lload_n 2, 1) := by decide +kernel
theorem d_Mo_stemOf_61 : decode prog_13_method_17_code 61 = .ok (.iload 4, 2) := by decide +kernel
theorem d_Mo_stemOf_63 : decode prog_13_method_17_code 63 = .ok (.iconst 1, 1) := by decide +kernel
theorem d_Mo_stemOf_64 : decode prog_13_method_17_code 64 = .ok (.isub, 1) := by decide +kernel
theorem d_Mo_stemOf_65 : decode prog_13_method_17_code 65 = .ok (.invokestatic 83, 3) := by decide +kernel
theorem d_Mo_stemOf_68 : decode prog_13_method_17_code 68 = .ok (.ldc2_w 120, 3) := by decide +kernel
theorem d_Mo_stemOf_71 : decode prog_13_method_17_code 71 = .ok (.iconst 5, 1) := by decide +kernel
theorem d_Mo_stemOf_72 : decode prog_13_method_17_code 72 = .ok (.iload 4, 2) := by decide +kernel
theorem d_Mo_stemOf_74 : decode prog_13_method_17_code 74 = .ok (.iconst 1, 1) := by decide +kernel
theorem d_Mo_stemOf_75 : decode prog_13_method_17_code 75 = .ok (.isub, 1) := by decide +kernel
theorem d_Mo_stemOf_76 : decode prog_13_method_17_code 76 = .ok (.imul, 1) := by decide +kernel
theorem d_Mo_stemOf_77 : decode prog_13_method_17_code 77 = .ok (.lshl, 1) := by decide +kernel
theorem d_Mo_stemOf_78 : decode prog_13_method_17_code 78 = .ok (.lor, 1) := by decide +kernel
theorem d_Mo_stemOf_79 : decode prog_13_method_17_code 79 = .ok (.goto 4, 3) := by decide +kernel
theorem d_Mo_stemOf_82 : decode prog_13_method_17_code 82 = .ok (.lload_n 2, 1) := by decide +kernel
theorem d_Mo_stemOf_83 : decode prog_13_method_17_code 83 = .ok (.lreturn, 1) := by decide +kernel
theorem d_Mo_plural_0 : decode prog_13_method_13_code 0 = .ok (.lload_n 0, 1) := by decide +kernel
theorem d_Mo_plural_1 : decode prog_13_method_13_code 1 = .ok (.bipush 19, 2) := by decide +kernel
theorem d_Mo_plural_3 : decode prog_13_method_13_code 3 = .ok (.bipush 19, 2) := by decide +kernel
theorem d_Mo_plural_5 : decode prog_13_method_13_code 5 = .ok (.iconst 5, 1) := by decide +kernel
theorem d_Mo_plural_6 : decode prog_13_method_13_code 6 = .ok (.bipush 19, 2) := by decide +kernel
theorem d_Mo_plural_8 : decode prog_13_method_13_code 8 = .ok (.invokestatic 87, 3) := by decide +kernel
theorem d_Mo_plural_11 : decode prog_13_method_13_code 11 = .ok (.invokestatic 91, 3) := by decide +kernel
theorem d_Mo_plural_14 : decode prog_13_method_13_code 14 = .ok (.ifCond .ne 19, 3) := by decide +kernel
theorem d_Mo_plural_17 : decode prog_13_method_13_code 17 = .ok (.lload_n 0, 1) := by decide +kernel
theorem d_Mo_plural_18 : decode prog_13_method_13_code 18 = .ok (.bipush 9, 2) := by decide +kernel
theorem d_Mo_plural_20 : decode prog_13_method_13_code 20 = .ok (.iconst 5, 1) := by decide +kernel
theorem d_Mo_plural_21 : decode prog_13_method_13_code 21 = .ok (.bipush 19, 2) := by decide +kernel
theorem d_Mo_plural_23 : decode prog_13_method_13_code 23 = .ok (.iconst 0, 1) := by decide +kernel
theorem d_Mo_plural_24 : decode prog_13_method_13_code 24 = .ok (.invokestatic 87, 3) := by decide +kernel
theorem d_Mo_plural_27 : decode prog_13_method_13_code 27 = .ok (.invokestatic 91, 3) := by decide +kernel
theorem d_Mo_plural_30 : decode prog_13_method_13_code 30 = .ok (.ifCond .eq 9, 3) := by decide +kernel
theorem d_Mo_plural_33 : decode prog_13_method_13_code 33 = .ok (.lload_n 0, 1) := by decide +kernel
theorem d_Mo_plural_34 : decode prog_13_method_13_code 34 = .ok (.iconst 2, 1) := by decide +kernel
theorem d_Mo_plural_35 : decode prog_13_method_13_code 35 = .ok (.invokestatic 95, 3) := by decide +kernel
theorem d_Mo_plural_38 : decode prog_13_method_13_code 38 = .ok (.lreturn, 1) := by decide +kernel
theorem d_Mo_plural_39 : decode prog_13_method_13_code 39 = .ok (.lload_n 0, 1) := by decide +kernel
theorem d_Mo_plural_40 : decode prog_13_method_13_code 40 = .ok (.bipush 19, 2) := by decide +kernel
theorem d_Mo_plural_42 : decode prog_13_method_13_code 42 = .ok (.iconst 0, 1) := by decide +kernel
theorem d_Mo_plural_43 : decode prog_13_method_13_code 43 = .ok (.iconst 0, 1) := by decide +kernel
theorem d_Mo_plural_44 : decode prog_13_method_13_code 44 = .ok (.iconst 0, 1) := by decide +kernel
theorem d_Mo_plural_45 : decode prog_13_method_13_code 45 = .ok (.invokestatic 87, 3) := by decide +kernel
theorem d_Mo_plural_48 : decode prog_13_method_13_code 48 = .ok (.invokestatic 91, 3) := by decide +kernel
theorem d_Mo_plural_51 : decode prog_13_method_13_code 51 = .ok (.ifCond .eq 27, 3) := by decide +kernel
theorem d_Mo_plural_54 : decode prog_13_method_13_code 54 = .ok (.lload_n 0, 1) := by decide +kernel
theorem d_Mo_plural_55 : decode prog_13_method_13_code 55 = .ok (.bipush 19, 2) := by decide +kernel
theorem d_Mo_plural_57 : decode prog_13_method_13_code 57 = .ok (.bipush 19, 2) := by decide +kernel
theorem d_Mo_plural_59 : decode prog_13_method_13_code 59 = .ok (.iconst 0, 1) := by decide +kernel
theorem d_Mo_plural_60 : decode prog_13_method_13_code 60 = .ok (.iconst 0, 1) := by decide +kernel
theorem d_Mo_plural_61 : decode prog_13_method_13_code 61 = .ok (.invokestatic 87, 3) := by decide +kernel
theorem d_Mo_plural_64 : decode prog_13_method_13_code 64 = .ok (.invokestatic 91, 3) := by decide +kernel
theorem d_Mo_plural_67 : decode prog_13_method_13_code 67 = .ok (.ifCond .ne 11, 3) := by decide +kernel
theorem d_Mo_plural_70 : decode prog_13_method_13_code 70 = .ok (.lload_n 0, 1) := by decide +kernel
theorem d_Mo_plural_71 : decode prog_13_method_13_code 71 = .ok (.iconst 1, 1) := by decide +kernel
theorem d_Mo_plural_72 : decode prog_13_method_13_code 72 = .ok (.invokestatic 95, 3) := by decide +kernel
theorem d_Mo_plural_75 : decode prog_13_method_13_code 75 = .ok (.goto 4, 3) := by decide +kernel
theorem d_Mo_plural_78 : decode prog_13_method_13_code 78 = .ok (.lload_n 0, 1) := by decide +kernel
theorem d_Mo_plural_79 : decode prog_13_method_13_code 79 = .ok (.lreturn, 1) := by decide +kernel
theorem d_Mo_text_0 : decode prog_13_method_9_code 0 = .ok (.iload_n 0, 1) := by decide +kernel
theorem d_Mo_text_1 : decode prog_13_method_9_code 1 = .ok (.i2l, 1) := by decide +kernel
theorem d_Mo_text_2 : decode prog_13_method_9_code 2 = .ok (.iload_n 1, 1) := by decide +kernel
theorem d_Mo_text_3 : decode prog_13_method_9_code 3 = .ok (.i2l, 1) := by decide +kernel
theorem d_Mo_text_4 : decode prog_13_method_9_code 4 = .ok (.iconst 5, 1) := by decide +kernel
theorem d_Mo_text_5 : decode prog_13_method_9_code 5 = .ok (.lshl, 1) := by decide +kernel
theorem d_Mo_text_6 : decode prog_13_method_9_code 6 = .ok (.lor, 1) := by decide +kernel
theorem d_Mo_text_7 : decode prog_13_method_9_code 7 = .ok (.iload_n 2, 1) := by decide +kernel
theorem d_Mo_text_8 : decode prog_13_method_9_code 8 = .ok (.i2l, 1) := by decide +kernel
theorem d_Mo_text_9 : decode prog_13_method_9_code 9 = .ok (.bipush 10, 2) := by decide +kernel
theorem d_Mo_text_11 : decode prog_13_method_9_code 11 = .ok (.lshl, 1) := by decide +kernel
theorem d_Mo_text_12 : decode prog_13_method_9_code 12 = .ok (.lor, 1) := by decide +kernel
theorem d_Mo_text_13 : decode prog_13_method_9_code 13 = .ok (.iload_n 3, 1) := by decide +kernel
theorem d_Mo_text_14 : decode prog_13_method_9_code 14 = .ok (.i2l, 1) := by decide +kernel
theorem d_Mo_text_15 : decode prog_13_method_9_code 15 = .ok (.bipush 15, 2) := by decide +kernel
theorem d_Mo_text_17 : decode prog_13_method_9_code 17 = .ok (.lshl, 1) := by decide +kernel
theorem d_Mo_text_18 : decode prog_13_method_9_code 18 = .ok (.lor, 1) := by decide +kernel
theorem d_Mo_text_19 : decode prog_13_method_9_code 19 = .ok (.lreturn, 1) := by decide +kernel
theorem d_Mo_ends_0 : decode prog_13_method_10_code 0 = .ok (.lload_n 0, 1) := by decide +kernel
theorem d_Mo_ends_1 : decode prog_13_method_10_code 1 = .ok (.invokestatic 71, 3) := by decide +kernel
theorem d_Mo_ends_4 : decode prog_13_method_10_code 4 = .ok (.lload_n 2, 1) := by decide +kernel
theorem d_Mo_ends_5 : decode prog_13_method_10_code 5 = .ok (.invokestatic 71, 3) := by decide +kernel
theorem d_Mo_ends_8 : decode prog_13_method_10_code 8 = .ok (.isub, 1) := by decide +kernel
theorem d_Mo_ends_9 : decode prog_13_method_10_code 9 = .ok (.istore 4, 2) := by decide +kernel
theorem d_Mo_ends_11 : decode prog_13_method_10_code 11 = .ok (.iload 4, 2) := by decide +kernel
theorem d_Mo_ends_13 : decode prog_13_method_10_code 13 = .ok (.ifCond .lt 18, 3) := by decide +kernel
theorem d_Mo_ends_16 : decode prog_13_method_10_code 16 = .ok (.lload_n 0, 1) := by decide +kernel
theorem d_Mo_ends_17 : decode prog_13_method_10_code 17 = .ok (.iconst 5, 1) := by decide +kernel
theorem d_Mo_ends_18 : decode prog_13_method_10_code 18 = .ok (.iload 4, 2) := by decide +kernel
theorem d_Mo_ends_20 : decode prog_13_method_10_code 20 = .ok (.imul, 1) := by decide +kernel
theorem d_Mo_ends_21 : decode prog_13_method_10_code 21 = .ok (.lshr, 1) := by decide +kernel
theorem d_Mo_ends_22 : decode prog_13_method_10_code 22 = .ok (.lload_n 2, 1) := by decide +kernel
theorem d_Mo_ends_23 : decode prog_13_method_10_code 23 = .ok (.lcmp, 1) := by decide +kernel
theorem d_Mo_ends_24 : decode prog_13_method_10_code 24 = .ok (.ifCond .ne 7, 3) := by decide +kernel
theorem d_Mo_ends_27 : decode prog_13_method_10_code 27 = .ok (.iconst 1, 1) := by decide +kernel
theorem d_Mo_ends_28 : decode prog_13_method_10_code 28 = .ok (.goto 4, 3) := by decide +kernel
theorem d_Mo_ends_31 : decode prog_13_method_10_code 31 = .ok (.iconst 0, 1) := by decide +kernel
theorem d_Mo_ends_32 : decode prog_13_method_10_code 32 = .ok (.ireturn, 1) := by decide +kernel
theorem d_Mo_without_0 : decode prog_13_method_11_code 0 = .ok (.lload_n 0, 1) := by decide +kernel
theorem d_Mo_without_1 : decode prog_13_method_11_code 1 = .ok (.lload_n 0, 1) := by decide +kernel
theorem d_Mo_without_2 : decode prog_13_method_11_code 2 = .ok (.invokestatic 71, 3) := by decide +kernel
theorem d_Mo_without_5 : decode prog_13_method_11_code 5 = .ok (.iload_n 2, 1) := by decide +kernel
theorem d_Mo_without_6 : decode prog_13_method_11_code 6 = .ok (.isub, 1) := by decide +kernel
theorem d_Mo_without_7 : decode prog_13_method_11_code 7 = .ok (.invokestatic 83, 3) := by decide +kernel
theorem d_Mo_without_10 : decode prog_13_method_11_code 10 = .ok (.lreturn, 1) := by decide +kernel
theorem d_Mo_first_0 : decode prog_13_method_6_code 0 = .ok (.lload_n 0, 1) := by decide +kernel
theorem d_Mo_first_1 : decode prog_13_method_6_code 1 = .ok (.lconst 1, 1) := by decide +kernel
theorem d_Mo_first_2 : decode prog_13_method_6_code 2 = .ok (.iconst 5, 1) := by decide +kernel
theorem d_Mo_first_3 : decode prog_13_method_6_code 3 = .ok (.iload_n 2, 1) := by decide +kernel
theorem d_Mo_first_4 : decode prog_13_method_6_code 4 = .ok (.imul, 1) := by decide +kernel
theorem d_Mo_first_5 : decode prog_13_method_6_code 5 = .ok (.lshl, 1) := by decide +kernel
theorem d_Mo_first_6 : decode prog_13_method_6_code 6 = .ok (.lconst 1, 1) := by decide +kernel
theorem d_Mo_first_7 : decode prog_13_method_6_code 7 = .ok (.lsub, 1) := by decide +kernel
theorem d_Mo_first_8 : decode prog_13_method_6_code 8 = .ok (.land, 1) := by decide +kernel
theorem d_Mo_first_9 : decode prog_13_method_6_code 9 = .ok (.lreturn, 1) := by decide +kernel
theorem d_Mo_past_0 : decode prog_13_method_16_code 0 = .ok (.lload_n 0, 1) := by decide +kernel
theorem d_Mo_past_1 : decode prog_13_method_16_code 1 = .ok (.invokestatic 71, 3) := by decide +kernel
theorem d_Mo_past_4 : decode prog_13_method_16_code 4 = .ok (.istore_n 2, 1) := by decide +kernel
theorem d_Mo_past_5 : decode prog_13_method_16_code 5 = .ok (.lload_n 0, 1) := by decide +kernel
theorem d_Mo_past_6 : decode prog_13_method_16_code 6 = .ok (.iconst 5, 1) := by decide +kernel
theorem d_Mo_past_7 : decode prog_13_method_16_code 7 = .ok (.iconst 5, 1) := by decide +kernel
theorem d_Mo_past_8 : decode prog_13_method_16_code 8 = .ok (.iconst 4, 1) := by decide +kernel
theorem d_Mo_past_9 : decode prog_13_method_16_code 9 = .ok (.iconst 0, 1) := by decide +kernel
theorem d_Mo_past_10 : decode prog_13_method_16_code 10 = .ok (.invokestatic 87, 3) := by decide +kernel
theorem d_Mo_past_13 : decode prog_13_method_16_code 13 = .ok (.invokestatic 91, 3) := by decide +kernel
theorem d_Mo_past_16 : decode prog_13_method_16_code 16 = .ok (.ifCond .eq 23, 3) := by decide +kernel
theorem d_Mo_past_19 : decode prog_13_method_16_code 19 = .ok (.lload_n 0, 1) := by decide +kernel
theorem d_Mo_past_20 : decode prog_13_method_16_code 20 = .ok (.iload_n 2, 1) := by decide +kernel
theorem d_Mo_past_21 : decode prog_13_method_16_code 21 = .ok (.iconst 3, 1) := by decide +kernel
theorem d_Mo_past_22 : decode prog_13_method_16_code 22 = .ok (.isub, 1) := by decide +kernel
theorem d_Mo_past_23 : decode prog_13_method_16_code 23 = .ok (.invokestatic 100, 3) := by decide +kernel
theorem d_Mo_past_26 : decode prog_13_method_16_code 26 = .ok (.ifCond .le 11, 3) := by decide +kernel
theorem d_Mo_past_29 : decode prog_13_method_16_code 29 = .ok (.lload_n 0, 1) := by decide +kernel
theorem d_Mo_past_30 : decode prog_13_method_16_code 30 = .ok (.iconst 1, 1) := by decide +kernel
theorem d_Mo_past_31 : decode prog_13_method_16_code 31 = .ok (.invokestatic 95, 3) := by decide +kernel
theorem d_Mo_past_34 : decode prog_13_method_16_code 34 = .ok (.goto 4, 3) := by decide +kernel
theorem d_Mo_past_37 : decode prog_13_method_16_code 37 = .ok (.lload_n 0, 1) := by decide +kernel
theorem d_Mo_past_38 : decode prog_13_method_16_code 38 = .ok (.lreturn, 1) := by decide +kernel
theorem d_Mo_past_39 : decode prog_13_method_16_code 39 = .ok (.lload_n 0, 1) := by decide +kernel
theorem d_Mo_past_40 : decode prog_13_method_16_code 40 = .ok (.iconst 5, 1) := by decide +kernel
theorem d_Mo_past_41 : decode prog_13_method_16_code 41 = .ok (.iconst 4, 1) := by decide +kernel
theorem d_Mo_past_42 : decode prog_13_method_16_code 42 = .ok (.iconst 0, 1) := by decide +kernel
theorem d_Mo_past_43 : decode prog_13_method_16_code 43 = .ok (.iconst 0, 1) := by decide +kernel
theorem d_Mo_past_44 : decode prog_13_method_16_code 44 = .ok (.invokestatic 87, 3) := by decide +kernel
theorem d_Mo_past_47 : decode prog_13_method_16_code 47 = .ok (.invokestatic 91, 3) := by decide +kernel
theorem d_Mo_past_50 : decode prog_13_method_16_code 50 = .ok (.ifCond .eq 24, 3) := by decide +kernel
theorem d_Mo_past_53 : decode prog_13_method_16_code 53 = .ok (.lload_n 0, 1) := by decide +kernel
theorem d_Mo_past_54 : decode prog_13_method_16_code 54 = .ok (.iload_n 2, 1) := by decide +kernel
theorem d_Mo_past_55 : decode prog_13_method_16_code 55 = .ok (.iconst 2, 1) := by decide +kernel
theorem d_Mo_past_56 : decode prog_13_method_16_code 56 = .ok (.isub, 1) := by decide +kernel
theorem d_Mo_past_57 : decode prog_13_method_16_code 57 = .ok (.invokestatic 107, 3) := by decide +kernel
theorem d_Mo_past_60 : decode prog_13_method_16_code 60 = .ok (.ifCond .eq 14, 3) := by decide +kernel
theorem d_Mo_past_63 : decode prog_13_method_16_code 63 = .ok (.lload_n 0, 1) := by decide +kernel
theorem d_Mo_past_64 : decode prog_13_method_16_code 64 = .ok (.iload_n 2, 1) := by decide +kernel
theorem d_Mo_past_65 : decode prog_13_method_16_code 65 = .ok (.iconst 2, 1) := by decide +kernel
theorem d_Mo_past_66 : decode prog_13_method_16_code 66 = .ok (.isub, 1) := by decide +kernel
theorem d_Mo_past_67 : decode prog_13_method_16_code 67 = .ok (.invokestatic 83, 3) := by decide +kernel
theorem d_Mo_past_70 : decode prog_13_method_16_code 70 = .ok (.invokestatic 110, 3) := by decide +kernel
theorem d_Mo_past_73 : decode prog_13_method_16_code 73 = .ok (.lreturn, 1) := by decide +kernel
theorem d_Mo_past_74 : decode prog_13_method_16_code 74 = .ok (.lload_n 0, 1) := by decide +kernel
theorem d_Mo_past_75 : decode prog_13_method_16_code 75 = .ok (.bipush 9, 2) := by decide +kernel
theorem d_Mo_past_77 : decode prog_13_method_16_code 77 = .ok (.bipush 14, 2) := by decide +kernel
theorem d_Mo_past_79 : decode prog_13_method_16_code 79 = .ok (.bipush 7, 2) := by decide +kernel
theorem d_Mo_past_81 : decode prog_13_method_16_code 81 = .ok (.iconst 0, 1) := by decide +kernel
theorem d_Mo_past_82 : decode prog_13_method_16_code 82 = .ok (.invokestatic 87, 3) := by decide +kernel
theorem d_Mo_past_85 : decode prog_13_method_16_code 85 = .ok (.invokestatic 91, 3) := by decide +kernel
theorem d_Mo_past_88 : decode prog_13_method_16_code 88 = .ok (.ifCond .eq 26, 3) := by decide +kernel
theorem d_Mo_past_91 : decode prog_13_method_16_code 91 = .ok (.lload_n 0, 1) := by decide +kernel
theorem d_Mo_past_92 : decode prog_13_method_16_code 92 = .ok (.iload_n 2, 1) := by decide +kernel
theorem d_Mo_past_93 : decode prog_13_method_16_code 93 = .ok (.iconst 3, 1) := by decide +kernel
theorem d_Mo_past_94 : decode prog_13_method_16_code 94 = .ok (.isub, 1) := by decide +kernel
theorem d_Mo_past_95 : decode prog_13_method_16_code 95 = .ok (.invokestatic 107, 3) := by decide +kernel
theorem d_Mo_past_98 : decode prog_13_method_16_code 98 = .ok (.ifCond .eq 16, 3) := by decide +kernel
theorem d_Mo_past_101 : decode prog_13_method_16_code 101 = .ok (.lload_n 0, 1) := by decide +kernel
theorem d_Mo_past_102 : decode prog_13_method_16_code 102 = .ok (.iload_n 2, 1) := by decide +kernel
theorem d_Mo_past_103 : decode prog_13_method_16_code 103 = .ok (.iconst 3, 1) := by decide +kernel
theorem d_Mo_past_104 : decode prog_13_method_16_code 104 = .ok (.isub, 1) := by decide +kernel
theorem d_Mo_past_105 : decode prog_13_method_16_code 105 = .ok (.invokestatic 83, 3) := by decide +kernel
theorem d_Mo_past_108 : decode prog_13_method_16_code 108 = .ok (.invokestatic 110, 3) := by decide +kernel
theorem d_Mo_past_111 : decode prog_13_method_16_code 111 = .ok (.goto 4, 3) := by decide +kernel
theorem d_Mo_past_114 : decode prog_13_method_16_code 114 = .ok (.lload_n 0, 1) := by decide +kernel
theorem d_Mo_past_115 : decode prog_13_method_16_code 115 = .ok (.lreturn, 1) := by decide +kernel
theorem d_Mo_measure_0 : decode prog_13_method_7_code 0 = .ok (.iconst 0, 1) := by decide +kernel
theorem d_Mo_measure_1 : decode prog_13_method_7_code 1 = .ok (.istore_n 3, 1) := by decide +kernel
theorem d_Mo_measure_2 : decode prog_13_method_7_code 2 = .ok (.iconst 0, 1) := by decide +kernel
theorem d_Mo_measure_3 : decode prog_13_method_7_code 3 = .ok (.istore 4, 2) := by decide +kernel
theorem d_Mo_measure_5 : decode prog_13_method_7_code 5 = .ok (.iload 4, 2) := by decide +kernel
theorem d_Mo_measure_7 : decode prog_13_method_7_code 7 = .ok (.iconst 1, 1) := by decide +kernel
theorem d_Mo_measure_8 : decode prog_13_method_7_code 8 = .ok (.iadd, 1) := by decide +kernel
theorem d_Mo_measure_9 : decode prog_13_method_7_code 9 = .ok (.iload_n 2, 1) := by decide +kernel
theorem d_Mo_measure_10 : decode prog_13_method_7_code 10 = .ok (.if_icmp .ge 37, 3) := by decide +kernel
theorem d_Mo_measure_13 : decode prog_13_method_7_code 13 = .ok (.lload_n 0, 1) := by decide +kernel
theorem d_Mo_measure_14 : decode prog_13_method_7_code 14 = .ok (.iload 4, 2) := by decide +kernel
theorem d_Mo_measure_16 : decode prog_13_method_7_code 16 = .ok (.invokestatic 79, 3) := by decide +kernel
theorem d_Mo_measure_19 : decode prog_13_method_7_code 19 = .ok (.ifCond .eq 20, 3) := by decide +kernel
theorem d_Mo_measure_22 : decode prog_13_method_7_code 22 = .ok (.lload_n 0, 1) := by decide +kernel
theorem d_Mo_measure_23 : decode prog_13_method_7_code 23 = .ok (.iload 4, 2) := by decide +kernel
theorem d_Mo_measure_25 : decode prog_13_method_7_code 25 = .ok (.iconst 1, 1) := by decide +kernel
theorem d_Mo_measure_26 : decode prog_13_method_7_code 26 = .ok (.iadd, 1) := by decide +kernel
theorem d_Mo_measure_27 : decode prog_13_method_7_code 27 = .ok (.invokestatic 79, 3) := by decide +kernel
theorem d_Mo_measure_30 : decode prog_13_method_7_code 30 = .ok (.ifCond .ne 9, 3) := by decide +kernel
theorem d_Mo_measure_33 : decode prog_13_method_7_code 33 = .ok (.iload_n 3, 1) := by decide +kernel
theorem d_Mo_measure_34 : decode prog_13_method_7_code 34 = .ok (.iconst 1, 1) := by decide +kernel
theorem d_Mo_measure_35 : decode prog_13_method_7_code 35 = .ok (.iadd, 1) := by decide +kernel
theorem d_Mo_measure_36 : decode prog_13_method_7_code 36 = .ok (.goto 4, 3) := by decide +kernel
theorem d_Mo_measure_39 : decode prog_13_method_7_code 39 = .ok (.iload_n 3, 1) := by decide +kernel
theorem d_Mo_measure_40 : decode prog_13_method_7_code 40 = .ok (.istore_n 3, 1) := by decide +kernel
theorem d_Mo_measure_41 : decode prog_13_method_7_code 41 = .ok (.iinc 4 1, 3) := by decide +kernel
theorem d_Mo_measure_44 : decode prog_13_method_7_code 44 = .ok (.goto (-39), 3) := by decide +kernel
theorem d_Mo_measure_47 : decode prog_13_method_7_code 47 = .ok (.iload_n 3, 1) := by decide +kernel
theorem d_Mo_measure_48 : decode prog_13_method_7_code 48 = .ok (.ireturn, 1) := by decide +kernel
theorem d_Mo_isVowel_0 : decode prog_13_method_5_code 0 = .ok (.iconst 0, 1) := by decide +kernel
theorem d_Mo_isVowel_1 : decode prog_13_method_5_code 1 = .ok (.istore_n 3, 1) := by decide +kernel
theorem d_Mo_isVowel_2 : decode prog_13_method_5_code 2 = .ok (.iconst 0, 1) := by decide +kernel
theorem d_Mo_isVowel_3 : decode prog_13_method_5_code 3 = .ok (.istore 4, 2) := by decide +kernel
theorem d_Mo_isVowel_5 : decode prog_13_method_5_code 5 = .ok (.iload 4, 2) := by decide +kernel
theorem d_Mo_isVowel_7 : decode prog_13_method_5_code 7 = .ok (.iload_n 2, 1) := by decide +kernel
theorem d_Mo_isVowel_8 : decode prog_13_method_5_code 8 = .ok (.if_icmp .gt 72, 3) := by decide +kernel
theorem d_Mo_isVowel_11 : decode prog_13_method_5_code 11 = .ok (.lload_n 0, 1) := by decide +kernel
theorem d_Mo_isVowel_12 : decode prog_13_method_5_code 12 = .ok (.iload 4, 2) := by decide +kernel
theorem d_Mo_isVowel_14 : decode prog_13_method_5_code 14 = .ok (.invokestatic 75, 3) := by decide +kernel
theorem d_Mo_isVowel_17 : decode prog_13_method_5_code 17 = .ok (.istore 5, 2) := by decide +kernel
theorem d_Mo_isVowel_19 : decode prog_13_method_5_code 19 = .ok (.iload 5, 2) := by decide +kernel
theorem d_Mo_isVowel_21 : decode prog_13_method_5_code 21 = .ok (.iconst 1, 1) := by decide +kernel
theorem d_Mo_isVowel_22 : decode prog_13_method_5_code 22 = .ok (.if_icmp .eq 46, 3) := by decide +kernel
theorem d_Mo_isVowel_25 : decode prog_13_method_5_code 25 = .ok (.iload 5, 2) := by decide +kernel
theorem d_Mo_isVowel_27 : decode prog_13_method_5_code 27 = .ok (.iconst 5, 1) := by decide +kernel
theorem d_Mo_isVowel_28 : decode prog_13_method_5_code 28 = .ok (.if_icmp .eq 40, 3) := by decide +kernel
theorem d_Mo_isVowel_31 : decode prog_13_method_5_code 31 = .ok (.iload 5, 2) := by decide +kernel
theorem d_Mo_isVowel_33 : decode prog_13_method_5_code 33 = .ok (.bipush 9, 2) := by decide +kernel
theorem d_Mo_isVowel_35 : decode prog_13_method_5_code 35 = .ok (.if_icmp .eq 33, 3) := by decide +kernel
theorem d_Mo_isVowel_38 : decode prog_13_method_5_code 38 = .ok (.iload 5, 2) := by decide +kernel
theorem d_Mo_isVowel_40 : decode prog_13_method_5_code 40 = .ok (.bipush 15, 2) := by decide +kernel
theorem d_Mo_isVowel_42 : decode prog_13_method_5_code 42 = .ok (.if_icmp .eq 26, 3) := by decide +kernel
theorem d_Mo_isVowel_45 : decode prog_13_method_5_code 45 = .ok (.iload 5, 2) := by decide +kernel
theorem d_Mo_isVowel_47 : decode prog_13_method_5_code 47 = .ok (.bipush 21, 2) := by decide +kernel
theorem d_Mo_isVowel_49 : decode prog_13_method_5_code 49 = .ok (.if_icmp .eq 19, 3) := by decide +kernel
theorem d_Mo_isVowel_52 : decode prog_13_method_5_code 52 = .ok (.iload 5, 2) := by decide +kernel
theorem d_Mo_isVowel_54 : decode prog_13_method_5_code 54 = .ok (.bipush 25, 2) := by decide +kernel
theorem d_Mo_isVowel_56 : decode prog_13_method_5_code 56 = .ok (.if_icmp .ne 16, 3) := by decide +kernel
theorem d_Mo_isVowel_59 : decode prog_13_method_5_code 59 = .ok (.iload 4, 2) := by decide +kernel
theorem d_Mo_isVowel_61 : decode prog_13_method_5_code 61 = .ok (.ifCond .le 11, 3) := by decide +kernel
theorem d_Mo_isVowel_64 : decode prog_13_method_5_code 64 = .ok (.iload_n 3, 1) := by decide +kernel
theorem d_Mo_isVowel_65 : decode prog_13_method_5_code 65 = .ok (.ifCond .ne 7, 3) := by decide +kernel
theorem d_Mo_isVowel_68 : decode prog_13_method_5_code 68 = .ok (.iconst 1, 1) := by decide +kernel
theorem d_Mo_isVowel_69 : decode prog_13_method_5_code 69 = .ok (.goto 4, 3) := by decide +kernel
theorem d_Mo_isVowel_72 : decode prog_13_method_5_code 72 = .ok (.iconst 0, 1) := by decide +kernel
theorem d_Mo_isVowel_73 : decode prog_13_method_5_code 73 = .ok (.istore_n 3, 1) := by decide +kernel
theorem d_Mo_isVowel_74 : decode prog_13_method_5_code 74 = .ok (.iinc 4 1, 3) := by decide +kernel
theorem d_Mo_isVowel_77 : decode prog_13_method_5_code 77 = .ok (.goto (-72), 3) := by decide +kernel
theorem d_Mo_isVowel_80 : decode prog_13_method_5_code 80 = .ok (.iload_n 3, 1) := by decide +kernel
theorem d_Mo_isVowel_81 : decode prog_13_method_5_code 81 = .ok (.ireturn, 1) := by decide +kernel
theorem d_Mo_someVowel_0 : decode prog_13_method_8_code 0 = .ok (.iconst 0, 1) := by decide +kernel
theorem d_Mo_someVowel_1 : decode prog_13_method_8_code 1 = .ok (.istore_n 3, 1) := by decide +kernel
theorem d_Mo_someVowel_2 : decode prog_13_method_8_code 2 = .ok (.iconst 0, 1) := by decide +kernel
theorem d_Mo_someVowel_3 : decode prog_13_method_8_code 3 = .ok (.istore 4, 2) := by decide +kernel
theorem d_Mo_someVowel_5 : decode prog_13_method_8_code 5 = .ok (.iload 4, 2) := by decide +kernel
theorem d_Mo_someVowel_7 : decode prog_13_method_8_code 7 = .ok (.iload_n 2, 1) := by decide +kernel
theorem d_Mo_someVowel_8 : decode prog_13_method_8_code 8 = .ok (.if_icmp .ge 28, 3) := by decide +kernel
theorem d_Mo_someVowel_11 : decode prog_13_method_8_code 11 = .ok (.iload_n 3, 1) := by decide +kernel
theorem d_Mo_someVowel_12 : decode prog_13_method_8_code 12 = .ok (.ifCond .ne 12, 3) := by decide +kernel
theorem d_Mo_someVowel_15 : decode prog_13_method_8_code 15 = .ok (.lload_n 0, 1) := by decide +kernel
theorem d_Mo_someVowel_16 : decode prog_13_method_8_code 16 = .ok (.iload 4, 2) := by decide +kernel
theorem d_Mo_someVowel_18 : decode prog_13_method_8_code 18 = .ok (.invokestatic 79, 3) := by decide +kernel
theorem d_Mo_someVowel_21 : decode prog_13_method_8_code 21 = .ok (.ifCond .eq 7, 3) := by decide +kernel
theorem d_Mo_someVowel_24 : decode prog_13_method_8_code 24 = .ok (.iconst 1, 1) := by decide +kernel
theorem d_Mo_someVowel_25 : decode prog_13_method_8_code 25 = .ok (.goto 4, 3) := by decide +kernel
theorem d_Mo_someVowel_28 : decode prog_13_method_8_code 28 = .ok (.iconst 0, 1) := by decide +kernel
theorem d_Mo_someVowel_29 : decode prog_13_method_8_code 29 = .ok (.istore_n 3, 1) := by decide +kernel
theorem d_Mo_someVowel_30 : decode prog_13_method_8_code 30 = .ok (.iinc 4 1, 3) := by decide +kernel
theorem d_Mo_someVowel_33 : decode prog_13_method_8_code 33 = .ok (.goto (-28), 3) := by decide +kernel
theorem d_Mo_someVowel_36 : decode prog_13_method_8_code 36 = .ok (.iload_n 3, 1) := by decide +kernel
theorem d_Mo_someVowel_37 : decode prog_13_method_8_code 37 = .ok (.ireturn, 1) := by decide +kernel
theorem d_Mo_mended_0 : decode prog_13_method_15_code 0 = .ok (.lload_n 0, 1) := by decide +kernel
theorem d_Mo_mended_1 : decode prog_13_method_15_code 1 = .ok (.invokestatic 71, 3) := by decide +kernel
theorem d_Mo_mended_4 : decode prog_13_method_15_code 4 = .ok (.istore_n 2, 1) := by decide +kernel
theorem d_Mo_mended_5 : decode prog_13_method_15_code 5 = .ok (.lload_n 0, 1) := by decide +kernel
theorem d_Mo_mended_6 : decode prog_13_method_15_code 6 = .ok (.ldc2_w 98, 3) := by decide +kernel
theorem d_Mo_mended_9 : decode prog_13_method_15_code 9 = .ok (.iconst 5, 1) := by decide +kernel
theorem d_Mo_mended_10 : decode prog_13_method_15_code 10 = .ok (.iload_n 2, 1) := by decide +kernel
theorem d_Mo_mended_11 : decode prog_13_method_15_code 11 = .ok (.imul, 1) := by decide +kernel
theorem d_Mo_mended_12 : decode prog_13_method_15_code 12 = .ok (.lshl, 1) := by decide +kernel
theorem d_Mo_mended_13 : decode prog_13_method_15_code 13 = .ok (.lor, 1) := by decide +kernel
theorem d_Mo_mended_14 : decode prog_13_method_15_code 14 = .ok (.lstore_n 3, 1) := by decide +kernel
theorem d_Mo_mended_15 : decode prog_13_method_15_code 15 = .ok (.lload_n 0, 1) := by decide +kernel
theorem d_Mo_mended_16 : decode prog_13_method_15_code 16 = .ok (.iconst 1, 1) := by decide +kernel
theorem d_Mo_mended_17 : decode prog_13_method_15_code 17 = .ok (.bipush 20, 2) := by decide +kernel
theorem d_Mo_mended_19 : decode prog_13_method_15_code 19 = .ok (.iconst 0, 1) := by decide +kernel
theorem d_Mo_mended_20 : decode prog_13_method_15_code 20 = .ok (.iconst 0, 1) := by decide +kernel
theorem d_Mo_mended_21 : decode prog_13_method_15_code 21 = .ok (.invokestatic 87, 3) := by decide +kernel
theorem d_Mo_mended_24 : decode prog_13_method_15_code 24 = .ok (.invokestatic 91, 3) := by decide +kernel
theorem d_Mo_mended_27 : decode prog_13_method_15_code 27 = .ok (.ifCond .ne 34, 3) := by decide +kernel
theorem d_Mo_mended_30 : decode prog_13_method_15_code 30 = .ok (.lload_n 0, 1) := by decide +kernel
theorem d_Mo_mended_31 : decode prog_13_method_15_code 31 = .ok (.iconst 2, 1) := by decide +kernel
theorem d_Mo_mended_32 : decode prog_13_method_15_code 32 = .ok (.bipush 12, 2) := by decide +kernel
theorem d_Mo_mended_34 : decode prog_13_method_15_code 34 = .ok (.iconst 0, 1) := by decide +kernel
theorem d_Mo_mended_35 : decode prog_13_method_15_code 35 = .ok (.iconst 0, 1) := by decide +kernel
theorem d_Mo_mended_36 : decode prog_13_method_15_code 36 = .ok (.invokestatic 87, 3) := by decide +kernel
theorem d_Mo_mended_39 : decode prog_13_method_15_code 39 = .ok (.invokestatic 91, 3) := by decide +kernel
theorem d_Mo_mended_42 : decode prog_13_method_15_code 42 = .ok (.ifCond .ne 19, 3) := by decide +kernel
theorem d_Mo_mended_45 : decode prog_13_method_15_code 45 = .ok (.lload_n 0, 1) := by decide +kernel
theorem d_Mo_mended_46 : decode prog_13_method_15_code 46 = .ok (.bipush 9, 2) := by decide +kernel
theorem d_Mo_mended_48 : decode prog_13_method_15_code 48 = .ok (.bipush 26, 2) := by decide +kernel
theorem d_Mo_mended_50 : decode prog_13_method_15_code 50 = .ok (.iconst 0, 1) := by decide +kernel
theorem d_Mo_mended_51 : decode prog_13_method_15_code 51 = .ok (.iconst 0, 1) := by decide +kernel
theorem d_Mo_mended_52 : decode prog_13_method_15_code 52 = .ok (.invokestatic 87, 3) := by decide +kernel
theorem d_Mo_mended_55 : decode prog_13_method_15_code 55 = .ok (.invokestatic 91, 3) := by decide +kernel
theorem d_Mo_mended_58 : decode prog_13_method_15_code 58 = .ok (.ifCond .eq 5, 3) := by decide +kernel
theorem d_Mo_mended_61 : decode prog_13_method_15_code 61 = .ok (.lload_n 3, 1) := by decide +kernel
theorem d_Mo_mended_62 : decode prog_13_method_15_code 62 = .ok (.lreturn, 1) := by decide +kernel
theorem d_Mo_mended_63 : decode prog_13_method_15_code 63 = .ok (.lload_n 0, 1) := by decide +kernel
theorem d_Mo_mended_64 : decode prog_13_method_15_code 64 = .ok (.iload_n 2, 1) := by decide +kernel
theorem d_Mo_mended_65 : decode prog_13_method_15_code 65 = .ok (.iconst 1, 1) := by decide +kernel
theorem d_Mo_mended_66 : decode prog_13_method_15_code 66 = .ok (.isub, 1) := by decide +kernel
theorem d_Mo_mended_67 : decode prog_13_method_15_code 67 = .ok (.invokestatic 75, 3) := by decide +kernel
theorem d_Mo_mended_70 : decode prog_13_method_15_code 70 = .ok (.istore 5, 2) := by decide +kernel
theorem d_Mo_mended_72 : decode prog_13_method_15_code 72 = .ok (.iload_n 2, 1) := by decide +kernel
theorem d_Mo_mended_73 : decode prog_13_method_15_code 73 = .ok (.iconst 1, 1) := by decide +kernel
theorem d_Mo_mended_74 : decode prog_13_method_15_code 74 = .ok (.if_icmp .le 39, 3) := by decide +kernel
theorem d_Mo_mended_77 : decode prog_13_method_15_code 77 = .ok (.iload 5, 2) := by decide +kernel
theorem d_Mo_mended_79 : decode prog_13_method_15_code 79 = .ok (.lload_n 0, 1) := by decide +kernel
theorem d_Mo_mended_80 : decode prog_13_method_15_code 80 = .ok (.iload_n 2, 1) := by decide +kernel
theorem d_Mo_mended_81 : decode prog_13_method_15_code 81 = .ok (.iconst 2, 1) := by decide +kernel
theorem d_Mo_mended_82 : decode prog_13_method_15_code 82 = .ok (.isub, 1) := by decide +kernel
theorem d_Mo_mended_83 : decode prog_13_method_15_code 83 = .ok (.invokestatic 75, 3) := by decide +kernel
theorem d_Mo_mended_86 : decode prog_13_method_15_code 86 = .ok (.if_icmp .ne 27, 3) := by decide +kernel
theorem d_Mo_mended_89 : decode prog_13_method_15_code 89 = .ok (.lload_n 0, 1) := by decide +kernel
theorem d_Mo_mended_90 : decode prog_13_method_15_code 90 = .ok (.iload_n 2, 1) := by decide +kernel
theorem d_Mo_mended_91 : decode prog_13_method_15_code 91 = .ok (.iconst 1, 1) := by decide +kernel
theorem d_Mo_mended_92 : decode prog_13_method_15_code 92 = .ok (.isub, 1) := by decide +kernel
theorem d_Mo_mended_93 : decode prog_13_method_15_code 93 = .ok (.invokestatic 79, 3) := by decide +kernel
theorem d_Mo_mended_96 : decode prog_13_method_15_code 96 = .ok (.ifCond .ne 17, 3) := by decide +kernel
theorem d_Mo_mended_99 : decode prog_13_method_15_code 99 = .ok (.lload_n 0, 1) := by decide +kernel
theorem d_Mo_mended_100 : decode prog_13_method_15_code 100 = .ok (.iload_n 2, 1) := by decide +kernel
theorem d_Mo_mended_101 : decode prog_13_method_15_code 101 = .ok (.iconst 2, 1) := by decide +kernel
theorem d_Mo_mended_102 : decode prog_13_method_15_code 102 = .ok (.isub, 1) := by decide +kernel
theorem d_Mo_mended_103 : decode prog_13_method_15_code 103 = .ok (.invokestatic 79, 3) := by decide +kernel
theorem d_Mo_mended_106 : decode prog_13_method_15_code 106 = .ok (.ifCond .ne 7, 3) := by decide +kernel
theorem d_Mo_mended_109 : decode prog_13_method_15_code 109 = .ok (.iconst 1, 1) := by decide +kernel
theorem d_Mo_mended_110 : decode prog_13_method_15_code 110 = .ok (.goto 4, 3) := by decide +kernel
theorem d_Mo_mended_113 : decode prog_13_method_15_code 113 = .ok (.iconst 0, 1) := by decide +kernel
theorem d_Mo_mended_114 : decode prog_13_method_15_code 114 = .ok (.istore 6, 2) := by decide +kernel
theorem d_Mo_mended_116 : decode prog_13_method_15_code 116 = .ok (.iload 6, 2) := by decide +kernel
theorem d_Mo_mended_118 : decode prog_13_method_15_code 118 = .ok (.ifCond .eq 30, 3) := by decide +kernel
theorem d_Mo_mended_121 : decode prog_13_method_15_code 121 = .ok (.iload 5, 2) := by decide +kernel
theorem d_Mo_mended_123 : decode prog_13_method_15_code 123 = .ok (.bipush 12, 2) := by decide +kernel
theorem d_Mo_mended_125 : decode prog_13_method_15_code 125 = .ok (.if_icmp .eq 23, 3) := by decide +kernel
theorem d_Mo_mended_128 : decode prog_13_method_15_code 128 = .ok (.iload 5, 2) := by decide +kernel
theorem d_Mo_mended_130 : decode prog_13_method_15_code 130 = .ok (.bipush 19, 2) := by decide +kernel
theorem d_Mo_mended_132 : decode prog_13_method_15_code 132 = .ok (.if_icmp .eq 16, 3) := by decide +kernel
theorem d_Mo_mended_135 : decode prog_13_method_15_code 135 = .ok (.iload 5, 2) := by decide +kernel
theorem d_Mo_mended_137 : decode prog_13_method_15_code 137 = .ok (.bipush 26, 2) := by decide +kernel
theorem d_Mo_mended_139 : decode prog_13_method_15_code 139 = .ok (.if_icmp .eq 9, 3) := by decide +kernel
theorem d_Mo_mended_142 : decode prog_13_method_15_code 142 = .ok (.lload_n 0, 1) := by decide +kernel
theorem d_Mo_mended_143 : decode prog_13_method_15_code 143 = .ok (.iconst 1, 1) := by decide +kernel
theorem d_Mo_mended_144 : decode prog_13_method_15_code 144 = .ok (.invokestatic 95, 3) := by decide +kernel
theorem d_Mo_mended_147 : decode prog_13_method_15_code 147 = .ok (.lreturn, 1) := by decide +kernel
theorem d_Mo_mended_148 : decode prog_13_method_15_code 148 = .ok (.lload_n 0, 1) := by decide +kernel
theorem d_Mo_mended_149 : decode prog_13_method_15_code 149 = .ok (.iload_n 2, 1) := by decide +kernel
theorem d_Mo_mended_150 : decode prog_13_method_15_code 150 = .ok (.invokestatic 100, 3) := by decide +kernel
theorem d_Mo_mended_153 : decode prog_13_method_15_code 153 = .ok (.iconst 1, 1) := by decide +kernel
theorem d_Mo_mended_154 : decode prog_13_method_15_code 154 = .ok (.if_icmp .ne 14, 3) := by decide +kernel
theorem d_Mo_mended_157 : decode prog_13_method_15_code 157 = .ok (.lload_n 0, 1) := by decide +kernel
theorem d_Mo_mended_158 : decode prog_13_method_15_code 158 = .ok (.invokestatic 103, 3) := by decide +kernel
theorem d_Mo_mended_161 : decode prog_13_method_15_code 161 = .ok (.ifCond .eq 7, 3) := by decide +kernel
theorem d_Mo_mended_164 : decode prog_13_method_15_code 164 = .ok (.lload_n 3, 1) := by decide +kernel
theorem d_Mo_mended_165 : decode prog_13_method_15_code 165 = .ok (.goto 4, 3) := by decide +kernel
theorem d_Mo_mended_168 : decode prog_13_method_15_code 168 = .ok (.lload_n 0, 1) := by decide +kernel
theorem d_Mo_mended_169 : decode prog_13_method_15_code 169 = .ok (.lreturn, 1) := by decide +kernel
theorem d_Mo_shortEnd_0 : decode prog_13_method_14_code 0 = .ok (.lload_n 0, 1) := by decide +kernel
theorem d_Mo_shortEnd_1 : decode prog_13_method_14_code 1 = .ok (.invokestatic 71, 3) := by decide +kernel
theorem d_Mo_shortEnd_4 : decode prog_13_method_14_code 4 = .ok (.istore_n 2, 1) := by decide +kernel
theorem d_Mo_shortEnd_5 : decode prog_13_method_14_code 5 = .ok (.iload_n 2, 1) := by decide +kernel
theorem d_Mo_shortEnd_6 : decode prog_13_method_14_code 6 = .ok (.iconst 3, 1) := by decide +kernel
theorem d_Mo_shortEnd_7 : decode prog_13_method_14_code 7 = .ok (.if_icmp .lt 33, 3) := by decide +kernel
theorem d_Mo_shortEnd_10 : decode prog_13_method_14_code 10 = .ok (.lload_n 0, 1) := by decide +kernel
theorem d_Mo_shortEnd_11 : decode prog_13_method_14_code 11 = .ok (.iload_n 2, 1) := by decide +kernel
theorem d_Mo_shortEnd_12 : decode prog_13_method_14_code 12 = .ok (.iconst 3, 1) := by decide +kernel
theorem d_Mo_shortEnd_13 : decode prog_13_method_14_code 13 = .ok (.isub, 1) := by decide +kernel
theorem d_Mo_shortEnd_14 : decode prog_13_method_14_code 14 = .ok (.invokestatic 79, 3) := by decide +kernel
theorem d_Mo_shortEnd_17 : decode prog_13_method_14_code 17 = .ok (.ifCond .ne 23, 3) := by decide +kernel
theorem d_Mo_shortEnd_20 : decode prog_13_method_14_code 20 = .ok (.lload_n 0, 1) := by decide +kernel
theorem d_Mo_shortEnd_21 : decode prog_13_method_14_code 21 = .ok (.iload_n 2, 1) := by decide +kernel
theorem d_Mo_shortEnd_22 : decode prog_13_method_14_code 22 = .ok (.iconst 2, 1) := by decide +kernel
theorem d_Mo_shortEnd_23 : decode prog_13_method_14_code 23 = .ok (.isub, 1) := by decide +kernel
theorem d_Mo_shortEnd_24 : decode prog_13_method_14_code 24 = .ok (.invokestatic 79, 3) := by decide +kernel
theorem d_Mo_shortEnd_27 : decode prog_13_method_14_code 27 = .ok (.ifCond .eq 13, 3) := by decide +kernel
theorem d_Mo_shortEnd_30 : decode prog_13_method_14_code 30 = .ok (.lload_n 0, 1) := by decide +kernel
theorem d_Mo_shortEnd_31 : decode prog_13_method_14_code 31 = .ok (.iload_n 2, 1) := by decide +kernel
theorem d_Mo_shortEnd_32 : decode prog_13_method_14_code 32 = .ok (.iconst 1, 1) := by decide +kernel
theorem d_Mo_shortEnd_33 : decode prog_13_method_14_code 33 = .ok (.isub, 1) := by decide +kernel
theorem d_Mo_shortEnd_34 : decode prog_13_method_14_code 34 = .ok (.invokestatic 79, 3) := by decide +kernel
theorem d_Mo_shortEnd_37 : decode prog_13_method_14_code 37 = .ok (.ifCond .eq 5, 3) := by decide +kernel
theorem d_Mo_shortEnd_40 : decode prog_13_method_14_code 40 = .ok (.iconst 0, 1) := by decide +kernel
theorem d_Mo_shortEnd_41 : decode prog_13_method_14_code 41 = .ok (.ireturn, 1) := by decide +kernel
theorem d_Mo_shortEnd_42 : decode prog_13_method_14_code 42 = .ok (.lload_n 0, 1) := by decide +kernel
theorem d_Mo_shortEnd_43 : decode prog_13_method_14_code 43 = .ok (.iload_n 2, 1) := by decide +kernel
theorem d_Mo_shortEnd_44 : decode prog_13_method_14_code 44 = .ok (.iconst 1, 1) := by decide +kernel
theorem d_Mo_shortEnd_45 : decode prog_13_method_14_code 45 = .ok (.isub, 1) := by decide +kernel
theorem d_Mo_shortEnd_46 : decode prog_13_method_14_code 46 = .ok (.invokestatic 75, 3) := by decide +kernel
theorem d_Mo_shortEnd_49 : decode prog_13_method_14_code 49 = .ok (.bipush 23, 2) := by decide +kernel
theorem d_Mo_shortEnd_51 : decode prog_13_method_14_code 51 = .ok (.if_icmp .lt 15, 3) := by decide +kernel
theorem d_Mo_shortEnd_54 : decode prog_13_method_14_code 54 = .ok (.lload_n 0, 1) := by decide +kernel
theorem d_Mo_shortEnd_55 : decode prog_13_method_14_code 55 = .ok (.iload_n 2, 1) := by decide +kernel
theorem d_Mo_shortEnd_56 : decode prog_13_method_14_code 56 = .ok (.iconst 1, 1) := by decide +kernel
theorem d_Mo_shortEnd_57 : decode prog_13_method_14_code 57 = .ok (.isub, 1) := by decide +kernel
theorem d_Mo_shortEnd_58 : decode prog_13_method_14_code 58 = .ok (.invokestatic 75, 3) := by decide +kernel
theorem d_Mo_shortEnd_61 : decode prog_13_method_14_code 61 = .ok (.bipush 26, 2) := by decide +kernel
theorem d_Mo_shortEnd_63 : decode prog_13_method_14_code 63 = .ok (.if_icmp .ne 7, 3) := by decide +kernel
theorem d_Mo_shortEnd_66 : decode prog_13_method_14_code 66 = .ok (.iconst 1, 1) := by decide +kernel
theorem d_Mo_shortEnd_67 : decode prog_13_method_14_code 67 = .ok (.goto 4, 3) := by decide +kernel
theorem d_Mo_shortEnd_70 : decode prog_13_method_14_code 70 = .ok (.iconst 0, 1) := by decide +kernel
theorem d_Mo_shortEnd_71 : decode prog_13_method_14_code 71 = .ok (.ireturn, 1) := by decide +kernel
theorem d_Mo_termOf_0 : decode prog_13_method_19_code 0 = .ok (.lload_n 0, 1) := by decide +kernel
theorem d_Mo_termOf_1 : decode prog_13_method_19_code 1 = .ok (.invokestatic 128, 3) := by decide +kernel
theorem d_Mo_termOf_4 : decode prog_13_method_19_code 4 = .ok (.ifCond .eq 7, 3) := by decide +kernel
theorem d_Mo_termOf_7 : decode prog_13_method_19_code 7 = .ok (.lconst 0, 1) := by decide +kernel
theorem d_Mo_termOf_8 : decode prog_13_method_19_code 8 = .ok (.goto 7, 3) := by decide +kernel
theorem d_Mo_termOf_11 : decode prog_13_method_19_code 11 = .ok (.lload_n 0, 1) := by decide +kernel
theorem d_Mo_termOf_12 : decode prog_13_method_19_code 12 = .ok (.invokestatic 125, 3) := by decide +kernel
theorem d_Mo_termOf_15 : decode prog_13_method_19_code 15 = .ok (.lreturn, 1) := by decide +kernel
theorem d_Mo_isStop_0 : decode prog_13_method_12_code 0 = .ok (.lload_n 0, 1) := by decide +kernel
theorem d_Mo_isStop_1 : decode prog_13_method_12_code 1 = .ok (.iconst 1, 1) := by decide +kernel
theorem d_Mo_isStop_2 : decode prog_13_method_12_code 2 = .ok (.bipush 14, 2) := by decide +kernel
theorem d_Mo_isStop_4 : decode prog_13_method_12_code 4 = .ok (.iconst 0, 1) := by decide +kernel
theorem d_Mo_isStop_5 : decode prog_13_method_12_code 5 = .ok (.iconst 0, 1) := by decide +kernel
theorem d_Mo_isStop_6 : decode prog_13_method_12_code 6 = .ok (.invokestatic 87, 3) := by decide +kernel
theorem d_Mo_isStop_9 : decode prog_13_method_12_code 9 = .ok (.lcmp, 1) := by decide +kernel
theorem d_Mo_isStop_10 : decode prog_13_method_12_code 10 = .ok (.ifCond .eq 59, 3) := by decide +kernel
theorem d_Mo_isStop_13 : decode prog_13_method_12_code 13 = .ok (.lload_n 0, 1) := by decide +kernel
theorem d_Mo_isStop_14 : decode prog_13_method_12_code 14 = .ok (.bipush 9, 2) := by decide +kernel
theorem d_Mo_isStop_16 : decode prog_13_method_12_code 16 = .ok (.bipush 14, 2) := by decide +kernel
theorem d_Mo_isStop_18 : decode prog_13_method_12_code 18 = .ok (.iconst 0, 1) := by decide +kernel
theorem d_Mo_isStop_19 : decode prog_13_method_12_code 19 = .ok (.iconst 0, 1) := by decide +kernel
theorem d_Mo_isStop_20 : decode prog_13_method_12_code 20 = .ok (.invokestatic 87, 3) := by decide +kernel
theorem d_Mo_isStop_23 : decode prog_13_method_12_code 23 = .ok (.lcmp, 1) := by decide +kernel
theorem d_Mo_isStop_24 : decode prog_13_method_12_code 24 = .ok (.ifCond .eq 45, 3) := by decide +kernel
theorem d_Mo_isStop_27 : decode prog_13_method_12_code 27 = .ok (.lload_n 0, 1) := by decide +kernel
theorem d_Mo_isStop_28 : decode prog_13_method_12_code 28 = .ok (.bipush 15, 2) := by decide +kernel
theorem d_Mo_isStop_30 : decode prog_13_method_12_code 30 = .ok (.bipush 6, 2) := by decide +kernel
theorem d_Mo_isStop_32 : decode prog_13_method_12_code 32 = .ok (.iconst 0, 1) := by decide +kernel
theorem d_Mo_isStop_33 : decode prog_13_method_12_code 33 = .ok (.iconst 0, 1) := by decide +kernel
theorem d_Mo_isStop_34 : decode prog_13_method_12_code 34 = .ok (.invokestatic 87, 3) := by decide +kernel
theorem d_Mo_isStop_37 : decode prog_13_method_12_code 37 = .ok (.lcmp, 1) := by decide +kernel
theorem d_Mo_isStop_38 : decode prog_13_method_12_code 38 = .ok (.ifCond .eq 31, 3) := by decide +kernel
theorem d_Mo_isStop_41 : decode prog_13_method_12_code 41 = .ok (.lload_n 0, 1) := by decide +kernel
theorem d_Mo_isStop_42 : decode prog_13_method_12_code 42 = .ok (.bipush 15, 2) := by decide +kernel
theorem d_Mo_isStop_44 : decode prog_13_method_12_code 44 = .ok (.bipush 18, 2) := by decide +kernel
theorem d_Mo_isStop_46 : decode prog_13_method_12_code 46 = .ok (.iconst 0, 1) := by decide +kernel
theorem d_Mo_isStop_47 : decode prog_13_method_12_code 47 = .ok (.iconst 0, 1) := by decide +kernel
theorem d_Mo_isStop_48 : decode prog_13_method_12_code 48 = .ok (.invokestatic 87, 3) := by decide +kernel
theorem d_Mo_isStop_51 : decode prog_13_method_12_code 51 = .ok (.lcmp, 1) := by decide +kernel
theorem d_Mo_isStop_52 : decode prog_13_method_12_code 52 = .ok (.ifCond .eq 17, 3) := by decide +kernel
theorem d_Mo_isStop_55 : decode prog_13_method_12_code 55 = .ok (.lload_n 0, 1) := by decide +kernel
theorem d_Mo_isStop_56 : decode prog_13_method_12_code 56 = .ok (.bipush 20, 2) := by decide +kernel
theorem d_Mo_isStop_58 : decode prog_13_method_12_code 58 = .ok (.bipush 15, 2) := by decide +kernel
theorem d_Mo_isStop_60 : decode prog_13_method_12_code 60 = .ok (.iconst 0, 1) := by decide +kernel
theorem d_Mo_isStop_61 : decode prog_13_method_12_code 61 = .ok (.iconst 0, 1) := by decide +kernel
theorem d_Mo_isStop_62 : decode prog_13_method_12_code 62 = .ok (.invokestatic 87, 3) := by decide +kernel
theorem d_Mo_isStop_65 : decode prog_13_method_12_code 65 = .ok (.lcmp, 1) := by decide +kernel
theorem d_Mo_isStop_66 : decode prog_13_method_12_code 66 = .ok (.ifCond .ne 7, 3) := by decide +kernel
theorem d_Mo_isStop_69 : decode prog_13_method_12_code 69 = .ok (.iconst 1, 1) := by decide +kernel
theorem d_Mo_isStop_70 : decode prog_13_method_12_code 70 = .ok (.goto 4, 3) := by decide +kernel
theorem d_Mo_isStop_73 : decode prog_13_method_12_code 73 = .ok (.iconst 0, 1) := by decide +kernel
theorem d_Mo_isStop_74 : decode prog_13_method_12_code 74 = .ok (.istore_n 2, 1) := by decide +kernel
theorem d_Mo_isStop_75 : decode prog_13_method_12_code 75 = .ok (.lload_n 0, 1) := by decide +kernel
theorem d_Mo_isStop_76 : decode prog_13_method_12_code 76 = .ok (.lconst 1, 1) := by decide +kernel
theorem d_Mo_isStop_77 : decode prog_13_method_12_code 77 = .ok (.lcmp, 1) := by decide +kernel
theorem d_Mo_isStop_78 : decode prog_13_method_12_code 78 = .ok (.ifCond .eq 34, 3) := by decide +kernel
theorem d_Mo_isStop_81 : decode prog_13_method_12_code 81 = .ok (.iload_n 2, 1) := by decide +kernel
theorem d_Mo_isStop_82 : decode prog_13_method_12_code 82 = .ok (.ifCond .ne 30, 3) := by decide +kernel
theorem d_Mo_isStop_85 : decode prog_13_method_12_code 85 = .ok (.lload_n 0, 1) := by decide +kernel
theorem d_Mo_isStop_86 : decode prog_13_method_12_code 86 = .ok (.iconst 1, 1) := by decide +kernel
theorem d_Mo_isStop_87 : decode prog_13_method_12_code 87 = .ok (.bipush 14, 2) := by decide +kernel
theorem d_Mo_isStop_89 : decode prog_13_method_12_code 89 = .ok (.iconst 4, 1) := by decide +kernel
theorem d_Mo_isStop_90 : decode prog_13_method_12_code 90 = .ok (.iconst 0, 1) := by decide +kernel
theorem d_Mo_isStop_91 : decode prog_13_method_12_code 91 = .ok (.invokestatic 87, 3) := by decide +kernel
theorem d_Mo_isStop_94 : decode prog_13_method_12_code 94 = .ok (.lcmp, 1) := by decide +kernel
theorem d_Mo_isStop_95 : decode prog_13_method_12_code 95 = .ok (.ifCond .eq 17, 3) := by decide +kernel
theorem d_Mo_isStop_98 : decode prog_13_method_12_code 98 = .ok (.lload_n 0, 1) := by decide +kernel
theorem d_Mo_isStop_99 : decode prog_13_method_12_code 99 = .ok (.bipush 20, 2) := by decide +kernel
theorem d_Mo_isStop_101 : decode prog_13_method_12_code 101 = .ok (.bipush 8, 2) := by decide +kernel
theorem d_Mo_isStop_103 : decode prog_13_method_12_code 103 = .ok (.iconst 5, 1) := by decide +kernel
theorem d_Mo_isStop_104 : decode prog_13_method_12_code 104 = .ok (.iconst 0, 1) := by decide +kernel
theorem d_Mo_isStop_105 : decode prog_13_method_12_code 105 = .ok (.invokestatic 87, 3) := by decide +kernel
theorem d_Mo_isStop_108 : decode prog_13_method_12_code 108 = .ok (.lcmp, 1) := by decide +kernel
theorem d_Mo_isStop_109 : decode prog_13_method_12_code 109 = .ok (.ifCond .ne 7, 3) := by decide +kernel
theorem d_Mo_isStop_112 : decode prog_13_method_12_code 112 = .ok (.iconst 1, 1) := by decide +kernel
theorem d_Mo_isStop_113 : decode prog_13_method_12_code 113 = .ok (.goto 4, 3) := by decide +kernel
theorem d_Mo_isStop_116 : decode prog_13_method_12_code 116 = .ok (.iconst 0, 1) := by decide +kernel
theorem d_Mo_isStop_117 : decode prog_13_method_12_code 117 = .ok (.ireturn, 1) := by decide +kernel
end
section
theorem d_Mo_init_0 : decode prog_13_method_1_code 0 = .ok (.aload_n 0, 1) := by decide +kernel
theorem d_Mo_init_1 : decode prog_13_method_1_code 1 = .ok (.invokespecial 1, 3) := by decide +kernel
theorem d_Mo_init_4 : decode prog_13_method_1_code 4 = .ok (.aload_n 0, 1) := by decide +kernel
theorem d_Mo_init_5 : decode prog_13_method_1_code 5 = .ok (.bipush 12, 2) := by decide +kernel
theorem d_Mo_init_7 : decode prog_13_method_1_code 7 = .ok (.newarray .long, 2) := by decide +kernel
theorem d_Mo_init_9 : decode prog_13_method_1_code 9 = .ok (.putfield 7, 3) := by decide +kernel
theorem d_Mo_init_12 : decode prog_13_method_1_code 12 = .ok (.aload_n 0, 1) := by decide +kernel
theorem d_Mo_init_13 : decode prog_13_method_1_code 13 = .ok (.bipush 12, 2) := by decide +kernel
theorem d_Mo_init_15 : decode prog_13_method_1_code 15 = .ok (.newarray .int, 2) := by decide +kernel
theorem d_Mo_init_17 : decode prog_13_method_1_code 17 = .ok (.putfield 13, 3) := by decide +kernel
theorem d_Mo_init_20 : decode prog_13_method_1_code 20 = .ok (.aload_n 0, 1) := by decide +kernel
theorem d_Mo_init_21 : decode prog_13_method_1_code 21 = .ok (.bipush 12, 2) := by decide +kernel
theorem d_Mo_init_23 : decode prog_13_method_1_code 23 = .ok (.newarray .int, 2) := by decide +kernel
theorem d_Mo_init_25 : decode prog_13_method_1_code 25 = .ok (.putfield 17, 3) := by decide +kernel
theorem d_Mo_init_28 : decode prog_13_method_1_code 28 = .ok (.aload_n 0, 1) := by decide +kernel
theorem d_Mo_init_29 : decode prog_13_method_1_code 29 = .ok (.sipush 144, 3) := by decide +kernel
theorem d_Mo_init_32 : decode prog_13_method_1_code 32 = .ok (.newarray .long, 2) := by decide +kernel
theorem d_Mo_init_34 : decode prog_13_method_1_code 34 = .ok (.putfield 20, 3) := by decide +kernel
theorem d_Mo_init_37 : decode prog_13_method_1_code 37 = .ok (.aload_n 0, 1) := by decide +kernel
theorem d_Mo_init_38 : decode prog_13_method_1_code 38 = .ok (.bipush 80, 2) := by decide +kernel
theorem d_Mo_init_40 : decode prog_13_method_1_code 40 = .ok (.newarray .int, 2) := by decide +kernel
theorem d_Mo_init_42 : decode prog_13_method_1_code 42 = .ok (.putfield 23, 3) := by decide +kernel
theorem d_Mo_init_45 : decode prog_13_method_1_code 45 = .ok (.aload_n 0, 1) := by decide +kernel
theorem d_Mo_init_46 : decode prog_13_method_1_code 46 = .ok (.bipush 80, 2) := by decide +kernel
theorem d_Mo_init_48 : decode prog_13_method_1_code 48 = .ok (.newarray .int, 2) := by decide +kernel
theorem d_Mo_init_50 : decode prog_13_method_1_code 50 = .ok (.putfield 26, 3) := by decide +kernel
theorem d_Mo_init_53 : decode prog_13_method_1_code 53 = .ok (.aload_n 0, 1) := by decide +kernel
theorem d_Mo_init_54 : decode prog_13_method_1_code 54 = .ok (.bipush 80, 2) := by decide +kernel
theorem d_Mo_init_56 : decode prog_13_method_1_code 56 = .ok (.newarray .boolean, 2) := by decide +kernel
theorem d_Mo_init_58 : decode prog_13_method_1_code 58 = .ok (.putfield 29, 3) := by decide +kernel
theorem d_Mo_init_61 : decode prog_13_method_1_code 61 = .ok (.aload_n 0, 1) := by decide +kernel
theorem d_Mo_init_62 : decode prog_13_method_1_code 62 = .ok (.bipush 80, 2) := by decide +kernel
theorem d_Mo_init_64 : decode prog_13_method_1_code 64 = .ok (.newarray .int, 2) := by decide +kernel
theorem d_Mo_init_66 : decode prog_13_method_1_code 66 = .ok (.putfield 33, 3) := by decide +kernel
theorem d_Mo_init_69 : decode prog_13_method_1_code 69 = .ok (.aload_n 0, 1) := by decide +kernel
theorem d_Mo_init_70 : decode prog_13_method_1_code 70 = .ok (.sipush 960, 3) := by decide +kernel
theorem d_Mo_init_73 : decode prog_13_method_1_code 73 = .ok (.newarray .long, 2) := by decide +kernel
theorem d_Mo_init_75 : decode prog_13_method_1_code 75 = .ok (.putfield 36, 3) := by decide +kernel
theorem d_Mo_init_78 : decode prog_13_method_1_code 78 = .ok (.aload_n 0, 1) := by decide +kernel
theorem d_Mo_init_79 : decode prog_13_method_1_code 79 = .ok (.sipush 520, 3) := by decide +kernel
theorem d_Mo_init_82 : decode prog_13_method_1_code 82 = .ok (.newarray .int, 2) := by decide +kernel
theorem d_Mo_init_84 : decode prog_13_method_1_code 84 = .ok (.putfield 39, 3) := by decide +kernel
theorem d_Mo_init_87 : decode prog_13_method_1_code 87 = .ok (.aload_n 0, 1) := by decide +kernel
theorem d_Mo_init_88 : decode prog_13_method_1_code 88 = .ok (.sipush 520, 3) := by decide +kernel
theorem d_Mo_init_91 : decode prog_13_method_1_code 91 = .ok (.newarray .long, 2) := by decide +kernel
theorem d_Mo_init_93 : decode prog_13_method_1_code 93 = .ok (.putfield 42, 3) := by decide +kernel
theorem d_Mo_init_96 : decode prog_13_method_1_code 96 = .ok (.aload_n 0, 1) := by decide +kernel
theorem d_Mo_init_97 : decode prog_13_method_1_code 97 = .ok (.bipush 8, 2) := by decide +kernel
theorem d_Mo_init_99 : decode prog_13_method_1_code 99 = .ok (.newarray .boolean, 2) := by decide +kernel
theorem d_Mo_init_101 : decode prog_13_method_1_code 101 = .ok (.putfield 45, 3) := by decide +kernel
theorem d_Mo_init_104 : decode prog_13_method_1_code 104 = .ok (.aload_n 0, 1) := by decide +kernel
theorem d_Mo_init_105 : decode prog_13_method_1_code 105 = .ok (.bipush 8, 2) := by decide +kernel
theorem d_Mo_init_107 : decode prog_13_method_1_code 107 = .ok (.newarray .int, 2) := by decide +kernel
theorem d_Mo_init_109 : decode prog_13_method_1_code 109 = .ok (.putfield 48, 3) := by decide +kernel
theorem d_Mo_init_112 : decode prog_13_method_1_code 112 = .ok (.aload_n 0, 1) := by decide +kernel
theorem d_Mo_init_113 : decode prog_13_method_1_code 113 = .ok (.bipush 8, 2) := by decide +kernel
theorem d_Mo_init_115 : decode prog_13_method_1_code 115 = .ok (.newarray .boolean, 2) := by decide +kernel
theorem d_Mo_init_117 : decode prog_13_method_1_code 117 = .ok (.putfield 51, 3) := by decide +kernel
theorem d_Mo_init_120 : decode prog_13_method_1_code 120 = .ok (.aload_n 0, 1) := by decide +kernel
theorem d_Mo_init_121 : decode prog_13_method_1_code 121 = .ok (.bipush 12, 2) := by decide +kernel
theorem d_Mo_init_123 : decode prog_13_method_1_code 123 = .ok (.newarray .int, 2) := by decide +kernel
theorem d_Mo_init_125 : decode prog_13_method_1_code 125 = .ok (.putfield 54, 3) := by decide +kernel
theorem d_Mo_init_128 : decode prog_13_method_1_code 128 = .ok (.aload_n 0, 1) := by decide +kernel
theorem d_Mo_init_129 : decode prog_13_method_1_code 129 = .ok (.bipush 12, 2) := by decide +kernel
theorem d_Mo_init_131 : decode prog_13_method_1_code 131 = .ok (.newarray .long, 2) := by decide +kernel
theorem d_Mo_init_133 : decode prog_13_method_1_code 133 = .ok (.putfield 57, 3) := by decide +kernel
theorem d_Mo_init_136 : decode prog_13_method_1_code 136 = .ok (.aload_n 0, 1) := by decide +kernel
theorem d_Mo_init_137 : decode prog_13_method_1_code 137 = .ok (.bipush 12, 2) := by decide +kernel
theorem d_Mo_init_139 : decode prog_13_method_1_code 139 = .ok (.newarray .int, 2) := by decide +kernel
theorem d_Mo_init_141 : decode prog_13_method_1_code 141 = .ok (.putfield 60, 3) := by decide +kernel
theorem d_Mo_init_144 : decode prog_13_method_1_code 144 = .ok (.aload_n 0, 1) := by decide +kernel
theorem d_Mo_init_145 : decode prog_13_method_1_code 145 = .ok (.bipush 12, 2) := by decide +kernel
theorem d_Mo_init_147 : decode prog_13_method_1_code 147 = .ok (.newarray .long, 2) := by decide +kernel
theorem d_Mo_init_149 : decode prog_13_method_1_code 149 = .ok (.putfield 63, 3) := by decide +kernel
theorem d_Mo_init_152 : decode prog_13_method_1_code 152 = .ok (.aload_n 0, 1) := by decide +kernel
theorem d_Mo_init_153 : decode prog_13_method_1_code 153 = .ok (.bipush 12, 2) := by decide +kernel
theorem d_Mo_init_155 : decode prog_13_method_1_code 155 = .ok (.newarray .boolean, 2) := by decide +kernel
theorem d_Mo_init_157 : decode prog_13_method_1_code 157 = .ok (.putfield 66, 3) := by decide +kernel
theorem d_Mo_init_160 : decode prog_13_method_1_code 160 = .ok (.return_, 1) := by decide +kernel
theorem d_Mo_stem_0 : decode prog_13_method_18_code 0 = .ok (.lload_n 1, 1) := by decide +kernel
theorem d_Mo_stem_1 : decode prog_13_method_18_code 1 = .ok (.invokestatic 122, 3) := by decide +kernel
theorem d_Mo_stem_4 : decode prog_13_method_18_code 4 = .ok (.ifCond .eq 10, 3) := by decide +kernel
theorem d_Mo_stem_7 : decode prog_13_method_18_code 7 = .ok (.lload_n 1, 1) := by decide +kernel
theorem d_Mo_stem_8 : decode prog_13_method_18_code 8 = .ok (.invokestatic 125, 3) := by decide +kernel
theorem d_Mo_stem_11 : decode prog_13_method_18_code 11 = .ok (.goto 4, 3) := by decide +kernel
theorem d_Mo_stem_14 : decode prog_13_method_18_code 14 = .ok (.lconst 0, 1) := by decide +kernel
theorem d_Mo_stem_15 : decode prog_13_method_18_code 15 = .ok (.lreturn, 1) := by decide +kernel
theorem d_Mo_feed_0 : decode prog_13_method_20_code 0 = .ok (.aload_n 0, 1) := by decide +kernel
theorem d_Mo_feed_1 : decode prog_13_method_20_code 1 = .ok (.getfield 131, 3) := by decide +kernel
theorem d_Mo_feed_4 : decode prog_13_method_20_code 4 = .ok (.ifCond .eq 6, 3) := by decide +kernel
theorem d_Mo_feed_7 : decode prog_13_method_20_code 7 = .ok (.bipush (-9), 2) := by decide +kernel
theorem d_Mo_feed_9 : decode prog_13_method_20_code 9 = .ok (.ireturn, 1) := by decide +kernel
theorem d_Mo_feed_10 : decode prog_13_method_20_code 10 = .ok (.lload_n 1, 1) := by decide +kernel
theorem d_Mo_feed_11 : decode prog_13_method_20_code 11 = .ok (.invokestatic 122, 3) := by decide +kernel
theorem d_Mo_feed_14 : decode prog_13_method_20_code 14 = .ok (.ifCond .eq 12, 3) := by decide +kernel
theorem d_Mo_feed_17 : decode prog_13_method_20_code 17 = .ok (.aload_n 0, 1) := by decide +kernel
theorem d_Mo_feed_18 : decode prog_13_method_20_code 18 = .ok (.getfield 135, 3) := by decide +kernel
theorem d_Mo_feed_21 : decode prog_13_method_20_code 21 = .ok (.bipush 12, 2) := by decide +kernel
theorem d_Mo_feed_23 : decode prog_13_method_20_code 23 = .ok (.if_icmp .ne 5, 3) := by decide +kernel
theorem d_Mo_feed_26 : decode prog_13_method_20_code 26 = .ok (.iconst (-1), 1) := by decide +kernel
theorem d_Mo_feed_27 : decode prog_13_method_20_code 27 = .ok (.ireturn, 1) := by decide +kernel
theorem d_Mo_feed_28 : decode prog_13_method_20_code 28 = .ok (.aload_n 0, 1) := by decide +kernel
theorem d_Mo_feed_29 : decode prog_13_method_20_code 29 = .ok (.getfield 7, 3) := by decide +kernel
theorem d_Mo_feed_32 : decode prog_13_method_20_code 32 = .ok (.aload_n 0, 1) := by decide +kernel
theorem d_Mo_feed_33 : decode prog_13_method_20_code 33 = .ok (.getfield 135, 3) := by decide +kernel
theorem d_Mo_feed_36 : decode prog_13_method_20_code 36 = .ok (.lload_n 1, 1) := by decide +kernel
theorem d_Mo_feed_37 : decode prog_13_method_20_code 37 = .ok (.invokestatic 139, 3) := by decide +kernel
theorem d_Mo_feed_40 : decode prog_13_method_20_code 40 = .ok (.lastore, 1) := by decide +kernel
theorem d_Mo_feed_41 : decode prog_13_method_20_code 41 = .ok (.aload_n 0, 1) := by decide +kernel
theorem d_Mo_feed_42 : decode prog_13_method_20_code 42 = .ok (.dup, 1) := by decide +kernel
theorem d_Mo_feed_43 : decode prog_13_method_20_code 43 = .ok (.getfield 135, 3) := by decide +kernel
theorem d_Mo_feed_46 : decode prog_13_method_20_code 46 = .ok (.iconst 1, 1) := by decide +kernel
theorem d_Mo_feed_47 : decode prog_13_method_20_code 47 = .ok (.iadd, 1) := by decide +kernel
theorem d_Mo_feed_48 : decode prog_13_method_20_code 48 = .ok (.putfield 135, 3) := by decide +kernel
theorem d_Mo_feed_51 : decode prog_13_method_20_code 51 = .ok (.aload_n 0, 1) := by decide +kernel
theorem d_Mo_feed_52 : decode prog_13_method_20_code 52 = .ok (.getfield 135, 3) := by decide +kernel
theorem d_Mo_feed_55 : decode prog_13_method_20_code 55 = .ok (.ireturn, 1) := by decide +kernel
theorem d_Mo_add_0 : decode prog_13_method_23_code 0 = .ok (.aload_n 0, 1) := by decide +kernel
theorem d_Mo_add_1 : decode prog_13_method_23_code 1 = .ok (.getfield 131, 3) := by decide +kernel
theorem d_Mo_add_4 : decode prog_13_method_23_code 4 = .ok (.ifCond .eq 6, 3) := by decide +kernel
theorem d_Mo_add_7 : decode prog_13_method_23_code 7 = .ok (.bipush (-9), 2) := by decide +kernel
theorem d_Mo_add_9 : decode prog_13_method_23_code 9 = .ok (.ireturn, 1) := by decide +kernel
theorem d_Mo_add_10 : decode prog_13_method_23_code 10 = .ok (.iload_n 1, 1) := by decide +kernel
theorem d_Mo_add_11 : decode prog_13_method_23_code 11 = .ok (.ifCond .lt 9, 3) := by decide +kernel
theorem d_Mo_add_14 : decode prog_13_method_23_code 14 = .ok (.iload_n 1, 1) := by decide +kernel
theorem d_Mo_add_15 : decode prog_13_method_23_code 15 = .ok (.bipush 11, 2) := by decide +kernel
theorem d_Mo_add_17 : decode prog_13_method_23_code 17 = .ok (.if_icmp .le 5, 3) := by decide +kernel
theorem d_Mo_add_20 : decode prog_13_method_23_code 20 = .ok (.iconst (-1), 1) := by decide +kernel
theorem d_Mo_add_21 : decode prog_13_method_23_code 21 = .ok (.ireturn, 1) := by decide +kernel
theorem d_Mo_add_22 : decode prog_13_method_23_code 22 = .ok (.aload_n 0, 1) := by decide +kernel
theorem d_Mo_add_23 : decode prog_13_method_23_code 23 = .ok (.getfield 13, 3) := by decide +kernel
theorem d_Mo_add_26 : decode prog_13_method_23_code 26 = .ok (.iload_n 1, 1) := by decide +kernel
theorem d_Mo_add_27 : decode prog_13_method_23_code 27 = .ok (.iconst 1, 1) := by decide +kernel
theorem d_Mo_add_28 : decode prog_13_method_23_code 28 = .ok (.iastore, 1) := by decide +kernel
theorem d_Mo_add_29 : decode prog_13_method_23_code 29 = .ok (.aload_n 0, 1) := by decide +kernel
theorem d_Mo_add_30 : decode prog_13_method_23_code 30 = .ok (.getfield 17, 3) := by decide +kernel
theorem d_Mo_add_33 : decode prog_13_method_23_code 33 = .ok (.iload_n 1, 1) := by decide +kernel
theorem d_Mo_add_34 : decode prog_13_method_23_code 34 = .ok (.aload_n 0, 1) := by decide +kernel
theorem d_Mo_add_35 : decode prog_13_method_23_code 35 = .ok (.getfield 135, 3) := by decide +kernel
theorem d_Mo_add_38 : decode prog_13_method_23_code 38 = .ok (.iastore, 1) := by decide +kernel
theorem d_Mo_add_39 : decode prog_13_method_23_code 39 = .ok (.iconst 0, 1) := by decide +kernel
theorem d_Mo_add_40 : decode prog_13_method_23_code 40 = .ok (.istore_n 2, 1) := by decide +kernel
theorem d_Mo_add_41 : decode prog_13_method_23_code 41 = .ok (.iload_n 2, 1) := by decide +kernel
theorem d_Mo_add_42 : decode prog_13_method_23_code 42 = .ok (.aload_n 0, 1) := by decide +kernel
theorem d_Mo_add_43 : decode prog_13_method_23_code 43 = .ok (.getfield 135, 3) := by decide +kernel
theorem d_Mo_add_46 : decode prog_13_method_23_code 46 = .ok (.if_icmp .ge 26, 3) := by decide +kernel
theorem d_Mo_add_49 : decode prog_13_method_23_code 49 = .ok (.aload_n 0, 1) := by decide +kernel
theorem d_Mo_add_50 : decode prog_13_method_23_code 50 = .ok (.getfield 20, 3) := by decide +kernel
theorem d_Mo_add_53 : decode prog_13_method_23_code 53 = .ok (.bipush 12, 2) := by decide +kernel
theorem d_Mo_add_55 : decode prog_13_method_23_code 55 = .ok (.iload_n 1, 1) := by decide +kernel
theorem d_Mo_add_56 : decode prog_13_method_23_code 56 = .ok (.imul, 1) := by decide +kernel
theorem d_Mo_add_57 : decode prog_13_method_23_code 57 = .ok (.iload_n 2, 1) := by decide +kernel
theorem d_Mo_add_58 : decode prog_13_method_23_code 58 = .ok (.iadd, 1) := by decide +kernel
theorem d_Mo_add_59 : decode prog_13_method_23_code 59 = .ok (.aload_n 0, 1) := by decide +kernel
theorem d_Mo_add_60 : decode prog_13_method_23_code 60 = .ok (.getfield 7, 3) := by decide +kernel
theorem d_Mo_add_63 : decode prog_13_method_23_code 63 = .ok (.iload_n 2, 1) := by decide +kernel
theorem d_Mo_add_64 : decode prog_13_method_23_code 64 = .ok (.laload, 1) := by decide +kernel
theorem d_Mo_add_65 : decode prog_13_method_23_code 65 = .ok (.lastore, 1) := by decide +kernel
theorem d_Mo_add_66 : decode prog_13_method_23_code 66 = .ok (.iinc 2 1, 3) := by decide +kernel
theorem d_Mo_add_69 : decode prog_13_method_23_code 69 = .ok (.goto (-28), 3) := by decide +kernel
theorem d_Mo_add_72 : decode prog_13_method_23_code 72 = .ok (.aload_n 0, 1) := by decide +kernel
theorem d_Mo_add_73 : decode prog_13_method_23_code 73 = .ok (.iconst 0, 1) := by decide +kernel
theorem d_Mo_add_74 : decode prog_13_method_23_code 74 = .ok (.putfield 135, 3) := by decide +kernel
theorem d_Mo_add_77 : decode prog_13_method_23_code 77 = .ok (.bipush 12, 2) := by decide +kernel
theorem d_Mo_add_79 : decode prog_13_method_23_code 79 = .ok (.aload_n 0, 1) := by decide +kernel
theorem d_Mo_add_80 : decode prog_13_method_23_code 80 = .ok (.invokevirtual 142, 3) := by decide +kernel
theorem d_Mo_add_83 : decode prog_13_method_23_code 83 = .ok (.isub, 1) := by decide +kernel
theorem d_Mo_add_84 : decode prog_13_method_23_code 84 = .ok (.ireturn, 1) := by decide +kernel
theorem d_Mo_idle_0 : decode prog_13_method_22_code 0 = .ok (.iconst 0, 1) := by decide +kernel
theorem d_Mo_idle_1 : decode prog_13_method_22_code 1 = .ok (.istore_n 1, 1) := by decide +kernel
theorem d_Mo_idle_2 : decode prog_13_method_22_code 2 = .ok (.iconst 0, 1) := by decide +kernel
theorem d_Mo_idle_3 : decode prog_13_method_22_code 3 = .ok (.istore_n 2, 1) := by decide +kernel
theorem d_Mo_idle_4 : decode prog_13_method_22_code 4 = .ok (.iload_n 2, 1) := by decide +kernel
theorem d_Mo_idle_5 : decode prog_13_method_22_code 5 = .ok (.bipush 12, 2) := by decide +kernel
theorem d_Mo_idle_7 : decode prog_13_method_22_code 7 = .ok (.if_icmp .ge 26, 3) := by decide +kernel
theorem d_Mo_idle_10 : decode prog_13_method_22_code 10 = .ok (.aload_n 0, 1) := by decide +kernel
theorem d_Mo_idle_11 : decode prog_13_method_22_code 11 = .ok (.getfield 13, 3) := by decide +kernel
theorem d_Mo_idle_14 : decode prog_13_method_22_code 14 = .ok (.iload_n 2, 1) := by decide +kernel
theorem d_Mo_idle_15 : decode prog_13_method_22_code 15 = .ok (.iaload, 1) := by decide +kernel
theorem d_Mo_idle_16 : decode prog_13_method_22_code 16 = .ok (.ifCond .ne 9, 3) := by decide +kernel
theorem d_Mo_idle_19 : decode prog_13_method_22_code 19 = .ok (.iload_n 1, 1) := by decide +kernel
theorem d_Mo_idle_20 : decode prog_13_method_22_code 20 = .ok (.iconst 1, 1) := by decide +kernel
theorem d_Mo_idle_21 : decode prog_13_method_22_code 21 = .ok (.iadd, 1) := by decide +kernel
theorem d_Mo_idle_22 : decode prog_13_method_22_code 22 = .ok (.goto 4, 3) := by decide +kernel
theorem d_Mo_idle_25 : decode prog_13_method_22_code 25 = .ok (.iload_n 1, 1) := by decide +kernel
theorem d_Mo_idle_26 : decode prog_13_method_22_code 26 = .ok (.istore_n 1, 1) := by decide +kernel
theorem d_Mo_idle_27 : decode prog_13_method_22_code 27 = .ok (.iinc 2 1, 3) := by decide +kernel
theorem d_Mo_idle_30 : decode prog_13_method_22_code 30 = .ok (.goto (-26), 3) := by decide +kernel
theorem d_Mo_idle_33 : decode prog_13_method_22_code 33 = .ok (.iload_n 1, 1) := by decide +kernel
theorem d_Mo_idle_34 : decode prog_13_method_22_code 34 = .ok (.ireturn, 1) := by decide +kernel
theorem d_Mo_delete_0 : decode prog_13_method_24_code 0 = .ok (.aload_n 0, 1) := by decide +kernel
theorem d_Mo_delete_1 : decode prog_13_method_24_code 1 = .ok (.getfield 131, 3) := by decide +kernel
theorem d_Mo_delete_4 : decode prog_13_method_24_code 4 = .ok (.ifCond .eq 6, 3) := by decide +kernel
theorem d_Mo_delete_7 : decode prog_13_method_24_code 7 = .ok (.bipush (-9), 2) := by decide +kernel
theorem d_Mo_delete_9 : decode prog_13_method_24_code 9 = .ok (.ireturn, 1) := by decide +kernel
theorem d_Mo_delete_10 : decode prog_13_method_24_code 10 = .ok (.iload_n 1, 1) := by decide +kernel
theorem d_Mo_delete_11 : decode prog_13_method_24_code 11 = .ok (.ifCond .lt 9, 3) := by decide +kernel
theorem d_Mo_delete_14 : decode prog_13_method_24_code 14 = .ok (.iload_n 1, 1) := by decide +kernel
theorem d_Mo_delete_15 : decode prog_13_method_24_code 15 = .ok (.bipush 11, 2) := by decide +kernel
theorem d_Mo_delete_17 : decode prog_13_method_24_code 17 = .ok (.if_icmp .le 5, 3) := by decide +kernel
theorem d_Mo_delete_20 : decode prog_13_method_24_code 20 = .ok (.iconst (-1), 1) := by decide +kernel
theorem d_Mo_delete_21 : decode prog_13_method_24_code 21 = .ok (.ireturn, 1) := by decide +kernel
theorem d_Mo_delete_22 : decode prog_13_method_24_code 22 = .ok (.aload_n 0, 1) := by decide +kernel
theorem d_Mo_delete_23 : decode prog_13_method_24_code 23 = .ok (.getfield 13, 3) := by decide +kernel
theorem d_Mo_delete_26 : decode prog_13_method_24_code 26 = .ok (.iload_n 1, 1) := by decide +kernel
theorem d_Mo_delete_27 : decode prog_13_method_24_code 27 = .ok (.iconst 2, 1) := by decide +kernel
theorem d_Mo_delete_28 : decode prog_13_method_24_code 28 = .ok (.iastore, 1) := by decide +kernel
theorem d_Mo_delete_29 : decode prog_13_method_24_code 29 = .ok (.bipush 12, 2) := by decide +kernel
theorem d_Mo_delete_31 : decode prog_13_method_24_code 31 = .ok (.aload_n 0, 1) := by decide +kernel
theorem d_Mo_delete_32 : decode prog_13_method_24_code 32 = .ok (.invokevirtual 142, 3) := by decide +kernel
theorem d_Mo_delete_35 : decode prog_13_method_24_code 35 = .ok (.isub, 1) := by decide +kernel
theorem d_Mo_delete_36 : decode prog_13_method_24_code 36 = .ok (.ireturn, 1) := by decide +kernel
theorem d_Mo_commit_0 : decode prog_13_method_30_code 0 = .ok (.aload_n 0, 1) := by decide +kernel
theorem d_Mo_commit_1 : decode prog_13_method_30_code 1 = .ok (.getfield 131, 3) := by decide +kernel
theorem d_Mo_commit_4 : decode prog_13_method_30_code 4 = .ok (.ifCond .eq 6, 3) := by decide +kernel
theorem d_Mo_commit_7 : decode prog_13_method_30_code 7 = .ok (.bipush (-9), 2) := by decide +kernel
theorem d_Mo_commit_9 : decode prog_13_method_30_code 9 = .ok (.ireturn, 1) := by decide +kernel
theorem d_Mo_commit_10 : decode prog_13_method_30_code 10 = .ok (.aload_n 0, 1) := by decide +kernel
theorem d_Mo_commit_11 : decode prog_13_method_30_code 11 = .ok (.invokevirtual 142, 3) := by decide +kernel
theorem d_Mo_commit_14 : decode prog_13_method_30_code 14 = .ok (.bipush 12, 2) := by decide +kernel
theorem d_Mo_commit_16 : decode prog_13_method_30_code 16 = .ok (.if_icmp .ne 5, 3) := by decide +kernel
theorem d_Mo_commit_19 : decode prog_13_method_30_code 19 = .ok (.iconst (-1), 1) := by decide +kernel
theorem d_Mo_commit_20 : decode prog_13_method_30_code 20 = .ok (.ireturn, 1) := by decide +kernel
theorem d_Mo_commit_21 : decode prog_13_method_30_code 21 = .ok (.aload_n 0, 1) := by decide +kernel
theorem d_Mo_commit_22 : decode prog_13_method_30_code 22 = .ok (.invokevirtual 164, 3) := by decide +kernel
theorem d_Mo_commit_25 : decode prog_13_method_30_code 25 = .ok (.istore_n 1, 1) := by decide +kernel
theorem d_Mo_commit_26 : decode prog_13_method_30_code 26 = .ok (.iload_n 1, 1) := by decide +kernel
theorem d_Mo_commit_27 : decode prog_13_method_30_code 27 = .ok (.ifCond .le 15, 3) := by decide +kernel
theorem d_Mo_commit_30 : decode prog_13_method_30_code 30 = .ok (.aload_n 0, 1) := by decide +kernel
theorem d_Mo_commit_31 : decode prog_13_method_30_code 31 = .ok (.getfield 161, 3) := by decide +kernel
theorem d_Mo_commit_34 : decode prog_13_method_30_code 34 = .ok (.bipush 6, 2) := by decide +kernel
theorem d_Mo_commit_36 : decode prog_13_method_30_code 36 = .ok (.if_icmp .ne 6, 3) := by decide +kernel
theorem d_Mo_commit_39 : decode prog_13_method_30_code 39 = .ok (.bipush (-2), 2) := by decide +kernel
theorem d_Mo_commit_41 : decode prog_13_method_30_code 41 = .ok (.ireturn, 1) := by decide +kernel
theorem d_Mo_commit_42 : decode prog_13_method_30_code 42 = .ok (.iconst 0, 1) := by decide +kernel
theorem d_Mo_commit_43 : decode prog_13_method_30_code 43 = .ok (.istore_n 2, 1) := by decide +kernel
theorem d_Mo_commit_44 : decode prog_13_method_30_code 44 = .ok (.iconst 0, 1) := by decide +kernel
theorem d_Mo_commit_45 : decode prog_13_method_30_code 45 = .ok (.istore_n 3, 1) := by decide +kernel
theorem d_Mo_commit_46 : decode prog_13_method_30_code 46 = .ok (.iload_n 3, 1) := by decide +kernel
theorem d_Mo_commit_47 : decode prog_13_method_30_code 47 = .ok (.aload_n 0, 1) := by decide +kernel
theorem d_Mo_commit_48 : decode prog_13_method_30_code 48 = .ok (.getfield 158, 3) := by decide +kernel
theorem d_Mo_commit_51 : decode prog_13_method_30_code 51 = .ok (.if_icmp .ge 42, 3) := by decide +kernel
theorem d_Mo_commit_54 : decode prog_13_method_30_code 54 = .ok (.iload_n 2, 1) := by decide +kernel
theorem d_Mo_commit_55 : decode prog_13_method_30_code 55 = .ok (.ifCond .ne 26, 3) := by decide +kernel
theorem d_Mo_commit_58 : decode prog_13_method_30_code 58 = .ok (.aload_n 0, 1) := by decide +kernel
theorem d_Mo_commit_59 : decode prog_13_method_30_code 59 = .ok (.getfield 29, 3) := by decide +kernel
theorem d_Mo_commit_62 : decode prog_13_method_30_code 62 = .ok (.iload_n 3, 1) := by decide +kernel
theorem d_Mo_commit_63 : decode prog_13_method_30_code 63 = .ok (.baload, 1) := by decide +kernel
theorem d_Mo_commit_64 : decode prog_13_method_30_code 64 = .ok (.ifCond .ne 21, 3) := by decide +kernel
theorem d_Mo_commit_67 : decode prog_13_method_30_code 67 = .ok (.aload_n 0, 1) := by decide +kernel
theorem d_Mo_commit_68 : decode prog_13_method_30_code 68 = .ok (.getfield 13, 3) := by decide +kernel
theorem d_Mo_commit_71 : decode prog_13_method_30_code 71 = .ok (.aload_n 0, 1) := by decide +kernel
theorem d_Mo_commit_72 : decode prog_13_method_30_code 72 = .ok (.getfield 23, 3) := by decide +kernel
theorem d_Mo_commit_75 : decode prog_13_method_30_code 75 = .ok (.iload_n 3, 1) := by decide +kernel
theorem d_Mo_commit_76 : decode prog_13_method_30_code 76 = .ok (.iaload, 1) := by decide +kernel
theorem d_Mo_commit_77 : decode prog_13_method_30_code 77 = .ok (.iaload, 1) := by decide +kernel
theorem d_Mo_commit_78 : decode prog_13_method_30_code 78 = .ok (.ifCond .eq 7, 3) := by decide +kernel
theorem d_Mo_commit_81 : decode prog_13_method_30_code 81 = .ok (.iconst 1, 1) := by decide +kernel
theorem d_Mo_commit_82 : decode prog_13_method_30_code 82 = .ok (.goto 4, 3) := by decide +kernel
theorem d_Mo_commit_85 : decode prog_13_method_30_code 85 = .ok (.iconst 0, 1) := by decide +kernel
theorem d_Mo_commit_86 : decode prog_13_method_30_code 86 = .ok (.istore_n 2, 1) := by decide +kernel
theorem d_Mo_commit_87 : decode prog_13_method_30_code 87 = .ok (.iinc 3 1, 3) := by decide +kernel
theorem d_Mo_commit_90 : decode prog_13_method_30_code 90 = .ok (.goto (-44), 3) := by decide +kernel
theorem d_Mo_commit_93 : decode prog_13_method_30_code 93 = .ok (.iload_n 1, 1) := by decide +kernel
theorem d_Mo_commit_94 : decode prog_13_method_30_code 94 = .ok (.iload_n 2, 1) := by decide +kernel
theorem d_Mo_commit_95 : decode prog_13_method_30_code 95 = .ok (.ifCond .eq 7, 3) := by decide +kernel
theorem d_Mo_commit_98 : decode prog_13_method_30_code 98 = .ok (.iconst 2, 1) := by decide +kernel
theorem d_Mo_commit_99 : decode prog_13_method_30_code 99 = .ok (.goto 4, 3) := by decide +kernel
theorem d_Mo_commit_102 : decode prog_13_method_30_code 102 = .ok (.iconst 1, 1) := by decide +kernel
theorem d_Mo_commit_103 : decode prog_13_method_30_code 103 = .ok (.iadd, 1) := by decide +kernel
theorem d_Mo_commit_104 : decode prog_13_method_30_code 104 = .ok (.istore_n 3, 1) := by decide +kernel
theorem d_Mo_commit_105 : decode prog_13_method_30_code 105 = .ok (.aload_n 0, 1) := by decide +kernel
theorem d_Mo_commit_106 : decode prog_13_method_30_code 106 = .ok (.getfield 152, 3) := by decide +kernel
theorem d_Mo_commit_109 : decode prog_13_method_30_code 109 = .ok (.ifCond .eq 11, 3) := by decide +kernel
theorem d_Mo_commit_112 : decode prog_13_method_30_code 112 = .ok (.aload_n 0, 1) := by decide +kernel
theorem d_Mo_commit_113 : decode prog_13_method_30_code 113 = .ok (.getfield 152, 3) := by decide +kernel
theorem d_Mo_commit_116 : decode prog_13_method_30_code 116 = .ok (.iload_n 3, 1) := by decide +kernel
theorem d_Mo_commit_117 : decode prog_13_method_30_code 117 = .ok (.if_icmp .le 7, 3) := by decide +kernel
theorem d_Mo_commit_120 : decode prog_13_method_30_code 120 = .ok (.iconst 1, 1) := by decide +kernel
theorem d_Mo_commit_121 : decode prog_13_method_30_code 121 = .ok (.goto 4, 3) := by decide +kernel
theorem d_Mo_commit_124 : decode prog_13_method_30_code 124 = .ok (.iconst 0, 1) := by decide +kernel
theorem d_Mo_commit_125 : decode prog_13_method_30_code 125 = .ok (.istore 4, 2) := by decide +kernel
theorem d_Mo_commit_127 : decode prog_13_method_30_code 127 = .ok (.aload_n 0, 1) := by decide +kernel
theorem d_Mo_commit_128 : decode prog_13_method_30_code 128 = .ok (.iload_n 3, 1) := by decide +kernel
theorem d_Mo_commit_129 : decode prog_13_method_30_code 129 = .ok (.invokevirtual 167, 3) := by decide +kernel
theorem d_Mo_commit_132 : decode prog_13_method_30_code 132 = .ok (.iload_n 3, 1) := by decide +kernel
theorem d_Mo_commit_133 : decode prog_13_method_30_code 133 = .ok (.if_icmp .ne 7, 3) := by decide +kernel
theorem d_Mo_commit_136 : decode prog_13_method_30_code 136 = .ok (.aload_n 0, 1) := by decide +kernel
theorem d_Mo_commit_137 : decode prog_13_method_30_code 137 = .ok (.invokevirtual 171, 3) := by decide +kernel
theorem d_Mo_commit_140 : decode prog_13_method_30_code 140 = .ok (.iload 4, 2) := by decide +kernel
theorem d_Mo_commit_142 : decode prog_13_method_30_code 142 = .ok (.ifCond .ne 10, 3) := by decide +kernel
theorem d_Mo_commit_145 : decode prog_13_method_30_code 145 = .ok (.aload_n 0, 1) := by decide +kernel
theorem d_Mo_commit_146 : decode prog_13_method_30_code 146 = .ok (.invokevirtual 174, 3) := by decide +kernel
theorem d_Mo_commit_149 : decode prog_13_method_30_code 149 = .ok (.bipush (-9), 2) := by decide +kernel
theorem d_Mo_commit_151 : decode prog_13_method_30_code 151 = .ok (.ireturn, 1) := by decide +kernel
theorem d_Mo_commit_152 : decode prog_13_method_30_code 152 = .ok (.aload_n 0, 1) := by decide +kernel
theorem d_Mo_commit_153 : decode prog_13_method_30_code 153 = .ok (.invokevirtual 177, 3) := by decide +kernel
theorem d_Mo_commit_156 : decode prog_13_method_30_code 156 = .ok (.ireturn, 1) := by decide +kernel
theorem d_Mo_documents_0 : decode prog_13_method_21_code 0 = .ok (.iconst 0, 1) := by decide +kernel
theorem d_Mo_documents_1 : decode prog_13_method_21_code 1 = .ok (.istore_n 1, 1) := by decide +kernel
theorem d_Mo_documents_2 : decode prog_13_method_21_code 2 = .ok (.iconst 0, 1) := by decide +kernel
theorem d_Mo_documents_3 : decode prog_13_method_21_code 3 = .ok (.istore_n 2, 1) := by decide +kernel
theorem d_Mo_documents_4 : decode prog_13_method_21_code 4 = .ok (.iload_n 2, 1) := by decide +kernel
theorem d_Mo_documents_5 : decode prog_13_method_21_code 5 = .ok (.bipush 12, 2) := by decide +kernel
theorem d_Mo_documents_7 : decode prog_13_method_21_code 7 = .ok (.if_icmp .ge 27, 3) := by decide +kernel
theorem d_Mo_documents_10 : decode prog_13_method_21_code 10 = .ok (.aload_n 0, 1) := by decide +kernel
theorem d_Mo_documents_11 : decode prog_13_method_21_code 11 = .ok (.getfield 13, 3) := by decide +kernel
theorem d_Mo_documents_14 : decode prog_13_method_21_code 14 = .ok (.iload_n 2, 1) := by decide +kernel
theorem d_Mo_documents_15 : decode prog_13_method_21_code 15 = .ok (.iaload, 1) := by decide +kernel
theorem d_Mo_documents_16 : decode prog_13_method_21_code 16 = .ok (.iconst 1, 1) := by decide +kernel
theorem d_Mo_documents_17 : decode prog_13_method_21_code 17 = .ok (.if_icmp .ne 9, 3) := by decide +kernel
theorem d_Mo_documents_20 : decode prog_13_method_21_code 20 = .ok (.iload_n 1, 1) := by decide +kernel
theorem d_Mo_documents_21 : decode prog_13_method_21_code 21 = .ok (.iconst 1, 1) := by decide +kernel
theorem d_Mo_documents_22 : decode prog_13_method_21_code 22 = .ok (.iadd, 1) := by decide +kernel
theorem d_Mo_documents_23 : decode prog_13_method_21_code 23 = .ok (.goto 4, 3) := by decide +kernel
theorem d_Mo_documents_26 : decode prog_13_method_21_code 26 = .ok (.iload_n 1, 1) := by decide +kernel
theorem d_Mo_documents_27 : decode prog_13_method_21_code 27 = .ok (.istore_n 1, 1) := by decide +kernel
theorem d_Mo_documents_28 : decode prog_13_method_21_code 28 = .ok (.iinc 2 1, 3) := by decide +kernel
theorem d_Mo_documents_31 : decode prog_13_method_21_code 31 = .ok (.goto (-27), 3) := by decide +kernel
theorem d_Mo_documents_34 : decode prog_13_method_21_code 34 = .ok (.iload_n 1, 1) := by decide +kernel
theorem d_Mo_documents_35 : decode prog_13_method_21_code 35 = .ok (.ireturn, 1) := by decide +kernel
theorem d_Mo_write_0 : decode prog_13_method_26_code 0 = .ok (.iload_n 1, 1) := by decide +kernel
theorem d_Mo_write_1 : decode prog_13_method_26_code 1 = .ok (.istore_n 2, 1) := by decide +kernel
theorem d_Mo_write_2 : decode prog_13_method_26_code 2 = .ok (.aload_n 0, 1) := by decide +kernel
theorem d_Mo_write_3 : decode prog_13_method_26_code 3 = .ok (.getfield 152, 3) := by decide +kernel
theorem d_Mo_write_6 : decode prog_13_method_26_code 6 = .ok (.ifCond .le 24, 3) := by decide +kernel
theorem d_Mo_write_9 : decode prog_13_method_26_code 9 = .ok (.aload_n 0, 1) := by decide +kernel
theorem d_Mo_write_10 : decode prog_13_method_26_code 10 = .ok (.getfield 152, 3) := by decide +kernel
theorem d_Mo_write_13 : decode prog_13_method_26_code 13 = .ok (.iload_n 1, 1) := by decide +kernel
theorem d_Mo_write_14 : decode prog_13_method_26_code 14 = .ok (.if_icmp .gt 16, 3) := by decide +kernel
theorem d_Mo_write_17 : decode prog_13_method_26_code 17 = .ok (.aload_n 0, 1) := by decide +kernel
theorem d_Mo_write_18 : decode prog_13_method_26_code 18 = .ok (.getfield 152, 3) := by decide +kernel
theorem d_Mo_write_21 : decode prog_13_method_26_code 21 = .ok (.istore_n 2, 1) := by decide +kernel
theorem d_Mo_write_22 : decode prog_13_method_26_code 22 = .ok (.aload_n 0, 1) := by decide +kernel
theorem d_Mo_write_23 : decode prog_13_method_26_code 23 = .ok (.iconst 0, 1) := by decide +kernel
theorem d_Mo_write_24 : decode prog_13_method_26_code 24 = .ok (.putfield 152, 3) := by decide +kernel
theorem d_Mo_write_27 : decode prog_13_method_26_code 27 = .ok (.goto 20, 3) := by decide +kernel
theorem d_Mo_write_30 : decode prog_13_method_26_code 30 = .ok (.aload_n 0, 1) := by decide +kernel
theorem d_Mo_write_31 : decode prog_13_method_26_code 31 = .ok (.getfield 152, 3) := by decide +kernel
theorem d_Mo_write_34 : decode prog_13_method_26_code 34 = .ok (.ifCond .le 13, 3) := by decide +kernel
theorem d_Mo_write_37 : decode prog_13_method_26_code 37 = .ok (.aload_n 0, 1) := by decide +kernel
theorem d_Mo_write_38 : decode prog_13_method_26_code 38 = .ok (.dup, 1) := by decide +kernel
theorem d_Mo_write_39 : decode prog_13_method_26_code 39 = .ok (.getfield 152, 3) := by decide +kernel
theorem d_Mo_write_42 : decode prog_13_method_26_code 42 = .ok (.iload_n 1, 1) := by decide +kernel
theorem d_Mo_write_43 : decode prog_13_method_26_code 43 = .ok (.isub, 1) := by decide +kernel
theorem d_Mo_write_44 : decode prog_13_method_26_code 44 = .ok (.putfield 152, 3) := by decide +kernel
theorem d_Mo_write_47 : decode prog_13_method_26_code 47 = .ok (.aload_n 0, 1) := by decide +kernel
theorem d_Mo_write_48 : decode prog_13_method_26_code 48 = .ok (.dup, 1) := by decide +kernel
theorem d_Mo_write_49 : decode prog_13_method_26_code 49 = .ok (.getfield 155, 3) := by decide +kernel
theorem d_Mo_write_52 : decode prog_13_method_26_code 52 = .ok (.iload_n 2, 1) := by decide +kernel
theorem d_Mo_write_53 : decode prog_13_method_26_code 53 = .ok (.iadd, 1) := by decide +kernel
theorem d_Mo_write_54 : decode prog_13_method_26_code 54 = .ok (.putfield 155, 3) := by decide +kernel
theorem d_Mo_write_57 : decode prog_13_method_26_code 57 = .ok (.iload_n 2, 1) := by decide +kernel
theorem d_Mo_write_58 : decode prog_13_method_26_code 58 = .ok (.ireturn, 1) := by decide +kernel
theorem d_Mo_happen_0 : decode prog_13_method_29_code 0 = .ok (.iconst 0, 1) := by decide +kernel
theorem d_Mo_happen_1 : decode prog_13_method_29_code 1 = .ok (.istore_n 1, 1) := by decide +kernel
theorem d_Mo_happen_2 : decode prog_13_method_29_code 2 = .ok (.iload_n 1, 1) := by decide +kernel
theorem d_Mo_happen_3 : decode prog_13_method_29_code 3 = .ok (.aload_n 0, 1) := by decide +kernel
theorem d_Mo_happen_4 : decode prog_13_method_29_code 4 = .ok (.getfield 158, 3) := by decide +kernel
theorem d_Mo_happen_7 : decode prog_13_method_29_code 7 = .ok (.if_icmp .ge 43, 3) := by decide +kernel
theorem d_Mo_happen_10 : decode prog_13_method_29_code 10 = .ok (.aload_n 0, 1) := by decide +kernel
theorem d_Mo_happen_11 : decode prog_13_method_29_code 11 = .ok (.getfield 29, 3) := by decide +kernel
theorem d_Mo_happen_14 : decode prog_13_method_29_code 14 = .ok (.iload_n 1, 1) := by decide +kernel
theorem d_Mo_happen_15 : decode prog_13_method_29_code 15 = .ok (.aload_n 0, 1) := by decide +kernel
theorem d_Mo_happen_16 : decode prog_13_method_29_code 16 = .ok (.getfield 29, 3) := by decide +kernel
theorem d_Mo_happen_19 : decode prog_13_method_29_code 19 = .ok (.iload_n 1, 1) := by decide +kernel
theorem d_Mo_happen_20 : decode prog_13_method_29_code 20 = .ok (.baload, 1) := by decide +kernel
theorem d_Mo_happen_21 : decode prog_13_method_29_code 21 = .ok (.ifCond .ne 17, 3) := by decide +kernel
theorem d_Mo_happen_24 : decode prog_13_method_29_code 24 = .ok (.aload_n 0, 1) := by decide +kernel
theorem d_Mo_happen_25 : decode prog_13_method_29_code 25 = .ok (.getfield 13, 3) := by decide +kernel
theorem d_Mo_happen_28 : decode prog_13_method_29_code 28 = .ok (.aload_n 0, 1) := by decide +kernel
theorem d_Mo_happen_29 : decode prog_13_method_29_code 29 = .ok (.getfield 23, 3) := by decide +kernel
theorem d_Mo_happen_32 : decode prog_13_method_29_code 32 = .ok (.iload_n 1, 1) := by decide +kernel
theorem d_Mo_happen_33 : decode prog_13_method_29_code 33 = .ok (.iaload, 1) := by decide +kernel
theorem d_Mo_happen_34 : decode prog_13_method_29_code 34 = .ok (.iaload, 1) := by decide +kernel
theorem d_Mo_happen_35 : decode prog_13_method_29_code 35 = .ok (.ifCond .eq 7, 3) := by decide +kernel
theorem d_Mo_happen_38 : decode prog_13_method_29_code 38 = .ok (.iconst 1, 1) := by decide +kernel
theorem d_Mo_happen_39 : decode prog_13_method_29_code 39 = .ok (.goto 4, 3) := by decide +kernel
theorem d_Mo_happen_42 : decode prog_13_method_29_code 42 = .ok (.iconst 0, 1) := by decide +kernel
theorem d_Mo_happen_43 : decode prog_13_method_29_code 43 = .ok (.bastore, 1) := by decide +kernel
theorem d_Mo_happen_44 : decode prog_13_method_29_code 44 = .ok (.iinc 1 1, 3) := by decide +kernel
theorem d_Mo_happen_47 : decode prog_13_method_29_code 47 = .ok (.goto (-45), 3) := by decide +kernel
theorem d_Mo_happen_50 : decode prog_13_method_29_code 50 = .ok (.iconst 0, 1) := by decide +kernel
theorem d_Mo_happen_51 : decode prog_13_method_29_code 51 = .ok (.istore_n 1, 1) := by decide +kernel
theorem d_Mo_happen_52 : decode prog_13_method_29_code 52 = .ok (.iconst 0, 1) := by decide +kernel
theorem d_Mo_happen_53 : decode prog_13_method_29_code 53 = .ok (.istore_n 2, 1) := by decide +kernel
theorem d_Mo_happen_54 : decode prog_13_method_29_code 54 = .ok (.iload_n 2, 1) := by decide +kernel
theorem d_Mo_happen_55 : decode prog_13_method_29_code 55 = .ok (.bipush 12, 2) := by decide +kernel
theorem d_Mo_happen_57 : decode prog_13_method_29_code 57 = .ok (.if_icmp .ge 129, 3) := by decide +kernel
theorem d_Mo_happen_60 : decode prog_13_method_29_code 60 = .ok (.aload_n 0, 1) := by decide +kernel
theorem d_Mo_happen_61 : decode prog_13_method_29_code 61 = .ok (.getfield 13, 3) := by decide +kernel
theorem d_Mo_happen_64 : decode prog_13_method_29_code 64 = .ok (.iload_n 2, 1) := by decide +kernel
theorem d_Mo_happen_65 : decode prog_13_method_29_code 65 = .ok (.iaload, 1) := by decide +kernel
theorem d_Mo_happen_66 : decode prog_13_method_29_code 66 = .ok (.iconst 1, 1) := by decide +kernel
theorem d_Mo_happen_67 : decode prog_13_method_29_code 67 = .ok (.if_icmp .ne 106, 3) := by decide +kernel
theorem d_Mo_happen_70 : decode prog_13_method_29_code 70 = .ok (.iconst 1, 1) := by decide +kernel
theorem d_Mo_happen_71 : decode prog_13_method_29_code 71 = .ok (.istore_n 1, 1) := by decide +kernel
theorem d_Mo_happen_72 : decode prog_13_method_29_code 72 = .ok (.aload_n 0, 1) := by decide +kernel
theorem d_Mo_happen_73 : decode prog_13_method_29_code 73 = .ok (.getfield 23, 3) := by decide +kernel
theorem d_Mo_happen_76 : decode prog_13_method_29_code 76 = .ok (.aload_n 0, 1) := by decide +kernel
theorem d_Mo_happen_77 : decode prog_13_method_29_code 77 = .ok (.getfield 158, 3) := by decide +kernel
theorem d_Mo_happen_80 : decode prog_13_method_29_code 80 = .ok (.iload_n 2, 1) := by decide +kernel
theorem d_Mo_happen_81 : decode prog_13_method_29_code 81 = .ok (.iastore, 1) := by decide +kernel
theorem d_Mo_happen_82 : decode prog_13_method_29_code 82 = .ok (.aload_n 0, 1) := by decide +kernel
theorem d_Mo_happen_83 : decode prog_13_method_29_code 83 = .ok (.getfield 26, 3) := by decide +kernel
theorem d_Mo_happen_86 : decode prog_13_method_29_code 86 = .ok (.aload_n 0, 1) := by decide +kernel
theorem d_Mo_happen_87 : decode prog_13_method_29_code 87 = .ok (.getfield 158, 3) := by decide +kernel
theorem d_Mo_happen_90 : decode prog_13_method_29_code 90 = .ok (.aload_n 0, 1) := by decide +kernel
theorem d_Mo_happen_91 : decode prog_13_method_29_code 91 = .ok (.getfield 161, 3) := by decide +kernel
theorem d_Mo_happen_94 : decode prog_13_method_29_code 94 = .ok (.iastore, 1) := by decide +kernel
theorem d_Mo_happen_95 : decode prog_13_method_29_code 95 = .ok (.aload_n 0, 1) := by decide +kernel
theorem d_Mo_happen_96 : decode prog_13_method_29_code 96 = .ok (.getfield 29, 3) := by decide +kernel
theorem d_Mo_happen_99 : decode prog_13_method_29_code 99 = .ok (.aload_n 0, 1) := by decide +kernel
theorem d_Mo_happen_100 : decode prog_13_method_29_code 100 = .ok (.getfield 158, 3) := by decide +kernel
theorem d_Mo_happen_103 : decode prog_13_method_29_code 103 = .ok (.iconst 0, 1) := by decide +kernel
theorem d_Mo_happen_104 : decode prog_13_method_29_code 104 = .ok (.bastore, 1) := by decide +kernel
theorem d_Mo_happen_105 : decode prog_13_method_29_code 105 = .ok (.aload_n 0, 1) := by decide +kernel
theorem d_Mo_happen_106 : decode prog_13_method_29_code 106 = .ok (.getfield 33, 3) := by decide +kernel
theorem d_Mo_happen_109 : decode prog_13_method_29_code 109 = .ok (.aload_n 0, 1) := by decide +kernel
theorem d_Mo_happen_110 : decode prog_13_method_29_code 110 = .ok (.getfield 158, 3) := by decide +kernel
theorem d_Mo_happen_113 : decode prog_13_method_29_code 113 = .ok (.aload_n 0, 1) := by decide +kernel
theorem d_Mo_happen_114 : decode prog_13_method_29_code 114 = .ok (.getfield 17, 3) := by decide +kernel
theorem d_Mo_happen_117 : decode prog_13_method_29_code 117 = .ok (.iload_n 2, 1) := by decide +kernel
theorem d_Mo_happen_118 : decode prog_13_method_29_code 118 = .ok (.iaload, 1) := by decide +kernel
theorem d_Mo_happen_119 : decode prog_13_method_29_code 119 = .ok (.iastore, 1) := by decide +kernel
theorem d_Mo_happen_120 : decode prog_13_method_29_code 120 = .ok (.iconst 0, 1) := by decide +kernel
theorem d_Mo_happen_121 : decode prog_13_method_29_code 121 = .ok (.istore_n 3, 1) := by decide +kernel
theorem d_Mo_happen_122 : decode prog_13_method_29_code 122 = .ok (.iload_n 3, 1) := by decide +kernel
theorem d_Mo_happen_123 : decode prog_13_method_29_code 123 = .ok (.aload_n 0, 1) := by decide +kernel
theorem d_Mo_happen_124 : decode prog_13_method_29_code 124 = .ok (.getfield 17, 3) := by decide +kernel
theorem d_Mo_happen_127 : decode prog_13_method_29_code 127 = .ok (.iload_n 2, 1) := by decide +kernel
theorem d_Mo_happen_128 : decode prog_13_method_29_code 128 = .ok (.iaload, 1) := by decide +kernel
theorem d_Mo_happen_129 : decode prog_13_method_29_code 129 = .ok (.if_icmp .ge 34, 3) := by decide +kernel
theorem d_Mo_happen_132 : decode prog_13_method_29_code 132 = .ok (.aload_n 0, 1) := by decide +kernel
theorem d_Mo_happen_133 : decode prog_13_method_29_code 133 = .ok (.getfield 36, 3) := by decide +kernel
theorem d_Mo_happen_136 : decode prog_13_method_29_code 136 = .ok (.bipush 12, 2) := by decide +kernel
theorem d_Mo_happen_138 : decode prog_13_method_29_code 138 = .ok (.aload_n 0, 1) := by decide +kernel
theorem d_Mo_happen_139 : decode prog_13_method_29_code 139 = .ok (.getfield 158, 3) := by decide +kernel
theorem d_Mo_happen_142 : decode prog_13_method_29_code 142 = .ok (.imul, 1) := by decide +kernel
theorem d_Mo_happen_143 : decode prog_13_method_29_code 143 = .ok (.iload_n 3, 1) := by decide +kernel
theorem d_Mo_happen_144 : decode prog_13_method_29_code 144 = .ok (.iadd, 1) := by decide +kernel
theorem d_Mo_happen_145 : decode prog_13_method_29_code 145 = .ok (.aload_n 0, 1) := by decide +kernel
theorem d_Mo_happen_146 : decode prog_13_method_29_code 146 = .ok (.getfield 20, 3) := by decide +kernel
theorem d_Mo_happen_149 : decode prog_13_method_29_code 149 = .ok (.bipush 12, 2) := by decide +kernel
theorem d_Mo_happen_151 : decode prog_13_method_29_code 151 = .ok (.iload_n 2, 1) := by decide +kernel
theorem d_Mo_happen_152 : decode prog_13_method_29_code 152 = .ok (.imul, 1) := by decide +kernel
theorem d_Mo_happen_153 : decode prog_13_method_29_code 153 = .ok (.iload_n 3, 1) := by decide +kernel
theorem d_Mo_happen_154 : decode prog_13_method_29_code 154 = .ok (.iadd, 1) := by decide +kernel
theorem d_Mo_happen_155 : decode prog_13_method_29_code 155 = .ok (.laload, 1) := by decide +kernel
theorem d_Mo_happen_156 : decode prog_13_method_29_code 156 = .ok (.lastore, 1) := by decide +kernel
theorem d_Mo_happen_157 : decode prog_13_method_29_code 157 = .ok (.iinc 3 1, 3) := by decide +kernel
theorem d_Mo_happen_160 : decode prog_13_method_29_code 160 = .ok (.goto (-38), 3) := by decide +kernel
theorem d_Mo_happen_163 : decode prog_13_method_29_code 163 = .ok (.aload_n 0, 1) := by decide +kernel
theorem d_Mo_happen_164 : decode prog_13_method_29_code 164 = .ok (.dup, 1) := by decide +kernel
theorem d_Mo_happen_165 : decode prog_13_method_29_code 165 = .ok (.getfield 158, 3) := by decide +kernel
theorem d_Mo_happen_168 : decode prog_13_method_29_code 168 = .ok (.iconst 1, 1) := by decide +kernel
theorem d_Mo_happen_169 : decode prog_13_method_29_code 169 = .ok (.iadd, 1) := by decide +kernel
theorem d_Mo_happen_170 : decode prog_13_method_29_code 170 = .ok (.putfield 158, 3) := by decide +kernel
theorem d_Mo_happen_173 : decode prog_13_method_29_code 173 = .ok (.aload_n 0, 1) := by decide +kernel
theorem d_Mo_happen_174 : decode prog_13_method_29_code 174 = .ok (.getfield 13, 3) := by decide +kernel
theorem d_Mo_happen_177 : decode prog_13_method_29_code 177 = .ok (.iload_n 2, 1) := by decide +kernel
theorem d_Mo_happen_178 : decode prog_13_method_29_code 178 = .ok (.iconst 0, 1) := by decide +kernel
theorem d_Mo_happen_179 : decode prog_13_method_29_code 179 = .ok (.iastore, 1) := by decide +kernel
theorem d_Mo_happen_180 : decode prog_13_method_29_code 180 = .ok (.iinc 2 1, 3) := by decide +kernel
theorem d_Mo_happen_183 : decode prog_13_method_29_code 183 = .ok (.goto (-129), 3) := by decide +kernel
theorem d_Mo_happen_186 : decode prog_13_method_29_code 186 = .ok (.aload_n 0, 1) := by decide +kernel
theorem d_Mo_happen_187 : decode prog_13_method_29_code 187 = .ok (.iload_n 1, 1) := by decide +kernel
theorem d_Mo_happen_188 : decode prog_13_method_29_code 188 = .ok (.ifCond .eq 12, 3) := by decide +kernel
theorem d_Mo_happen_191 : decode prog_13_method_29_code 191 = .ok (.aload_n 0, 1) := by decide +kernel
theorem d_Mo_happen_192 : decode prog_13_method_29_code 192 = .ok (.getfield 161, 3) := by decide +kernel
theorem d_Mo_happen_195 : decode prog_13_method_29_code 195 = .ok (.iconst 1, 1) := by decide +kernel
theorem d_Mo_happen_196 : decode prog_13_method_29_code 196 = .ok (.iadd, 1) := by decide +kernel
theorem d_Mo_happen_197 : decode prog_13_method_29_code 197 = .ok (.goto 7, 3) := by decide +kernel
theorem d_Mo_happen_200 : decode prog_13_method_29_code 200 = .ok (.aload_n 0, 1) := by decide +kernel
theorem d_Mo_happen_201 : decode prog_13_method_29_code 201 = .ok (.getfield 161, 3) := by decide +kernel
theorem d_Mo_happen_204 : decode prog_13_method_29_code 204 = .ok (.putfield 161, 3) := by decide +kernel
theorem d_Mo_happen_207 : decode prog_13_method_29_code 207 = .ok (.return_, 1) := by decide +kernel
theorem d_Mo_stop_0 : decode prog_13_method_25_code 0 = .ok (.aload_n 0, 1) := by decide +kernel
theorem d_Mo_stop_1 : decode prog_13_method_25_code 1 = .ok (.iconst 1, 1) := by decide +kernel
theorem d_Mo_stop_2 : decode prog_13_method_25_code 2 = .ok (.putfield 131, 3) := by decide +kernel
theorem d_Mo_stop_5 : decode prog_13_method_25_code 5 = .ok (.aload_n 0, 1) := by decide +kernel
theorem d_Mo_stop_6 : decode prog_13_method_25_code 6 = .ok (.iconst 0, 1) := by decide +kernel
theorem d_Mo_stop_7 : decode prog_13_method_25_code 7 = .ok (.putfield 135, 3) := by decide +kernel
theorem d_Mo_stop_10 : decode prog_13_method_25_code 10 = .ok (.iconst 0, 1) := by decide +kernel
theorem d_Mo_stop_11 : decode prog_13_method_25_code 11 = .ok (.istore_n 1, 1) := by decide +kernel
theorem d_Mo_stop_12 : decode prog_13_method_25_code 12 = .ok (.iload_n 1, 1) := by decide +kernel
theorem d_Mo_stop_13 : decode prog_13_method_25_code 13 = .ok (.bipush 12, 2) := by decide +kernel
theorem d_Mo_stop_15 : decode prog_13_method_25_code 15 = .ok (.if_icmp .ge 16, 3) := by decide +kernel
theorem d_Mo_stop_18 : decode prog_13_method_25_code 18 = .ok (.aload_n 0, 1) := by decide +kernel
theorem d_Mo_stop_19 : decode prog_13_method_25_code 19 = .ok (.getfield 13, 3) := by decide +kernel
theorem d_Mo_stop_22 : decode prog_13_method_25_code 22 = .ok (.iload_n 1, 1) := by decide +kernel
theorem d_Mo_stop_23 : decode prog_13_method_25_code 23 = .ok (.iconst 0, 1) := by decide +kernel
theorem d_Mo_stop_24 : decode prog_13_method_25_code 24 = .ok (.iastore, 1) := by decide +kernel
theorem d_Mo_stop_25 : decode prog_13_method_25_code 25 = .ok (.iinc 1 1, 3) := by decide +kernel
theorem d_Mo_stop_28 : decode prog_13_method_25_code 28 = .ok (.goto (-16), 3) := by decide +kernel
theorem d_Mo_stop_31 : decode prog_13_method_25_code 31 = .ok (.aload_n 0, 1) := by decide +kernel
theorem d_Mo_stop_32 : decode prog_13_method_25_code 32 = .ok (.iconst 0, 1) := by decide +kernel
theorem d_Mo_stop_33 : decode prog_13_method_25_code 33 = .ok (.putfield 146, 3) := by decide +kernel
theorem d_Mo_stop_36 : decode prog_13_method_25_code 36 = .ok (.aload_n 0, 1) := by decide +kernel
theorem d_Mo_stop_37 : decode prog_13_method_25_code 37 = .ok (.iconst 0, 1) := by decide +kernel
theorem d_Mo_stop_38 : decode prog_13_method_25_code 38 = .ok (.putfield 149, 3) := by decide +kernel
theorem d_Mo_stop_41 : decode prog_13_method_25_code 41 = .ok (.return_, 1) := by decide +kernel
theorem d_Mo_live_0 : decode prog_13_method_28_code 0 = .ok (.iconst 0, 1) := by decide +kernel
theorem d_Mo_live_1 : decode prog_13_method_28_code 1 = .ok (.istore_n 1, 1) := by decide +kernel
theorem d_Mo_live_2 : decode prog_13_method_28_code 2 = .ok (.iconst 0, 1) := by decide +kernel
theorem d_Mo_live_3 : decode prog_13_method_28_code 3 = .ok (.istore_n 2, 1) := by decide +kernel
theorem d_Mo_live_4 : decode prog_13_method_28_code 4 = .ok (.iload_n 2, 1) := by decide +kernel
theorem d_Mo_live_5 : decode prog_13_method_28_code 5 = .ok (.aload_n 0, 1) := by decide +kernel
theorem d_Mo_live_6 : decode prog_13_method_28_code 6 = .ok (.getfield 158, 3) := by decide +kernel
theorem d_Mo_live_9 : decode prog_13_method_28_code 9 = .ok (.if_icmp .ge 26, 3) := by decide +kernel
theorem d_Mo_live_12 : decode prog_13_method_28_code 12 = .ok (.aload_n 0, 1) := by decide +kernel
theorem d_Mo_live_13 : decode prog_13_method_28_code 13 = .ok (.getfield 29, 3) := by decide +kernel
theorem d_Mo_live_16 : decode prog_13_method_28_code 16 = .ok (.iload_n 2, 1) := by decide +kernel
theorem d_Mo_live_17 : decode prog_13_method_28_code 17 = .ok (.baload, 1) := by decide +kernel
theorem d_Mo_live_18 : decode prog_13_method_28_code 18 = .ok (.ifCond .eq 7, 3) := by decide +kernel
theorem d_Mo_live_21 : decode prog_13_method_28_code 21 = .ok (.iload_n 1, 1) := by decide +kernel
theorem d_Mo_live_22 : decode prog_13_method_28_code 22 = .ok (.goto 6, 3) := by decide +kernel
theorem d_Mo_live_25 : decode prog_13_method_28_code 25 = .ok (.iload_n 1, 1) := by decide +kernel
theorem d_Mo_live_26 : decode prog_13_method_28_code 26 = .ok (.iconst 1, 1) := by decide +kernel
theorem d_Mo_live_27 : decode prog_13_method_28_code 27 = .ok (.iadd, 1) := by decide +kernel
theorem d_Mo_live_28 : decode prog_13_method_28_code 28 = .ok (.istore_n 1, 1) := by decide +kernel
theorem d_Mo_live_29 : decode prog_13_method_28_code 29 = .ok (.iinc 2 1, 3) := by decide +kernel
theorem d_Mo_live_32 : decode prog_13_method_28_code 32 = .ok (.goto (-28), 3) := by decide +kernel
theorem d_Mo_live_35 : decode prog_13_method_28_code 35 = .ok (.iload_n 1, 1) := by decide +kernel
theorem d_Mo_live_36 : decode prog_13_method_28_code 36 = .ok (.ireturn, 1) := by decide +kernel
theorem d_Mo_merge_0 : decode prog_13_method_32_code 0 = .ok (.aload_n 0, 1) := by decide +kernel
theorem d_Mo_merge_1 : decode prog_13_method_32_code 1 = .ok (.getfield 131, 3) := by decide +kernel
theorem d_Mo_merge_4 : decode prog_13_method_32_code 4 = .ok (.ifCond .eq 6, 3) := by decide +kernel
theorem d_Mo_merge_7 : decode prog_13_method_32_code 7 = .ok (.bipush (-9), 2) := by decide +kernel
theorem d_Mo_merge_9 : decode prog_13_method_32_code 9 = .ok (.ireturn, 1) := by decide +kernel
theorem d_Mo_merge_10 : decode prog_13_method_32_code 10 = .ok (.iload_n 1, 1) := by decide +kernel
theorem d_Mo_merge_11 : decode prog_13_method_32_code 11 = .ok (.ifCond .lt 13, 3) := by decide +kernel
theorem d_Mo_merge_14 : decode prog_13_method_32_code 14 = .ok (.iload_n 1, 1) := by decide +kernel
theorem d_Mo_merge_15 : decode prog_13_method_32_code 15 = .ok (.aload_n 0, 1) := by decide +kernel
theorem d_Mo_merge_16 : decode prog_13_method_32_code 16 = .ok (.getfield 161, 3) := by decide +kernel
theorem d_Mo_merge_19 : decode prog_13_method_32_code 19 = .ok (.iconst 1, 1) := by decide +kernel
theorem d_Mo_merge_20 : decode prog_13_method_32_code 20 = .ok (.isub, 1) := by decide +kernel
theorem d_Mo_merge_21 : decode prog_13_method_32_code 21 = .ok (.if_icmp .lt 5, 3) := by decide +kernel
theorem d_Mo_merge_24 : decode prog_13_method_32_code 24 = .ok (.iconst (-1), 1) := by decide +kernel
theorem d_Mo_merge_25 : decode prog_13_method_32_code 25 = .ok (.ireturn, 1) := by decide +kernel
theorem d_Mo_merge_26 : decode prog_13_method_32_code 26 = .ok (.iconst 1, 1) := by decide +kernel
theorem d_Mo_merge_27 : decode prog_13_method_32_code 27 = .ok (.istore_n 2, 1) := by decide +kernel
theorem d_Mo_merge_28 : decode prog_13_method_32_code 28 = .ok (.iconst 0, 1) := by decide +kernel
theorem d_Mo_merge_29 : decode prog_13_method_32_code 29 = .ok (.istore_n 3, 1) := by decide +kernel
theorem d_Mo_merge_30 : decode prog_13_method_32_code 30 = .ok (.iload_n 3, 1) := by decide +kernel
theorem d_Mo_merge_31 : decode prog_13_method_32_code 31 = .ok (.aload_n 0, 1) := by decide +kernel
theorem d_Mo_merge_32 : decode prog_13_method_32_code 32 = .ok (.getfield 158, 3) := by decide +kernel
theorem d_Mo_merge_35 : decode prog_13_method_32_code 35 = .ok (.if_icmp .ge 60, 3) := by decide +kernel
theorem d_Mo_merge_38 : decode prog_13_method_32_code 38 = .ok (.aload_n 0, 1) := by decide +kernel
theorem d_Mo_merge_39 : decode prog_13_method_32_code 39 = .ok (.getfield 26, 3) := by decide +kernel
theorem d_Mo_merge_42 : decode prog_13_method_32_code 42 = .ok (.iload_n 3, 1) := by decide +kernel
theorem d_Mo_merge_43 : decode prog_13_method_32_code 43 = .ok (.iaload, 1) := by decide +kernel
theorem d_Mo_merge_44 : decode prog_13_method_32_code 44 = .ok (.iload_n 1, 1) := by decide +kernel
theorem d_Mo_merge_45 : decode prog_13_method_32_code 45 = .ok (.if_icmp .eq 15, 3) := by decide +kernel
theorem d_Mo_merge_48 : decode prog_13_method_32_code 48 = .ok (.aload_n 0, 1) := by decide +kernel
theorem d_Mo_merge_49 : decode prog_13_method_32_code 49 = .ok (.getfield 26, 3) := by decide +kernel
theorem d_Mo_merge_52 : decode prog_13_method_32_code 52 = .ok (.iload_n 3, 1) := by decide +kernel
theorem d_Mo_merge_53 : decode prog_13_method_32_code 53 = .ok (.iaload, 1) := by decide +kernel
theorem d_Mo_merge_54 : decode prog_13_method_32_code 54 = .ok (.iload_n 1, 1) := by decide +kernel
theorem d_Mo_merge_55 : decode prog_13_method_32_code 55 = .ok (.iconst 1, 1) := by decide +kernel
theorem d_Mo_merge_56 : decode prog_13_method_32_code 56 = .ok (.iadd, 1) := by decide +kernel
theorem d_Mo_merge_57 : decode prog_13_method_32_code 57 = .ok (.if_icmp .ne 7, 3) := by decide +kernel
theorem d_Mo_merge_60 : decode prog_13_method_32_code 60 = .ok (.iconst 1, 1) := by decide +kernel
theorem d_Mo_merge_61 : decode prog_13_method_32_code 61 = .ok (.goto 4, 3) := by decide +kernel
theorem d_Mo_merge_64 : decode prog_13_method_32_code 64 = .ok (.iconst 0, 1) := by decide +kernel
theorem d_Mo_merge_65 : decode prog_13_method_32_code 65 = .ok (.istore 4, 2) := by decide +kernel
theorem d_Mo_merge_67 : decode prog_13_method_32_code 67 = .ok (.iload 4, 2) := by decide +kernel
theorem d_Mo_merge_69 : decode prog_13_method_32_code 69 = .ok (.ifCond .eq 18, 3) := by decide +kernel
theorem d_Mo_merge_72 : decode prog_13_method_32_code 72 = .ok (.aload_n 0, 1) := by decide +kernel
theorem d_Mo_merge_73 : decode prog_13_method_32_code 73 = .ok (.getfield 29, 3) := by decide +kernel
theorem d_Mo_merge_76 : decode prog_13_method_32_code 76 = .ok (.iload_n 3, 1) := by decide +kernel
theorem d_Mo_merge_77 : decode prog_13_method_32_code 77 = .ok (.baload, 1) := by decide +kernel
theorem d_Mo_merge_78 : decode prog_13_method_32_code 78 = .ok (.ifCond .ne 9, 3) := by decide +kernel
theorem d_Mo_merge_81 : decode prog_13_method_32_code 81 = .ok (.iload_n 2, 1) := by decide +kernel
theorem d_Mo_merge_82 : decode prog_13_method_32_code 82 = .ok (.iconst 1, 1) := by decide +kernel
theorem d_Mo_merge_83 : decode prog_13_method_32_code 83 = .ok (.iadd, 1) := by decide +kernel
theorem d_Mo_merge_84 : decode prog_13_method_32_code 84 = .ok (.goto 4, 3) := by decide +kernel
theorem d_Mo_merge_87 : decode prog_13_method_32_code 87 = .ok (.iload_n 2, 1) := by decide +kernel
theorem d_Mo_merge_88 : decode prog_13_method_32_code 88 = .ok (.istore_n 2, 1) := by decide +kernel
theorem d_Mo_merge_89 : decode prog_13_method_32_code 89 = .ok (.iinc 3 1, 3) := by decide +kernel
theorem d_Mo_merge_92 : decode prog_13_method_32_code 92 = .ok (.goto (-62), 3) := by decide +kernel
theorem d_Mo_merge_95 : decode prog_13_method_32_code 95 = .ok (.aload_n 0, 1) := by decide +kernel
theorem d_Mo_merge_96 : decode prog_13_method_32_code 96 = .ok (.getfield 152, 3) := by decide +kernel
theorem d_Mo_merge_99 : decode prog_13_method_32_code 99 = .ok (.ifCond .eq 11, 3) := by decide +kernel
theorem d_Mo_merge_102 : decode prog_13_method_32_code 102 = .ok (.aload_n 0, 1) := by decide +kernel
theorem d_Mo_merge_103 : decode prog_13_method_32_code 103 = .ok (.getfield 152, 3) := by decide +kernel
theorem d_Mo_merge_106 : decode prog_13_method_32_code 106 = .ok (.iload_n 2, 1) := by decide +kernel
theorem d_Mo_merge_107 : decode prog_13_method_32_code 107 = .ok (.if_icmp .le 7, 3) := by decide +kernel
theorem d_Mo_merge_110 : decode prog_13_method_32_code 110 = .ok (.iconst 1, 1) := by decide +kernel
theorem d_Mo_merge_111 : decode prog_13_method_32_code 111 = .ok (.goto 4, 3) := by decide +kernel
theorem d_Mo_merge_114 : decode prog_13_method_32_code 114 = .ok (.iconst 0, 1) := by decide +kernel
theorem d_Mo_merge_115 : decode prog_13_method_32_code 115 = .ok (.istore_n 3, 1) := by decide +kernel
theorem d_Mo_merge_116 : decode prog_13_method_32_code 116 = .ok (.aload_n 0, 1) := by decide +kernel
theorem d_Mo_merge_117 : decode prog_13_method_32_code 117 = .ok (.iload_n 2, 1) := by decide +kernel
theorem d_Mo_merge_118 : decode prog_13_method_32_code 118 = .ok (.invokevirtual 167, 3) := by decide +kernel
theorem d_Mo_merge_121 : decode prog_13_method_32_code 121 = .ok (.iload_n 2, 1) := by decide +kernel
theorem d_Mo_merge_122 : decode prog_13_method_32_code 122 = .ok (.if_icmp .ne 8, 3) := by decide +kernel
theorem d_Mo_merge_125 : decode prog_13_method_32_code 125 = .ok (.aload_n 0, 1) := by decide +kernel
theorem d_Mo_merge_126 : decode prog_13_method_32_code 126 = .ok (.iload_n 1, 1) := by decide +kernel
theorem d_Mo_merge_127 : decode prog_13_method_32_code 127 = .ok (.invokevirtual 184, 3) := by decide +kernel
theorem d_Mo_merge_130 : decode prog_13_method_32_code 130 = .ok (.iload_n 3, 1) := by decide +kernel
theorem d_Mo_merge_131 : decode prog_13_method_32_code 131 = .ok (.ifCond .ne 10, 3) := by decide +kernel
theorem d_Mo_merge_134 : decode prog_13_method_32_code 134 = .ok (.aload_n 0, 1) := by decide +kernel
theorem d_Mo_merge_135 : decode prog_13_method_32_code 135 = .ok (.invokevirtual 174, 3) := by decide +kernel
theorem d_Mo_merge_138 : decode prog_13_method_32_code 138 = .ok (.bipush (-9), 2) := by decide +kernel
theorem d_Mo_merge_140 : decode prog_13_method_32_code 140 = .ok (.ireturn, 1) := by decide +kernel
theorem d_Mo_merge_141 : decode prog_13_method_32_code 141 = .ok (.aload_n 0, 1) := by decide +kernel
theorem d_Mo_merge_142 : decode prog_13_method_32_code 142 = .ok (.getfield 161, 3) := by decide +kernel
theorem d_Mo_merge_145 : decode prog_13_method_32_code 145 = .ok (.ireturn, 1) := by decide +kernel
theorem d_Mo_join2_0 : decode prog_13_method_31_code 0 = .ok (.iconst 0, 1) := by decide +kernel
theorem d_Mo_join2_1 : decode prog_13_method_31_code 1 = .ok (.istore_n 2, 1) := by decide +kernel
theorem d_Mo_join2_2 : decode prog_13_method_31_code 2 = .ok (.iconst 0, 1) := by decide +kernel
theorem d_Mo_join2_3 : decode prog_13_method_31_code 3 = .ok (.istore_n 3, 1) := by decide +kernel
theorem d_Mo_join2_4 : decode prog_13_method_31_code 4 = .ok (.iconst 0, 1) := by decide +kernel
theorem d_Mo_join2_5 : decode prog_13_method_31_code 5 = .ok (.istore 4, 2) := by decide +kernel
theorem d_Mo_join2_7 : decode prog_13_method_31_code 7 = .ok (.iload 4, 2) := by decide +kernel
theorem d_Mo_join2_9 : decode prog_13_method_31_code 9 = .ok (.aload_n 0, 1) := by decide +kernel
theorem d_Mo_join2_10 : decode prog_13_method_31_code 10 = .ok (.getfield 158, 3) := by decide +kernel
theorem d_Mo_join2_13 : decode prog_13_method_31_code 13 = .ok (.if_icmp .ge 100, 3) := by decide +kernel
theorem d_Mo_join2_16 : decode prog_13_method_31_code 16 = .ok (.aload_n 0, 1) := by decide +kernel
theorem d_Mo_join2_17 : decode prog_13_method_31_code 17 = .ok (.getfield 26, 3) := by decide +kernel
theorem d_Mo_join2_20 : decode prog_13_method_31_code 20 = .ok (.iload 4, 2) := by decide +kernel
theorem d_Mo_join2_22 : decode prog_13_method_31_code 22 = .ok (.iaload, 1) := by decide +kernel
theorem d_Mo_join2_23 : decode prog_13_method_31_code 23 = .ok (.iload_n 1, 1) := by decide +kernel
theorem d_Mo_join2_24 : decode prog_13_method_31_code 24 = .ok (.if_icmp .eq 16, 3) := by decide +kernel
theorem d_Mo_join2_27 : decode prog_13_method_31_code 27 = .ok (.aload_n 0, 1) := by decide +kernel
theorem d_Mo_join2_28 : decode prog_13_method_31_code 28 = .ok (.getfield 26, 3) := by decide +kernel
theorem d_Mo_join2_31 : decode prog_13_method_31_code 31 = .ok (.iload 4, 2) := by decide +kernel
theorem d_Mo_join2_33 : decode prog_13_method_31_code 33 = .ok (.iaload, 1) := by decide +kernel
theorem d_Mo_join2_34 : decode prog_13_method_31_code 34 = .ok (.iload_n 1, 1) := by decide +kernel
theorem d_Mo_join2_35 : decode prog_13_method_31_code 35 = .ok (.iconst 1, 1) := by decide +kernel
theorem d_Mo_join2_36 : decode prog_13_method_31_code 36 = .ok (.iadd, 1) := by decide +kernel
theorem d_Mo_join2_37 : decode prog_13_method_31_code 37 = .ok (.if_icmp .ne 7, 3) := by decide +kernel
theorem d_Mo_join2_40 : decode prog_13_method_31_code 40 = .ok (.iconst 1, 1) := by decide +kernel
theorem d_Mo_join2_41 : decode prog_13_method_31_code 41 = .ok (.goto 4, 3) := by decide +kernel
theorem d_Mo_join2_44 : decode prog_13_method_31_code 44 = .ok (.iconst 0, 1) := by decide +kernel
theorem d_Mo_join2_45 : decode prog_13_method_31_code 45 = .ok (.istore 5, 2) := by decide +kernel
theorem d_Mo_join2_47 : decode prog_13_method_31_code 47 = .ok (.iload 5, 2) := by decide +kernel
theorem d_Mo_join2_49 : decode prog_13_method_31_code 49 = .ok (.ifCond .eq 13, 3) := by decide +kernel
theorem d_Mo_join2_52 : decode prog_13_method_31_code 52 = .ok (.aload_n 0, 1) := by decide +kernel
theorem d_Mo_join2_53 : decode prog_13_method_31_code 53 = .ok (.getfield 29, 3) := by decide +kernel
theorem d_Mo_join2_56 : decode prog_13_method_31_code 56 = .ok (.iload 4, 2) := by decide +kernel
theorem d_Mo_join2_58 : decode prog_13_method_31_code 58 = .ok (.baload, 1) := by decide +kernel
theorem d_Mo_join2_59 : decode prog_13_method_31_code 59 = .ok (.ifCond .ne 48, 3) := by decide +kernel
theorem d_Mo_join2_62 : decode prog_13_method_31_code 62 = .ok (.aload_n 0, 1) := by decide +kernel
theorem d_Mo_join2_63 : decode prog_13_method_31_code 63 = .ok (.iload 4, 2) := by decide +kernel
theorem d_Mo_join2_65 : decode prog_13_method_31_code 65 = .ok (.iload_n 2, 1) := by decide +kernel
theorem d_Mo_join2_66 : decode prog_13_method_31_code 66 = .ok (.invokevirtual 180, 3) := by decide +kernel
theorem d_Mo_join2_69 : decode prog_13_method_31_code 69 = .ok (.aload_n 0, 1) := by decide +kernel
theorem d_Mo_join2_70 : decode prog_13_method_31_code 70 = .ok (.getfield 26, 3) := by decide +kernel
theorem d_Mo_join2_73 : decode prog_13_method_31_code 73 = .ok (.iload_n 2, 1) := by decide +kernel
theorem d_Mo_join2_74 : decode prog_13_method_31_code 74 = .ok (.iload 5, 2) := by decide +kernel
theorem d_Mo_join2_76 : decode prog_13_method_31_code 76 = .ok (.ifCond .eq 7, 3) := by decide +kernel
theorem d_Mo_join2_79 : decode prog_13_method_31_code 79 = .ok (.iload_n 1, 1) := by decide +kernel
theorem d_Mo_join2_80 : decode prog_13_method_31_code 80 = .ok (.goto 10, 3) := by decide +kernel
theorem d_Mo_join2_83 : decode prog_13_method_31_code 83 = .ok (.aload_n 0, 1) := by decide +kernel
theorem d_Mo_join2_84 : decode prog_13_method_31_code 84 = .ok (.getfield 26, 3) := by decide +kernel
theorem d_Mo_join2_87 : decode prog_13_method_31_code 87 = .ok (.iload 4, 2) := by decide +kernel
theorem d_Mo_join2_89 : decode prog_13_method_31_code 89 = .ok (.iaload, 1) := by decide +kernel
theorem d_Mo_join2_90 : decode prog_13_method_31_code 90 = .ok (.iastore, 1) := by decide +kernel
theorem d_Mo_join2_91 : decode prog_13_method_31_code 91 = .ok (.iload 5, 2) := by decide +kernel
theorem d_Mo_join2_93 : decode prog_13_method_31_code 93 = .ok (.ifCond .eq 9, 3) := by decide +kernel
theorem d_Mo_join2_96 : decode prog_13_method_31_code 96 = .ok (.iload_n 3, 1) := by decide +kernel
theorem d_Mo_join2_97 : decode prog_13_method_31_code 97 = .ok (.iconst 1, 1) := by decide +kernel
theorem d_Mo_join2_98 : decode prog_13_method_31_code 98 = .ok (.iadd, 1) := by decide +kernel
theorem d_Mo_join2_99 : decode prog_13_method_31_code 99 = .ok (.goto 4, 3) := by decide +kernel
theorem d_Mo_join2_102 : decode prog_13_method_31_code 102 = .ok (.iload_n 3, 1) := by decide +kernel
theorem d_Mo_join2_103 : decode prog_13_method_31_code 103 = .ok (.istore_n 3, 1) := by decide +kernel
theorem d_Mo_join2_104 : decode prog_13_method_31_code 104 = .ok (.iinc 2 1, 3) := by decide +kernel
theorem d_Mo_join2_107 : decode prog_13_method_31_code 107 = .ok (.iinc 4 1, 3) := by decide +kernel
theorem d_Mo_join2_110 : decode prog_13_method_31_code 110 = .ok (.goto (-103), 3) := by decide +kernel
theorem d_Mo_join2_113 : decode prog_13_method_31_code 113 = .ok (.aload_n 0, 1) := by decide +kernel
theorem d_Mo_join2_114 : decode prog_13_method_31_code 114 = .ok (.iload_n 2, 1) := by decide +kernel
theorem d_Mo_join2_115 : decode prog_13_method_31_code 115 = .ok (.putfield 158, 3) := by decide +kernel
theorem d_Mo_join2_118 : decode prog_13_method_31_code 118 = .ok (.iload_n 3, 1) := by decide +kernel
theorem d_Mo_join2_119 : decode prog_13_method_31_code 119 = .ok (.ifCond .le 7, 3) := by decide +kernel
theorem d_Mo_join2_122 : decode prog_13_method_31_code 122 = .ok (.iconst 1, 1) := by decide +kernel
theorem d_Mo_join2_123 : decode prog_13_method_31_code 123 = .ok (.goto 4, 3) := by decide +kernel
theorem d_Mo_join2_126 : decode prog_13_method_31_code 126 = .ok (.iconst 2, 1) := by decide +kernel
theorem d_Mo_join2_127 : decode prog_13_method_31_code 127 = .ok (.istore 4, 2) := by decide +kernel
theorem d_Mo_join2_129 : decode prog_13_method_31_code 129 = .ok (.iconst 0, 1) := by decide +kernel
theorem d_Mo_join2_130 : decode prog_13_method_31_code 130 = .ok (.istore 5, 2) := by decide +kernel
theorem d_Mo_join2_132 : decode prog_13_method_31_code 132 = .ok (.iload 5, 2) := by decide +kernel
theorem d_Mo_join2_134 : decode prog_13_method_31_code 134 = .ok (.aload_n 0, 1) := by decide +kernel
theorem d_Mo_join2_135 : decode prog_13_method_31_code 135 = .ok (.getfield 158, 3) := by decide +kernel
theorem d_Mo_join2_138 : decode prog_13_method_31_code 138 = .ok (.if_icmp .ge 49, 3) := by decide +kernel
theorem d_Mo_join2_141 : decode prog_13_method_31_code 141 = .ok (.aload_n 0, 1) := by decide +kernel
theorem d_Mo_join2_142 : decode prog_13_method_31_code 142 = .ok (.getfield 26, 3) := by decide +kernel
theorem d_Mo_join2_145 : decode prog_13_method_31_code 145 = .ok (.iload 5, 2) := by decide +kernel
theorem d_Mo_join2_147 : decode prog_13_method_31_code 147 = .ok (.aload_n 0, 1) := by decide +kernel
theorem d_Mo_join2_148 : decode prog_13_method_31_code 148 = .ok (.getfield 26, 3) := by decide +kernel
theorem d_Mo_join2_151 : decode prog_13_method_31_code 151 = .ok (.iload 5, 2) := by decide +kernel
theorem d_Mo_join2_153 : decode prog_13_method_31_code 153 = .ok (.iaload, 1) := by decide +kernel
theorem d_Mo_join2_154 : decode prog_13_method_31_code 154 = .ok (.iload_n 1, 1) := by decide +kernel
theorem d_Mo_join2_155 : decode prog_13_method_31_code 155 = .ok (.iconst 1, 1) := by decide +kernel
theorem d_Mo_join2_156 : decode prog_13_method_31_code 156 = .ok (.iadd, 1) := by decide +kernel
theorem d_Mo_join2_157 : decode prog_13_method_31_code 157 = .ok (.if_icmp .le 16, 3) := by decide +kernel
theorem d_Mo_join2_160 : decode prog_13_method_31_code 160 = .ok (.aload_n 0, 1) := by decide +kernel
theorem d_Mo_join2_161 : decode prog_13_method_31_code 161 = .ok (.getfield 26, 3) := by decide +kernel
theorem d_Mo_join2_164 : decode prog_13_method_31_code 164 = .ok (.iload 5, 2) := by decide +kernel
theorem d_Mo_join2_166 : decode prog_13_method_31_code 166 = .ok (.iaload, 1) := by decide +kernel
theorem d_Mo_join2_167 : decode prog_13_method_31_code 167 = .ok (.iload 4, 2) := by decide +kernel
theorem d_Mo_join2_169 : decode prog_13_method_31_code 169 = .ok (.isub, 1) := by decide +kernel
theorem d_Mo_join2_170 : decode prog_13_method_31_code 170 = .ok (.goto 10, 3) := by decide +kernel
theorem d_Mo_join2_173 : decode prog_13_method_31_code 173 = .ok (.aload_n 0, 1) := by decide +kernel
theorem d_Mo_join2_174 : decode prog_13_method_31_code 174 = .ok (.getfield 26, 3) := by decide +kernel
theorem d_Mo_join2_177 : decode prog_13_method_31_code 177 = .ok (.iload 5, 2) := by decide +kernel
theorem d_Mo_join2_179 : decode prog_13_method_31_code 179 = .ok (.iaload, 1) := by decide +kernel
theorem d_Mo_join2_180 : decode prog_13_method_31_code 180 = .ok (.iastore, 1) := by decide +kernel
theorem d_Mo_join2_181 : decode prog_13_method_31_code 181 = .ok (.iinc 5 1, 3) := by decide +kernel
theorem d_Mo_join2_184 : decode prog_13_method_31_code 184 = .ok (.goto (-52), 3) := by decide +kernel
theorem d_Mo_join2_187 : decode prog_13_method_31_code 187 = .ok (.aload_n 0, 1) := by decide +kernel
theorem d_Mo_join2_188 : decode prog_13_method_31_code 188 = .ok (.dup, 1) := by decide +kernel
theorem d_Mo_join2_189 : decode prog_13_method_31_code 189 = .ok (.getfield 161, 3) := by decide +kernel
theorem d_Mo_join2_192 : decode prog_13_method_31_code 192 = .ok (.iload 4, 2) := by decide +kernel
theorem d_Mo_join2_194 : decode prog_13_method_31_code 194 = .ok (.isub, 1) := by decide +kernel
theorem d_Mo_join2_195 : decode prog_13_method_31_code 195 = .ok (.putfield 161, 3) := by decide +kernel
theorem d_Mo_join2_198 : decode prog_13_method_31_code 198 = .ok (.return_, 1) := by decide +kernel
theorem d_Mo_copyRow_0 : decode prog_13_method_27_code 0 = .ok (.aload_n 0, 1) := by decide +kernel
theorem d_Mo_copyRow_1 : decode prog_13_method_27_code 1 = .ok (.getfield 23, 3) := by decide +kernel
theorem d_Mo_copyRow_4 : decode prog_13_method_27_code 4 = .ok (.iload_n 2, 1) := by decide +kernel
theorem d_Mo_copyRow_5 : decode prog_13_method_27_code 5 = .ok (.aload_n 0, 1) := by decide +kernel
theorem d_Mo_copyRow_6 : decode prog_13_method_27_code 6 = .ok (.getfield 23, 3) := by decide +kernel
theorem d_Mo_copyRow_9 : decode prog_13_method_27_code 9 = .ok (.iload_n 1, 1) := by decide +kernel
theorem d_Mo_copyRow_10 : decode prog_13_method_27_code 10 = .ok (.iaload, 1) := by decide +kernel
theorem d_Mo_copyRow_11 : decode prog_13_method_27_code 11 = .ok (.iastore, 1) := by decide +kernel
theorem d_Mo_copyRow_12 : decode prog_13_method_27_code 12 = .ok (.aload_n 0, 1) := by decide +kernel
theorem d_Mo_copyRow_13 : decode prog_13_method_27_code 13 = .ok (.getfield 26, 3) := by decide +kernel
theorem d_Mo_copyRow_16 : decode prog_13_method_27_code 16 = .ok (.iload_n 2, 1) := by decide +kernel
theorem d_Mo_copyRow_17 : decode prog_13_method_27_code 17 = .ok (.aload_n 0, 1) := by decide +kernel
theorem d_Mo_copyRow_18 : decode prog_13_method_27_code 18 = .ok (.getfield 26, 3) := by decide +kernel
theorem d_Mo_copyRow_21 : decode prog_13_method_27_code 21 = .ok (.iload_n 1, 1) := by decide +kernel
theorem d_Mo_copyRow_22 : decode prog_13_method_27_code 22 = .ok (.iaload, 1) := by decide +kernel
theorem d_Mo_copyRow_23 : decode prog_13_method_27_code 23 = .ok (.iastore, 1) := by decide +kernel
theorem d_Mo_copyRow_24 : decode prog_13_method_27_code 24 = .ok (.aload_n 0, 1) := by decide +kernel
theorem d_Mo_copyRow_25 : decode prog_13_method_27_code 25 = .ok (.getfield 29, 3) := by decide +kernel
theorem d_Mo_copyRow_28 : decode prog_13_method_27_code 28 = .ok (.iload_n 2, 1) := by decide +kernel
theorem d_Mo_copyRow_29 : decode prog_13_method_27_code 29 = .ok (.aload_n 0, 1) := by decide +kernel
theorem d_Mo_copyRow_30 : decode prog_13_method_27_code 30 = .ok (.getfield 29, 3) := by decide +kernel
theorem d_Mo_copyRow_33 : decode prog_13_method_27_code 33 = .ok (.iload_n 1, 1) := by decide +kernel
theorem d_Mo_copyRow_34 : decode prog_13_method_27_code 34 = .ok (.baload, 1) := by decide +kernel
theorem d_Mo_copyRow_35 : decode prog_13_method_27_code 35 = .ok (.bastore, 1) := by decide +kernel
theorem d_Mo_copyRow_36 : decode prog_13_method_27_code 36 = .ok (.aload_n 0, 1) := by decide +kernel
theorem d_Mo_copyRow_37 : decode prog_13_method_27_code 37 = .ok (.getfield 33, 3) := by decide +kernel
theorem d_Mo_copyRow_40 : decode prog_13_method_27_code 40 = .ok (.iload_n 2, 1) := by decide +kernel
theorem d_Mo_copyRow_41 : decode prog_13_method_27_code 41 = .ok (.aload_n 0, 1) := by decide +kernel
theorem d_Mo_copyRow_42 : decode prog_13_method_27_code 42 = .ok (.getfield 33, 3) := by decide +kernel
theorem d_Mo_copyRow_45 : decode prog_13_method_27_code 45 = .ok (.iload_n 1, 1) := by decide +kernel
theorem d_Mo_copyRow_46 : decode prog_13_method_27_code 46 = .ok (.iaload, 1) := by decide +kernel
theorem d_Mo_copyRow_47 : decode prog_13_method_27_code 47 = .ok (.iastore, 1) := by decide +kernel
theorem d_Mo_copyRow_48 : decode prog_13_method_27_code 48 = .ok (.iconst 0, 1) := by decide +kernel
theorem d_Mo_copyRow_49 : decode prog_13_method_27_code 49 = .ok (.istore_n 3, 1) := by decide +kernel
theorem d_Mo_copyRow_50 : decode prog_13_method_27_code 50 = .ok (.iload_n 3, 1) := by decide +kernel
theorem d_Mo_copyRow_51 : decode prog_13_method_27_code 51 = .ok (.bipush 12, 2) := by decide +kernel
theorem d_Mo_copyRow_53 : decode prog_13_method_27_code 53 = .ok (.if_icmp .ge 31, 3) := by decide +kernel
theorem d_Mo_copyRow_56 : decode prog_13_method_27_code 56 = .ok (.aload_n 0, 1) := by decide +kernel
theorem d_Mo_copyRow_57 : decode prog_13_method_27_code 57 = .ok (.getfield 36, 3) := by decide +kernel
theorem d_Mo_copyRow_60 : decode prog_13_method_27_code 60 = .ok (.bipush 12, 2) := by decide +kernel
theorem d_Mo_copyRow_62 : decode prog_13_method_27_code 62 = .ok (.iload_n 2, 1) := by decide +kernel
theorem d_Mo_copyRow_63 : decode prog_13_method_27_code 63 = .ok (.imul, 1) := by decide +kernel
theorem d_Mo_copyRow_64 : decode prog_13_method_27_code 64 = .ok (.iload_n 3, 1) := by decide +kernel
theorem d_Mo_copyRow_65 : decode prog_13_method_27_code 65 = .ok (.iadd, 1) := by decide +kernel
theorem d_Mo_copyRow_66 : decode prog_13_method_27_code 66 = .ok (.aload_n 0, 1) := by decide +kernel
theorem d_Mo_copyRow_67 : decode prog_13_method_27_code 67 = .ok (.getfield 36, 3) := by decide +kernel
theorem d_Mo_copyRow_70 : decode prog_13_method_27_code 70 = .ok (.bipush 12, 2) := by decide +kernel
theorem d_Mo_copyRow_72 : decode prog_13_method_27_code 72 = .ok (.iload_n 1, 1) := by decide +kernel
theorem d_Mo_copyRow_73 : decode prog_13_method_27_code 73 = .ok (.imul, 1) := by decide +kernel
theorem d_Mo_copyRow_74 : decode prog_13_method_27_code 74 = .ok (.iload_n 3, 1) := by decide +kernel
theorem d_Mo_copyRow_75 : decode prog_13_method_27_code 75 = .ok (.iadd, 1) := by decide +kernel
theorem d_Mo_copyRow_76 : decode prog_13_method_27_code 76 = .ok (.laload, 1) := by decide +kernel
theorem d_Mo_copyRow_77 : decode prog_13_method_27_code 77 = .ok (.lastore, 1) := by decide +kernel
theorem d_Mo_copyRow_78 : decode prog_13_method_27_code 78 = .ok (.iinc 3 1, 3) := by decide +kernel
theorem d_Mo_copyRow_81 : decode prog_13_method_27_code 81 = .ok (.goto (-31), 3) := by decide +kernel
theorem d_Mo_copyRow_84 : decode prog_13_method_27_code 84 = .ok (.return_, 1) := by decide +kernel
theorem d_Mo_fuse_0 : decode prog_13_method_33_code 0 = .ok (.aload_n 0, 1) := by decide +kernel
theorem d_Mo_fuse_1 : decode prog_13_method_33_code 1 = .ok (.getfield 131, 3) := by decide +kernel
theorem d_Mo_fuse_4 : decode prog_13_method_33_code 4 = .ok (.ifCond .ne 14, 3) := by decide +kernel
theorem d_Mo_fuse_7 : decode prog_13_method_33_code 7 = .ok (.iload_n 1, 1) := by decide +kernel
theorem d_Mo_fuse_8 : decode prog_13_method_33_code 8 = .ok (.iconst 1, 1) := by decide +kernel
theorem d_Mo_fuse_9 : decode prog_13_method_33_code 9 = .ok (.if_icmp .lt 9, 3) := by decide +kernel
theorem d_Mo_fuse_12 : decode prog_13_method_33_code 12 = .ok (.iload_n 1, 1) := by decide +kernel
theorem d_Mo_fuse_13 : decode prog_13_method_33_code 13 = .ok (.bipush 100, 2) := by decide +kernel
theorem d_Mo_fuse_15 : decode prog_13_method_33_code 15 = .ok (.if_icmp .le 5, 3) := by decide +kernel
theorem d_Mo_fuse_18 : decode prog_13_method_33_code 18 = .ok (.iconst 0, 1) := by decide +kernel
theorem d_Mo_fuse_19 : decode prog_13_method_33_code 19 = .ok (.ireturn, 1) := by decide +kernel
theorem d_Mo_fuse_20 : decode prog_13_method_33_code 20 = .ok (.aload_n 0, 1) := by decide +kernel
theorem d_Mo_fuse_21 : decode prog_13_method_33_code 21 = .ok (.iload_n 1, 1) := by decide +kernel
theorem d_Mo_fuse_22 : decode prog_13_method_33_code 22 = .ok (.putfield 152, 3) := by decide +kernel
theorem d_Mo_fuse_25 : decode prog_13_method_33_code 25 = .ok (.iconst 1, 1) := by decide +kernel
theorem d_Mo_fuse_26 : decode prog_13_method_33_code 26 = .ok (.ireturn, 1) := by decide +kernel
theorem d_Mo_restart_0 : decode prog_13_method_34_code 0 = .ok (.aload_n 0, 1) := by decide +kernel
theorem d_Mo_restart_1 : decode prog_13_method_34_code 1 = .ok (.getfield 131, 3) := by decide +kernel
theorem d_Mo_restart_4 : decode prog_13_method_34_code 4 = .ok (.istore_n 1, 1) := by decide +kernel
theorem d_Mo_restart_5 : decode prog_13_method_34_code 5 = .ok (.aload_n 0, 1) := by decide +kernel
theorem d_Mo_restart_6 : decode prog_13_method_34_code 6 = .ok (.iconst 0, 1) := by decide +kernel
theorem d_Mo_restart_7 : decode prog_13_method_34_code 7 = .ok (.putfield 131, 3) := by decide +kernel
theorem d_Mo_restart_10 : decode prog_13_method_34_code 10 = .ok (.iload_n 1, 1) := by decide +kernel
theorem d_Mo_restart_11 : decode prog_13_method_34_code 11 = .ok (.ireturn, 1) := by decide +kernel
theorem d_Mo_term_0 : decode prog_13_method_36_code 0 = .ok (.aload_n 0, 1) := by decide +kernel
theorem d_Mo_term_1 : decode prog_13_method_36_code 1 = .ok (.getfield 131, 3) := by decide +kernel
theorem d_Mo_term_4 : decode prog_13_method_36_code 4 = .ok (.ifCond .eq 6, 3) := by decide +kernel
theorem d_Mo_term_7 : decode prog_13_method_36_code 7 = .ok (.bipush (-9), 2) := by decide +kernel
theorem d_Mo_term_9 : decode prog_13_method_36_code 9 = .ok (.ireturn, 1) := by decide +kernel
theorem d_Mo_term_10 : decode prog_13_method_36_code 10 = .ok (.lload_n 1, 1) := by decide +kernel
theorem d_Mo_term_11 : decode prog_13_method_36_code 11 = .ok (.invokestatic 122, 3) := by decide +kernel
theorem d_Mo_term_14 : decode prog_13_method_36_code 14 = .ok (.ifCond .eq 12, 3) := by decide +kernel
theorem d_Mo_term_17 : decode prog_13_method_36_code 17 = .ok (.aload_n 0, 1) := by decide +kernel
theorem d_Mo_term_18 : decode prog_13_method_36_code 18 = .ok (.getfield 149, 3) := by decide +kernel
theorem d_Mo_term_21 : decode prog_13_method_36_code 21 = .ok (.bipush 8, 2) := by decide +kernel
theorem d_Mo_term_23 : decode prog_13_method_36_code 23 = .ok (.if_icmp .ne 5, 3) := by decide +kernel
theorem d_Mo_term_26 : decode prog_13_method_36_code 26 = .ok (.iconst (-1), 1) := by decide +kernel
theorem d_Mo_term_27 : decode prog_13_method_36_code 27 = .ok (.ireturn, 1) := by decide +kernel
theorem d_Mo_term_28 : decode prog_13_method_36_code 28 = .ok (.aload_n 0, 1) := by decide +kernel
theorem d_Mo_term_29 : decode prog_13_method_36_code 29 = .ok (.iconst 0, 1) := by decide +kernel
theorem d_Mo_term_30 : decode prog_13_method_36_code 30 = .ok (.lload_n 1, 1) := by decide +kernel
theorem d_Mo_term_31 : decode prog_13_method_36_code 31 = .ok (.invokestatic 139, 3) := by decide +kernel
theorem d_Mo_term_34 : decode prog_13_method_36_code 34 = .ok (.iconst 1, 1) := by decide +kernel
theorem d_Mo_term_35 : decode prog_13_method_36_code 35 = .ok (.invokevirtual 188, 3) := by decide +kernel
theorem d_Mo_term_38 : decode prog_13_method_36_code 38 = .ok (.aload_n 0, 1) := by decide +kernel
theorem d_Mo_term_39 : decode prog_13_method_36_code 39 = .ok (.getfield 149, 3) := by decide +kernel
theorem d_Mo_term_42 : decode prog_13_method_36_code 42 = .ok (.ireturn, 1) := by decide +kernel
theorem d_Mo_push_0 : decode prog_13_method_35_code 0 = .ok (.aload_n 0, 1) := by decide +kernel
theorem d_Mo_push_1 : decode prog_13_method_35_code 1 = .ok (.getfield 39, 3) := by decide +kernel
theorem d_Mo_push_4 : decode prog_13_method_35_code 4 = .ok (.aload_n 0, 1) := by decide +kernel
theorem d_Mo_push_5 : decode prog_13_method_35_code 5 = .ok (.getfield 146, 3) := by decide +kernel
theorem d_Mo_push_8 : decode prog_13_method_35_code 8 = .ok (.iload_n 1, 1) := by decide +kernel
theorem d_Mo_push_9 : decode prog_13_method_35_code 9 = .ok (.iastore, 1) := by decide +kernel
theorem d_Mo_push_10 : decode prog_13_method_35_code 10 = .ok (.aload_n 0, 1) := by decide +kernel
theorem d_Mo_push_11 : decode prog_13_method_35_code 11 = .ok (.getfield 42, 3) := by decide +kernel
theorem d_Mo_push_14 : decode prog_13_method_35_code 14 = .ok (.aload_n 0, 1) := by decide +kernel
theorem d_Mo_push_15 : decode prog_13_method_35_code 15 = .ok (.getfield 146, 3) := by decide +kernel
theorem d_Mo_push_18 : decode prog_13_method_35_code 18 = .ok (.lload_n 2, 1) := by decide +kernel
theorem d_Mo_push_19 : decode prog_13_method_35_code 19 = .ok (.lastore, 1) := by decide +kernel
theorem d_Mo_push_20 : decode prog_13_method_35_code 20 = .ok (.aload_n 0, 1) := by decide +kernel
theorem d_Mo_push_21 : decode prog_13_method_35_code 21 = .ok (.dup, 1) := by decide +kernel
theorem d_Mo_push_22 : decode prog_13_method_35_code 22 = .ok (.getfield 146, 3) := by decide +kernel
theorem d_Mo_push_25 : decode prog_13_method_35_code 25 = .ok (.iconst 1, 1) := by decide +kernel
theorem d_Mo_push_26 : decode prog_13_method_35_code 26 = .ok (.iadd, 1) := by decide +kernel
theorem d_Mo_push_27 : decode prog_13_method_35_code 27 = .ok (.putfield 146, 3) := by decide +kernel
theorem d_Mo_push_30 : decode prog_13_method_35_code 30 = .ok (.aload_n 0, 1) := by decide +kernel
theorem d_Mo_push_31 : decode prog_13_method_35_code 31 = .ok (.getfield 45, 3) := by decide +kernel
theorem d_Mo_push_34 : decode prog_13_method_35_code 34 = .ok (.aload_n 0, 1) := by decide +kernel
theorem d_Mo_push_35 : decode prog_13_method_35_code 35 = .ok (.getfield 149, 3) := by decide +kernel
theorem d_Mo_push_38 : decode prog_13_method_35_code 38 = .ok (.iload 4, 2) := by decide +kernel
theorem d_Mo_push_40 : decode prog_13_method_35_code 40 = .ok (.bastore, 1) := by decide +kernel
theorem d_Mo_push_41 : decode prog_13_method_35_code 41 = .ok (.aload_n 0, 1) := by decide +kernel
theorem d_Mo_push_42 : decode prog_13_method_35_code 42 = .ok (.getfield 48, 3) := by decide +kernel
theorem d_Mo_push_45 : decode prog_13_method_35_code 45 = .ok (.aload_n 0, 1) := by decide +kernel
theorem d_Mo_push_46 : decode prog_13_method_35_code 46 = .ok (.getfield 149, 3) := by decide +kernel
theorem d_Mo_push_49 : decode prog_13_method_35_code 49 = .ok (.iload 4, 2) := by decide +kernel
theorem d_Mo_push_51 : decode prog_13_method_35_code 51 = .ok (.ifCond .eq 7, 3) := by decide +kernel
theorem d_Mo_push_54 : decode prog_13_method_35_code 54 = .ok (.iconst 0, 1) := by decide +kernel
theorem d_Mo_push_55 : decode prog_13_method_35_code 55 = .ok (.goto 4, 3) := by decide +kernel
theorem d_Mo_push_58 : decode prog_13_method_35_code 58 = .ok (.iconst 1, 1) := by decide +kernel
theorem d_Mo_push_59 : decode prog_13_method_35_code 59 = .ok (.iastore, 1) := by decide +kernel
theorem d_Mo_push_60 : decode prog_13_method_35_code 60 = .ok (.aload_n 0, 1) := by decide +kernel
theorem d_Mo_push_61 : decode prog_13_method_35_code 61 = .ok (.dup, 1) := by decide +kernel
theorem d_Mo_push_62 : decode prog_13_method_35_code 62 = .ok (.getfield 149, 3) := by decide +kernel
theorem d_Mo_push_65 : decode prog_13_method_35_code 65 = .ok (.iconst 1, 1) := by decide +kernel
theorem d_Mo_push_66 : decode prog_13_method_35_code 66 = .ok (.iadd, 1) := by decide +kernel
theorem d_Mo_push_67 : decode prog_13_method_35_code 67 = .ok (.putfield 149, 3) := by decide +kernel
theorem d_Mo_push_70 : decode prog_13_method_35_code 70 = .ok (.return_, 1) := by decide +kernel
theorem d_Mo_phrase_0 : decode prog_13_method_37_code 0 = .ok (.aload_n 0, 1) := by decide +kernel
theorem d_Mo_phrase_1 : decode prog_13_method_37_code 1 = .ok (.getfield 131, 3) := by decide +kernel
theorem d_Mo_phrase_4 : decode prog_13_method_37_code 4 = .ok (.ifCond .eq 6, 3) := by decide +kernel
theorem d_Mo_phrase_7 : decode prog_13_method_37_code 7 = .ok (.bipush (-9), 2) := by decide +kernel
theorem d_Mo_phrase_9 : decode prog_13_method_37_code 9 = .ok (.ireturn, 1) := by decide +kernel
theorem d_Mo_phrase_10 : decode prog_13_method_37_code 10 = .ok (.iload_n 1, 1) := by decide +kernel
theorem d_Mo_phrase_11 : decode prog_13_method_37_code 11 = .ok (.iconst 2, 1) := by decide +kernel
theorem d_Mo_phrase_12 : decode prog_13_method_37_code 12 = .ok (.if_icmp .lt 11, 3) := by decide +kernel
theorem d_Mo_phrase_15 : decode prog_13_method_37_code 15 = .ok (.iload_n 1, 1) := by decide +kernel
theorem d_Mo_phrase_16 : decode prog_13_method_37_code 16 = .ok (.aload_n 0, 1) := by decide +kernel
theorem d_Mo_phrase_17 : decode prog_13_method_37_code 17 = .ok (.getfield 149, 3) := by decide +kernel
theorem d_Mo_phrase_20 : decode prog_13_method_37_code 20 = .ok (.if_icmp .le 5, 3) := by decide +kernel
theorem d_Mo_phrase_23 : decode prog_13_method_37_code 23 = .ok (.iconst (-1), 1) := by decide +kernel
theorem d_Mo_phrase_24 : decode prog_13_method_37_code 24 = .ok (.ireturn, 1) := by decide +kernel
theorem d_Mo_phrase_25 : decode prog_13_method_37_code 25 = .ok (.aload_n 0, 1) := by decide +kernel
theorem d_Mo_phrase_26 : decode prog_13_method_37_code 26 = .ok (.getfield 149, 3) := by decide +kernel
theorem d_Mo_phrase_29 : decode prog_13_method_37_code 29 = .ok (.iload_n 1, 1) := by decide +kernel
theorem d_Mo_phrase_30 : decode prog_13_method_37_code 30 = .ok (.isub, 1) := by decide +kernel
theorem d_Mo_phrase_31 : decode prog_13_method_37_code 31 = .ok (.istore_n 2, 1) := by decide +kernel
theorem d_Mo_phrase_32 : decode prog_13_method_37_code 32 = .ok (.iload_n 2, 1) := by decide +kernel
theorem d_Mo_phrase_33 : decode prog_13_method_37_code 33 = .ok (.aload_n 0, 1) := by decide +kernel
theorem d_Mo_phrase_34 : decode prog_13_method_37_code 34 = .ok (.getfield 149, 3) := by decide +kernel
theorem d_Mo_phrase_37 : decode prog_13_method_37_code 37 = .ok (.if_icmp .ge 20, 3) := by decide +kernel
theorem d_Mo_phrase_40 : decode prog_13_method_37_code 40 = .ok (.aload_n 0, 1) := by decide +kernel
theorem d_Mo_phrase_41 : decode prog_13_method_37_code 41 = .ok (.getfield 45, 3) := by decide +kernel
theorem d_Mo_phrase_44 : decode prog_13_method_37_code 44 = .ok (.iload_n 2, 1) := by decide +kernel
theorem d_Mo_phrase_45 : decode prog_13_method_37_code 45 = .ok (.baload, 1) := by decide +kernel
theorem d_Mo_phrase_46 : decode prog_13_method_37_code 46 = .ok (.ifCond .ne 5, 3) := by decide +kernel
theorem d_Mo_phrase_49 : decode prog_13_method_37_code 49 = .ok (.iconst (-1), 1) := by decide +kernel
theorem d_Mo_phrase_50 : decode prog_13_method_37_code 50 = .ok (.ireturn, 1) := by decide +kernel
theorem d_Mo_phrase_51 : decode prog_13_method_37_code 51 = .ok (.iinc 2 1, 3) := by decide +kernel
theorem d_Mo_phrase_54 : decode prog_13_method_37_code 54 = .ok (.goto (-22), 3) := by decide +kernel
theorem d_Mo_phrase_57 : decode prog_13_method_37_code 57 = .ok (.aload_n 0, 1) := by decide +kernel
theorem d_Mo_phrase_58 : decode prog_13_method_37_code 58 = .ok (.dup, 1) := by decide +kernel
theorem d_Mo_phrase_59 : decode prog_13_method_37_code 59 = .ok (.getfield 149, 3) := by decide +kernel
theorem d_Mo_phrase_62 : decode prog_13_method_37_code 62 = .ok (.iload_n 1, 1) := by decide +kernel
theorem d_Mo_phrase_63 : decode prog_13_method_37_code 63 = .ok (.isub, 1) := by decide +kernel
theorem d_Mo_phrase_64 : decode prog_13_method_37_code 64 = .ok (.putfield 149, 3) := by decide +kernel
theorem d_Mo_phrase_67 : decode prog_13_method_37_code 67 = .ok (.aload_n 0, 1) := by decide +kernel
theorem d_Mo_phrase_68 : decode prog_13_method_37_code 68 = .ok (.iconst 1, 1) := by decide +kernel
theorem d_Mo_phrase_69 : decode prog_13_method_37_code 69 = .ok (.iload_n 1, 1) := by decide +kernel
theorem d_Mo_phrase_70 : decode prog_13_method_37_code 70 = .ok (.i2l, 1) := by decide +kernel
theorem d_Mo_phrase_71 : decode prog_13_method_37_code 71 = .ok (.iconst 0, 1) := by decide +kernel
theorem d_Mo_phrase_72 : decode prog_13_method_37_code 72 = .ok (.invokevirtual 188, 3) := by decide +kernel
theorem d_Mo_phrase_75 : decode prog_13_method_37_code 75 = .ok (.aload_n 0, 1) := by decide +kernel
theorem d_Mo_phrase_76 : decode prog_13_method_37_code 76 = .ok (.getfield 149, 3) := by decide +kernel
theorem d_Mo_phrase_79 : decode prog_13_method_37_code 79 = .ok (.ireturn, 1) := by decide +kernel
theorem d_Mo_join_0 : decode prog_13_method_38_code 0 = .ok (.aload_n 0, 1) := by decide +kernel
theorem d_Mo_join_1 : decode prog_13_method_38_code 1 = .ok (.getfield 131, 3) := by decide +kernel
theorem d_Mo_join_4 : decode prog_13_method_38_code 4 = .ok (.ifCond .eq 6, 3) := by decide +kernel
theorem d_Mo_join_7 : decode prog_13_method_38_code 7 = .ok (.bipush (-9), 2) := by decide +kernel
theorem d_Mo_join_9 : decode prog_13_method_38_code 9 = .ok (.ireturn, 1) := by decide +kernel
theorem d_Mo_join_10 : decode prog_13_method_38_code 10 = .ok (.iload_n 1, 1) := by decide +kernel
theorem d_Mo_join_11 : decode prog_13_method_38_code 11 = .ok (.ifCond .lt 25, 3) := by decide +kernel
theorem d_Mo_join_14 : decode prog_13_method_38_code 14 = .ok (.iload_n 1, 1) := by decide +kernel
theorem d_Mo_join_15 : decode prog_13_method_38_code 15 = .ok (.iconst 2, 1) := by decide +kernel
theorem d_Mo_join_16 : decode prog_13_method_38_code 16 = .ok (.if_icmp .gt 20, 3) := by decide +kernel
theorem d_Mo_join_19 : decode prog_13_method_38_code 19 = .ok (.aload_n 0, 1) := by decide +kernel
theorem d_Mo_join_20 : decode prog_13_method_38_code 20 = .ok (.getfield 149, 3) := by decide +kernel
theorem d_Mo_join_23 : decode prog_13_method_38_code 23 = .ok (.iload_n 1, 1) := by decide +kernel
theorem d_Mo_join_24 : decode prog_13_method_38_code 24 = .ok (.iconst 2, 1) := by decide +kernel
theorem d_Mo_join_25 : decode prog_13_method_38_code 25 = .ok (.if_icmp .ne 7, 3) := by decide +kernel
theorem d_Mo_join_28 : decode prog_13_method_38_code 28 = .ok (.iconst 1, 1) := by decide +kernel
theorem d_Mo_join_29 : decode prog_13_method_38_code 29 = .ok (.goto 4, 3) := by decide +kernel
theorem d_Mo_join_32 : decode prog_13_method_38_code 32 = .ok (.iconst 2, 1) := by decide +kernel
theorem d_Mo_join_33 : decode prog_13_method_38_code 33 = .ok (.if_icmp .ge 5, 3) := by decide +kernel
theorem d_Mo_join_36 : decode prog_13_method_38_code 36 = .ok (.iconst (-1), 1) := by decide +kernel
theorem d_Mo_join_37 : decode prog_13_method_38_code 37 = .ok (.ireturn, 1) := by decide +kernel
theorem d_Mo_join_38 : decode prog_13_method_38_code 38 = .ok (.aload_n 0, 1) := by decide +kernel
theorem d_Mo_join_39 : decode prog_13_method_38_code 39 = .ok (.getfield 48, 3) := by decide +kernel
theorem d_Mo_join_42 : decode prog_13_method_38_code 42 = .ok (.aload_n 0, 1) := by decide +kernel
theorem d_Mo_join_43 : decode prog_13_method_38_code 43 = .ok (.getfield 149, 3) := by decide +kernel
theorem d_Mo_join_46 : decode prog_13_method_38_code 46 = .ok (.iconst 1, 1) := by decide +kernel
theorem d_Mo_join_47 : decode prog_13_method_38_code 47 = .ok (.isub, 1) := by decide +kernel
theorem d_Mo_join_48 : decode prog_13_method_38_code 48 = .ok (.iaload, 1) := by decide +kernel
theorem d_Mo_join_49 : decode prog_13_method_38_code 49 = .ok (.istore_n 2, 1) := by decide +kernel
theorem d_Mo_join_50 : decode prog_13_method_38_code 50 = .ok (.iload_n 1, 1) := by decide +kernel
theorem d_Mo_join_51 : decode prog_13_method_38_code 51 = .ok (.iconst 2, 1) := by decide +kernel
theorem d_Mo_join_52 : decode prog_13_method_38_code 52 = .ok (.if_icmp .ge 32, 3) := by decide +kernel
theorem d_Mo_join_55 : decode prog_13_method_38_code 55 = .ok (.aload_n 0, 1) := by decide +kernel
theorem d_Mo_join_56 : decode prog_13_method_38_code 56 = .ok (.getfield 48, 3) := by decide +kernel
theorem d_Mo_join_59 : decode prog_13_method_38_code 59 = .ok (.aload_n 0, 1) := by decide +kernel
theorem d_Mo_join_60 : decode prog_13_method_38_code 60 = .ok (.getfield 149, 3) := by decide +kernel
theorem d_Mo_join_63 : decode prog_13_method_38_code 63 = .ok (.iconst 2, 1) := by decide +kernel
theorem d_Mo_join_64 : decode prog_13_method_38_code 64 = .ok (.isub, 1) := by decide +kernel
theorem d_Mo_join_65 : decode prog_13_method_38_code 65 = .ok (.iaload, 1) := by decide +kernel
theorem d_Mo_join_66 : decode prog_13_method_38_code 66 = .ok (.iload_n 2, 1) := by decide +kernel
theorem d_Mo_join_67 : decode prog_13_method_38_code 67 = .ok (.if_icmp .le 17, 3) := by decide +kernel
theorem d_Mo_join_70 : decode prog_13_method_38_code 70 = .ok (.aload_n 0, 1) := by decide +kernel
theorem d_Mo_join_71 : decode prog_13_method_38_code 71 = .ok (.getfield 48, 3) := by decide +kernel
theorem d_Mo_join_74 : decode prog_13_method_38_code 74 = .ok (.aload_n 0, 1) := by decide +kernel
theorem d_Mo_join_75 : decode prog_13_method_38_code 75 = .ok (.getfield 149, 3) := by decide +kernel
theorem d_Mo_join_78 : decode prog_13_method_38_code 78 = .ok (.iconst 2, 1) := by decide +kernel
theorem d_Mo_join_79 : decode prog_13_method_38_code 79 = .ok (.isub, 1) := by decide +kernel
theorem d_Mo_join_80 : decode prog_13_method_38_code 80 = .ok (.iaload, 1) := by decide +kernel
theorem d_Mo_join_81 : decode prog_13_method_38_code 81 = .ok (.goto 4, 3) := by decide +kernel
theorem d_Mo_join_84 : decode prog_13_method_38_code 84 = .ok (.iload_n 2, 1) := by decide +kernel
theorem d_Mo_join_85 : decode prog_13_method_38_code 85 = .ok (.istore_n 2, 1) := by decide +kernel
theorem d_Mo_join_86 : decode prog_13_method_38_code 86 = .ok (.iload_n 2, 1) := by decide +kernel
theorem d_Mo_join_87 : decode prog_13_method_38_code 87 = .ok (.bipush 6, 2) := by decide +kernel
theorem d_Mo_join_89 : decode prog_13_method_38_code 89 = .ok (.if_icmp .ne 5, 3) := by decide +kernel
theorem d_Mo_join_92 : decode prog_13_method_38_code 92 = .ok (.iconst (-1), 1) := by decide +kernel
theorem d_Mo_join_93 : decode prog_13_method_38_code 93 = .ok (.ireturn, 1) := by decide +kernel
theorem d_Mo_join_94 : decode prog_13_method_38_code 94 = .ok (.aload_n 0, 1) := by decide +kernel
theorem d_Mo_join_95 : decode prog_13_method_38_code 95 = .ok (.dup, 1) := by decide +kernel
theorem d_Mo_join_96 : decode prog_13_method_38_code 96 = .ok (.getfield 149, 3) := by decide +kernel
theorem d_Mo_join_99 : decode prog_13_method_38_code 99 = .ok (.iload_n 1, 1) := by decide +kernel
theorem d_Mo_join_100 : decode prog_13_method_38_code 100 = .ok (.iconst 2, 1) := by decide +kernel
theorem d_Mo_join_101 : decode prog_13_method_38_code 101 = .ok (.if_icmp .ne 7, 3) := by decide +kernel
theorem d_Mo_join_104 : decode prog_13_method_38_code 104 = .ok (.iconst 1, 1) := by decide +kernel
theorem d_Mo_join_105 : decode prog_13_method_38_code 105 = .ok (.goto 4, 3) := by decide +kernel
theorem d_Mo_join_108 : decode prog_13_method_38_code 108 = .ok (.iconst 2, 1) := by decide +kernel
theorem d_Mo_join_109 : decode prog_13_method_38_code 109 = .ok (.isub, 1) := by decide +kernel
theorem d_Mo_join_110 : decode prog_13_method_38_code 110 = .ok (.putfield 149, 3) := by decide +kernel
theorem d_Mo_join_113 : decode prog_13_method_38_code 113 = .ok (.aload_n 0, 1) := by decide +kernel
theorem d_Mo_join_114 : decode prog_13_method_38_code 114 = .ok (.iconst 2, 1) := by decide +kernel
theorem d_Mo_join_115 : decode prog_13_method_38_code 115 = .ok (.iload_n 1, 1) := by decide +kernel
theorem d_Mo_join_116 : decode prog_13_method_38_code 116 = .ok (.iadd, 1) := by decide +kernel
theorem d_Mo_join_117 : decode prog_13_method_38_code 117 = .ok (.lconst 0, 1) := by decide +kernel
theorem d_Mo_join_118 : decode prog_13_method_38_code 118 = .ok (.iconst 0, 1) := by decide +kernel
theorem d_Mo_join_119 : decode prog_13_method_38_code 119 = .ok (.invokevirtual 188, 3) := by decide +kernel
theorem d_Mo_join_122 : decode prog_13_method_38_code 122 = .ok (.aload_n 0, 1) := by decide +kernel
theorem d_Mo_join_123 : decode prog_13_method_38_code 123 = .ok (.getfield 48, 3) := by decide +kernel
theorem d_Mo_join_126 : decode prog_13_method_38_code 126 = .ok (.aload_n 0, 1) := by decide +kernel
theorem d_Mo_join_127 : decode prog_13_method_38_code 127 = .ok (.getfield 149, 3) := by decide +kernel
theorem d_Mo_join_130 : decode prog_13_method_38_code 130 = .ok (.iconst 1, 1) := by decide +kernel
theorem d_Mo_join_131 : decode prog_13_method_38_code 131 = .ok (.isub, 1) := by decide +kernel
theorem d_Mo_join_132 : decode prog_13_method_38_code 132 = .ok (.iload_n 2, 1) := by decide +kernel
theorem d_Mo_join_133 : decode prog_13_method_38_code 133 = .ok (.iconst 1, 1) := by decide +kernel
theorem d_Mo_join_134 : decode prog_13_method_38_code 134 = .ok (.iadd, 1) := by decide +kernel
theorem d_Mo_join_135 : decode prog_13_method_38_code 135 = .ok (.iastore, 1) := by decide +kernel
theorem d_Mo_join_136 : decode prog_13_method_38_code 136 = .ok (.aload_n 0, 1) := by decide +kernel
theorem d_Mo_join_137 : decode prog_13_method_38_code 137 = .ok (.getfield 149, 3) := by decide +kernel
theorem d_Mo_join_140 : decode prog_13_method_38_code 140 = .ok (.ireturn, 1) := by decide +kernel
theorem d_Mo_find_0 : decode prog_13_method_43_code 0 = .ok (.aload_n 0, 1) := by decide +kernel
theorem d_Mo_find_1 : decode prog_13_method_43_code 1 = .ok (.getfield 131, 3) := by decide +kernel
theorem d_Mo_find_4 : decode prog_13_method_43_code 4 = .ok (.ifCond .eq 6, 3) := by decide +kernel
theorem d_Mo_find_7 : decode prog_13_method_43_code 7 = .ok (.bipush (-9), 2) := by decide +kernel
theorem d_Mo_find_9 : decode prog_13_method_43_code 9 = .ok (.ireturn, 1) := by decide +kernel
theorem d_Mo_find_10 : decode prog_13_method_43_code 10 = .ok (.aload_n 0, 1) := by decide +kernel
theorem d_Mo_find_11 : decode prog_13_method_43_code 11 = .ok (.iconst 0, 1) := by decide +kernel
theorem d_Mo_find_12 : decode prog_13_method_43_code 12 = .ok (.putfield 200, 3) := by decide +kernel
theorem d_Mo_find_15 : decode prog_13_method_43_code 15 = .ok (.aload_n 0, 1) := by decide +kernel
theorem d_Mo_find_16 : decode prog_13_method_43_code 16 = .ok (.getfield 149, 3) := by decide +kernel
theorem d_Mo_find_19 : decode prog_13_method_43_code 19 = .ok (.iconst 1, 1) := by decide +kernel
theorem d_Mo_find_20 : decode prog_13_method_43_code 20 = .ok (.if_icmp .ne 7, 3) := by decide +kernel
theorem d_Mo_find_23 : decode prog_13_method_43_code 23 = .ok (.iconst 1, 1) := by decide +kernel
theorem d_Mo_find_24 : decode prog_13_method_43_code 24 = .ok (.goto 4, 3) := by decide +kernel
theorem d_Mo_find_27 : decode prog_13_method_43_code 27 = .ok (.iconst 0, 1) := by decide +kernel
theorem d_Mo_find_28 : decode prog_13_method_43_code 28 = .ok (.istore_n 1, 1) := by decide +kernel
theorem d_Mo_find_29 : decode prog_13_method_43_code 29 = .ok (.aload_n 0, 1) := by decide +kernel
theorem d_Mo_find_30 : decode prog_13_method_43_code 30 = .ok (.invokevirtual 203, 3) := by decide +kernel
theorem d_Mo_find_33 : decode prog_13_method_43_code 33 = .ok (.iconst 0, 1) := by decide +kernel
theorem d_Mo_find_34 : decode prog_13_method_43_code 34 = .ok (.istore_n 2, 1) := by decide +kernel
theorem d_Mo_find_35 : decode prog_13_method_43_code 35 = .ok (.iload_n 2, 1) := by decide +kernel
theorem d_Mo_find_36 : decode prog_13_method_43_code 36 = .ok (.bipush 12, 2) := by decide +kernel
theorem d_Mo_find_38 : decode prog_13_method_43_code 38 = .ok (.if_icmp .ge 65, 3) := by decide +kernel
theorem d_Mo_find_41 : decode prog_13_method_43_code 41 = .ok (.iload_n 1, 1) := by decide +kernel
theorem d_Mo_find_42 : decode prog_13_method_43_code 42 = .ok (.ifCond .eq 61, 3) := by decide +kernel
theorem d_Mo_find_45 : decode prog_13_method_43_code 45 = .ok (.aload_n 0, 1) := by decide +kernel
theorem d_Mo_find_46 : decode prog_13_method_43_code 46 = .ok (.getfield 60, 3) := by decide +kernel
theorem d_Mo_find_49 : decode prog_13_method_43_code 49 = .ok (.iload_n 2, 1) := by decide +kernel
theorem d_Mo_find_50 : decode prog_13_method_43_code 50 = .ok (.iaload, 1) := by decide +kernel
theorem d_Mo_find_51 : decode prog_13_method_43_code 51 = .ok (.ifCond .lt 46, 3) := by decide +kernel
theorem d_Mo_find_54 : decode prog_13_method_43_code 54 = .ok (.aload_n 0, 1) := by decide +kernel
theorem d_Mo_find_55 : decode prog_13_method_43_code 55 = .ok (.aload_n 0, 1) := by decide +kernel
theorem d_Mo_find_56 : decode prog_13_method_43_code 56 = .ok (.getfield 60, 3) := by decide +kernel
theorem d_Mo_find_59 : decode prog_13_method_43_code 59 = .ok (.iload_n 2, 1) := by decide +kernel
theorem d_Mo_find_60 : decode prog_13_method_43_code 60 = .ok (.iaload, 1) := by decide +kernel
theorem d_Mo_find_61 : decode prog_13_method_43_code 61 = .ok (.invokevirtual 206, 3) := by decide +kernel
theorem d_Mo_find_64 : decode prog_13_method_43_code 64 = .ok (.ifCond .eq 33, 3) := by decide +kernel
theorem d_Mo_find_67 : decode prog_13_method_43_code 67 = .ok (.aload_n 0, 1) := by decide +kernel
theorem d_Mo_find_68 : decode prog_13_method_43_code 68 = .ok (.getfield 54, 3) := by decide +kernel
theorem d_Mo_find_71 : decode prog_13_method_43_code 71 = .ok (.aload_n 0, 1) := by decide +kernel
theorem d_Mo_find_72 : decode prog_13_method_43_code 72 = .ok (.getfield 200, 3) := by decide +kernel
theorem d_Mo_find_75 : decode prog_13_method_43_code 75 = .ok (.iload_n 2, 1) := by decide +kernel
theorem d_Mo_find_76 : decode prog_13_method_43_code 76 = .ok (.iastore, 1) := by decide +kernel
theorem d_Mo_find_77 : decode prog_13_method_43_code 77 = .ok (.aload_n 0, 1) := by decide +kernel
theorem d_Mo_find_78 : decode prog_13_method_43_code 78 = .ok (.getfield 57, 3) := by decide +kernel
theorem d_Mo_find_81 : decode prog_13_method_43_code 81 = .ok (.aload_n 0, 1) := by decide +kernel
theorem d_Mo_find_82 : decode prog_13_method_43_code 82 = .ok (.getfield 200, 3) := by decide +kernel
theorem d_Mo_find_85 : decode prog_13_method_43_code 85 = .ok (.lconst 0, 1) := by decide +kernel
theorem d_Mo_find_86 : decode prog_13_method_43_code 86 = .ok (.lastore, 1) := by decide +kernel
theorem d_Mo_find_87 : decode prog_13_method_43_code 87 = .ok (.aload_n 0, 1) := by decide +kernel
theorem d_Mo_find_88 : decode prog_13_method_43_code 88 = .ok (.dup, 1) := by decide +kernel
theorem d_Mo_find_89 : decode prog_13_method_43_code 89 = .ok (.getfield 200, 3) := by decide +kernel
theorem d_Mo_find_92 : decode prog_13_method_43_code 92 = .ok (.iconst 1, 1) := by decide +kernel
theorem d_Mo_find_93 : decode prog_13_method_43_code 93 = .ok (.iadd, 1) := by decide +kernel
theorem d_Mo_find_94 : decode prog_13_method_43_code 94 = .ok (.putfield 200, 3) := by decide +kernel
theorem d_Mo_find_97 : decode prog_13_method_43_code 97 = .ok (.iinc 2 1, 3) := by decide +kernel
theorem d_Mo_find_100 : decode prog_13_method_43_code 100 = .ok (.goto (-65), 3) := by decide +kernel
theorem d_Mo_find_103 : decode prog_13_method_43_code 103 = .ok (.aload_n 0, 1) := by decide +kernel
theorem d_Mo_find_104 : decode prog_13_method_43_code 104 = .ok (.iconst 0, 1) := by decide +kernel
theorem d_Mo_find_105 : decode prog_13_method_43_code 105 = .ok (.putfield 146, 3) := by decide +kernel
theorem d_Mo_find_108 : decode prog_13_method_43_code 108 = .ok (.aload_n 0, 1) := by decide +kernel
theorem d_Mo_find_109 : decode prog_13_method_43_code 109 = .ok (.iconst 0, 1) := by decide +kernel
theorem d_Mo_find_110 : decode prog_13_method_43_code 110 = .ok (.putfield 149, 3) := by decide +kernel
theorem d_Mo_find_113 : decode prog_13_method_43_code 113 = .ok (.iload_n 1, 1) := by decide +kernel
theorem d_Mo_find_114 : decode prog_13_method_43_code 114 = .ok (.ifCond .eq 10, 3) := by decide +kernel
theorem d_Mo_find_117 : decode prog_13_method_43_code 117 = .ok (.aload_n 0, 1) := by decide +kernel
theorem d_Mo_find_118 : decode prog_13_method_43_code 118 = .ok (.getfield 200, 3) := by decide +kernel
theorem d_Mo_find_121 : decode prog_13_method_43_code 121 = .ok (.goto 5, 3) := by decide +kernel
theorem d_Mo_find_124 : decode prog_13_method_43_code 124 = .ok (.bipush (-3), 2) := by decide +kernel
theorem d_Mo_find_126 : decode prog_13_method_43_code 126 = .ok (.ireturn, 1) := by decide +kernel
theorem d_Mo_lookUp_0 : decode prog_13_method_42_code 0 = .ok (.iconst 0, 1) := by decide +kernel
theorem d_Mo_lookUp_1 : decode prog_13_method_42_code 1 = .ok (.istore_n 1, 1) := by decide +kernel
theorem d_Mo_lookUp_2 : decode prog_13_method_42_code 2 = .ok (.iload_n 1, 1) := by decide +kernel
theorem d_Mo_lookUp_3 : decode prog_13_method_42_code 3 = .ok (.bipush 12, 2) := by decide +kernel
theorem d_Mo_lookUp_5 : decode prog_13_method_42_code 5 = .ok (.if_icmp .ge 16, 3) := by decide +kernel
theorem d_Mo_lookUp_8 : decode prog_13_method_42_code 8 = .ok (.aload_n 0, 1) := by decide +kernel
theorem d_Mo_lookUp_9 : decode prog_13_method_42_code 9 = .ok (.getfield 60, 3) := by decide +kernel
theorem d_Mo_lookUp_12 : decode prog_13_method_42_code 12 = .ok (.iload_n 1, 1) := by decide +kernel
theorem d_Mo_lookUp_13 : decode prog_13_method_42_code 13 = .ok (.iconst (-1), 1) := by decide +kernel
theorem d_Mo_lookUp_14 : decode prog_13_method_42_code 14 = .ok (.iastore, 1) := by decide +kernel
theorem d_Mo_lookUp_15 : decode prog_13_method_42_code 15 = .ok (.iinc 1 1, 3) := by decide +kernel
theorem d_Mo_lookUp_18 : decode prog_13_method_42_code 18 = .ok (.goto (-16), 3) := by decide +kernel
theorem d_Mo_lookUp_21 : decode prog_13_method_42_code 21 = .ok (.iconst 0, 1) := by decide +kernel
theorem d_Mo_lookUp_22 : decode prog_13_method_42_code 22 = .ok (.istore_n 1, 1) := by decide +kernel
theorem d_Mo_lookUp_23 : decode prog_13_method_42_code 23 = .ok (.iload_n 1, 1) := by decide +kernel
theorem d_Mo_lookUp_24 : decode prog_13_method_42_code 24 = .ok (.aload_n 0, 1) := by decide +kernel
theorem d_Mo_lookUp_25 : decode prog_13_method_42_code 25 = .ok (.getfield 158, 3) := by decide +kernel
theorem d_Mo_lookUp_28 : decode prog_13_method_42_code 28 = .ok (.if_icmp .ge 30, 3) := by decide +kernel
theorem d_Mo_lookUp_31 : decode prog_13_method_42_code 31 = .ok (.aload_n 0, 1) := by decide +kernel
theorem d_Mo_lookUp_32 : decode prog_13_method_42_code 32 = .ok (.getfield 29, 3) := by decide +kernel
theorem d_Mo_lookUp_35 : decode prog_13_method_42_code 35 = .ok (.iload_n 1, 1) := by decide +kernel
theorem d_Mo_lookUp_36 : decode prog_13_method_42_code 36 = .ok (.baload, 1) := by decide +kernel
theorem d_Mo_lookUp_37 : decode prog_13_method_42_code 37 = .ok (.ifCond .ne 15, 3) := by decide +kernel
theorem d_Mo_lookUp_40 : decode prog_13_method_42_code 40 = .ok (.aload_n 0, 1) := by decide +kernel
theorem d_Mo_lookUp_41 : decode prog_13_method_42_code 41 = .ok (.getfield 60, 3) := by decide +kernel
theorem d_Mo_lookUp_44 : decode prog_13_method_42_code 44 = .ok (.aload_n 0, 1) := by decide +kernel
theorem d_Mo_lookUp_45 : decode prog_13_method_42_code 45 = .ok (.getfield 23, 3) := by decide +kernel
theorem d_Mo_lookUp_48 : decode prog_13_method_42_code 48 = .ok (.iload_n 1, 1) := by decide +kernel
theorem d_Mo_lookUp_49 : decode prog_13_method_42_code 49 = .ok (.iaload, 1) := by decide +kernel
theorem d_Mo_lookUp_50 : decode prog_13_method_42_code 50 = .ok (.iload_n 1, 1) := by decide +kernel
theorem d_Mo_lookUp_51 : decode prog_13_method_42_code 51 = .ok (.iastore, 1) := by decide +kernel
theorem d_Mo_lookUp_52 : decode prog_13_method_42_code 52 = .ok (.iinc 1 1, 3) := by decide +kernel
theorem d_Mo_lookUp_55 : decode prog_13_method_42_code 55 = .ok (.goto (-32), 3) := by decide +kernel
theorem d_Mo_lookUp_58 : decode prog_13_method_42_code 58 = .ok (.return_, 1) := by decide +kernel
theorem d_Mo_matches_0 : decode prog_13_method_41_code 0 = .ok (.iconst 0, 1) := by decide +kernel
theorem d_Mo_matches_1 : decode prog_13_method_41_code 1 = .ok (.istore_n 2, 1) := by decide +kernel
theorem d_Mo_matches_2 : decode prog_13_method_41_code 2 = .ok (.iconst 0, 1) := by decide +kernel
theorem d_Mo_matches_3 : decode prog_13_method_41_code 3 = .ok (.istore_n 3, 1) := by decide +kernel
theorem d_Mo_matches_4 : decode prog_13_method_41_code 4 = .ok (.iload_n 3, 1) := by decide +kernel
theorem d_Mo_matches_5 : decode prog_13_method_41_code 5 = .ok (.aload_n 0, 1) := by decide +kernel
theorem d_Mo_matches_6 : decode prog_13_method_41_code 6 = .ok (.getfield 146, 3) := by decide +kernel
theorem d_Mo_matches_9 : decode prog_13_method_41_code 9 = .ok (.if_icmp .ge 205, 3) := by decide +kernel
theorem d_Mo_matches_12 : decode prog_13_method_41_code 12 = .ok (.aload_n 0, 1) := by decide +kernel
theorem d_Mo_matches_13 : decode prog_13_method_41_code 13 = .ok (.getfield 39, 3) := by decide +kernel
theorem d_Mo_matches_16 : decode prog_13_method_41_code 16 = .ok (.iload_n 3, 1) := by decide +kernel
theorem d_Mo_matches_17 : decode prog_13_method_41_code 17 = .ok (.iaload, 1) := by decide +kernel
theorem d_Mo_matches_18 : decode prog_13_method_41_code 18 = .ok (.ifCond .ne 34, 3) := by decide +kernel
theorem d_Mo_matches_21 : decode prog_13_method_41_code 21 = .ok (.aload_n 0, 1) := by decide +kernel
theorem d_Mo_matches_22 : decode prog_13_method_41_code 22 = .ok (.getfield 51, 3) := by decide +kernel
theorem d_Mo_matches_25 : decode prog_13_method_41_code 25 = .ok (.iload_n 2, 1) := by decide +kernel
theorem d_Mo_matches_26 : decode prog_13_method_41_code 26 = .ok (.aload_n 0, 1) := by decide +kernel
theorem d_Mo_matches_27 : decode prog_13_method_41_code 27 = .ok (.iload_n 1, 1) := by decide +kernel
theorem d_Mo_matches_28 : decode prog_13_method_41_code 28 = .ok (.aload_n 0, 1) := by decide +kernel
theorem d_Mo_matches_29 : decode prog_13_method_41_code 29 = .ok (.getfield 42, 3) := by decide +kernel
theorem d_Mo_matches_32 : decode prog_13_method_41_code 32 = .ok (.iload_n 3, 1) := by decide +kernel
theorem d_Mo_matches_33 : decode prog_13_method_41_code 33 = .ok (.laload, 1) := by decide +kernel
theorem d_Mo_matches_34 : decode prog_13_method_41_code 34 = .ok (.invokevirtual 192, 3) := by decide +kernel
theorem d_Mo_matches_37 : decode prog_13_method_41_code 37 = .ok (.ifCond .le 7, 3) := by decide +kernel
theorem d_Mo_matches_40 : decode prog_13_method_41_code 40 = .ok (.iconst 1, 1) := by decide +kernel
theorem d_Mo_matches_41 : decode prog_13_method_41_code 41 = .ok (.goto 4, 3) := by decide +kernel
theorem d_Mo_matches_44 : decode prog_13_method_41_code 44 = .ok (.iconst 0, 1) := by decide +kernel
theorem d_Mo_matches_45 : decode prog_13_method_41_code 45 = .ok (.bastore, 1) := by decide +kernel
theorem d_Mo_matches_46 : decode prog_13_method_41_code 46 = .ok (.iinc 2 1, 3) := by decide +kernel
theorem d_Mo_matches_49 : decode prog_13_method_41_code 49 = .ok (.goto 159, 3) := by decide +kernel
theorem d_Mo_matches_52 : decode prog_13_method_41_code 52 = .ok (.aload_n 0, 1) := by decide +kernel
theorem d_Mo_matches_53 : decode prog_13_method_41_code 53 = .ok (.getfield 39, 3) := by decide +kernel
theorem d_Mo_matches_56 : decode prog_13_method_41_code 56 = .ok (.iload_n 3, 1) := by decide +kernel
theorem d_Mo_matches_57 : decode prog_13_method_41_code 57 = .ok (.iaload, 1) := by decide +kernel
theorem d_Mo_matches_58 : decode prog_13_method_41_code 58 = .ok (.iconst 1, 1) := by decide +kernel
theorem d_Mo_matches_59 : decode prog_13_method_41_code 59 = .ok (.if_icmp .ne 38, 3) := by decide +kernel
theorem d_Mo_matches_62 : decode prog_13_method_41_code 62 = .ok (.aload_n 0, 1) := by decide +kernel
theorem d_Mo_matches_63 : decode prog_13_method_41_code 63 = .ok (.getfield 42, 3) := by decide +kernel
theorem d_Mo_matches_66 : decode prog_13_method_41_code 66 = .ok (.iload_n 3, 1) := by decide +kernel
theorem d_Mo_matches_67 : decode prog_13_method_41_code 67 = .ok (.laload, 1) := by decide +kernel
theorem d_Mo_matches_68 : decode prog_13_method_41_code 68 = .ok (.l2i, 1) := by decide +kernel
theorem d_Mo_matches_69 : decode prog_13_method_41_code 69 = .ok (.istore 4, 2) := by decide +kernel
theorem d_Mo_matches_71 : decode prog_13_method_41_code 71 = .ok (.iload_n 2, 1) := by decide +kernel
theorem d_Mo_matches_72 : decode prog_13_method_41_code 72 = .ok (.iload 4, 2) := by decide +kernel
theorem d_Mo_matches_74 : decode prog_13_method_41_code 74 = .ok (.isub, 1) := by decide +kernel
theorem d_Mo_matches_75 : decode prog_13_method_41_code 75 = .ok (.iconst 1, 1) := by decide +kernel
theorem d_Mo_matches_76 : decode prog_13_method_41_code 76 = .ok (.iadd, 1) := by decide +kernel
theorem d_Mo_matches_77 : decode prog_13_method_41_code 77 = .ok (.istore_n 2, 1) := by decide +kernel
theorem d_Mo_matches_78 : decode prog_13_method_41_code 78 = .ok (.aload_n 0, 1) := by decide +kernel
theorem d_Mo_matches_79 : decode prog_13_method_41_code 79 = .ok (.getfield 51, 3) := by decide +kernel
theorem d_Mo_matches_82 : decode prog_13_method_41_code 82 = .ok (.iload_n 2, 1) := by decide +kernel
theorem d_Mo_matches_83 : decode prog_13_method_41_code 83 = .ok (.iconst 1, 1) := by decide +kernel
theorem d_Mo_matches_84 : decode prog_13_method_41_code 84 = .ok (.isub, 1) := by decide +kernel
theorem d_Mo_matches_85 : decode prog_13_method_41_code 85 = .ok (.aload_n 0, 1) := by decide +kernel
theorem d_Mo_matches_86 : decode prog_13_method_41_code 86 = .ok (.iload_n 1, 1) := by decide +kernel
theorem d_Mo_matches_87 : decode prog_13_method_41_code 87 = .ok (.iload_n 3, 1) := by decide +kernel
theorem d_Mo_matches_88 : decode prog_13_method_41_code 88 = .ok (.iload 4, 2) := by decide +kernel
theorem d_Mo_matches_90 : decode prog_13_method_41_code 90 = .ok (.invokevirtual 196, 3) := by decide +kernel
theorem d_Mo_matches_93 : decode prog_13_method_41_code 93 = .ok (.bastore, 1) := by decide +kernel
theorem d_Mo_matches_94 : decode prog_13_method_41_code 94 = .ok (.goto 114, 3) := by decide +kernel
theorem d_Mo_matches_97 : decode prog_13_method_41_code 97 = .ok (.aload_n 0, 1) := by decide +kernel
theorem d_Mo_matches_98 : decode prog_13_method_41_code 98 = .ok (.getfield 39, 3) := by decide +kernel
theorem d_Mo_matches_101 : decode prog_13_method_41_code 101 = .ok (.iload_n 3, 1) := by decide +kernel
theorem d_Mo_matches_102 : decode prog_13_method_41_code 102 = .ok (.iaload, 1) := by decide +kernel
theorem d_Mo_matches_103 : decode prog_13_method_41_code 103 = .ok (.iconst 4, 1) := by decide +kernel
theorem d_Mo_matches_104 : decode prog_13_method_41_code 104 = .ok (.if_icmp .ne 30, 3) := by decide +kernel
theorem d_Mo_matches_107 : decode prog_13_method_41_code 107 = .ok (.aload_n 0, 1) := by decide +kernel
theorem d_Mo_matches_108 : decode prog_13_method_41_code 108 = .ok (.getfield 51, 3) := by decide +kernel
theorem d_Mo_matches_111 : decode prog_13_method_41_code 111 = .ok (.iload_n 2, 1) := by decide +kernel
theorem d_Mo_matches_112 : decode prog_13_method_41_code 112 = .ok (.iconst 1, 1) := by decide +kernel
theorem d_Mo_matches_113 : decode prog_13_method_41_code 113 = .ok (.isub, 1) := by decide +kernel
theorem d_Mo_matches_114 : decode prog_13_method_41_code 114 = .ok (.aload_n 0, 1) := by decide +kernel
theorem d_Mo_matches_115 : decode prog_13_method_41_code 115 = .ok (.getfield 51, 3) := by decide +kernel
theorem d_Mo_matches_118 : decode prog_13_method_41_code 118 = .ok (.iload_n 2, 1) := by decide +kernel
theorem d_Mo_matches_119 : decode prog_13_method_41_code 119 = .ok (.iconst 1, 1) := by decide +kernel
theorem d_Mo_matches_120 : decode prog_13_method_41_code 120 = .ok (.isub, 1) := by decide +kernel
theorem d_Mo_matches_121 : decode prog_13_method_41_code 121 = .ok (.baload, 1) := by decide +kernel
theorem d_Mo_matches_122 : decode prog_13_method_41_code 122 = .ok (.ifCond .ne 7, 3) := by decide +kernel
theorem d_Mo_matches_125 : decode prog_13_method_41_code 125 = .ok (.iconst 1, 1) := by decide +kernel
theorem d_Mo_matches_126 : decode prog_13_method_41_code 126 = .ok (.goto 4, 3) := by decide +kernel
theorem d_Mo_matches_129 : decode prog_13_method_41_code 129 = .ok (.iconst 0, 1) := by decide +kernel
theorem d_Mo_matches_130 : decode prog_13_method_41_code 130 = .ok (.bastore, 1) := by decide +kernel
theorem d_Mo_matches_131 : decode prog_13_method_41_code 131 = .ok (.goto 77, 3) := by decide +kernel
theorem d_Mo_matches_134 : decode prog_13_method_41_code 134 = .ok (.iinc 2 (-1), 3) := by decide +kernel
theorem d_Mo_matches_137 : decode prog_13_method_41_code 137 = .ok (.aload_n 0, 1) := by decide +kernel
theorem d_Mo_matches_138 : decode prog_13_method_41_code 138 = .ok (.getfield 51, 3) := by decide +kernel
theorem d_Mo_matches_141 : decode prog_13_method_41_code 141 = .ok (.iload_n 2, 1) := by decide +kernel
theorem d_Mo_matches_142 : decode prog_13_method_41_code 142 = .ok (.iconst 1, 1) := by decide +kernel
theorem d_Mo_matches_143 : decode prog_13_method_41_code 143 = .ok (.isub, 1) := by decide +kernel
theorem d_Mo_matches_144 : decode prog_13_method_41_code 144 = .ok (.aload_n 0, 1) := by decide +kernel
theorem d_Mo_matches_145 : decode prog_13_method_41_code 145 = .ok (.getfield 39, 3) := by decide +kernel
theorem d_Mo_matches_148 : decode prog_13_method_41_code 148 = .ok (.iload_n 3, 1) := by decide +kernel
theorem d_Mo_matches_149 : decode prog_13_method_41_code 149 = .ok (.iaload, 1) := by decide +kernel
theorem d_Mo_matches_150 : decode prog_13_method_41_code 150 = .ok (.iconst 2, 1) := by decide +kernel
theorem d_Mo_matches_151 : decode prog_13_method_41_code 151 = .ok (.if_icmp .ne 31, 3) := by decide +kernel
theorem d_Mo_matches_154 : decode prog_13_method_41_code 154 = .ok (.aload_n 0, 1) := by decide +kernel
theorem d_Mo_matches_155 : decode prog_13_method_41_code 155 = .ok (.getfield 51, 3) := by decide +kernel
theorem d_Mo_matches_158 : decode prog_13_method_41_code 158 = .ok (.iload_n 2, 1) := by decide +kernel
theorem d_Mo_matches_159 : decode prog_13_method_41_code 159 = .ok (.iconst 1, 1) := by decide +kernel
theorem d_Mo_matches_160 : decode prog_13_method_41_code 160 = .ok (.isub, 1) := by decide +kernel
theorem d_Mo_matches_161 : decode prog_13_method_41_code 161 = .ok (.baload, 1) := by decide +kernel
theorem d_Mo_matches_162 : decode prog_13_method_41_code 162 = .ok (.ifCond .eq 16, 3) := by decide +kernel
theorem d_Mo_matches_165 : decode prog_13_method_41_code 165 = .ok (.aload_n 0, 1) := by decide +kernel
theorem d_Mo_matches_166 : decode prog_13_method_41_code 166 = .ok (.getfield 51, 3) := by decide +kernel
theorem d_Mo_matches_169 : decode prog_13_method_41_code 169 = .ok (.iload_n 2, 1) := by decide +kernel
theorem d_Mo_matches_170 : decode prog_13_method_41_code 170 = .ok (.baload, 1) := by decide +kernel
theorem d_Mo_matches_171 : decode prog_13_method_41_code 171 = .ok (.ifCond .eq 7, 3) := by decide +kernel
theorem d_Mo_matches_174 : decode prog_13_method_41_code 174 = .ok (.iconst 1, 1) := by decide +kernel
theorem d_Mo_matches_175 : decode prog_13_method_41_code 175 = .ok (.goto 32, 3) := by decide +kernel
theorem d_Mo_matches_178 : decode prog_13_method_41_code 178 = .ok (.iconst 0, 1) := by decide +kernel
theorem d_Mo_matches_179 : decode prog_13_method_41_code 179 = .ok (.goto 28, 3) := by decide +kernel
theorem d_Mo_matches_182 : decode prog_13_method_41_code 182 = .ok (.aload_n 0, 1) := by decide +kernel
theorem d_Mo_matches_183 : decode prog_13_method_41_code 183 = .ok (.getfield 51, 3) := by decide +kernel
theorem d_Mo_matches_186 : decode prog_13_method_41_code 186 = .ok (.iload_n 2, 1) := by decide +kernel
theorem d_Mo_matches_187 : decode prog_13_method_41_code 187 = .ok (.iconst 1, 1) := by decide +kernel
theorem d_Mo_matches_188 : decode prog_13_method_41_code 188 = .ok (.isub, 1) := by decide +kernel
theorem d_Mo_matches_189 : decode prog_13_method_41_code 189 = .ok (.baload, 1) := by decide +kernel
theorem d_Mo_matches_190 : decode prog_13_method_41_code 190 = .ok (.ifCond .ne 12, 3) := by decide +kernel
theorem d_Mo_matches_193 : decode prog_13_method_41_code 193 = .ok (.aload_n 0, 1) := by decide +kernel
theorem d_Mo_matches_194 : decode prog_13_method_41_code 194 = .ok (.getfield 51, 3) := by decide +kernel
theorem d_Mo_matches_197 : decode prog_13_method_41_code 197 = .ok (.iload_n 2, 1) := by decide +kernel
theorem d_Mo_matches_198 : decode prog_13_method_41_code 198 = .ok (.baload, 1) := by decide +kernel
theorem d_Mo_matches_199 : decode prog_13_method_41_code 199 = .ok (.ifCond .eq 7, 3) := by decide +kernel
theorem d_Mo_matches_202 : decode prog_13_method_41_code 202 = .ok (.iconst 1, 1) := by decide +kernel
theorem d_Mo_matches_203 : decode prog_13_method_41_code 203 = .ok (.goto 4, 3) := by decide +kernel
theorem d_Mo_matches_206 : decode prog_13_method_41_code 206 = .ok (.iconst 0, 1) := by decide +kernel
theorem d_Mo_matches_207 : decode prog_13_method_41_code 207 = .ok (.bastore, 1) := by decide +kernel
theorem d_Mo_matches_208 : decode prog_13_method_41_code 208 = .ok (.iinc 3 1, 3) := by decide +kernel
theorem d_Mo_matches_211 : decode prog_13_method_41_code 211 = .ok (.goto (-207), 3) := by decide +kernel
theorem d_Mo_matches_214 : decode prog_13_method_41_code 214 = .ok (.aload_n 0, 1) := by decide +kernel
theorem d_Mo_matches_215 : decode prog_13_method_41_code 215 = .ok (.getfield 51, 3) := by decide +kernel
theorem d_Mo_matches_218 : decode prog_13_method_41_code 218 = .ok (.iconst 0, 1) := by decide +kernel
theorem d_Mo_matches_219 : decode prog_13_method_41_code 219 = .ok (.baload, 1) := by decide +kernel
theorem d_Mo_matches_220 : decode prog_13_method_41_code 220 = .ok (.ireturn, 1) := by decide +kernel
theorem d_Mo_times_0 : decode prog_13_method_39_code 0 = .ok (.iconst 0, 1) := by decide +kernel
theorem d_Mo_times_1 : decode prog_13_method_39_code 1 = .ok (.istore 4, 2) := by decide +kernel
theorem d_Mo_times_3 : decode prog_13_method_39_code 3 = .ok (.iconst 0, 1) := by decide +kernel
theorem d_Mo_times_4 : decode prog_13_method_39_code 4 = .ok (.istore 5, 2) := by decide +kernel
theorem d_Mo_times_6 : decode prog_13_method_39_code 6 = .ok (.iload 5, 2) := by decide +kernel
theorem d_Mo_times_8 : decode prog_13_method_39_code 8 = .ok (.aload_n 0, 1) := by decide +kernel
theorem d_Mo_times_9 : decode prog_13_method_39_code 9 = .ok (.getfield 33, 3) := by decide +kernel
theorem d_Mo_times_12 : decode prog_13_method_39_code 12 = .ok (.iload_n 1, 1) := by decide +kernel
theorem d_Mo_times_13 : decode prog_13_method_39_code 13 = .ok (.iaload, 1) := by decide +kernel
theorem d_Mo_times_14 : decode prog_13_method_39_code 14 = .ok (.if_icmp .ge 43, 3) := by decide +kernel
theorem d_Mo_times_17 : decode prog_13_method_39_code 17 = .ok (.lload_n 2, 1) := by decide +kernel
theorem d_Mo_times_18 : decode prog_13_method_39_code 18 = .ok (.lconst 0, 1) := by decide +kernel
theorem d_Mo_times_19 : decode prog_13_method_39_code 19 = .ok (.lcmp, 1) := by decide +kernel
theorem d_Mo_times_20 : decode prog_13_method_39_code 20 = .ok (.ifCond .eq 27, 3) := by decide +kernel
theorem d_Mo_times_23 : decode prog_13_method_39_code 23 = .ok (.aload_n 0, 1) := by decide +kernel
theorem d_Mo_times_24 : decode prog_13_method_39_code 24 = .ok (.getfield 36, 3) := by decide +kernel
theorem d_Mo_times_27 : decode prog_13_method_39_code 27 = .ok (.bipush 12, 2) := by decide +kernel
theorem d_Mo_times_29 : decode prog_13_method_39_code 29 = .ok (.iload_n 1, 1) := by decide +kernel
theorem d_Mo_times_30 : decode prog_13_method_39_code 30 = .ok (.imul, 1) := by decide +kernel
theorem d_Mo_times_31 : decode prog_13_method_39_code 31 = .ok (.iload 5, 2) := by decide +kernel
theorem d_Mo_times_33 : decode prog_13_method_39_code 33 = .ok (.iadd, 1) := by decide +kernel
theorem d_Mo_times_34 : decode prog_13_method_39_code 34 = .ok (.laload, 1) := by decide +kernel
theorem d_Mo_times_35 : decode prog_13_method_39_code 35 = .ok (.lload_n 2, 1) := by decide +kernel
theorem d_Mo_times_36 : decode prog_13_method_39_code 36 = .ok (.lcmp, 1) := by decide +kernel
theorem d_Mo_times_37 : decode prog_13_method_39_code 37 = .ok (.ifCond .ne 10, 3) := by decide +kernel
theorem d_Mo_times_40 : decode prog_13_method_39_code 40 = .ok (.iload 4, 2) := by decide +kernel
theorem d_Mo_times_42 : decode prog_13_method_39_code 42 = .ok (.iconst 1, 1) := by decide +kernel
theorem d_Mo_times_43 : decode prog_13_method_39_code 43 = .ok (.iadd, 1) := by decide +kernel
theorem d_Mo_times_44 : decode prog_13_method_39_code 44 = .ok (.goto 5, 3) := by decide +kernel
theorem d_Mo_times_47 : decode prog_13_method_39_code 47 = .ok (.iload 4, 2) := by decide +kernel
theorem d_Mo_times_49 : decode prog_13_method_39_code 49 = .ok (.istore 4, 2) := by decide +kernel
theorem d_Mo_times_51 : decode prog_13_method_39_code 51 = .ok (.iinc 5 1, 3) := by decide +kernel
theorem d_Mo_times_54 : decode prog_13_method_39_code 54 = .ok (.goto (-48), 3) := by decide +kernel
theorem d_Mo_times_57 : decode prog_13_method_39_code 57 = .ok (.iload 4, 2) := by decide +kernel
theorem d_Mo_times_59 : decode prog_13_method_39_code 59 = .ok (.ireturn, 1) := by decide +kernel
theorem d_Mo_phraseIn_0 : decode prog_13_method_40_code 0 = .ok (.iconst 0, 1) := by decide +kernel
theorem d_Mo_phraseIn_1 : decode prog_13_method_40_code 1 = .ok (.istore 4, 2) := by decide +kernel
theorem d_Mo_phraseIn_3 : decode prog_13_method_40_code 3 = .ok (.iload 4, 2) := by decide +kernel
theorem d_Mo_phraseIn_5 : decode prog_13_method_40_code 5 = .ok (.iload_n 3, 1) := by decide +kernel
theorem d_Mo_phraseIn_6 : decode prog_13_method_40_code 6 = .ok (.iadd, 1) := by decide +kernel
theorem d_Mo_phraseIn_7 : decode prog_13_method_40_code 7 = .ok (.aload_n 0, 1) := by decide +kernel
theorem d_Mo_phraseIn_8 : decode prog_13_method_40_code 8 = .ok (.getfield 33, 3) := by decide +kernel
theorem d_Mo_phraseIn_11 : decode prog_13_method_40_code 11 = .ok (.iload_n 1, 1) := by decide +kernel
theorem d_Mo_phraseIn_12 : decode prog_13_method_40_code 12 = .ok (.iaload, 1) := by decide +kernel
theorem d_Mo_phraseIn_13 : decode prog_13_method_40_code 13 = .ok (.if_icmp .gt 87, 3) := by decide +kernel
theorem d_Mo_phraseIn_16 : decode prog_13_method_40_code 16 = .ok (.iconst 1, 1) := by decide +kernel
theorem d_Mo_phraseIn_17 : decode prog_13_method_40_code 17 = .ok (.istore 5, 2) := by decide +kernel
theorem d_Mo_phraseIn_19 : decode prog_13_method_40_code 19 = .ok (.iconst 0, 1) := by decide +kernel
theorem d_Mo_phraseIn_20 : decode prog_13_method_40_code 20 = .ok (.istore 6, 2) := by decide +kernel
theorem d_Mo_phraseIn_22 : decode prog_13_method_40_code 22 = .ok (.iload 6, 2) := by decide +kernel
theorem d_Mo_phraseIn_24 : decode prog_13_method_40_code 24 = .ok (.iload_n 3, 1) := by decide +kernel
theorem d_Mo_phraseIn_25 : decode prog_13_method_40_code 25 = .ok (.if_icmp .ge 62, 3) := by decide +kernel
theorem d_Mo_phraseIn_28 : decode prog_13_method_40_code 28 = .ok (.aload_n 0, 1) := by decide +kernel
theorem d_Mo_phraseIn_29 : decode prog_13_method_40_code 29 = .ok (.getfield 42, 3) := by decide +kernel
theorem d_Mo_phraseIn_32 : decode prog_13_method_40_code 32 = .ok (.iload_n 2, 1) := by decide +kernel
theorem d_Mo_phraseIn_33 : decode prog_13_method_40_code 33 = .ok (.iload_n 3, 1) := by decide +kernel
theorem d_Mo_phraseIn_34 : decode prog_13_method_40_code 34 = .ok (.isub, 1) := by decide +kernel
theorem d_Mo_phraseIn_35 : decode prog_13_method_40_code 35 = .ok (.iload 6, 2) := by decide +kernel
theorem d_Mo_phraseIn_37 : decode prog_13_method_40_code 37 = .ok (.iadd, 1) := by decide +kernel
theorem d_Mo_phraseIn_38 : decode prog_13_method_40_code 38 = .ok (.laload, 1) := by decide +kernel
theorem d_Mo_phraseIn_39 : decode prog_13_method_40_code 39 = .ok (.lstore 7, 2) := by decide +kernel
theorem d_Mo_phraseIn_41 : decode prog_13_method_40_code 41 = .ok (.iload 5, 2) := by decide +kernel
theorem d_Mo_phraseIn_43 : decode prog_13_method_40_code 43 = .ok (.ifCond .eq 35, 3) := by decide +kernel
theorem d_Mo_phraseIn_46 : decode prog_13_method_40_code 46 = .ok (.lload 7, 2) := by decide +kernel
theorem d_Mo_phraseIn_48 : decode prog_13_method_40_code 48 = .ok (.lconst 0, 1) := by decide +kernel
theorem d_Mo_phraseIn_49 : decode prog_13_method_40_code 49 = .ok (.lcmp, 1) := by decide +kernel
theorem d_Mo_phraseIn_50 : decode prog_13_method_40_code 50 = .ok (.ifCond .eq 28, 3) := by decide +kernel
theorem d_Mo_phraseIn_53 : decode prog_13_method_40_code 53 = .ok (.aload_n 0, 1) := by decide +kernel
theorem d_Mo_phraseIn_54 : decode prog_13_method_40_code 54 = .ok (.getfield 36, 3) := by decide +kernel
theorem d_Mo_phraseIn_57 : decode prog_13_method_40_code 57 = .ok (.bipush 12, 2) := by decide +kernel
theorem d_Mo_phraseIn_59 : decode prog_13_method_40_code 59 = .ok (.iload_n 1, 1) := by decide +kernel
theorem d_Mo_phraseIn_60 : decode prog_13_method_40_code 60 = .ok (.imul, 1) := by decide +kernel
theorem d_Mo_phraseIn_61 : decode prog_13_method_40_code 61 = .ok (.iload 4, 2) := by decide +kernel
theorem d_Mo_phraseIn_63 : decode prog_13_method_40_code 63 = .ok (.iadd, 1) := by decide +kernel
theorem d_Mo_phraseIn_64 : decode prog_13_method_40_code 64 = .ok (.iload 6, 2) := by decide +kernel
theorem d_Mo_phraseIn_66 : decode prog_13_method_40_code 66 = .ok (.iadd, 1) := by decide +kernel
theorem d_Mo_phraseIn_67 : decode prog_13_method_40_code 67 = .ok (.laload, 1) := by decide +kernel
theorem d_Mo_phraseIn_68 : decode prog_13_method_40_code 68 = .ok (.lload 7, 2) := by decide +kernel
theorem d_Mo_phraseIn_70 : decode prog_13_method_40_code 70 = .ok (.lcmp, 1) := by decide +kernel
theorem d_Mo_phraseIn_71 : decode prog_13_method_40_code 71 = .ok (.ifCond .ne 7, 3) := by decide +kernel
theorem d_Mo_phraseIn_74 : decode prog_13_method_40_code 74 = .ok (.iconst 1, 1) := by decide +kernel
theorem d_Mo_phraseIn_75 : decode prog_13_method_40_code 75 = .ok (.goto 4, 3) := by decide +kernel
theorem d_Mo_phraseIn_78 : decode prog_13_method_40_code 78 = .ok (.iconst 0, 1) := by decide +kernel
theorem d_Mo_phraseIn_79 : decode prog_13_method_40_code 79 = .ok (.istore 5, 2) := by decide +kernel
theorem d_Mo_phraseIn_81 : decode prog_13_method_40_code 81 = .ok (.iinc 6 1, 3) := by decide +kernel
theorem d_Mo_phraseIn_84 : decode prog_13_method_40_code 84 = .ok (.goto (-62), 3) := by decide +kernel
theorem d_Mo_phraseIn_87 : decode prog_13_method_40_code 87 = .ok (.iload 5, 2) := by decide +kernel
theorem d_Mo_phraseIn_89 : decode prog_13_method_40_code 89 = .ok (.ifCond .eq 5, 3) := by decide +kernel
theorem d_Mo_phraseIn_92 : decode prog_13_method_40_code 92 = .ok (.iconst 1, 1) := by decide +kernel
theorem d_Mo_phraseIn_93 : decode prog_13_method_40_code 93 = .ok (.ireturn, 1) := by decide +kernel
theorem d_Mo_phraseIn_94 : decode prog_13_method_40_code 94 = .ok (.iinc 4 1, 3) := by decide +kernel
theorem d_Mo_phraseIn_97 : decode prog_13_method_40_code 97 = .ok (.goto (-94), 3) := by decide +kernel
theorem d_Mo_phraseIn_100 : decode prog_13_method_40_code 100 = .ok (.iconst 0, 1) := by decide +kernel
theorem d_Mo_phraseIn_101 : decode prog_13_method_40_code 101 = .ok (.ireturn, 1) := by decide +kernel
theorem d_Mo_rank_0 : decode prog_13_method_52_code 0 = .ok (.aload_n 0, 1) := by decide +kernel
theorem d_Mo_rank_1 : decode prog_13_method_52_code 1 = .ok (.getfield 131, 3) := by decide +kernel
theorem d_Mo_rank_4 : decode prog_13_method_52_code 4 = .ok (.ifCond .eq 6, 3) := by decide +kernel
theorem d_Mo_rank_7 : decode prog_13_method_52_code 7 = .ok (.bipush (-9), 2) := by decide +kernel
theorem d_Mo_rank_9 : decode prog_13_method_52_code 9 = .ok (.ireturn, 1) := by decide +kernel
theorem d_Mo_rank_10 : decode prog_13_method_52_code 10 = .ok (.iload_n 1, 1) := by decide +kernel
theorem d_Mo_rank_11 : decode prog_13_method_52_code 11 = .ok (.iconst 1, 1) := by decide +kernel
theorem d_Mo_rank_12 : decode prog_13_method_52_code 12 = .ok (.if_icmp .lt 8, 3) := by decide +kernel
theorem d_Mo_rank_15 : decode prog_13_method_52_code 15 = .ok (.iload_n 1, 1) := by decide +kernel
theorem d_Mo_rank_16 : decode prog_13_method_52_code 16 = .ok (.iconst 5, 1) := by decide +kernel
theorem d_Mo_rank_17 : decode prog_13_method_52_code 17 = .ok (.if_icmp .le 5, 3) := by decide +kernel
theorem d_Mo_rank_20 : decode prog_13_method_52_code 20 = .ok (.iconst (-1), 1) := by decide +kernel
theorem d_Mo_rank_21 : decode prog_13_method_52_code 21 = .ok (.ireturn, 1) := by decide +kernel
theorem d_Mo_rank_22 : decode prog_13_method_52_code 22 = .ok (.aload_n 0, 1) := by decide +kernel
theorem d_Mo_rank_23 : decode prog_13_method_52_code 23 = .ok (.getfield 149, 3) := by decide +kernel
theorem d_Mo_rank_26 : decode prog_13_method_52_code 26 = .ok (.ifCond .le 7, 3) := by decide +kernel
theorem d_Mo_rank_29 : decode prog_13_method_52_code 29 = .ok (.iconst 1, 1) := by decide +kernel
theorem d_Mo_rank_30 : decode prog_13_method_52_code 30 = .ok (.goto 4, 3) := by decide +kernel
theorem d_Mo_rank_33 : decode prog_13_method_52_code 33 = .ok (.iconst 0, 1) := by decide +kernel
theorem d_Mo_rank_34 : decode prog_13_method_52_code 34 = .ok (.istore_n 2, 1) := by decide +kernel
theorem d_Mo_rank_35 : decode prog_13_method_52_code 35 = .ok (.iconst 0, 1) := by decide +kernel
theorem d_Mo_rank_36 : decode prog_13_method_52_code 36 = .ok (.istore_n 3, 1) := by decide +kernel
theorem d_Mo_rank_37 : decode prog_13_method_52_code 37 = .ok (.iload_n 3, 1) := by decide +kernel
theorem d_Mo_rank_38 : decode prog_13_method_52_code 38 = .ok (.aload_n 0, 1) := by decide +kernel
theorem d_Mo_rank_39 : decode prog_13_method_52_code 39 = .ok (.getfield 149, 3) := by decide +kernel
theorem d_Mo_rank_42 : decode prog_13_method_52_code 42 = .ok (.if_icmp .ge 28, 3) := by decide +kernel
theorem d_Mo_rank_45 : decode prog_13_method_52_code 45 = .ok (.iload_n 2, 1) := by decide +kernel
theorem d_Mo_rank_46 : decode prog_13_method_52_code 46 = .ok (.ifCond .eq 16, 3) := by decide +kernel
theorem d_Mo_rank_49 : decode prog_13_method_52_code 49 = .ok (.aload_n 0, 1) := by decide +kernel
theorem d_Mo_rank_50 : decode prog_13_method_52_code 50 = .ok (.getfield 45, 3) := by decide +kernel
theorem d_Mo_rank_53 : decode prog_13_method_52_code 53 = .ok (.iload_n 3, 1) := by decide +kernel
theorem d_Mo_rank_54 : decode prog_13_method_52_code 54 = .ok (.baload, 1) := by decide +kernel
theorem d_Mo_rank_55 : decode prog_13_method_52_code 55 = .ok (.ifCond .eq 7, 3) := by decide +kernel
theorem d_Mo_rank_58 : decode prog_13_method_52_code 58 = .ok (.iconst 1, 1) := by decide +kernel
theorem d_Mo_rank_59 : decode prog_13_method_52_code 59 = .ok (.goto 4, 3) := by decide +kernel
theorem d_Mo_rank_62 : decode prog_13_method_52_code 62 = .ok (.iconst 0, 1) := by decide +kernel
theorem d_Mo_rank_63 : decode prog_13_method_52_code 63 = .ok (.istore_n 2, 1) := by decide +kernel
theorem d_Mo_rank_64 : decode prog_13_method_52_code 64 = .ok (.iinc 3 1, 3) := by decide +kernel
theorem d_Mo_rank_67 : decode prog_13_method_52_code 67 = .ok (.goto (-30), 3) := by decide +kernel
theorem d_Mo_rank_70 : decode prog_13_method_52_code 70 = .ok (.aload_n 0, 1) := by decide +kernel
theorem d_Mo_rank_71 : decode prog_13_method_52_code 71 = .ok (.iconst 0, 1) := by decide +kernel
theorem d_Mo_rank_72 : decode prog_13_method_52_code 72 = .ok (.putfield 200, 3) := by decide +kernel
theorem d_Mo_rank_75 : decode prog_13_method_52_code 75 = .ok (.aload_n 0, 1) := by decide +kernel
theorem d_Mo_rank_76 : decode prog_13_method_52_code 76 = .ok (.iconst 0, 1) := by decide +kernel
theorem d_Mo_rank_77 : decode prog_13_method_52_code 77 = .ok (.putfield 239, 3) := by decide +kernel
theorem d_Mo_rank_80 : decode prog_13_method_52_code 80 = .ok (.iload_n 2, 1) := by decide +kernel
theorem d_Mo_rank_81 : decode prog_13_method_52_code 81 = .ok (.ifCond .eq 17, 3) := by decide +kernel
theorem d_Mo_rank_84 : decode prog_13_method_52_code 84 = .ok (.aload_n 0, 1) := by decide +kernel
theorem d_Mo_rank_85 : decode prog_13_method_52_code 85 = .ok (.invokevirtual 203, 3) := by decide +kernel
theorem d_Mo_rank_88 : decode prog_13_method_52_code 88 = .ok (.aload_n 0, 1) := by decide +kernel
theorem d_Mo_rank_89 : decode prog_13_method_52_code 89 = .ok (.iload_n 1, 1) := by decide +kernel
theorem d_Mo_rank_90 : decode prog_13_method_52_code 90 = .ok (.invokevirtual 250, 3) := by decide +kernel
theorem d_Mo_rank_93 : decode prog_13_method_52_code 93 = .ok (.aload_n 0, 1) := by decide +kernel
theorem d_Mo_rank_94 : decode prog_13_method_52_code 94 = .ok (.iload_n 1, 1) := by decide +kernel
theorem d_Mo_rank_95 : decode prog_13_method_52_code 95 = .ok (.invokevirtual 253, 3) := by decide +kernel
theorem d_Mo_rank_98 : decode prog_13_method_52_code 98 = .ok (.aload_n 0, 1) := by decide +kernel
theorem d_Mo_rank_99 : decode prog_13_method_52_code 99 = .ok (.iconst 0, 1) := by decide +kernel
theorem d_Mo_rank_100 : decode prog_13_method_52_code 100 = .ok (.putfield 146, 3) := by decide +kernel
theorem d_Mo_rank_103 : decode prog_13_method_52_code 103 = .ok (.aload_n 0, 1) := by decide +kernel
theorem d_Mo_rank_104 : decode prog_13_method_52_code 104 = .ok (.iconst 0, 1) := by decide +kernel
theorem d_Mo_rank_105 : decode prog_13_method_52_code 105 = .ok (.putfield 149, 3) := by decide +kernel
theorem d_Mo_rank_108 : decode prog_13_method_52_code 108 = .ok (.iload_n 2, 1) := by decide +kernel
theorem d_Mo_rank_109 : decode prog_13_method_52_code 109 = .ok (.ifCond .eq 10, 3) := by decide +kernel
theorem d_Mo_rank_112 : decode prog_13_method_52_code 112 = .ok (.aload_n 0, 1) := by decide +kernel
theorem d_Mo_rank_113 : decode prog_13_method_52_code 113 = .ok (.getfield 200, 3) := by decide +kernel
theorem d_Mo_rank_116 : decode prog_13_method_52_code 116 = .ok (.goto 5, 3) := by decide +kernel
theorem d_Mo_rank_119 : decode prog_13_method_52_code 119 = .ok (.bipush (-3), 2) := by decide +kernel
theorem d_Mo_rank_121 : decode prog_13_method_52_code 121 = .ok (.ireturn, 1) := by decide +kernel
theorem d_Mo_weighAll_0 : decode prog_13_method_50_code 0 = .ok (.aload_n 0, 1) := by decide +kernel
theorem d_Mo_weighAll_1 : decode prog_13_method_50_code 1 = .ok (.iconst 0, 1) := by decide +kernel
theorem d_Mo_weighAll_2 : decode prog_13_method_50_code 2 = .ok (.putfield 239, 3) := by decide +kernel
theorem d_Mo_weighAll_5 : decode prog_13_method_50_code 5 = .ok (.iconst 0, 1) := by decide +kernel
theorem d_Mo_weighAll_6 : decode prog_13_method_50_code 6 = .ok (.istore_n 2, 1) := by decide +kernel
theorem d_Mo_weighAll_7 : decode prog_13_method_50_code 7 = .ok (.iload_n 2, 1) := by decide +kernel
theorem d_Mo_weighAll_8 : decode prog_13_method_50_code 8 = .ok (.bipush 12, 2) := by decide +kernel
theorem d_Mo_weighAll_10 : decode prog_13_method_50_code 10 = .ok (.if_icmp .ge 16, 3) := by decide +kernel
theorem d_Mo_weighAll_13 : decode prog_13_method_50_code 13 = .ok (.aload_n 0, 1) := by decide +kernel
theorem d_Mo_weighAll_14 : decode prog_13_method_50_code 14 = .ok (.getfield 66, 3) := by decide +kernel
theorem d_Mo_weighAll_17 : decode prog_13_method_50_code 17 = .ok (.iload_n 2, 1) := by decide +kernel
theorem d_Mo_weighAll_18 : decode prog_13_method_50_code 18 = .ok (.iconst 0, 1) := by decide +kernel
theorem d_Mo_weighAll_19 : decode prog_13_method_50_code 19 = .ok (.bastore, 1) := by decide +kernel
theorem d_Mo_weighAll_20 : decode prog_13_method_50_code 20 = .ok (.iinc 2 1, 3) := by decide +kernel
theorem d_Mo_weighAll_23 : decode prog_13_method_50_code 23 = .ok (.goto (-16), 3) := by decide +kernel
theorem d_Mo_weighAll_26 : decode prog_13_method_50_code 26 = .ok (.iconst 0, 1) := by decide +kernel
theorem d_Mo_weighAll_27 : decode prog_13_method_50_code 27 = .ok (.istore_n 2, 1) := by decide +kernel
theorem d_Mo_weighAll_28 : decode prog_13_method_50_code 28 = .ok (.iload_n 2, 1) := by decide +kernel
theorem d_Mo_weighAll_29 : decode prog_13_method_50_code 29 = .ok (.bipush 12, 2) := by decide +kernel
theorem d_Mo_weighAll_31 : decode prog_13_method_50_code 31 = .ok (.if_icmp .ge 94, 3) := by decide +kernel
theorem d_Mo_weighAll_34 : decode prog_13_method_50_code 34 = .ok (.aload_n 0, 1) := by decide +kernel
theorem d_Mo_weighAll_35 : decode prog_13_method_50_code 35 = .ok (.getfield 60, 3) := by decide +kernel
theorem d_Mo_weighAll_38 : decode prog_13_method_50_code 38 = .ok (.iload_n 2, 1) := by decide +kernel
theorem d_Mo_weighAll_39 : decode prog_13_method_50_code 39 = .ok (.iaload, 1) := by decide +kernel
theorem d_Mo_weighAll_40 : decode prog_13_method_50_code 40 = .ok (.ifCond .ge 9, 3) := by decide +kernel
theorem d_Mo_weighAll_43 : decode prog_13_method_50_code 43 = .ok (.ldc2_w 237, 3) := by decide +kernel
theorem d_Mo_weighAll_46 : decode prog_13_method_50_code 46 = .ok (.goto 14, 3) := by decide +kernel
theorem d_Mo_weighAll_49 : decode prog_13_method_50_code 49 = .ok (.aload_n 0, 1) := by decide +kernel
theorem d_Mo_weighAll_50 : decode prog_13_method_50_code 50 = .ok (.aload_n 0, 1) := by decide +kernel
theorem d_Mo_weighAll_51 : decode prog_13_method_50_code 51 = .ok (.getfield 60, 3) := by decide +kernel
theorem d_Mo_weighAll_54 : decode prog_13_method_50_code 54 = .ok (.iload_n 2, 1) := by decide +kernel
theorem d_Mo_weighAll_55 : decode prog_13_method_50_code 55 = .ok (.iaload, 1) := by decide +kernel
theorem d_Mo_weighAll_56 : decode prog_13_method_50_code 56 = .ok (.iconst 0, 1) := by decide +kernel
theorem d_Mo_weighAll_57 : decode prog_13_method_50_code 57 = .ok (.invokevirtual 242, 3) := by decide +kernel
theorem d_Mo_weighAll_60 : decode prog_13_method_50_code 60 = .ok (.lstore_n 3, 1) := by decide +kernel
theorem d_Mo_weighAll_61 : decode prog_13_method_50_code 61 = .ok (.lload_n 3, 1) := by decide +kernel
theorem d_Mo_weighAll_62 : decode prog_13_method_50_code 62 = .ok (.lconst 0, 1) := by decide +kernel
theorem d_Mo_weighAll_63 : decode prog_13_method_50_code 63 = .ok (.lcmp, 1) := by decide +kernel
theorem d_Mo_weighAll_64 : decode prog_13_method_50_code 64 = .ok (.ifCond .lt 55, 3) := by decide +kernel
theorem d_Mo_weighAll_67 : decode prog_13_method_50_code 67 = .ok (.aload_n 0, 1) := by decide +kernel
theorem d_Mo_weighAll_68 : decode prog_13_method_50_code 68 = .ok (.getfield 239, 3) := by decide +kernel
theorem d_Mo_weighAll_71 : decode prog_13_method_50_code 71 = .ok (.iload_n 1, 1) := by decide +kernel
theorem d_Mo_weighAll_72 : decode prog_13_method_50_code 72 = .ok (.if_icmp .lt 23, 3) := by decide +kernel
theorem d_Mo_weighAll_75 : decode prog_13_method_50_code 75 = .ok (.aload_n 0, 1) := by decide +kernel
theorem d_Mo_weighAll_76 : decode prog_13_method_50_code 76 = .ok (.aload_n 0, 1) := by decide +kernel
theorem d_Mo_weighAll_77 : decode prog_13_method_50_code 77 = .ok (.getfield 60, 3) := by decide +kernel
theorem d_Mo_weighAll_80 : decode prog_13_method_50_code 80 = .ok (.iload_n 2, 1) := by decide +kernel
theorem d_Mo_weighAll_81 : decode prog_13_method_50_code 81 = .ok (.iaload, 1) := by decide +kernel
theorem d_Mo_weighAll_82 : decode prog_13_method_50_code 82 = .ok (.iconst 1, 1) := by decide +kernel
theorem d_Mo_weighAll_83 : decode prog_13_method_50_code 83 = .ok (.invokevirtual 242, 3) := by decide +kernel
theorem d_Mo_weighAll_86 : decode prog_13_method_50_code 86 = .ok (.aload_n 0, 1) := by decide +kernel
theorem d_Mo_weighAll_87 : decode prog_13_method_50_code 87 = .ok (.iload_n 1, 1) := by decide +kernel
theorem d_Mo_weighAll_88 : decode prog_13_method_50_code 88 = .ok (.invokevirtual 246, 3) := by decide +kernel
theorem d_Mo_weighAll_91 : decode prog_13_method_50_code 91 = .ok (.lcmp, 1) := by decide +kernel
theorem d_Mo_weighAll_92 : decode prog_13_method_50_code 92 = .ok (.ifCond .le 27, 3) := by decide +kernel
theorem d_Mo_weighAll_95 : decode prog_13_method_50_code 95 = .ok (.aload_n 0, 1) := by decide +kernel
theorem d_Mo_weighAll_96 : decode prog_13_method_50_code 96 = .ok (.getfield 63, 3) := by decide +kernel
theorem d_Mo_weighAll_99 : decode prog_13_method_50_code 99 = .ok (.iload_n 2, 1) := by decide +kernel
theorem d_Mo_weighAll_100 : decode prog_13_method_50_code 100 = .ok (.lload_n 3, 1) := by decide +kernel
theorem d_Mo_weighAll_101 : decode prog_13_method_50_code 101 = .ok (.lastore, 1) := by decide +kernel
theorem d_Mo_weighAll_102 : decode prog_13_method_50_code 102 = .ok (.aload_n 0, 1) := by decide +kernel
theorem d_Mo_weighAll_103 : decode prog_13_method_50_code 103 = .ok (.getfield 66, 3) := by decide +kernel
theorem d_Mo_weighAll_106 : decode prog_13_method_50_code 106 = .ok (.iload_n 2, 1) := by decide +kernel
theorem d_Mo_weighAll_107 : decode prog_13_method_50_code 107 = .ok (.iconst 1, 1) := by decide +kernel
theorem d_Mo_weighAll_108 : decode prog_13_method_50_code 108 = .ok (.bastore, 1) := by decide +kernel
theorem d_Mo_weighAll_109 : decode prog_13_method_50_code 109 = .ok (.aload_n 0, 1) := by decide +kernel
theorem d_Mo_weighAll_110 : decode prog_13_method_50_code 110 = .ok (.dup, 1) := by decide +kernel
theorem d_Mo_weighAll_111 : decode prog_13_method_50_code 111 = .ok (.getfield 239, 3) := by decide +kernel
theorem d_Mo_weighAll_114 : decode prog_13_method_50_code 114 = .ok (.iconst 1, 1) := by decide +kernel
theorem d_Mo_weighAll_115 : decode prog_13_method_50_code 115 = .ok (.iadd, 1) := by decide +kernel
theorem d_Mo_weighAll_116 : decode prog_13_method_50_code 116 = .ok (.putfield 239, 3) := by decide +kernel
theorem d_Mo_weighAll_119 : decode prog_13_method_50_code 119 = .ok (.iinc 2 1, 3) := by decide +kernel
theorem d_Mo_weighAll_122 : decode prog_13_method_50_code 122 = .ok (.goto (-94), 3) := by decide +kernel
theorem d_Mo_weighAll_125 : decode prog_13_method_50_code 125 = .ok (.return_, 1) := by decide +kernel
theorem d_Mo_sum_0 : decode prog_13_method_48_code 0 = .ok (.lconst 0, 1) := by decide +kernel
theorem d_Mo_sum_1 : decode prog_13_method_48_code 1 = .ok (.lstore_n 3, 1) := by decide +kernel
theorem d_Mo_sum_2 : decode prog_13_method_48_code 2 = .ok (.iconst 0, 1) := by decide +kernel
theorem d_Mo_sum_3 : decode prog_13_method_48_code 3 = .ok (.istore 5, 2) := by decide +kernel
theorem d_Mo_sum_5 : decode prog_13_method_48_code 5 = .ok (.iconst 0, 1) := by decide +kernel
theorem d_Mo_sum_6 : decode prog_13_method_48_code 6 = .ok (.istore 6, 2) := by decide +kernel
theorem d_Mo_sum_8 : decode prog_13_method_48_code 8 = .ok (.iload 6, 2) := by decide +kernel
theorem d_Mo_sum_10 : decode prog_13_method_48_code 10 = .ok (.aload_n 0, 1) := by decide +kernel
theorem d_Mo_sum_11 : decode prog_13_method_48_code 11 = .ok (.getfield 146, 3) := by decide +kernel
theorem d_Mo_sum_14 : decode prog_13_method_48_code 14 = .ok (.if_icmp .ge 60, 3) := by decide +kernel
theorem d_Mo_sum_17 : decode prog_13_method_48_code 17 = .ok (.aload_n 0, 1) := by decide +kernel
theorem d_Mo_sum_18 : decode prog_13_method_48_code 18 = .ok (.iload_n 1, 1) := by decide +kernel
theorem d_Mo_sum_19 : decode prog_13_method_48_code 19 = .ok (.aload_n 0, 1) := by decide +kernel
theorem d_Mo_sum_20 : decode prog_13_method_48_code 20 = .ok (.getfield 42, 3) := by decide +kernel
theorem d_Mo_sum_23 : decode prog_13_method_48_code 23 = .ok (.iload 6, 2) := by decide +kernel
theorem d_Mo_sum_25 : decode prog_13_method_48_code 25 = .ok (.laload, 1) := by decide +kernel
theorem d_Mo_sum_26 : decode prog_13_method_48_code 26 = .ok (.invokevirtual 192, 3) := by decide +kernel
theorem d_Mo_sum_29 : decode prog_13_method_48_code 29 = .ok (.ifCond .le 39, 3) := by decide +kernel
theorem d_Mo_sum_32 : decode prog_13_method_48_code 32 = .ok (.iconst 1, 1) := by decide +kernel
theorem d_Mo_sum_33 : decode prog_13_method_48_code 33 = .ok (.istore 5, 2) := by decide +kernel
theorem d_Mo_sum_35 : decode prog_13_method_48_code 35 = .ok (.lload_n 3, 1) := by decide +kernel
theorem d_Mo_sum_36 : decode prog_13_method_48_code 36 = .ok (.iload_n 2, 1) := by decide +kernel
theorem d_Mo_sum_37 : decode prog_13_method_48_code 37 = .ok (.ifCond .eq 17, 3) := by decide +kernel
theorem d_Mo_sum_40 : decode prog_13_method_48_code 40 = .ok (.aload_n 0, 1) := by decide +kernel
theorem d_Mo_sum_41 : decode prog_13_method_48_code 41 = .ok (.aload_n 0, 1) := by decide +kernel
theorem d_Mo_sum_42 : decode prog_13_method_48_code 42 = .ok (.getfield 42, 3) := by decide +kernel
theorem d_Mo_sum_45 : decode prog_13_method_48_code 45 = .ok (.iload 6, 2) := by decide +kernel
theorem d_Mo_sum_47 : decode prog_13_method_48_code 47 = .ok (.laload, 1) := by decide +kernel
theorem d_Mo_sum_48 : decode prog_13_method_48_code 48 = .ok (.invokevirtual 234, 3) := by decide +kernel
theorem d_Mo_sum_51 : decode prog_13_method_48_code 51 = .ok (.goto 15, 3) := by decide +kernel
theorem d_Mo_sum_54 : decode prog_13_method_48_code 54 = .ok (.aload_n 0, 1) := by decide +kernel
theorem d_Mo_sum_55 : decode prog_13_method_48_code 55 = .ok (.iload_n 1, 1) := by decide +kernel
theorem d_Mo_sum_56 : decode prog_13_method_48_code 56 = .ok (.aload_n 0, 1) := by decide +kernel
theorem d_Mo_sum_57 : decode prog_13_method_48_code 57 = .ok (.getfield 42, 3) := by decide +kernel
theorem d_Mo_sum_60 : decode prog_13_method_48_code 60 = .ok (.iload 6, 2) := by decide +kernel
theorem d_Mo_sum_62 : decode prog_13_method_48_code 62 = .ok (.laload, 1) := by decide +kernel
theorem d_Mo_sum_63 : decode prog_13_method_48_code 63 = .ok (.invokevirtual 230, 3) := by decide +kernel
theorem d_Mo_sum_66 : decode prog_13_method_48_code 66 = .ok (.ladd, 1) := by decide +kernel
theorem d_Mo_sum_67 : decode prog_13_method_48_code 67 = .ok (.lstore_n 3, 1) := by decide +kernel
theorem d_Mo_sum_68 : decode prog_13_method_48_code 68 = .ok (.iinc 6 1, 3) := by decide +kernel
theorem d_Mo_sum_71 : decode prog_13_method_48_code 71 = .ok (.goto (-63), 3) := by decide +kernel
theorem d_Mo_sum_74 : decode prog_13_method_48_code 74 = .ok (.iload 5, 2) := by decide +kernel
theorem d_Mo_sum_76 : decode prog_13_method_48_code 76 = .ok (.ifCond .eq 7, 3) := by decide +kernel
theorem d_Mo_sum_79 : decode prog_13_method_48_code 79 = .ok (.lload_n 3, 1) := by decide +kernel
theorem d_Mo_sum_80 : decode prog_13_method_48_code 80 = .ok (.goto 6, 3) := by decide +kernel
theorem d_Mo_sum_83 : decode prog_13_method_48_code 83 = .ok (.ldc2_w 237, 3) := by decide +kernel
theorem d_Mo_sum_86 : decode prog_13_method_48_code 86 = .ok (.lreturn, 1) := by decide +kernel
theorem d_Mo_bound_0 : decode prog_13_method_47_code 0 = .ok (.lconst 0, 1) := by decide +kernel
theorem d_Mo_bound_1 : decode prog_13_method_47_code 1 = .ok (.lstore_n 3, 1) := by decide +kernel
theorem d_Mo_bound_2 : decode prog_13_method_47_code 2 = .ok (.iconst 0, 1) := by decide +kernel
theorem d_Mo_bound_3 : decode prog_13_method_47_code 3 = .ok (.istore 5, 2) := by decide +kernel
theorem d_Mo_bound_5 : decode prog_13_method_47_code 5 = .ok (.iload 5, 2) := by decide +kernel
theorem d_Mo_bound_7 : decode prog_13_method_47_code 7 = .ok (.aload_n 0, 1) := by decide +kernel
theorem d_Mo_bound_8 : decode prog_13_method_47_code 8 = .ok (.getfield 158, 3) := by decide +kernel
theorem d_Mo_bound_11 : decode prog_13_method_47_code 11 = .ok (.if_icmp .ge 46, 3) := by decide +kernel
theorem d_Mo_bound_14 : decode prog_13_method_47_code 14 = .ok (.aload_n 0, 1) := by decide +kernel
theorem d_Mo_bound_15 : decode prog_13_method_47_code 15 = .ok (.getfield 29, 3) := by decide +kernel
theorem d_Mo_bound_18 : decode prog_13_method_47_code 18 = .ok (.iload 5, 2) := by decide +kernel
theorem d_Mo_bound_20 : decode prog_13_method_47_code 20 = .ok (.baload, 1) := by decide +kernel
theorem d_Mo_bound_21 : decode prog_13_method_47_code 21 = .ok (.ifCond .eq 7, 3) := by decide +kernel
theorem d_Mo_bound_24 : decode prog_13_method_47_code 24 = .ok (.lconst 0, 1) := by decide +kernel
theorem d_Mo_bound_25 : decode prog_13_method_47_code 25 = .ok (.goto 10, 3) := by decide +kernel
theorem d_Mo_bound_28 : decode prog_13_method_47_code 28 = .ok (.aload_n 0, 1) := by decide +kernel
theorem d_Mo_bound_29 : decode prog_13_method_47_code 29 = .ok (.iload 5, 2) := by decide +kernel
theorem d_Mo_bound_31 : decode prog_13_method_47_code 31 = .ok (.lload_n 1, 1) := by decide +kernel
theorem d_Mo_bound_32 : decode prog_13_method_47_code 32 = .ok (.invokevirtual 230, 3) := by decide +kernel
theorem d_Mo_bound_35 : decode prog_13_method_47_code 35 = .ok (.lstore 6, 2) := by decide +kernel
theorem d_Mo_bound_37 : decode prog_13_method_47_code 37 = .ok (.lload 6, 2) := by decide +kernel
theorem d_Mo_bound_39 : decode prog_13_method_47_code 39 = .ok (.lload_n 3, 1) := by decide +kernel
theorem d_Mo_bound_40 : decode prog_13_method_47_code 40 = .ok (.lcmp, 1) := by decide +kernel
theorem d_Mo_bound_41 : decode prog_13_method_47_code 41 = .ok (.ifCond .le 8, 3) := by decide +kernel
theorem d_Mo_bound_44 : decode prog_13_method_47_code 44 = .ok (.lload 6, 2) := by decide +kernel
theorem d_Mo_bound_46 : decode prog_13_method_47_code 46 = .ok (.goto 4, 3) := by decide +kernel
theorem d_Mo_bound_49 : decode prog_13_method_47_code 49 = .ok (.lload_n 3, 1) := by decide +kernel
theorem d_Mo_bound_50 : decode prog_13_method_47_code 50 = .ok (.lstore_n 3, 1) := by decide +kernel
theorem d_Mo_bound_51 : decode prog_13_method_47_code 51 = .ok (.iinc 5 1, 3) := by decide +kernel
theorem d_Mo_bound_54 : decode prog_13_method_47_code 54 = .ok (.goto (-49), 3) := by decide +kernel
theorem d_Mo_bound_57 : decode prog_13_method_47_code 57 = .ok (.lload_n 3, 1) := by decide +kernel
theorem d_Mo_bound_58 : decode prog_13_method_47_code 58 = .ok (.lreturn, 1) := by decide +kernel
theorem d_Mo_weightOf_0 : decode prog_13_method_46_code 0 = .ok (.aload_n 0, 1) := by decide +kernel
theorem d_Mo_weightOf_1 : decode prog_13_method_46_code 1 = .ok (.invokevirtual 177, 3) := by decide +kernel
theorem d_Mo_weightOf_4 : decode prog_13_method_46_code 4 = .ok (.i2l, 1) := by decide +kernel
theorem d_Mo_weightOf_5 : decode prog_13_method_46_code 5 = .ok (.lstore 4, 2) := by decide +kernel
theorem d_Mo_weightOf_7 : decode prog_13_method_46_code 7 = .ok (.aload_n 0, 1) := by decide +kernel
theorem d_Mo_weightOf_8 : decode prog_13_method_46_code 8 = .ok (.invokevirtual 213, 3) := by decide +kernel
theorem d_Mo_weightOf_11 : decode prog_13_method_46_code 11 = .ok (.i2l, 1) := by decide +kernel
theorem d_Mo_weightOf_12 : decode prog_13_method_46_code 12 = .ok (.lstore 6, 2) := by decide +kernel
theorem d_Mo_weightOf_14 : decode prog_13_method_46_code 14 = .ok (.lconst 0, 1) := by decide +kernel
theorem d_Mo_weightOf_15 : decode prog_13_method_46_code 15 = .ok (.lstore 8, 2) := by decide +kernel
theorem d_Mo_weightOf_17 : decode prog_13_method_46_code 17 = .ok (.iconst 0, 1) := by decide +kernel
theorem d_Mo_weightOf_18 : decode prog_13_method_46_code 18 = .ok (.istore 10, 2) := by decide +kernel
theorem d_Mo_weightOf_20 : decode prog_13_method_46_code 20 = .ok (.iload 10, 2) := by decide +kernel
theorem d_Mo_weightOf_22 : decode prog_13_method_46_code 22 = .ok (.aload_n 0, 1) := by decide +kernel
theorem d_Mo_weightOf_23 : decode prog_13_method_46_code 23 = .ok (.getfield 158, 3) := by decide +kernel
theorem d_Mo_weightOf_26 : decode prog_13_method_46_code 26 = .ok (.if_icmp .ge 40, 3) := by decide +kernel
theorem d_Mo_weightOf_29 : decode prog_13_method_46_code 29 = .ok (.aload_n 0, 1) := by decide +kernel
theorem d_Mo_weightOf_30 : decode prog_13_method_46_code 30 = .ok (.getfield 29, 3) := by decide +kernel
theorem d_Mo_weightOf_33 : decode prog_13_method_46_code 33 = .ok (.iload 10, 2) := by decide +kernel
theorem d_Mo_weightOf_35 : decode prog_13_method_46_code 35 = .ok (.baload, 1) := by decide +kernel
theorem d_Mo_weightOf_36 : decode prog_13_method_46_code 36 = .ok (.ifCond .ne 20, 3) := by decide +kernel
theorem d_Mo_weightOf_39 : decode prog_13_method_46_code 39 = .ok (.aload_n 0, 1) := by decide +kernel
theorem d_Mo_weightOf_40 : decode prog_13_method_46_code 40 = .ok (.iload 10, 2) := by decide +kernel
theorem d_Mo_weightOf_42 : decode prog_13_method_46_code 42 = .ok (.lload_n 2, 1) := by decide +kernel
theorem d_Mo_weightOf_43 : decode prog_13_method_46_code 43 = .ok (.invokevirtual 192, 3) := by decide +kernel
theorem d_Mo_weightOf_46 : decode prog_13_method_46_code 46 = .ok (.ifCond .le 10, 3) := by decide +kernel
theorem d_Mo_weightOf_49 : decode prog_13_method_46_code 49 = .ok (.lload 8, 2) := by decide +kernel
theorem d_Mo_weightOf_51 : decode prog_13_method_46_code 51 = .ok (.lconst 1, 1) := by decide +kernel
theorem d_Mo_weightOf_52 : decode prog_13_method_46_code 52 = .ok (.ladd, 1) := by decide +kernel
theorem d_Mo_weightOf_53 : decode prog_13_method_46_code 53 = .ok (.goto 5, 3) := by decide +kernel
theorem d_Mo_weightOf_56 : decode prog_13_method_46_code 56 = .ok (.lload 8, 2) := by decide +kernel
theorem d_Mo_weightOf_58 : decode prog_13_method_46_code 58 = .ok (.lstore 8, 2) := by decide +kernel
theorem d_Mo_weightOf_60 : decode prog_13_method_46_code 60 = .ok (.iinc 10 1, 3) := by decide +kernel
theorem d_Mo_weightOf_63 : decode prog_13_method_46_code 63 = .ok (.goto (-43), 3) := by decide +kernel
theorem d_Mo_weightOf_66 : decode prog_13_method_46_code 66 = .ok (.aload_n 0, 1) := by decide +kernel
theorem d_Mo_weightOf_67 : decode prog_13_method_46_code 67 = .ok (.iload_n 1, 1) := by decide +kernel
theorem d_Mo_weightOf_68 : decode prog_13_method_46_code 68 = .ok (.lload_n 2, 1) := by decide +kernel
theorem d_Mo_weightOf_69 : decode prog_13_method_46_code 69 = .ok (.invokevirtual 192, 3) := by decide +kernel
theorem d_Mo_weightOf_72 : decode prog_13_method_46_code 72 = .ok (.i2l, 1) := by decide +kernel
theorem d_Mo_weightOf_73 : decode prog_13_method_46_code 73 = .ok (.lstore 10, 2) := by decide +kernel
theorem d_Mo_weightOf_75 : decode prog_13_method_46_code 75 = .ok (.lload 10, 2) := by decide +kernel
theorem d_Mo_weightOf_77 : decode prog_13_method_46_code 77 = .ok (.lconst 0, 1) := by decide +kernel
theorem d_Mo_weightOf_78 : decode prog_13_method_46_code 78 = .ok (.lcmp, 1) := by decide +kernel
theorem d_Mo_weightOf_79 : decode prog_13_method_46_code 79 = .ok (.ifCond .ne 5, 3) := by decide +kernel
theorem d_Mo_weightOf_82 : decode prog_13_method_46_code 82 = .ok (.lconst 0, 1) := by decide +kernel
theorem d_Mo_weightOf_83 : decode prog_13_method_46_code 83 = .ok (.lreturn, 1) := by decide +kernel
theorem d_Mo_weightOf_84 : decode prog_13_method_46_code 84 = .ok (.lload 4, 2) := by decide +kernel
theorem d_Mo_weightOf_86 : decode prog_13_method_46_code 86 = .ok (.lconst 1, 1) := by decide +kernel
theorem d_Mo_weightOf_87 : decode prog_13_method_46_code 87 = .ok (.ladd, 1) := by decide +kernel
theorem d_Mo_weightOf_88 : decode prog_13_method_46_code 88 = .ok (.ldc2_w 216, 3) := by decide +kernel
theorem d_Mo_weightOf_91 : decode prog_13_method_46_code 91 = .ok (.lmul, 1) := by decide +kernel
theorem d_Mo_weightOf_92 : decode prog_13_method_46_code 92 = .ok (.lload 8, 2) := by decide +kernel
theorem d_Mo_weightOf_94 : decode prog_13_method_46_code 94 = .ok (.ldiv, 1) := by decide +kernel
theorem d_Mo_weightOf_95 : decode prog_13_method_46_code 95 = .ok (.lstore 12, 2) := by decide +kernel
theorem d_Mo_weightOf_97 : decode prog_13_method_46_code 97 = .ok (.iconst 0, 1) := by decide +kernel
theorem d_Mo_weightOf_98 : decode prog_13_method_46_code 98 = .ok (.istore 14, 2) := by decide +kernel
theorem d_Mo_weightOf_100 : decode prog_13_method_46_code 100 = .ok (.ldc2_w 218, 3) := by decide +kernel
theorem d_Mo_weightOf_103 : decode prog_13_method_46_code 103 = .ok (.iload 14, 2) := by decide +kernel
theorem d_Mo_weightOf_105 : decode prog_13_method_46_code 105 = .ok (.lshl, 1) := by decide +kernel
theorem d_Mo_weightOf_106 : decode prog_13_method_46_code 106 = .ok (.lload 12, 2) := by decide +kernel
theorem d_Mo_weightOf_108 : decode prog_13_method_46_code 108 = .ok (.lcmp, 1) := by decide +kernel
theorem d_Mo_weightOf_109 : decode prog_13_method_46_code 109 = .ok (.ifCond .gt 9, 3) := by decide +kernel
theorem d_Mo_weightOf_112 : decode prog_13_method_46_code 112 = .ok (.iinc 14 1, 3) := by decide +kernel
theorem d_Mo_weightOf_115 : decode prog_13_method_46_code 115 = .ok (.goto (-15), 3) := by decide +kernel
theorem d_Mo_weightOf_118 : decode prog_13_method_46_code 118 = .ok (.ldc2_w 220, 3) := by decide +kernel
theorem d_Mo_weightOf_121 : decode prog_13_method_46_code 121 = .ok (.iload 14, 2) := by decide +kernel
theorem d_Mo_weightOf_123 : decode prog_13_method_46_code 123 = .ok (.i2l, 1) := by decide +kernel
theorem d_Mo_weightOf_124 : decode prog_13_method_46_code 124 = .ok (.lmul, 1) := by decide +kernel
theorem d_Mo_weightOf_125 : decode prog_13_method_46_code 125 = .ok (.lload 12, 2) := by decide +kernel
theorem d_Mo_weightOf_127 : decode prog_13_method_46_code 127 = .ok (.ldc2_w 220, 3) := by decide +kernel
theorem d_Mo_weightOf_130 : decode prog_13_method_46_code 130 = .ok (.lmul, 1) := by decide +kernel
theorem d_Mo_weightOf_131 : decode prog_13_method_46_code 131 = .ok (.lconst 1, 1) := by decide +kernel
theorem d_Mo_weightOf_132 : decode prog_13_method_46_code 132 = .ok (.iload 14, 2) := by decide +kernel
theorem d_Mo_weightOf_134 : decode prog_13_method_46_code 134 = .ok (.lshl, 1) := by decide +kernel
theorem d_Mo_weightOf_135 : decode prog_13_method_46_code 135 = .ok (.ldiv, 1) := by decide +kernel
theorem d_Mo_weightOf_136 : decode prog_13_method_46_code 136 = .ok (.ladd, 1) := by decide +kernel
theorem d_Mo_weightOf_137 : decode prog_13_method_46_code 137 = .ok (.ldc2_w 220, 3) := by decide +kernel
theorem d_Mo_weightOf_140 : decode prog_13_method_46_code 140 = .ok (.lsub, 1) := by decide +kernel
theorem d_Mo_weightOf_141 : decode prog_13_method_46_code 141 = .ok (.lstore 15, 2) := by decide +kernel
theorem d_Mo_weightOf_143 : decode prog_13_method_46_code 143 = .ok (.lload 15, 2) := by decide +kernel
theorem d_Mo_weightOf_145 : decode prog_13_method_46_code 145 = .ok (.lload 10, 2) := by decide +kernel
theorem d_Mo_weightOf_147 : decode prog_13_method_46_code 147 = .ok (.lmul, 1) := by decide +kernel
theorem d_Mo_weightOf_148 : decode prog_13_method_46_code 148 = .ok (.ldc2_w 222, 3) := by decide +kernel
theorem d_Mo_weightOf_151 : decode prog_13_method_46_code 151 = .ok (.lmul, 1) := by decide +kernel
theorem d_Mo_weightOf_152 : decode prog_13_method_46_code 152 = .ok (.ldc2_w 224, 3) := by decide +kernel
theorem d_Mo_weightOf_155 : decode prog_13_method_46_code 155 = .ok (.lload 10, 2) := by decide +kernel
theorem d_Mo_weightOf_157 : decode prog_13_method_46_code 157 = .ok (.lmul, 1) := by decide +kernel
theorem d_Mo_weightOf_158 : decode prog_13_method_46_code 158 = .ok (.ldc2_w 226, 3) := by decide +kernel
theorem d_Mo_weightOf_161 : decode prog_13_method_46_code 161 = .ok (.ladd, 1) := by decide +kernel
theorem d_Mo_weightOf_162 : decode prog_13_method_46_code 162 = .ok (.ldc2_w 228, 3) := by decide +kernel
theorem d_Mo_weightOf_165 : decode prog_13_method_46_code 165 = .ok (.aload_n 0, 1) := by decide +kernel
theorem d_Mo_weightOf_166 : decode prog_13_method_46_code 166 = .ok (.iload_n 1, 1) := by decide +kernel
theorem d_Mo_weightOf_167 : decode prog_13_method_46_code 167 = .ok (.invokevirtual 210, 3) := by decide +kernel
theorem d_Mo_weightOf_170 : decode prog_13_method_46_code 170 = .ok (.i2l, 1) := by decide +kernel
theorem d_Mo_weightOf_171 : decode prog_13_method_46_code 171 = .ok (.lmul, 1) := by decide +kernel
theorem d_Mo_weightOf_172 : decode prog_13_method_46_code 172 = .ok (.lload 4, 2) := by decide +kernel
theorem d_Mo_weightOf_174 : decode prog_13_method_46_code 174 = .ok (.lmul, 1) := by decide +kernel
theorem d_Mo_weightOf_175 : decode prog_13_method_46_code 175 = .ok (.lload 6, 2) := by decide +kernel
theorem d_Mo_weightOf_177 : decode prog_13_method_46_code 177 = .ok (.ldiv, 1) := by decide +kernel
theorem d_Mo_weightOf_178 : decode prog_13_method_46_code 178 = .ok (.ladd, 1) := by decide +kernel
theorem d_Mo_weightOf_179 : decode prog_13_method_46_code 179 = .ok (.ldiv, 1) := by decide +kernel
theorem d_Mo_weightOf_180 : decode prog_13_method_46_code 180 = .ok (.lreturn, 1) := by decide +kernel
theorem d_Mo_lengths_0 : decode prog_13_method_45_code 0 = .ok (.iconst 0, 1) := by decide +kernel
theorem d_Mo_lengths_1 : decode prog_13_method_45_code 1 = .ok (.istore_n 1, 1) := by decide +kernel
theorem d_Mo_lengths_2 : decode prog_13_method_45_code 2 = .ok (.iconst 0, 1) := by decide +kernel
theorem d_Mo_lengths_3 : decode prog_13_method_45_code 3 = .ok (.istore_n 2, 1) := by decide +kernel
theorem d_Mo_lengths_4 : decode prog_13_method_45_code 4 = .ok (.iload_n 2, 1) := by decide +kernel
theorem d_Mo_lengths_5 : decode prog_13_method_45_code 5 = .ok (.aload_n 0, 1) := by decide +kernel
theorem d_Mo_lengths_6 : decode prog_13_method_45_code 6 = .ok (.getfield 158, 3) := by decide +kernel
theorem d_Mo_lengths_9 : decode prog_13_method_45_code 9 = .ok (.if_icmp .ge 30, 3) := by decide +kernel
theorem d_Mo_lengths_12 : decode prog_13_method_45_code 12 = .ok (.iload_n 1, 1) := by decide +kernel
theorem d_Mo_lengths_13 : decode prog_13_method_45_code 13 = .ok (.aload_n 0, 1) := by decide +kernel
theorem d_Mo_lengths_14 : decode prog_13_method_45_code 14 = .ok (.getfield 29, 3) := by decide +kernel
theorem d_Mo_lengths_17 : decode prog_13_method_45_code 17 = .ok (.iload_n 2, 1) := by decide +kernel
theorem d_Mo_lengths_18 : decode prog_13_method_45_code 18 = .ok (.baload, 1) := by decide +kernel
theorem d_Mo_lengths_19 : decode prog_13_method_45_code 19 = .ok (.ifCond .eq 7, 3) := by decide +kernel
theorem d_Mo_lengths_22 : decode prog_13_method_45_code 22 = .ok (.iconst 0, 1) := by decide +kernel
theorem d_Mo_lengths_23 : decode prog_13_method_45_code 23 = .ok (.goto 8, 3) := by decide +kernel
theorem d_Mo_lengths_26 : decode prog_13_method_45_code 26 = .ok (.aload_n 0, 1) := by decide +kernel
theorem d_Mo_lengths_27 : decode prog_13_method_45_code 27 = .ok (.iload_n 2, 1) := by decide +kernel
theorem d_Mo_lengths_28 : decode prog_13_method_45_code 28 = .ok (.invokevirtual 210, 3) := by decide +kernel
theorem d_Mo_lengths_31 : decode prog_13_method_45_code 31 = .ok (.iadd, 1) := by decide +kernel
theorem d_Mo_lengths_32 : decode prog_13_method_45_code 32 = .ok (.istore_n 1, 1) := by decide +kernel
theorem d_Mo_lengths_33 : decode prog_13_method_45_code 33 = .ok (.iinc 2 1, 3) := by decide +kernel
theorem d_Mo_lengths_36 : decode prog_13_method_45_code 36 = .ok (.goto (-32), 3) := by decide +kernel
theorem d_Mo_lengths_39 : decode prog_13_method_45_code 39 = .ok (.iload_n 1, 1) := by decide +kernel
theorem d_Mo_lengths_40 : decode prog_13_method_45_code 40 = .ok (.ireturn, 1) := by decide +kernel
theorem d_Mo_lengthOf_0 : decode prog_13_method_44_code 0 = .ok (.iconst 0, 1) := by decide +kernel
theorem d_Mo_lengthOf_1 : decode prog_13_method_44_code 1 = .ok (.istore_n 2, 1) := by decide +kernel
theorem d_Mo_lengthOf_2 : decode prog_13_method_44_code 2 = .ok (.iconst 0, 1) := by decide +kernel
theorem d_Mo_lengthOf_3 : decode prog_13_method_44_code 3 = .ok (.istore_n 3, 1) := by decide +kernel
theorem d_Mo_lengthOf_4 : decode prog_13_method_44_code 4 = .ok (.iload_n 3, 1) := by decide +kernel
theorem d_Mo_lengthOf_5 : decode prog_13_method_44_code 5 = .ok (.aload_n 0, 1) := by decide +kernel
theorem d_Mo_lengthOf_6 : decode prog_13_method_44_code 6 = .ok (.getfield 33, 3) := by decide +kernel
theorem d_Mo_lengthOf_9 : decode prog_13_method_44_code 9 = .ok (.iload_n 1, 1) := by decide +kernel
theorem d_Mo_lengthOf_10 : decode prog_13_method_44_code 10 = .ok (.iaload, 1) := by decide +kernel
theorem d_Mo_lengthOf_11 : decode prog_13_method_44_code 11 = .ok (.if_icmp .ge 33, 3) := by decide +kernel
theorem d_Mo_lengthOf_14 : decode prog_13_method_44_code 14 = .ok (.aload_n 0, 1) := by decide +kernel
theorem d_Mo_lengthOf_15 : decode prog_13_method_44_code 15 = .ok (.getfield 36, 3) := by decide +kernel
theorem d_Mo_lengthOf_18 : decode prog_13_method_44_code 18 = .ok (.bipush 12, 2) := by decide +kernel
theorem d_Mo_lengthOf_20 : decode prog_13_method_44_code 20 = .ok (.iload_n 1, 1) := by decide +kernel
theorem d_Mo_lengthOf_21 : decode prog_13_method_44_code 21 = .ok (.imul, 1) := by decide +kernel
theorem d_Mo_lengthOf_22 : decode prog_13_method_44_code 22 = .ok (.iload_n 3, 1) := by decide +kernel
theorem d_Mo_lengthOf_23 : decode prog_13_method_44_code 23 = .ok (.iadd, 1) := by decide +kernel
theorem d_Mo_lengthOf_24 : decode prog_13_method_44_code 24 = .ok (.laload, 1) := by decide +kernel
theorem d_Mo_lengthOf_25 : decode prog_13_method_44_code 25 = .ok (.lconst 0, 1) := by decide +kernel
theorem d_Mo_lengthOf_26 : decode prog_13_method_44_code 26 = .ok (.lcmp, 1) := by decide +kernel
theorem d_Mo_lengthOf_27 : decode prog_13_method_44_code 27 = .ok (.ifCond .eq 9, 3) := by decide +kernel
theorem d_Mo_lengthOf_30 : decode prog_13_method_44_code 30 = .ok (.iload_n 2, 1) := by decide +kernel
theorem d_Mo_lengthOf_31 : decode prog_13_method_44_code 31 = .ok (.iconst 1, 1) := by decide +kernel
theorem d_Mo_lengthOf_32 : decode prog_13_method_44_code 32 = .ok (.iadd, 1) := by decide +kernel
theorem d_Mo_lengthOf_33 : decode prog_13_method_44_code 33 = .ok (.goto 4, 3) := by decide +kernel
theorem d_Mo_lengthOf_36 : decode prog_13_method_44_code 36 = .ok (.iload_n 2, 1) := by decide +kernel
theorem d_Mo_lengthOf_37 : decode prog_13_method_44_code 37 = .ok (.istore_n 2, 1) := by decide +kernel
theorem d_Mo_lengthOf_38 : decode prog_13_method_44_code 38 = .ok (.iinc 3 1, 3) := by decide +kernel
theorem d_Mo_lengthOf_41 : decode prog_13_method_44_code 41 = .ok (.goto (-37), 3) := by decide +kernel
theorem d_Mo_lengthOf_44 : decode prog_13_method_44_code 44 = .ok (.iload_n 2, 1) := by decide +kernel
theorem d_Mo_lengthOf_45 : decode prog_13_method_44_code 45 = .ok (.ireturn, 1) := by decide +kernel
theorem d_Mo_least_0 : decode prog_13_method_49_code 0 = .ok (.lconst 0, 1) := by decide +kernel
theorem d_Mo_least_1 : decode prog_13_method_49_code 1 = .ok (.lstore_n 2, 1) := by decide +kernel
theorem d_Mo_least_2 : decode prog_13_method_49_code 2 = .ok (.iconst 0, 1) := by decide +kernel
theorem d_Mo_least_3 : decode prog_13_method_49_code 3 = .ok (.istore 4, 2) := by decide +kernel
theorem d_Mo_least_5 : decode prog_13_method_49_code 5 = .ok (.iload 4, 2) := by decide +kernel
theorem d_Mo_least_7 : decode prog_13_method_49_code 7 = .ok (.bipush 12, 2) := by decide +kernel
theorem d_Mo_least_9 : decode prog_13_method_49_code 9 = .ok (.if_icmp .ge 166, 3) := by decide +kernel
theorem d_Mo_least_12 : decode prog_13_method_49_code 12 = .ok (.iconst 0, 1) := by decide +kernel
theorem d_Mo_least_13 : decode prog_13_method_49_code 13 = .ok (.istore 5, 2) := by decide +kernel
theorem d_Mo_least_15 : decode prog_13_method_49_code 15 = .ok (.iconst 0, 1) := by decide +kernel
theorem d_Mo_least_16 : decode prog_13_method_49_code 16 = .ok (.istore 6, 2) := by decide +kernel
theorem d_Mo_least_18 : decode prog_13_method_49_code 18 = .ok (.iconst 0, 1) := by decide +kernel
theorem d_Mo_least_19 : decode prog_13_method_49_code 19 = .ok (.istore 7, 2) := by decide +kernel
theorem d_Mo_least_21 : decode prog_13_method_49_code 21 = .ok (.iload 7, 2) := by decide +kernel
theorem d_Mo_least_23 : decode prog_13_method_49_code 23 = .ok (.bipush 12, 2) := by decide +kernel
theorem d_Mo_least_25 : decode prog_13_method_49_code 25 = .ok (.if_icmp .ge 107, 3) := by decide +kernel
theorem d_Mo_least_28 : decode prog_13_method_49_code 28 = .ok (.aload_n 0, 1) := by decide +kernel
theorem d_Mo_least_29 : decode prog_13_method_49_code 29 = .ok (.getfield 66, 3) := by decide +kernel
theorem d_Mo_least_32 : decode prog_13_method_49_code 32 = .ok (.iload 7, 2) := by decide +kernel
theorem d_Mo_least_34 : decode prog_13_method_49_code 34 = .ok (.baload, 1) := by decide +kernel
theorem d_Mo_least_35 : decode prog_13_method_49_code 35 = .ok (.ifCond .eq 38, 3) := by decide +kernel
theorem d_Mo_least_38 : decode prog_13_method_49_code 38 = .ok (.aload_n 0, 1) := by decide +kernel
theorem d_Mo_least_39 : decode prog_13_method_49_code 39 = .ok (.getfield 66, 3) := by decide +kernel
theorem d_Mo_least_42 : decode prog_13_method_49_code 42 = .ok (.iload 4, 2) := by decide +kernel
theorem d_Mo_least_44 : decode prog_13_method_49_code 44 = .ok (.baload, 1) := by decide +kernel
theorem d_Mo_least_45 : decode prog_13_method_49_code 45 = .ok (.ifCond .eq 28, 3) := by decide +kernel
theorem d_Mo_least_48 : decode prog_13_method_49_code 48 = .ok (.aload_n 0, 1) := by decide +kernel
theorem d_Mo_least_49 : decode prog_13_method_49_code 49 = .ok (.getfield 63, 3) := by decide +kernel
theorem d_Mo_least_52 : decode prog_13_method_49_code 52 = .ok (.iload 7, 2) := by decide +kernel
theorem d_Mo_least_54 : decode prog_13_method_49_code 54 = .ok (.laload, 1) := by decide +kernel
theorem d_Mo_least_55 : decode prog_13_method_49_code 55 = .ok (.aload_n 0, 1) := by decide +kernel
theorem d_Mo_least_56 : decode prog_13_method_49_code 56 = .ok (.getfield 63, 3) := by decide +kernel
theorem d_Mo_least_59 : decode prog_13_method_49_code 59 = .ok (.iload 4, 2) := by decide +kernel
theorem d_Mo_least_61 : decode prog_13_method_49_code 61 = .ok (.laload, 1) := by decide +kernel
theorem d_Mo_least_62 : decode prog_13_method_49_code 62 = .ok (.lcmp, 1) := by decide +kernel
theorem d_Mo_least_63 : decode prog_13_method_49_code 63 = .ok (.ifCond .le 10, 3) := by decide +kernel
theorem d_Mo_least_66 : decode prog_13_method_49_code 66 = .ok (.iload 5, 2) := by decide +kernel
theorem d_Mo_least_68 : decode prog_13_method_49_code 68 = .ok (.iconst 1, 1) := by decide +kernel
theorem d_Mo_least_69 : decode prog_13_method_49_code 69 = .ok (.iadd, 1) := by decide +kernel
theorem d_Mo_least_70 : decode prog_13_method_49_code 70 = .ok (.goto 5, 3) := by decide +kernel
theorem d_Mo_least_73 : decode prog_13_method_49_code 73 = .ok (.iload 5, 2) := by decide +kernel
theorem d_Mo_least_75 : decode prog_13_method_49_code 75 = .ok (.istore 5, 2) := by decide +kernel
theorem d_Mo_least_77 : decode prog_13_method_49_code 77 = .ok (.aload_n 0, 1) := by decide +kernel
theorem d_Mo_least_78 : decode prog_13_method_49_code 78 = .ok (.getfield 66, 3) := by decide +kernel
theorem d_Mo_least_81 : decode prog_13_method_49_code 81 = .ok (.iload 7, 2) := by decide +kernel
theorem d_Mo_least_83 : decode prog_13_method_49_code 83 = .ok (.baload, 1) := by decide +kernel
theorem d_Mo_least_84 : decode prog_13_method_49_code 84 = .ok (.ifCond .eq 38, 3) := by decide +kernel
theorem d_Mo_least_87 : decode prog_13_method_49_code 87 = .ok (.aload_n 0, 1) := by decide +kernel
theorem d_Mo_least_88 : decode prog_13_method_49_code 88 = .ok (.getfield 66, 3) := by decide +kernel
theorem d_Mo_least_91 : decode prog_13_method_49_code 91 = .ok (.iload 4, 2) := by decide +kernel
theorem d_Mo_least_93 : decode prog_13_method_49_code 93 = .ok (.baload, 1) := by decide +kernel
theorem d_Mo_least_94 : decode prog_13_method_49_code 94 = .ok (.ifCond .eq 28, 3) := by decide +kernel
theorem d_Mo_least_97 : decode prog_13_method_49_code 97 = .ok (.aload_n 0, 1) := by decide +kernel
theorem d_Mo_least_98 : decode prog_13_method_49_code 98 = .ok (.getfield 63, 3) := by decide +kernel
theorem d_Mo_least_101 : decode prog_13_method_49_code 101 = .ok (.iload 7, 2) := by decide +kernel
theorem d_Mo_least_103 : decode prog_13_method_49_code 103 = .ok (.laload, 1) := by decide +kernel
theorem d_Mo_least_104 : decode prog_13_method_49_code 104 = .ok (.aload_n 0, 1) := by decide +kernel
theorem d_Mo_least_105 : decode prog_13_method_49_code 105 = .ok (.getfield 63, 3) := by decide +kernel
theorem d_Mo_least_108 : decode prog_13_method_49_code 108 = .ok (.iload 4, 2) := by decide +kernel
theorem d_Mo_least_110 : decode prog_13_method_49_code 110 = .ok (.laload, 1) := by decide +kernel
theorem d_Mo_least_111 : decode prog_13_method_49_code 111 = .ok (.lcmp, 1) := by decide +kernel
theorem d_Mo_least_112 : decode prog_13_method_49_code 112 = .ok (.ifCond .ne 10, 3) := by decide +kernel
theorem d_Mo_least_115 : decode prog_13_method_49_code 115 = .ok (.iload 6, 2) := by decide +kernel
theorem d_Mo_least_117 : decode prog_13_method_49_code 117 = .ok (.iconst 1, 1) := by decide +kernel
theorem d_Mo_least_118 : decode prog_13_method_49_code 118 = .ok (.iadd, 1) := by decide +kernel
theorem d_Mo_least_119 : decode prog_13_method_49_code 119 = .ok (.goto 5, 3) := by decide +kernel
theorem d_Mo_least_122 : decode prog_13_method_49_code 122 = .ok (.iload 6, 2) := by decide +kernel
theorem d_Mo_least_124 : decode prog_13_method_49_code 124 = .ok (.istore 6, 2) := by decide +kernel
theorem d_Mo_least_126 : decode prog_13_method_49_code 126 = .ok (.iinc 7 1, 3) := by decide +kernel
theorem d_Mo_least_129 : decode prog_13_method_49_code 129 = .ok (.goto (-108), 3) := by decide +kernel
theorem d_Mo_least_132 : decode prog_13_method_49_code 132 = .ok (.aload_n 0, 1) := by decide +kernel
theorem d_Mo_least_133 : decode prog_13_method_49_code 133 = .ok (.getfield 66, 3) := by decide +kernel
theorem d_Mo_least_136 : decode prog_13_method_49_code 136 = .ok (.iload 4, 2) := by decide +kernel
theorem d_Mo_least_138 : decode prog_13_method_49_code 138 = .ok (.baload, 1) := by decide +kernel
theorem d_Mo_least_139 : decode prog_13_method_49_code 139 = .ok (.ifCond .eq 28, 3) := by decide +kernel
theorem d_Mo_least_142 : decode prog_13_method_49_code 142 = .ok (.iload 5, 2) := by decide +kernel
theorem d_Mo_least_144 : decode prog_13_method_49_code 144 = .ok (.iload_n 1, 1) := by decide +kernel
theorem d_Mo_least_145 : decode prog_13_method_49_code 145 = .ok (.if_icmp .ge 22, 3) := by decide +kernel
theorem d_Mo_least_148 : decode prog_13_method_49_code 148 = .ok (.iload 5, 2) := by decide +kernel
theorem d_Mo_least_150 : decode prog_13_method_49_code 150 = .ok (.iload 6, 2) := by decide +kernel
theorem d_Mo_least_152 : decode prog_13_method_49_code 152 = .ok (.iadd, 1) := by decide +kernel
theorem d_Mo_least_153 : decode prog_13_method_49_code 153 = .ok (.iload_n 1, 1) := by decide +kernel
theorem d_Mo_least_154 : decode prog_13_method_49_code 154 = .ok (.if_icmp .lt 13, 3) := by decide +kernel
theorem d_Mo_least_157 : decode prog_13_method_49_code 157 = .ok (.aload_n 0, 1) := by decide +kernel
theorem d_Mo_least_158 : decode prog_13_method_49_code 158 = .ok (.getfield 63, 3) := by decide +kernel
theorem d_Mo_least_161 : decode prog_13_method_49_code 161 = .ok (.iload 4, 2) := by decide +kernel
theorem d_Mo_least_163 : decode prog_13_method_49_code 163 = .ok (.laload, 1) := by decide +kernel
theorem d_Mo_least_164 : decode prog_13_method_49_code 164 = .ok (.goto 4, 3) := by decide +kernel
theorem d_Mo_least_167 : decode prog_13_method_49_code 167 = .ok (.lload_n 2, 1) := by decide +kernel
theorem d_Mo_least_168 : decode prog_13_method_49_code 168 = .ok (.lstore_n 2, 1) := by decide +kernel
theorem d_Mo_least_169 : decode prog_13_method_49_code 169 = .ok (.iinc 4 1, 3) := by decide +kernel
theorem d_Mo_least_172 : decode prog_13_method_49_code 172 = .ok (.goto (-167), 3) := by decide +kernel
theorem d_Mo_least_175 : decode prog_13_method_49_code 175 = .ok (.lload_n 2, 1) := by decide +kernel
theorem d_Mo_least_176 : decode prog_13_method_49_code 176 = .ok (.lreturn, 1) := by decide +kernel
theorem d_Mo_best_0 : decode prog_13_method_51_code 0 = .ok (.iconst 0, 1) := by decide +kernel
theorem d_Mo_best_1 : decode prog_13_method_51_code 1 = .ok (.istore_n 2, 1) := by decide +kernel
theorem d_Mo_best_2 : decode prog_13_method_51_code 2 = .ok (.iload_n 2, 1) := by decide +kernel
theorem d_Mo_best_3 : decode prog_13_method_51_code 3 = .ok (.bipush 12, 2) := by decide +kernel
theorem d_Mo_best_5 : decode prog_13_method_51_code 5 = .ok (.if_icmp .ge 63, 3) := by decide +kernel
theorem d_Mo_best_8 : decode prog_13_method_51_code 8 = .ok (.aload_n 0, 1) := by decide +kernel
theorem d_Mo_best_9 : decode prog_13_method_51_code 9 = .ok (.getfield 63, 3) := by decide +kernel
theorem d_Mo_best_12 : decode prog_13_method_51_code 12 = .ok (.iload_n 2, 1) := by decide +kernel
theorem d_Mo_best_13 : decode prog_13_method_51_code 13 = .ok (.aload_n 0, 1) := by decide +kernel
theorem d_Mo_best_14 : decode prog_13_method_51_code 14 = .ok (.getfield 60, 3) := by decide +kernel
theorem d_Mo_best_17 : decode prog_13_method_51_code 17 = .ok (.iload_n 2, 1) := by decide +kernel
theorem d_Mo_best_18 : decode prog_13_method_51_code 18 = .ok (.iaload, 1) := by decide +kernel
theorem d_Mo_best_19 : decode prog_13_method_51_code 19 = .ok (.ifCond .ge 9, 3) := by decide +kernel
theorem d_Mo_best_22 : decode prog_13_method_51_code 22 = .ok (.ldc2_w 237, 3) := by decide +kernel
theorem d_Mo_best_25 : decode prog_13_method_51_code 25 = .ok (.goto 14, 3) := by decide +kernel
theorem d_Mo_best_28 : decode prog_13_method_51_code 28 = .ok (.aload_n 0, 1) := by decide +kernel
theorem d_Mo_best_29 : decode prog_13_method_51_code 29 = .ok (.aload_n 0, 1) := by decide +kernel
theorem d_Mo_best_30 : decode prog_13_method_51_code 30 = .ok (.getfield 60, 3) := by decide +kernel
theorem d_Mo_best_33 : decode prog_13_method_51_code 33 = .ok (.iload_n 2, 1) := by decide +kernel
theorem d_Mo_best_34 : decode prog_13_method_51_code 34 = .ok (.iaload, 1) := by decide +kernel
theorem d_Mo_best_35 : decode prog_13_method_51_code 35 = .ok (.iconst 0, 1) := by decide +kernel
theorem d_Mo_best_36 : decode prog_13_method_51_code 36 = .ok (.invokevirtual 242, 3) := by decide +kernel
theorem d_Mo_best_39 : decode prog_13_method_51_code 39 = .ok (.lastore, 1) := by decide +kernel
theorem d_Mo_best_40 : decode prog_13_method_51_code 40 = .ok (.aload_n 0, 1) := by decide +kernel
theorem d_Mo_best_41 : decode prog_13_method_51_code 41 = .ok (.getfield 66, 3) := by decide +kernel
theorem d_Mo_best_44 : decode prog_13_method_51_code 44 = .ok (.iload_n 2, 1) := by decide +kernel
theorem d_Mo_best_45 : decode prog_13_method_51_code 45 = .ok (.aload_n 0, 1) := by decide +kernel
theorem d_Mo_best_46 : decode prog_13_method_51_code 46 = .ok (.getfield 63, 3) := by decide +kernel
theorem d_Mo_best_49 : decode prog_13_method_51_code 49 = .ok (.iload_n 2, 1) := by decide +kernel
theorem d_Mo_best_50 : decode prog_13_method_51_code 50 = .ok (.laload, 1) := by decide +kernel
theorem d_Mo_best_51 : decode prog_13_method_51_code 51 = .ok (.lconst 0, 1) := by decide +kernel
theorem d_Mo_best_52 : decode prog_13_method_51_code 52 = .ok (.lcmp, 1) := by decide +kernel
theorem d_Mo_best_53 : decode prog_13_method_51_code 53 = .ok (.ifCond .ge 7, 3) := by decide +kernel
theorem d_Mo_best_56 : decode prog_13_method_51_code 56 = .ok (.iconst 1, 1) := by decide +kernel
theorem d_Mo_best_57 : decode prog_13_method_51_code 57 = .ok (.goto 4, 3) := by decide +kernel
theorem d_Mo_best_60 : decode prog_13_method_51_code 60 = .ok (.iconst 0, 1) := by decide +kernel
theorem d_Mo_best_61 : decode prog_13_method_51_code 61 = .ok (.bastore, 1) := by decide +kernel
theorem d_Mo_best_62 : decode prog_13_method_51_code 62 = .ok (.iinc 2 1, 3) := by decide +kernel
theorem d_Mo_best_65 : decode prog_13_method_51_code 65 = .ok (.goto (-63), 3) := by decide +kernel
theorem d_Mo_best_68 : decode prog_13_method_51_code 68 = .ok (.iconst 0, 1) := by decide +kernel
theorem d_Mo_best_69 : decode prog_13_method_51_code 69 = .ok (.istore_n 2, 1) := by decide +kernel
theorem d_Mo_best_70 : decode prog_13_method_51_code 70 = .ok (.iload_n 2, 1) := by decide +kernel
theorem d_Mo_best_71 : decode prog_13_method_51_code 71 = .ok (.iload_n 1, 1) := by decide +kernel
theorem d_Mo_best_72 : decode prog_13_method_51_code 72 = .ok (.if_icmp .ge 111, 3) := by decide +kernel
theorem d_Mo_best_75 : decode prog_13_method_51_code 75 = .ok (.iconst (-1), 1) := by decide +kernel
theorem d_Mo_best_76 : decode prog_13_method_51_code 76 = .ok (.istore_n 3, 1) := by decide +kernel
theorem d_Mo_best_77 : decode prog_13_method_51_code 77 = .ok (.iconst 0, 1) := by decide +kernel
theorem d_Mo_best_78 : decode prog_13_method_51_code 78 = .ok (.istore 4, 2) := by decide +kernel
theorem d_Mo_best_80 : decode prog_13_method_51_code 80 = .ok (.iload 4, 2) := by decide +kernel
theorem d_Mo_best_82 : decode prog_13_method_51_code 82 = .ok (.bipush 12, 2) := by decide +kernel
theorem d_Mo_best_84 : decode prog_13_method_51_code 84 = .ok (.if_icmp .ge 47, 3) := by decide +kernel
theorem d_Mo_best_87 : decode prog_13_method_51_code 87 = .ok (.aload_n 0, 1) := by decide +kernel
theorem d_Mo_best_88 : decode prog_13_method_51_code 88 = .ok (.getfield 66, 3) := by decide +kernel
theorem d_Mo_best_91 : decode prog_13_method_51_code 91 = .ok (.iload 4, 2) := by decide +kernel
theorem d_Mo_best_93 : decode prog_13_method_51_code 93 = .ok (.baload, 1) := by decide +kernel
theorem d_Mo_best_94 : decode prog_13_method_51_code 94 = .ok (.ifCond .ne 29, 3) := by decide +kernel
theorem d_Mo_best_97 : decode prog_13_method_51_code 97 = .ok (.iload_n 3, 1) := by decide +kernel
theorem d_Mo_best_98 : decode prog_13_method_51_code 98 = .ok (.ifCond .lt 20, 3) := by decide +kernel
theorem d_Mo_best_101 : decode prog_13_method_51_code 101 = .ok (.aload_n 0, 1) := by decide +kernel
theorem d_Mo_best_102 : decode prog_13_method_51_code 102 = .ok (.getfield 63, 3) := by decide +kernel
theorem d_Mo_best_105 : decode prog_13_method_51_code 105 = .ok (.iload 4, 2) := by decide +kernel
theorem d_Mo_best_107 : decode prog_13_method_51_code 107 = .ok (.laload, 1) := by decide +kernel
theorem d_Mo_best_108 : decode prog_13_method_51_code 108 = .ok (.aload_n 0, 1) := by decide +kernel
theorem d_Mo_best_109 : decode prog_13_method_51_code 109 = .ok (.getfield 63, 3) := by decide +kernel
theorem d_Mo_best_112 : decode prog_13_method_51_code 112 = .ok (.iload_n 3, 1) := by decide +kernel
theorem d_Mo_best_113 : decode prog_13_method_51_code 113 = .ok (.laload, 1) := by decide +kernel
theorem d_Mo_best_114 : decode prog_13_method_51_code 114 = .ok (.lcmp, 1) := by decide +kernel
theorem d_Mo_best_115 : decode prog_13_method_51_code 115 = .ok (.ifCond .le 8, 3) := by decide +kernel
theorem d_Mo_best_118 : decode prog_13_method_51_code 118 = .ok (.iload 4, 2) := by decide +kernel
theorem d_Mo_best_120 : decode prog_13_method_51_code 120 = .ok (.goto 4, 3) := by decide +kernel
theorem d_Mo_best_123 : decode prog_13_method_51_code 123 = .ok (.iload_n 3, 1) := by decide +kernel
theorem d_Mo_best_124 : decode prog_13_method_51_code 124 = .ok (.istore_n 3, 1) := by decide +kernel
theorem d_Mo_best_125 : decode prog_13_method_51_code 125 = .ok (.iinc 4 1, 3) := by decide +kernel
theorem d_Mo_best_128 : decode prog_13_method_51_code 128 = .ok (.goto (-48), 3) := by decide +kernel
theorem d_Mo_best_131 : decode prog_13_method_51_code 131 = .ok (.iload_n 3, 1) := by decide +kernel
theorem d_Mo_best_132 : decode prog_13_method_51_code 132 = .ok (.ifCond .lt 45, 3) := by decide +kernel
theorem d_Mo_best_135 : decode prog_13_method_51_code 135 = .ok (.aload_n 0, 1) := by decide +kernel
theorem d_Mo_best_136 : decode prog_13_method_51_code 136 = .ok (.getfield 66, 3) := by decide +kernel
theorem d_Mo_best_139 : decode prog_13_method_51_code 139 = .ok (.iload_n 3, 1) := by decide +kernel
theorem d_Mo_best_140 : decode prog_13_method_51_code 140 = .ok (.iconst 1, 1) := by decide +kernel
theorem d_Mo_best_141 : decode prog_13_method_51_code 141 = .ok (.bastore, 1) := by decide +kernel
theorem d_Mo_best_142 : decode prog_13_method_51_code 142 = .ok (.aload_n 0, 1) := by decide +kernel
theorem d_Mo_best_143 : decode prog_13_method_51_code 143 = .ok (.getfield 54, 3) := by decide +kernel
theorem d_Mo_best_146 : decode prog_13_method_51_code 146 = .ok (.aload_n 0, 1) := by decide +kernel
theorem d_Mo_best_147 : decode prog_13_method_51_code 147 = .ok (.getfield 200, 3) := by decide +kernel
theorem d_Mo_best_150 : decode prog_13_method_51_code 150 = .ok (.iload_n 3, 1) := by decide +kernel
theorem d_Mo_best_151 : decode prog_13_method_51_code 151 = .ok (.iastore, 1) := by decide +kernel
theorem d_Mo_best_152 : decode prog_13_method_51_code 152 = .ok (.aload_n 0, 1) := by decide +kernel
theorem d_Mo_best_153 : decode prog_13_method_51_code 153 = .ok (.getfield 57, 3) := by decide +kernel
theorem d_Mo_best_156 : decode prog_13_method_51_code 156 = .ok (.aload_n 0, 1) := by decide +kernel
theorem d_Mo_best_157 : decode prog_13_method_51_code 157 = .ok (.getfield 200, 3) := by decide +kernel
theorem d_Mo_best_160 : decode prog_13_method_51_code 160 = .ok (.aload_n 0, 1) := by decide +kernel
theorem d_Mo_best_161 : decode prog_13_method_51_code 161 = .ok (.getfield 63, 3) := by decide +kernel
theorem d_Mo_best_164 : decode prog_13_method_51_code 164 = .ok (.iload_n 3, 1) := by decide +kernel
theorem d_Mo_best_165 : decode prog_13_method_51_code 165 = .ok (.laload, 1) := by decide +kernel
theorem d_Mo_best_166 : decode prog_13_method_51_code 166 = .ok (.lastore, 1) := by decide +kernel
theorem d_Mo_best_167 : decode prog_13_method_51_code 167 = .ok (.aload_n 0, 1) := by decide +kernel
theorem d_Mo_best_168 : decode prog_13_method_51_code 168 = .ok (.dup, 1) := by decide +kernel
theorem d_Mo_best_169 : decode prog_13_method_51_code 169 = .ok (.getfield 200, 3) := by decide +kernel
theorem d_Mo_best_172 : decode prog_13_method_51_code 172 = .ok (.iconst 1, 1) := by decide +kernel
theorem d_Mo_best_173 : decode prog_13_method_51_code 173 = .ok (.iadd, 1) := by decide +kernel
theorem d_Mo_best_174 : decode prog_13_method_51_code 174 = .ok (.putfield 200, 3) := by decide +kernel
theorem d_Mo_best_177 : decode prog_13_method_51_code 177 = .ok (.iinc 2 1, 3) := by decide +kernel
theorem d_Mo_best_180 : decode prog_13_method_51_code 180 = .ok (.goto (-110), 3) := by decide +kernel
theorem d_Mo_best_183 : decode prog_13_method_51_code 183 = .ok (.return_, 1) := by decide +kernel
theorem d_Mo_result_0 : decode prog_13_method_53_code 0 = .ok (.iload_n 1, 1) := by decide +kernel
theorem d_Mo_result_1 : decode prog_13_method_53_code 1 = .ok (.ifCond .lt 11, 3) := by decide +kernel
theorem d_Mo_result_4 : decode prog_13_method_53_code 4 = .ok (.iload_n 1, 1) := by decide +kernel
theorem d_Mo_result_5 : decode prog_13_method_53_code 5 = .ok (.aload_n 0, 1) := by decide +kernel
theorem d_Mo_result_6 : decode prog_13_method_53_code 6 = .ok (.getfield 200, 3) := by decide +kernel
theorem d_Mo_result_9 : decode prog_13_method_53_code 9 = .ok (.if_icmp .lt 7, 3) := by decide +kernel
theorem d_Mo_result_12 : decode prog_13_method_53_code 12 = .ok (.iconst (-1), 1) := by decide +kernel
theorem d_Mo_result_13 : decode prog_13_method_53_code 13 = .ok (.goto 9, 3) := by decide +kernel
theorem d_Mo_result_16 : decode prog_13_method_53_code 16 = .ok (.aload_n 0, 1) := by decide +kernel
theorem d_Mo_result_17 : decode prog_13_method_53_code 17 = .ok (.getfield 54, 3) := by decide +kernel
theorem d_Mo_result_20 : decode prog_13_method_53_code 20 = .ok (.iload_n 1, 1) := by decide +kernel
theorem d_Mo_result_21 : decode prog_13_method_53_code 21 = .ok (.iaload, 1) := by decide +kernel
theorem d_Mo_result_22 : decode prog_13_method_53_code 22 = .ok (.ireturn, 1) := by decide +kernel
theorem d_Mo_weight_0 : decode prog_13_method_54_code 0 = .ok (.iload_n 1, 1) := by decide +kernel
theorem d_Mo_weight_1 : decode prog_13_method_54_code 1 = .ok (.ifCond .lt 11, 3) := by decide +kernel
theorem d_Mo_weight_4 : decode prog_13_method_54_code 4 = .ok (.iload_n 1, 1) := by decide +kernel
theorem d_Mo_weight_5 : decode prog_13_method_54_code 5 = .ok (.aload_n 0, 1) := by decide +kernel
theorem d_Mo_weight_6 : decode prog_13_method_54_code 6 = .ok (.getfield 200, 3) := by decide +kernel
theorem d_Mo_weight_9 : decode prog_13_method_54_code 9 = .ok (.if_icmp .lt 7, 3) := by decide +kernel
theorem d_Mo_weight_12 : decode prog_13_method_54_code 12 = .ok (.iconst (-1), 1) := by decide +kernel
theorem d_Mo_weight_13 : decode prog_13_method_54_code 13 = .ok (.goto 10, 3) := by decide +kernel
theorem d_Mo_weight_16 : decode prog_13_method_54_code 16 = .ok (.aload_n 0, 1) := by decide +kernel
theorem d_Mo_weight_17 : decode prog_13_method_54_code 17 = .ok (.getfield 57, 3) := by decide +kernel
theorem d_Mo_weight_20 : decode prog_13_method_54_code 20 = .ok (.iload_n 1, 1) := by decide +kernel
theorem d_Mo_weight_21 : decode prog_13_method_54_code 21 = .ok (.laload, 1) := by decide +kernel
theorem d_Mo_weight_22 : decode prog_13_method_54_code 22 = .ok (.l2i, 1) := by decide +kernel
theorem d_Mo_weight_23 : decode prog_13_method_54_code 23 = .ok (.ireturn, 1) := by decide +kernel
theorem d_Mo_weighed_0 : decode prog_13_method_55_code 0 = .ok (.aload_n 0, 1) := by decide +kernel
theorem d_Mo_weighed_1 : decode prog_13_method_55_code 1 = .ok (.getfield 239, 3) := by decide +kernel
theorem d_Mo_weighed_4 : decode prog_13_method_55_code 4 = .ok (.ireturn, 1) := by decide +kernel
theorem d_Mo_size_0 : decode prog_13_method_57_code 0 = .ok (.iconst 0, 1) := by decide +kernel
theorem d_Mo_size_1 : decode prog_13_method_57_code 1 = .ok (.istore_n 2, 1) := by decide +kernel
theorem d_Mo_size_2 : decode prog_13_method_57_code 2 = .ok (.iconst 0, 1) := by decide +kernel
theorem d_Mo_size_3 : decode prog_13_method_57_code 3 = .ok (.istore_n 3, 1) := by decide +kernel
theorem d_Mo_size_4 : decode prog_13_method_57_code 4 = .ok (.iload_n 3, 1) := by decide +kernel
theorem d_Mo_size_5 : decode prog_13_method_57_code 5 = .ok (.aload_n 0, 1) := by decide +kernel
theorem d_Mo_size_6 : decode prog_13_method_57_code 6 = .ok (.getfield 158, 3) := by decide +kernel
theorem d_Mo_size_9 : decode prog_13_method_57_code 9 = .ok (.if_icmp .ge 17, 3) := by decide +kernel
theorem d_Mo_size_12 : decode prog_13_method_57_code 12 = .ok (.iload_n 2, 1) := by decide +kernel
theorem d_Mo_size_13 : decode prog_13_method_57_code 13 = .ok (.aload_n 0, 1) := by decide +kernel
theorem d_Mo_size_14 : decode prog_13_method_57_code 14 = .ok (.iload_n 3, 1) := by decide +kernel
theorem d_Mo_size_15 : decode prog_13_method_57_code 15 = .ok (.invokevirtual 256, 3) := by decide +kernel
theorem d_Mo_size_18 : decode prog_13_method_57_code 18 = .ok (.iadd, 1) := by decide +kernel
theorem d_Mo_size_19 : decode prog_13_method_57_code 19 = .ok (.istore_n 2, 1) := by decide +kernel
theorem d_Mo_size_20 : decode prog_13_method_57_code 20 = .ok (.iinc 3 1, 3) := by decide +kernel
theorem d_Mo_size_23 : decode prog_13_method_57_code 23 = .ok (.goto (-19), 3) := by decide +kernel
theorem d_Mo_size_26 : decode prog_13_method_57_code 26 = .ok (.iload_n 1, 1) := by decide +kernel
theorem d_Mo_size_27 : decode prog_13_method_57_code 27 = .ok (.tableswitch 111 0 9 #[53, 58, 63, 68, 76, 81, 86, 91, 96, 109], 53) := by decide +kernel
theorem d_Mo_size_80 : decode prog_13_method_57_code 80 = .ok (.aload_n 0, 1) := by decide +kernel
theorem d_Mo_size_81 : decode prog_13_method_57_code 81 = .ok (.invokevirtual 177, 3) := by decide +kernel
theorem d_Mo_size_84 : decode prog_13_method_57_code 84 = .ok (.ireturn, 1) := by decide +kernel
theorem d_Mo_size_85 : decode prog_13_method_57_code 85 = .ok (.aload_n 0, 1) := by decide +kernel
theorem d_Mo_size_86 : decode prog_13_method_57_code 86 = .ok (.getfield 161, 3) := by decide +kernel
theorem d_Mo_size_89 : decode prog_13_method_57_code 89 = .ok (.ireturn, 1) := by decide +kernel
theorem d_Mo_size_90 : decode prog_13_method_57_code 90 = .ok (.aload_n 0, 1) := by decide +kernel
theorem d_Mo_size_91 : decode prog_13_method_57_code 91 = .ok (.getfield 158, 3) := by decide +kernel
theorem d_Mo_size_94 : decode prog_13_method_57_code 94 = .ok (.ireturn, 1) := by decide +kernel
theorem d_Mo_size_95 : decode prog_13_method_57_code 95 = .ok (.bipush 12, 2) := by decide +kernel
theorem d_Mo_size_97 : decode prog_13_method_57_code 97 = .ok (.aload_n 0, 1) := by decide +kernel
theorem d_Mo_size_98 : decode prog_13_method_57_code 98 = .ok (.invokevirtual 142, 3) := by decide +kernel
theorem d_Mo_size_101 : decode prog_13_method_57_code 101 = .ok (.isub, 1) := by decide +kernel
theorem d_Mo_size_102 : decode prog_13_method_57_code 102 = .ok (.ireturn, 1) := by decide +kernel
theorem d_Mo_size_103 : decode prog_13_method_57_code 103 = .ok (.aload_n 0, 1) := by decide +kernel
theorem d_Mo_size_104 : decode prog_13_method_57_code 104 = .ok (.getfield 135, 3) := by decide +kernel
theorem d_Mo_size_107 : decode prog_13_method_57_code 107 = .ok (.ireturn, 1) := by decide +kernel
theorem d_Mo_size_108 : decode prog_13_method_57_code 108 = .ok (.aload_n 0, 1) := by decide +kernel
theorem d_Mo_size_109 : decode prog_13_method_57_code 109 = .ok (.getfield 149, 3) := by decide +kernel
theorem d_Mo_size_112 : decode prog_13_method_57_code 112 = .ok (.ireturn, 1) := by decide +kernel
theorem d_Mo_size_113 : decode prog_13_method_57_code 113 = .ok (.aload_n 0, 1) := by decide +kernel
theorem d_Mo_size_114 : decode prog_13_method_57_code 114 = .ok (.invokevirtual 213, 3) := by decide +kernel
theorem d_Mo_size_117 : decode prog_13_method_57_code 117 = .ok (.ireturn, 1) := by decide +kernel
theorem d_Mo_size_118 : decode prog_13_method_57_code 118 = .ok (.aload_n 0, 1) := by decide +kernel
theorem d_Mo_size_119 : decode prog_13_method_57_code 119 = .ok (.getfield 155, 3) := by decide +kernel
theorem d_Mo_size_122 : decode prog_13_method_57_code 122 = .ok (.ireturn, 1) := by decide +kernel
theorem d_Mo_size_123 : decode prog_13_method_57_code 123 = .ok (.aload_n 0, 1) := by decide +kernel
theorem d_Mo_size_124 : decode prog_13_method_57_code 124 = .ok (.getfield 131, 3) := by decide +kernel
theorem d_Mo_size_127 : decode prog_13_method_57_code 127 = .ok (.ifCond .eq 7, 3) := by decide +kernel
theorem d_Mo_size_130 : decode prog_13_method_57_code 130 = .ok (.iconst 1, 1) := by decide +kernel
theorem d_Mo_size_131 : decode prog_13_method_57_code 131 = .ok (.goto 4, 3) := by decide +kernel
theorem d_Mo_size_134 : decode prog_13_method_57_code 134 = .ok (.iconst 0, 1) := by decide +kernel
theorem d_Mo_size_135 : decode prog_13_method_57_code 135 = .ok (.ireturn, 1) := by decide +kernel
theorem d_Mo_size_136 : decode prog_13_method_57_code 136 = .ok (.iload_n 2, 1) := by decide +kernel
theorem d_Mo_size_137 : decode prog_13_method_57_code 137 = .ok (.ireturn, 1) := by decide +kernel
theorem d_Mo_size_138 : decode prog_13_method_57_code 138 = .ok (.iconst (-1), 1) := by decide +kernel
theorem d_Mo_size_139 : decode prog_13_method_57_code 139 = .ok (.ireturn, 1) := by decide +kernel
theorem d_Mo_different_0 : decode prog_13_method_56_code 0 = .ok (.iconst 0, 1) := by decide +kernel
theorem d_Mo_different_1 : decode prog_13_method_56_code 1 = .ok (.istore_n 2, 1) := by decide +kernel
theorem d_Mo_different_2 : decode prog_13_method_56_code 2 = .ok (.iconst 0, 1) := by decide +kernel
theorem d_Mo_different_3 : decode prog_13_method_56_code 3 = .ok (.istore_n 3, 1) := by decide +kernel
theorem d_Mo_different_4 : decode prog_13_method_56_code 4 = .ok (.iload_n 3, 1) := by decide +kernel
theorem d_Mo_different_5 : decode prog_13_method_56_code 5 = .ok (.aload_n 0, 1) := by decide +kernel
theorem d_Mo_different_6 : decode prog_13_method_56_code 6 = .ok (.getfield 33, 3) := by decide +kernel
theorem d_Mo_different_9 : decode prog_13_method_56_code 9 = .ok (.iload_n 1, 1) := by decide +kernel
theorem d_Mo_different_10 : decode prog_13_method_56_code 10 = .ok (.iaload, 1) := by decide +kernel
theorem d_Mo_different_11 : decode prog_13_method_56_code 11 = .ok (.if_icmp .ge 94, 3) := by decide +kernel
theorem d_Mo_different_14 : decode prog_13_method_56_code 14 = .ok (.aload_n 0, 1) := by decide +kernel
theorem d_Mo_different_15 : decode prog_13_method_56_code 15 = .ok (.getfield 36, 3) := by decide +kernel
theorem d_Mo_different_18 : decode prog_13_method_56_code 18 = .ok (.bipush 12, 2) := by decide +kernel
theorem d_Mo_different_20 : decode prog_13_method_56_code 20 = .ok (.iload_n 1, 1) := by decide +kernel
theorem d_Mo_different_21 : decode prog_13_method_56_code 21 = .ok (.imul, 1) := by decide +kernel
theorem d_Mo_different_22 : decode prog_13_method_56_code 22 = .ok (.iload_n 3, 1) := by decide +kernel
theorem d_Mo_different_23 : decode prog_13_method_56_code 23 = .ok (.iadd, 1) := by decide +kernel
theorem d_Mo_different_24 : decode prog_13_method_56_code 24 = .ok (.laload, 1) := by decide +kernel
theorem d_Mo_different_25 : decode prog_13_method_56_code 25 = .ok (.lstore 4, 2) := by decide +kernel
theorem d_Mo_different_27 : decode prog_13_method_56_code 27 = .ok (.lload 4, 2) := by decide +kernel
theorem d_Mo_different_29 : decode prog_13_method_56_code 29 = .ok (.lconst 0, 1) := by decide +kernel
theorem d_Mo_different_30 : decode prog_13_method_56_code 30 = .ok (.lcmp, 1) := by decide +kernel
theorem d_Mo_different_31 : decode prog_13_method_56_code 31 = .ok (.ifCond .eq 7, 3) := by decide +kernel
theorem d_Mo_different_34 : decode prog_13_method_56_code 34 = .ok (.iconst 1, 1) := by decide +kernel
theorem d_Mo_different_35 : decode prog_13_method_56_code 35 = .ok (.goto 4, 3) := by decide +kernel
theorem d_Mo_different_38 : decode prog_13_method_56_code 38 = .ok (.iconst 0, 1) := by decide +kernel
theorem d_Mo_different_39 : decode prog_13_method_56_code 39 = .ok (.istore 6, 2) := by decide +kernel
theorem d_Mo_different_41 : decode prog_13_method_56_code 41 = .ok (.iconst 0, 1) := by decide +kernel
theorem d_Mo_different_42 : decode prog_13_method_56_code 42 = .ok (.istore 7, 2) := by decide +kernel
theorem d_Mo_different_44 : decode prog_13_method_56_code 44 = .ok (.iload 7, 2) := by decide +kernel
theorem d_Mo_different_46 : decode prog_13_method_56_code 46 = .ok (.iload_n 3, 1) := by decide +kernel
theorem d_Mo_different_47 : decode prog_13_method_56_code 47 = .ok (.if_icmp .ge 39, 3) := by decide +kernel
theorem d_Mo_different_50 : decode prog_13_method_56_code 50 = .ok (.iload 6, 2) := by decide +kernel
theorem d_Mo_different_52 : decode prog_13_method_56_code 52 = .ok (.ifCond .eq 25, 3) := by decide +kernel
theorem d_Mo_different_55 : decode prog_13_method_56_code 55 = .ok (.aload_n 0, 1) := by decide +kernel
theorem d_Mo_different_56 : decode prog_13_method_56_code 56 = .ok (.getfield 36, 3) := by decide +kernel
theorem d_Mo_different_59 : decode prog_13_method_56_code 59 = .ok (.bipush 12, 2) := by decide +kernel
theorem d_Mo_different_61 : decode prog_13_method_56_code 61 = .ok (.iload_n 1, 1) := by decide +kernel
theorem d_Mo_different_62 : decode prog_13_method_56_code 62 = .ok (.imul, 1) := by decide +kernel
theorem d_Mo_different_63 : decode prog_13_method_56_code 63 = .ok (.iload 7, 2) := by decide +kernel
theorem d_Mo_different_65 : decode prog_13_method_56_code 65 = .ok (.iadd, 1) := by decide +kernel
theorem d_Mo_different_66 : decode prog_13_method_56_code 66 = .ok (.laload, 1) := by decide +kernel
theorem d_Mo_different_67 : decode prog_13_method_56_code 67 = .ok (.lload 4, 2) := by decide +kernel
theorem d_Mo_different_69 : decode prog_13_method_56_code 69 = .ok (.lcmp, 1) := by decide +kernel
theorem d_Mo_different_70 : decode prog_13_method_56_code 70 = .ok (.ifCond .eq 7, 3) := by decide +kernel
theorem d_Mo_different_73 : decode prog_13_method_56_code 73 = .ok (.iconst 1, 1) := by decide +kernel
theorem d_Mo_different_74 : decode prog_13_method_56_code 74 = .ok (.goto 4, 3) := by decide +kernel
theorem d_Mo_different_77 : decode prog_13_method_56_code 77 = .ok (.iconst 0, 1) := by decide +kernel
theorem d_Mo_different_78 : decode prog_13_method_56_code 78 = .ok (.istore 6, 2) := by decide +kernel
theorem d_Mo_different_80 : decode prog_13_method_56_code 80 = .ok (.iinc 7 1, 3) := by decide +kernel
theorem d_Mo_different_83 : decode prog_13_method_56_code 83 = .ok (.goto (-39), 3) := by decide +kernel
theorem d_Mo_different_86 : decode prog_13_method_56_code 86 = .ok (.iload 6, 2) := by decide +kernel
theorem d_Mo_different_88 : decode prog_13_method_56_code 88 = .ok (.ifCond .eq 9, 3) := by decide +kernel
theorem d_Mo_different_91 : decode prog_13_method_56_code 91 = .ok (.iload_n 2, 1) := by decide +kernel
theorem d_Mo_different_92 : decode prog_13_method_56_code 92 = .ok (.iconst 1, 1) := by decide +kernel
theorem d_Mo_different_93 : decode prog_13_method_56_code 93 = .ok (.iadd, 1) := by decide +kernel
theorem d_Mo_different_94 : decode prog_13_method_56_code 94 = .ok (.goto 4, 3) := by decide +kernel
theorem d_Mo_different_97 : decode prog_13_method_56_code 97 = .ok (.iload_n 2, 1) := by decide +kernel
theorem d_Mo_different_98 : decode prog_13_method_56_code 98 = .ok (.istore_n 2, 1) := by decide +kernel
theorem d_Mo_different_99 : decode prog_13_method_56_code 99 = .ok (.iinc 3 1, 3) := by decide +kernel
theorem d_Mo_different_102 : decode prog_13_method_56_code 102 = .ok (.goto (-98), 3) := by decide +kernel
theorem d_Mo_different_105 : decode prog_13_method_56_code 105 = .ok (.iload_n 2, 1) := by decide +kernel
theorem d_Mo_different_106 : decode prog_13_method_56_code 106 = .ok (.ireturn, 1) := by decide +kernel
end
section
/-! our own judgement over the kit's walk: a world is a map from addresses to cells; a method's frame is a pc, a list of known locals, a stack -/
def ev_at (X : ev_X) (q : Nat) (c : ev_C) (H : Heap) : Prop := match c with
  | .inl a => ∃ t, X.2.1[a.1]? = some t ∧ ev_tyl[a.1]? = some t.2 ∧ H[q]? = some (vp_cell t.1 a.2)
  | .inr o => va_at X.1 ev_cl (q, .inr o) H
def ev_R (X : ev_X) (n : Nat) (F : ev_H) (H : Heap) : Prop := H.size = n ∧ X.2.2.1 ≤ n ∧ ∀ q c, F q = some c → X.2.2.1 ≤ q ∧ ev_at X q c H
def ev_up (F : ev_H) (a : Nat) (c : ev_C) : ev_H := fun q => if q = a then some c else F q
theorem ev_up_s {F : ev_H} {a : Nat} {c : ev_C} : ev_up F a c a = some c := by simp [ev_up]
theorem ev_up_n {F : ev_H} {a b : Nat} {c : ev_C} (h : b ≠ a) : ev_up F a c b = F b := by simp [ev_up, h]
theorem ev_up_k {F : ev_H} {a b : Nat} {c d : ev_C} (h : b ≠ a) (hb : F b = some d) : ev_up F a c b = some d := by rw [ev_up_n h]; exact hb
def ev_tag (c : ev_C) : Bool × Nat := match c with
  | .inl a => (true, a.1)
  | .inr o => (false, o.1)
theorem ev_ne {F : ev_H} {a b : Nat} {c d : ev_C} (ha : F a = some c) (hb : F b = some d) (h : ev_tag c ≠ ev_tag d) : a ≠ b := fun e => h (by subst e; rw [ha] at hb; cases hb; rfl)
theorem ev_ne_oo {F : ev_H} {a b i j : Nat} {x y : List Value} (ha : F a = some (.inr (i, x))) (hb : F b = some (.inr (j, y))) (h : (i == j) = false) : a ≠ b := fun e => by
  subst e; rw [ha] at hb; cases hb; simp at h
theorem ev_ne_aa {F : ev_H} {a b i j : Nat} {x y : vp_A} (ha : F a = some (.inl (i, x))) (hb : F b = some (.inl (j, y))) (h : (i == j) = false) : a ≠ b := fun e => by
  subst e; rw [ha] at hb; cases hb; simp at h
theorem ev_ne_oa {F : ev_H} {a b i j : Nat} {x : List Value} {y : vp_A} (ha : F a = some (.inr (i, x))) (hb : F b = some (.inl (j, y))) : a ≠ b := fun e => by
  subst e; rw [ha] at hb; cases hb
theorem ev_ne_ao {F : ev_H} {a b i j : Nat} {x : vp_A} {y : List Value} (ha : F a = some (.inl (i, x))) (hb : F b = some (.inr (j, y))) : a ≠ b := fun e => by
  subst e; rw [ha] at hb; cases hb
theorem ev_at.kept {X : ev_X} {q : Nat} {c : ev_C} {H H1 : Heap} (h : ev_at X q c H) (hq : H1[q]? = H[q]?) : ev_at X q c H1 := by
  cases c with
  | inl a => obtain ⟨t, h1, h2, h3⟩ := h; exact ⟨t, h1, h2, by rw [hq]; exact h3⟩
  | inr o => exact va_at.kept (q := (q, .inr o)) (show va_at X.1 ev_cl (q, .inr o) H from h) hq
theorem ev_at.lt {X : ev_X} {q : Nat} {c : ev_C} {H : Heap} (h : ev_at X q c H) : q < H.size := by
  cases c with
  | inl a => obtain ⟨t, h1, h2, h3⟩ := h; exact (Array.getElem?_eq_some_iff.mp h3).1
  | inr o => exact va_at.lt (q := (q, .inr o)) h
/-- nothing lies at or above n -/
theorem ev_R.none {X : ev_X} {n : Nat} {F : ev_H} {H : Heap} (h : ev_R X n F H) {q : Nat} (hq : n ≤ q) : F q = none := by
  cases e : F q with
  | none => rfl
  | some c =>
    have h2 := (h.2.2 q c e).2.lt
    rw [h.1] at h2
    exact absurd h2 (by omega)
theorem ev_R.set {X : ev_X} {n a : Nat} {F : ev_H} {c0 c : ev_C} {H H1 : Heap} (h : ev_R X n F H) (ha : F a = some c0) (hc : ev_at X a c H1) (hz : H1.size = H.size) (oq : ∀ q : Nat, q ≠ a → H1[q]? = H[q]?) : ev_R X n (ev_up F a c) H1 := by
  refine ⟨hz.trans h.1, h.2.1, fun q d hq => ?_⟩
  by_cases e : q = a
  · subst e
    rw [ev_up_s] at hq
    cases hq
    exact ⟨(h.2.2 _ _ ha).1, hc⟩
  · rw [ev_up_n e] at hq
    exact ⟨(h.2.2 q d hq).1, (h.2.2 q d hq).2.kept (oq q e)⟩
theorem ev_R.push {X : ev_X} {n : Nat} {F : ev_H} {c : ev_C} {H H1 : Heap} (h : ev_R X n F H) (hc : ev_at X n c H1) (hz : H1.size = n + 1) (oq : ∀ q : Nat, q < n → H1[q]? = H[q]?) : ev_R X (n + 1) (ev_up F n c) H1 := by
  refine ⟨hz, Nat.le_succ_of_le h.2.1, fun q d hq => ?_⟩
  by_cases e : q = n
  · subst e
    rw [ev_up_s] at hq
    cases hq
    exact ⟨h.2.1, hc⟩
  · rw [ev_up_n e] at hq
    have hl := (h.2.2 q d hq).2.lt
    rw [h.1] at hl
    exact ⟨(h.2.2 q d hq).1, (h.2.2 q d hq).2.kept (oq q hl)⟩
/-- what is known of a state's tables and of what stood there before -/
def ev_K (X : ev_X) (U : State) : Prop := va_K X.1 ev_cl X.2.1 U ∧ (∀ w ∈ ev_gw, va_Nw w U) ∧ ev_S X U ∧ X.2.1.map Prod.snd = ev_tyl
theorem ev_tys {X : ev_X} {U : State} (h : ev_K X U) {t : Nat} {ty : FieldType} (ht : ev_tyl[t]? = some ty) : ∃ t2 : ClassId × FieldType, X.2.1[t]? = some t2 ∧ t2.2 = ty := by
  rw [← h.2.2.2, List.getElem?_map] at ht
  cases e : X.2.1[t]? with
  | none => rw [e] at ht; cases ht
  | some t2 => rw [e] at ht; exact ⟨t2, rfl, Option.some.inj ht⟩
theorem ev_K.same {X : ev_X} {u U : State} (hv : U.vm = u.vm) (hh : U.heap = u.heap) (h : ev_K X u) : ev_K X U :=
  ⟨va_K.moved (by rw [hv]; exact Vm.Alike.refl _) h.1, fun w hw => ev_use (ev_gw_good w hw) hv.symm (h.2.1 w hw), ev_S.same hv hh h.2.2.1, h.2.2.2⟩
theorem ev_K.warm {X : ev_X} {s U : State} {locs : List Loc} (hW : s.WarmedH U.vm) (hS : va_S (ev_A X) s.heap U.heap locs) (h : ev_K X s) : ev_K X U :=
  ⟨va_K.moved hW.alike h.1, fun w hw => ev_Nw_warm (ev_gw_good w hw) hW (h.2.1 w hw), ev_S.warm hW hS.1 (fun q h1 h2 => hS.2.1 q h1 h2) h.2.2.1, h.2.2.2⟩
/-- a method's end -/
def ev_Q (X : ev_X) (Q : Option Value → Nat → ev_H → Prop) : Array Value → State → Outcome → State → Prop := fun _ st oc t =>
  (∃ (v : Option Value) (n : Nat) (F : ev_H), oc = .returned v ∧ Q v n F ∧ ev_R X n F t.heap) ∧ va_F (ev_A X) st t
/-- a method's start -/
def ev_P (X : ev_X) (as : List Value) (n : Nat) (F : ev_H) : Array Value → State → Prop := fun v U => v = as.toArray ∧ ev_K X U ∧ ev_R X n F U.heap
theorem ev_P.blind {X : ev_X} {as : List Value} {n : Nat} {F : ev_H} : FrameBlind (ev_P X as n F) := fun a U g mk h => ⟨h.1, ev_K.same (u := U) (U := U.calling g mk a) rfl rfl h.2.1, h.2.2⟩
/-- a call of method M with arguments as in world F of n cells: it returns, with Q; at most bc cells of bs slots are new -/
def Cal (l : Launch) (X : ev_X) (M : ev_M) (bc bs : Nat) (as : List Value) (n : Nat) (F : ev_H) (Q : Option Value → Nat → ev_H → Prop) : Prop :=
  Met l M.1 [Cond.code M.1 M.2.1 M.2.2.1 M.2.2.2.1] { frames := M.2.2.2.2.1, cells := bc, slots := bs, locals := M.2.2.2.2.2 } (ev_P X as n F) (ev_Q X Q) bc bs (ev_A X)
/-- what doesn't change while a method runs -/
def ev_cs (X : ev_X) (M : ev_M) (p : Program) (R : Room) (s : State) (m : MethodId) (meth : Method) (c : Code) : Prop :=
  p.tables.exec = Jvm.exec ∧ c.code = M.2.1 ∧ c.maxLocals = M.2.2.1 ∧ meth.sig.returnType = M.2.2.2.1 ∧ meth.locks = false ∧ meth.name = M.1.name ∧ s.vm.findClass M.1.cls = some m.cls ∧ ev_K X s ∧ R.frames = M.2.2.2.2.1 ∧ R.locals = M.2.2.2.2.2
theorem ev_cs.w {X : ev_X} {M : ev_M} {p : Program} {R : Room} {s : State} {m : MethodId} {meth : Method} {c : Code} (h : ev_cs X M p R s m meth c) {args : Array Value} {w : Cond} (hw : w ∈ ev_gw) : w.before args s = true := ev_use (ev_gw_good w hw) rfl (h.2.2.2.2.2.2.2.1.2.1 w hw)
/-- what is to be reached at the end -/
abbrev ev_Z : Type := Room → State → Array Value → List Frame → State → Prop
def ev_mq (X : ev_X) (Q : Option Value → Nat → ev_H → Prop) : ev_Z := fun R s args below => MQ below (ev_Q X Q) args s R.cells R.slots (ev_A X)
/-- the machine in method M at pc, with known locals L, stack st, world F of n cells, room for bc more cells of bs slots: it comes to the end Z -/
def Ev (l : Launch) (X : ev_X) (M : ev_M) (bc bs pc : Nat) (L : List (Nat × Value)) (st : List Value) (n : Nat) (F : ev_H) (Z : ev_Z) : Prop :=
  ∀ (p : Program) (e : Env) (R : Room) (s : State) (m : MethodId) (args : Array Value) (below : List Frame) (meth : Method) (c : Code) (H : Heap) (locs : List Loc) (cells slots : Nat) (ls : Array Slot),
    ev_cs X M p R s m meth c → ev_R X n F H → va_S (ev_A X) s.heap H locs → lv_has ls M.2.2.1 L → cells + bc ≤ R.cells → slots + bs ≤ R.slots →
    W p l e R s m args below meth c H locs cells slots (Z R s args below) (F0 m pc ls st)
/-- any reason gives a reason: consequence -/
theorem Cal.mono {l : Launch} {X : ev_X} {M : ev_M} {bc bs : Nat} {as : List Value} {n : Nat} {F : ev_H} {Q Q' : Option Value → Nat → ev_H → Prop} (h : Cal l X M bc bs as n F Q) (hq : ∀ v n' F', Q v n' F' → Q' v n' F') : Cal l X M bc bs as n F Q' := by
  unfold Cal Met at h ⊢
  refine MetFree.mono h (fun _ _ h => h) (fun _ _ _ _ _ h => h) ?_
  rintro a st o t - ⟨⟨⟨v, n', F', h1, h2, h3⟩, h4⟩, h5⟩
  exact ⟨⟨⟨v, n', F', h1, hq _ _ _ h2, h3⟩, h4⟩, h5⟩

section EvRows
variable {l : Launch} {X : ev_X} {M : ev_M} {bc bs pc n : Nat} {L L' : List (Nat × Value)} {st : List Value} {F : ev_H} {Z : ev_Z} {Q : Option Value → Nat → ev_H → Prop}
def ev_lk (L : List (Nat × Value)) (i : Nat) : Option Value := match L with
  | [] => none
  | q :: r => if q.1 == i then some q.2 else ev_lk r i
theorem ev_lk_at {L : List (Nat × Value)} {i : Nat} {v : Value} (h : ev_lk L i = some v) {ls : Array Slot} {nL : Nat} (hl : lv_has ls nL L) : ls[i]? = some (.val v) := by
  have key : ∀ L : List (Nat × Value), ev_lk L i = some v → (i, v) ∈ L := by
    intro L
    induction L with
    | nil => intro h; simp [ev_lk] at h
    | cons q r ih =>
      intro h
      unfold ev_lk at h
      by_cases e : (q.1 == i) = true
      · rw [if_pos e] at h
        have e1 : q.1 = i := by simpa using e
        have e2 : q.2 = v := Option.some.inj h
        rw [← e1, ← e2]
        exact List.mem_cons_self
      · rw [if_neg e] at h
        exact List.mem_cons_of_mem _ (ih h)
  exact hl.2.2 (i, v) (key L h)
abbrev ev_s1 (L : List (Nat × Value)) (i : Nat) (v : Value) : List (Nat × Value) := (i, v) :: L.filter (fun q => !(q.1 == i) && !(q.1 + 1 == i && q.2.category == 2))
abbrev ev_s2 (L : List (Nat × Value)) (i : Nat) (v : Value) : List (Nat × Value) := (i, v) :: L.filter (fun q => !(q.1 == i) && (!(q.1 == i + 1) && !(q.1 + 1 == i && q.2.category == 2)))
theorem ev_iconst {i : Int} (v : Int32) (hd : decode M.2.1 pc = .ok (.iconst i, 1)) (hv : Int32.ofInt i = v) (k : Ev l X M bc bs (pc + 1) L (.int v :: st) n F Z) : Ev l X M bc bs (pc) L st n F Z :=
  fun p e R s m args below meth c H locs cells slots ls h1 h2 h3 h4 h5 h6 => lv_iconst h1.1 h1.2.1 hd hv (k p e R s m args below meth c H locs cells slots ls h1 h2 h3 h4 h5 h6)
theorem ev_bipush {i : Int} (v : Int32) (hd : decode M.2.1 pc = .ok (.bipush i, 2)) (hv : (Int8.ofInt i).toInt32 = v) (k : Ev l X M bc bs (pc + 2) L (.int v :: st) n F Z) : Ev l X M bc bs (pc) L st n F Z :=
  fun p e R s m args below meth c H locs cells slots ls h1 h2 h3 h4 h5 h6 => lv_bipush h1.1 h1.2.1 hd hv (k p e R s m args below meth c H locs cells slots ls h1 h2 h3 h4 h5 h6)
theorem ev_sipush {i : Int} (v : Int32) (hd : decode M.2.1 pc = .ok (.sipush i, 3)) (hv : (Int16.ofInt i).toInt32 = v) (k : Ev l X M bc bs (pc + 3) L (.int v :: st) n F Z) : Ev l X M bc bs (pc) L st n F Z :=
  fun p e R s m args below meth c H locs cells slots ls h1 h2 h3 h4 h5 h6 => lv_sipush h1.1 h1.2.1 hd hv (k p e R s m args below meth c H locs cells slots ls h1 h2 h3 h4 h5 h6)
theorem ev_lconst {i : Fin 2} (v : Int64) (hd : decode M.2.1 pc = .ok (.lconst i, 1)) (hv : Int64.ofNat (i : Nat) = v) (k : Ev l X M bc bs (pc + 1) L (.long v :: st) n F Z) : Ev l X M bc bs (pc) L st n F Z :=
  fun p e R s m args below meth c H locs cells slots ls h1 h2 h3 h4 h5 h6 => lv_lconst h1.1 h1.2.1 hd hv (k p e R s m args below meth c H locs cells slots ls h1 h2 h3 h4 h5 h6)
theorem ev_null  (hd : decode M.2.1 pc = .ok (.aconst_null, 1)) (k : Ev l X M bc bs (pc + 1) L (.null :: st) n F Z) : Ev l X M bc bs (pc) L st n F Z :=
  fun p e R s m args below meth c H locs cells slots ls h1 h2 h3 h4 h5 h6 => lv_null h1.1 h1.2.1 hd (k p e R s m args below meth c H locs cells slots ls h1 h2 h3 h4 h5 h6)
theorem ev_iload_n {i : Fin 4} {x : Int32} (hd : decode M.2.1 pc = .ok (.iload_n i, 1)) (hl : ev_lk L i = some (.int x)) (k : Ev l X M bc bs (pc + 1) L (.int x :: st) n F Z) : Ev l X M bc bs (pc) L st n F Z :=
  fun p e R s m args below meth c H locs cells slots ls h1 h2 h3 h4 h5 h6 => lv_iload_n h1.1 h1.2.1 hd rfl (ev_lk_at hl h4) (k p e R s m args below meth c H locs cells slots ls h1 h2 h3 h4 h5 h6)
theorem ev_iload {i : Nat} {x : Int32} (hd : decode M.2.1 pc = .ok (.iload i, 2)) (hl : ev_lk L i = some (.int x)) (k : Ev l X M bc bs (pc + 2) L (.int x :: st) n F Z) : Ev l X M bc bs (pc) L st n F Z :=
  fun p e R s m args below meth c H locs cells slots ls h1 h2 h3 h4 h5 h6 => lv_iload h1.1 h1.2.1 hd (ev_lk_at hl h4) (k p e R s m args below meth c H locs cells slots ls h1 h2 h3 h4 h5 h6)
theorem ev_lload_n {i : Fin 4} {x : Int64} (hd : decode M.2.1 pc = .ok (.lload_n i, 1)) (hl : ev_lk L i = some (.long x)) (k : Ev l X M bc bs (pc + 1) L (.long x :: st) n F Z) : Ev l X M bc bs (pc) L st n F Z :=
  fun p e R s m args below meth c H locs cells slots ls h1 h2 h3 h4 h5 h6 => lv_lload_n h1.1 h1.2.1 hd rfl (ev_lk_at hl h4) (k p e R s m args below meth c H locs cells slots ls h1 h2 h3 h4 h5 h6)
theorem ev_lload {i : Nat} {x : Int64} (hd : decode M.2.1 pc = .ok (.lload i, 2)) (hl : ev_lk L i = some (.long x)) (k : Ev l X M bc bs (pc + 2) L (.long x :: st) n F Z) : Ev l X M bc bs (pc) L st n F Z :=
  fun p e R s m args below meth c H locs cells slots ls h1 h2 h3 h4 h5 h6 => lv_lload h1.1 h1.2.1 hd (ev_lk_at hl h4) (k p e R s m args below meth c H locs cells slots ls h1 h2 h3 h4 h5 h6)
theorem ev_aload_n {i : Fin 4} {x : Nat} (hd : decode M.2.1 pc = .ok (.aload_n i, 1)) (hl : ev_lk L i = some (.ref x)) (k : Ev l X M bc bs (pc + 1) L (.ref x :: st) n F Z) : Ev l X M bc bs (pc) L st n F Z :=
  fun p e R s m args below meth c H locs cells slots ls h1 h2 h3 h4 h5 h6 => lv_aload_n h1.1 h1.2.1 hd rfl (ev_lk_at hl h4) (k p e R s m args below meth c H locs cells slots ls h1 h2 h3 h4 h5 h6)
theorem ev_aload {i : Nat} {x : Nat} (hd : decode M.2.1 pc = .ok (.aload i, 2)) (hl : ev_lk L i = some (.ref x)) (k : Ev l X M bc bs (pc + 2) L (.ref x :: st) n F Z) : Ev l X M bc bs (pc) L st n F Z :=
  fun p e R s m args below meth c H locs cells slots ls h1 h2 h3 h4 h5 h6 => lv_aload h1.1 h1.2.1 hd (ev_lk_at hl h4) (k p e R s m args below meth c H locs cells slots ls h1 h2 h3 h4 h5 h6)
theorem ev_aload_nN {i : Fin 4} (hd : decode M.2.1 pc = .ok (.aload_n i, 1)) (hl : ev_lk L i = some .null) (k : Ev l X M bc bs (pc + 1) L (.null :: st) n F Z) : Ev l X M bc bs (pc) L st n F Z :=
  fun p e R s m args below meth c H locs cells slots ls h1 h2 h3 h4 h5 h6 => lv_aload_nN h1.1 h1.2.1 hd rfl (ev_lk_at hl h4) (k p e R s m args below meth c H locs cells slots ls h1 h2 h3 h4 h5 h6)
theorem ev_aloadN {i : Nat} (hd : decode M.2.1 pc = .ok (.aload i, 2)) (hl : ev_lk L i = some .null) (k : Ev l X M bc bs (pc + 2) L (.null :: st) n F Z) : Ev l X M bc bs (pc) L st n F Z :=
  fun p e R s m args below meth c H locs cells slots ls h1 h2 h3 h4 h5 h6 => lv_aloadN h1.1 h1.2.1 hd (ev_lk_at hl h4) (k p e R s m args below meth c H locs cells slots ls h1 h2 h3 h4 h5 h6)
theorem ev_istore_n {i : Fin 4} {x : Int32} (hd : decode M.2.1 pc = .ok (.istore_n i, 1)) (hn : (i : Nat) < M.2.2.1) (ks : List Nat) (hs : lv_pick (ev_s1 L i (.int x)) ks = L') (k : Ev l X M bc bs (pc + 1) L' st n F Z) : Ev l X M bc bs (pc) L ((.int x) :: st) n F Z :=
  fun p e R s m args below meth c H locs cells slots ls h1 h2 h3 h4 h5 h6 => lv_istore_n h1.1 h1.2.1 hd rfl h4 hn rfl (fun ls2 hls => k p e R s m args below meth c H locs cells slots ls2 h1 h2 h3 (lv_sub hls ks hs) h5 h6)
theorem ev_istore {i : Nat} {x : Int32} (hd : decode M.2.1 pc = .ok (.istore i, 2)) (hn : i < M.2.2.1) (ks : List Nat) (hs : lv_pick (ev_s1 L i (.int x)) ks = L') (k : Ev l X M bc bs (pc + 2) L' st n F Z) : Ev l X M bc bs (pc) L ((.int x) :: st) n F Z :=
  fun p e R s m args below meth c H locs cells slots ls h1 h2 h3 h4 h5 h6 => lv_istore h1.1 h1.2.1 hd h4 hn rfl (fun ls2 hls => k p e R s m args below meth c H locs cells slots ls2 h1 h2 h3 (lv_sub hls ks hs) h5 h6)
theorem ev_lstore_n {i : Fin 4} {x : Int64} (hd : decode M.2.1 pc = .ok (.lstore_n i, 1)) (hn : (i : Nat) + 1 < M.2.2.1) (ks : List Nat) (hs : lv_pick (ev_s2 L i (.long x)) ks = L') (k : Ev l X M bc bs (pc + 1) L' st n F Z) : Ev l X M bc bs (pc) L ((.long x) :: st) n F Z :=
  fun p e R s m args below meth c H locs cells slots ls h1 h2 h3 h4 h5 h6 => lv_lstore_n h1.1 h1.2.1 hd rfl h4 hn rfl (fun ls2 hls => k p e R s m args below meth c H locs cells slots ls2 h1 h2 h3 (lv_sub hls ks hs) h5 h6)
theorem ev_lstore {i : Nat} {x : Int64} (hd : decode M.2.1 pc = .ok (.lstore i, 2)) (hn : i + 1 < M.2.2.1) (ks : List Nat) (hs : lv_pick (ev_s2 L i (.long x)) ks = L') (k : Ev l X M bc bs (pc + 2) L' st n F Z) : Ev l X M bc bs (pc) L ((.long x) :: st) n F Z :=
  fun p e R s m args below meth c H locs cells slots ls h1 h2 h3 h4 h5 h6 => lv_lstore h1.1 h1.2.1 hd h4 hn rfl (fun ls2 hls => k p e R s m args below meth c H locs cells slots ls2 h1 h2 h3 (lv_sub hls ks hs) h5 h6)
theorem ev_astore_n {i : Fin 4} {x : Nat} (hd : decode M.2.1 pc = .ok (.astore_n i, 1)) (hn : (i : Nat) < M.2.2.1) (ks : List Nat) (hs : lv_pick (ev_s1 L i (.ref x)) ks = L') (k : Ev l X M bc bs (pc + 1) L' st n F Z) : Ev l X M bc bs (pc) L ((.ref x) :: st) n F Z :=
  fun p e R s m args below meth c H locs cells slots ls h1 h2 h3 h4 h5 h6 => lv_astore_n h1.1 h1.2.1 hd rfl h4 hn rfl (fun ls2 hls => k p e R s m args below meth c H locs cells slots ls2 h1 h2 h3 (lv_sub hls ks hs) h5 h6)
theorem ev_astore {i : Nat} {x : Nat} (hd : decode M.2.1 pc = .ok (.astore i, 2)) (hn : i < M.2.2.1) (ks : List Nat) (hs : lv_pick (ev_s1 L i (.ref x)) ks = L') (k : Ev l X M bc bs (pc + 2) L' st n F Z) : Ev l X M bc bs (pc) L ((.ref x) :: st) n F Z :=
  fun p e R s m args below meth c H locs cells slots ls h1 h2 h3 h4 h5 h6 => lv_astore h1.1 h1.2.1 hd h4 hn rfl (fun ls2 hls => k p e R s m args below meth c H locs cells slots ls2 h1 h2 h3 (lv_sub hls ks hs) h5 h6)
theorem ev_astore_nN {i : Fin 4} (hd : decode M.2.1 pc = .ok (.astore_n i, 1)) (hn : (i : Nat) < M.2.2.1) (ks : List Nat) (hs : lv_pick (ev_s1 L i .null) ks = L') (k : Ev l X M bc bs (pc + 1) L' st n F Z) : Ev l X M bc bs (pc) L (.null :: st) n F Z :=
  fun p e R s m args below meth c H locs cells slots ls h1 h2 h3 h4 h5 h6 => lv_astore_nN h1.1 h1.2.1 hd rfl h4 hn rfl (fun ls2 hls => k p e R s m args below meth c H locs cells slots ls2 h1 h2 h3 (lv_sub hls ks hs) h5 h6)
theorem ev_astoreN {i : Nat} (hd : decode M.2.1 pc = .ok (.astore i, 2)) (hn : i < M.2.2.1) (ks : List Nat) (hs : lv_pick (ev_s1 L i .null) ks = L') (k : Ev l X M bc bs (pc + 2) L' st n F Z) : Ev l X M bc bs (pc) L (.null :: st) n F Z :=
  fun p e R s m args below meth c H locs cells slots ls h1 h2 h3 h4 h5 h6 => lv_astoreN h1.1 h1.2.1 hd h4 hn rfl (fun ls2 hls => k p e R s m args below meth c H locs cells slots ls2 h1 h2 h3 (lv_sub hls ks hs) h5 h6)
theorem ev_iinc {i : Nat} {d : Int} {x : Int32} (j : Nat) (v : Int32) (hd : decode M.2.1 pc = .ok (.iinc i d, 3)) (hj : L[j]? = some (i, .int x)) (hv : Int32.ofInt d = v) (hn : i < M.2.2.1) (ks : List Nat) (hs : lv_pick (ev_s1 L i (.int (x + v))) ks = L') (k : Ev l X M bc bs (pc + 3) L' st n F Z) : Ev l X M bc bs (pc) L st n F Z :=
  fun p e R s m args below meth c H locs cells slots ls h1 h2 h3 h4 h5 h6 => lv_iinc h1.1 h1.2.1 hd h4 hj (by rw [hv]) hn rfl (fun ls2 hls => k p e R s m args below meth c H locs cells slots ls2 h1 h2 h3 (lv_sub hls ks hs) h5 h6)
theorem ev_iadd {x y : Int32} (hd : decode M.2.1 pc = .ok (.iadd, 1)) (k : Ev l X M bc bs (pc + 1) L (.int (x + y) :: st) n F Z) : Ev l X M bc bs (pc) L (.int y :: .int x :: st) n F Z :=
  fun p e R s m args below meth c H locs cells slots ls h1 h2 h3 h4 h5 h6 => lv_iadd h1.1 h1.2.1 hd (k p e R s m args below meth c H locs cells slots ls h1 h2 h3 h4 h5 h6)
theorem ev_isub {x y : Int32} (hd : decode M.2.1 pc = .ok (.isub, 1)) (k : Ev l X M bc bs (pc + 1) L (.int (x - y) :: st) n F Z) : Ev l X M bc bs (pc) L (.int y :: .int x :: st) n F Z :=
  fun p e R s m args below meth c H locs cells slots ls h1 h2 h3 h4 h5 h6 => lv_isub h1.1 h1.2.1 hd (k p e R s m args below meth c H locs cells slots ls h1 h2 h3 h4 h5 h6)
theorem ev_imul {x y : Int32} (hd : decode M.2.1 pc = .ok (.imul, 1)) (k : Ev l X M bc bs (pc + 1) L (.int (x * y) :: st) n F Z) : Ev l X M bc bs (pc) L (.int y :: .int x :: st) n F Z :=
  fun p e R s m args below meth c H locs cells slots ls h1 h2 h3 h4 h5 h6 => lv_imul h1.1 h1.2.1 hd (k p e R s m args below meth c H locs cells slots ls h1 h2 h3 h4 h5 h6)
theorem ev_iand {x y : Int32} (hd : decode M.2.1 pc = .ok (.iand, 1)) (k : Ev l X M bc bs (pc + 1) L (.int (x &&& y) :: st) n F Z) : Ev l X M bc bs (pc) L (.int y :: .int x :: st) n F Z :=
  fun p e R s m args below meth c H locs cells slots ls h1 h2 h3 h4 h5 h6 => lv_iand h1.1 h1.2.1 hd (k p e R s m args below meth c H locs cells slots ls h1 h2 h3 h4 h5 h6)
theorem ev_ior {x y : Int32} (hd : decode M.2.1 pc = .ok (.ior, 1)) (k : Ev l X M bc bs (pc + 1) L (.int (x ||| y) :: st) n F Z) : Ev l X M bc bs (pc) L (.int y :: .int x :: st) n F Z :=
  fun p e R s m args below meth c H locs cells slots ls h1 h2 h3 h4 h5 h6 => lv_ior h1.1 h1.2.1 hd (k p e R s m args below meth c H locs cells slots ls h1 h2 h3 h4 h5 h6)
theorem ev_ixor {x y : Int32} (hd : decode M.2.1 pc = .ok (.ixor, 1)) (k : Ev l X M bc bs (pc + 1) L (.int (x ^^^ y) :: st) n F Z) : Ev l X M bc bs (pc) L (.int y :: .int x :: st) n F Z :=
  fun p e R s m args below meth c H locs cells slots ls h1 h2 h3 h4 h5 h6 => lv_ixor h1.1 h1.2.1 hd (k p e R s m args below meth c H locs cells slots ls h1 h2 h3 h4 h5 h6)
theorem ev_ishl {x y : Int32} (hd : decode M.2.1 pc = .ok (.ishl, 1)) (k : Ev l X M bc bs (pc + 1) L (.int (x <<< (y &&& 31)) :: st) n F Z) : Ev l X M bc bs (pc) L (.int y :: .int x :: st) n F Z :=
  fun p e R s m args below meth c H locs cells slots ls h1 h2 h3 h4 h5 h6 => lv_ishl h1.1 h1.2.1 hd (k p e R s m args below meth c H locs cells slots ls h1 h2 h3 h4 h5 h6)
theorem ev_ishr {x y : Int32} (hd : decode M.2.1 pc = .ok (.ishr, 1)) (k : Ev l X M bc bs (pc + 1) L (.int (x >>> (y &&& 31)) :: st) n F Z) : Ev l X M bc bs (pc) L (.int y :: .int x :: st) n F Z :=
  fun p e R s m args below meth c H locs cells slots ls h1 h2 h3 h4 h5 h6 => lv_ishr h1.1 h1.2.1 hd (k p e R s m args below meth c H locs cells slots ls h1 h2 h3 h4 h5 h6)
theorem ev_ineg {x : Int32} (hd : decode M.2.1 pc = .ok (.ineg, 1)) (k : Ev l X M bc bs (pc + 1) L (.int (-x) :: st) n F Z) : Ev l X M bc bs (pc) L (.int x :: st) n F Z :=
  fun p e R s m args below meth c H locs cells slots ls h1 h2 h3 h4 h5 h6 => lv_ineg h1.1 h1.2.1 hd (k p e R s m args below meth c H locs cells slots ls h1 h2 h3 h4 h5 h6)
theorem ev_idiv {x y : Int32} (hd : decode M.2.1 pc = .ok (.idiv, 1)) (hne : ¬ y = 0) (k : Ev l X M bc bs (pc + 1) L (.int (x / y) :: st) n F Z) : Ev l X M bc bs (pc) L (.int y :: .int x :: st) n F Z :=
  fun p e R s m args below meth c H locs cells slots ls h1 h2 h3 h4 h5 h6 => lv_idiv h1.1 h1.2.1 hd hne (k p e R s m args below meth c H locs cells slots ls h1 h2 h3 h4 h5 h6)
theorem ev_ladd {x y : Int64} (hd : decode M.2.1 pc = .ok (.ladd, 1)) (k : Ev l X M bc bs (pc + 1) L (.long (x + y) :: st) n F Z) : Ev l X M bc bs (pc) L (.long y :: .long x :: st) n F Z :=
  fun p e R s m args below meth c H locs cells slots ls h1 h2 h3 h4 h5 h6 => lv_ladd h1.1 h1.2.1 hd (k p e R s m args below meth c H locs cells slots ls h1 h2 h3 h4 h5 h6)
theorem ev_lsub {x y : Int64} (hd : decode M.2.1 pc = .ok (.lsub, 1)) (k : Ev l X M bc bs (pc + 1) L (.long (x - y) :: st) n F Z) : Ev l X M bc bs (pc) L (.long y :: .long x :: st) n F Z :=
  fun p e R s m args below meth c H locs cells slots ls h1 h2 h3 h4 h5 h6 => lv_lsub h1.1 h1.2.1 hd (k p e R s m args below meth c H locs cells slots ls h1 h2 h3 h4 h5 h6)
theorem ev_lmul {x y : Int64} (hd : decode M.2.1 pc = .ok (.lmul, 1)) (k : Ev l X M bc bs (pc + 1) L (.long (x * y) :: st) n F Z) : Ev l X M bc bs (pc) L (.long y :: .long x :: st) n F Z :=
  fun p e R s m args below meth c H locs cells slots ls h1 h2 h3 h4 h5 h6 => lv_lmul h1.1 h1.2.1 hd (k p e R s m args below meth c H locs cells slots ls h1 h2 h3 h4 h5 h6)
theorem ev_land {x y : Int64} (hd : decode M.2.1 pc = .ok (.land, 1)) (k : Ev l X M bc bs (pc + 1) L (.long (x &&& y) :: st) n F Z) : Ev l X M bc bs (pc) L (.long y :: .long x :: st) n F Z :=
  fun p e R s m args below meth c H locs cells slots ls h1 h2 h3 h4 h5 h6 => lv_land h1.1 h1.2.1 hd (k p e R s m args below meth c H locs cells slots ls h1 h2 h3 h4 h5 h6)
theorem ev_lor {x y : Int64} (hd : decode M.2.1 pc = .ok (.lor, 1)) (k : Ev l X M bc bs (pc + 1) L (.long (x ||| y) :: st) n F Z) : Ev l X M bc bs (pc) L (.long y :: .long x :: st) n F Z :=
  fun p e R s m args below meth c H locs cells slots ls h1 h2 h3 h4 h5 h6 => lv_lor h1.1 h1.2.1 hd (k p e R s m args below meth c H locs cells slots ls h1 h2 h3 h4 h5 h6)
theorem ev_lxor {x y : Int64} (hd : decode M.2.1 pc = .ok (.lxor, 1)) (k : Ev l X M bc bs (pc + 1) L (.long (x ^^^ y) :: st) n F Z) : Ev l X M bc bs (pc) L (.long y :: .long x :: st) n F Z :=
  fun p e R s m args below meth c H locs cells slots ls h1 h2 h3 h4 h5 h6 => lv_lxor h1.1 h1.2.1 hd (k p e R s m args below meth c H locs cells slots ls h1 h2 h3 h4 h5 h6)
theorem ev_ldiv {x y : Int64} (hd : decode M.2.1 pc = .ok (.ldiv, 1)) (hne : ¬ y = 0) (k : Ev l X M bc bs (pc + 1) L (.long (x / y) :: st) n F Z) : Ev l X M bc bs (pc) L (.long y :: .long x :: st) n F Z :=
  fun p e R s m args below meth c H locs cells slots ls h1 h2 h3 h4 h5 h6 => lv_ldiv h1.1 h1.2.1 hd hne (k p e R s m args below meth c H locs cells slots ls h1 h2 h3 h4 h5 h6)
theorem ev_iushr {x y : Int32} (hd : decode M.2.1 pc = .ok (.iushr, 1)) (k : Ev l X M bc bs (pc + 1) L (.int (x.toUInt32 >>> (y.toUInt32 &&& Int32.toUInt32 31)).toInt32 :: st) n F Z) : Ev l X M bc bs (pc) L (.int y :: .int x :: st) n F Z :=
  fun p e R s m args below meth c H locs cells slots ls h1 h2 h3 h4 h5 h6 => lv_iushr h1.1 h1.2.1 hd rfl (k p e R s m args below meth c H locs cells slots ls h1 h2 h3 h4 h5 h6)
theorem ev_lushr {x : Int64} {y : Int32} (hd : decode M.2.1 pc = .ok (.lushr, 1)) (k : Ev l X M bc bs (pc + 1) L (.long (x.toUInt64 >>> (y.toInt64.toUInt64 &&& Int64.toUInt64 63)).toInt64 :: st) n F Z) : Ev l X M bc bs (pc) L (.int y :: .long x :: st) n F Z :=
  fun p e R s m args below meth c H locs cells slots ls h1 h2 h3 h4 h5 h6 => lv_lushr h1.1 h1.2.1 hd rfl (k p e R s m args below meth c H locs cells slots ls h1 h2 h3 h4 h5 h6)
theorem ev_lshl {x : Int64} {y : Int32} (hd : decode M.2.1 pc = .ok (.lshl, 1)) (k : Ev l X M bc bs (pc + 1) L (.long (x <<< (y.toInt64 &&& 63)) :: st) n F Z) : Ev l X M bc bs (pc) L (.int y :: .long x :: st) n F Z :=
  fun p e R s m args below meth c H locs cells slots ls h1 h2 h3 h4 h5 h6 => lv_lshl h1.1 h1.2.1 hd rfl (k p e R s m args below meth c H locs cells slots ls h1 h2 h3 h4 h5 h6)
theorem ev_lshr {x : Int64} {y : Int32} (hd : decode M.2.1 pc = .ok (.lshr, 1)) (k : Ev l X M bc bs (pc + 1) L (.long (x >>> (y.toInt64 &&& 63)) :: st) n F Z) : Ev l X M bc bs (pc) L (.int y :: .long x :: st) n F Z :=
  fun p e R s m args below meth c H locs cells slots ls h1 h2 h3 h4 h5 h6 => lv_lshr h1.1 h1.2.1 hd rfl (k p e R s m args below meth c H locs cells slots ls h1 h2 h3 h4 h5 h6)
theorem ev_i2l {x : Int32} (hd : decode M.2.1 pc = .ok (.i2l, 1)) (k : Ev l X M bc bs (pc + 1) L (.long x.toInt64 :: st) n F Z) : Ev l X M bc bs (pc) L (.int x :: st) n F Z :=
  fun p e R s m args below meth c H locs cells slots ls h1 h2 h3 h4 h5 h6 => lv_i2l h1.1 h1.2.1 hd rfl (k p e R s m args below meth c H locs cells slots ls h1 h2 h3 h4 h5 h6)
theorem ev_l2i {x : Int64} (hd : decode M.2.1 pc = .ok (.l2i, 1)) (k : Ev l X M bc bs (pc + 1) L (.int x.toInt32 :: st) n F Z) : Ev l X M bc bs (pc) L (.long x :: st) n F Z :=
  fun p e R s m args below meth c H locs cells slots ls h1 h2 h3 h4 h5 h6 => lv_l2i h1.1 h1.2.1 hd rfl (k p e R s m args below meth c H locs cells slots ls h1 h2 h3 h4 h5 h6)
theorem ev_i2c {x : Int32} (hd : decode M.2.1 pc = .ok (.i2c, 1)) (k : Ev l X M bc bs (pc + 1) L (.int (x.toUInt32 % 65536).toInt32 :: st) n F Z) : Ev l X M bc bs (pc) L (.int x :: st) n F Z :=
  fun p e R s m args below meth c H locs cells slots ls h1 h2 h3 h4 h5 h6 => lv_i2c h1.1 h1.2.1 hd rfl (k p e R s m args below meth c H locs cells slots ls h1 h2 h3 h4 h5 h6)
theorem ev_i2b {x : Int32} (hd : decode M.2.1 pc = .ok (.i2b, 1)) (k : Ev l X M bc bs (pc + 1) L (.int x.toInt8.toInt32 :: st) n F Z) : Ev l X M bc bs (pc) L (.int x :: st) n F Z :=
  fun p e R s m args below meth c H locs cells slots ls h1 h2 h3 h4 h5 h6 => lv_i2b h1.1 h1.2.1 hd rfl (k p e R s m args below meth c H locs cells slots ls h1 h2 h3 h4 h5 h6)
theorem ev_lcmp {x y : Int64} (hd : decode M.2.1 pc = .ok (.lcmp, 1)) (k : Ev l X M bc bs (pc + 1) L (.int (lg_cmp x y) :: st) n F Z) : Ev l X M bc bs (pc) L (.long y :: .long x :: st) n F Z :=
  fun p e R s m args below meth c H locs cells slots ls h1 h2 h3 h4 h5 h6 => W.lcmp h1.1 h1.2.1 hd (k p e R s m args below meth c H locs cells slots ls h1 h2 h3 h4 h5 h6)
theorem ev_dup {a : Value} (hd : decode M.2.1 pc = .ok (.dup, 1)) (ha : a.category = 1) (k : Ev l X M bc bs (pc + 1) L (a :: a :: st) n F Z) : Ev l X M bc bs (pc) L (a :: st) n F Z :=
  fun p e R s m args below meth c H locs cells slots ls h1 h2 h3 h4 h5 h6 => lv_dup h1.1 h1.2.1 hd ha (k p e R s m args below meth c H locs cells slots ls h1 h2 h3 h4 h5 h6)
theorem ev_pop {a : Value} (hd : decode M.2.1 pc = .ok (.pop, 1)) (ha : a.category = 1) (k : Ev l X M bc bs (pc + 1) L st n F Z) : Ev l X M bc bs (pc) L (a :: st) n F Z :=
  fun p e R s m args below meth c H locs cells slots ls h1 h2 h3 h4 h5 h6 => lv_pop h1.1 h1.2.1 hd ha (k p e R s m args below meth c H locs cells slots ls h1 h2 h3 h4 h5 h6)
theorem ev_dup_x1 {a b : Value} (hd : decode M.2.1 pc = .ok (.dup_x1, 1)) (ha : a.category = 1) (hb : b.category = 1) (k : Ev l X M bc bs (pc + 1) L (a :: b :: a :: st) n F Z) : Ev l X M bc bs (pc) L (a :: b :: st) n F Z :=
  fun p e R s m args below meth c H locs cells slots ls h1 h2 h3 h4 h5 h6 => lv_dup_x1 h1.1 h1.2.1 hd ha hb (k p e R s m args below meth c H locs cells slots ls h1 h2 h3 h4 h5 h6)
theorem ev_dup_x2 {a b d : Value} (hd : decode M.2.1 pc = .ok (.dup_x2, 1)) (ha : a.category = 1) (hb : b.category = 1) (hd2 : d.category = 1) (k : Ev l X M bc bs (pc + 1) L (a :: b :: d :: a :: st) n F Z) : Ev l X M bc bs (pc) L (a :: b :: d :: st) n F Z :=
  fun p e R s m args below meth c H locs cells slots ls h1 h2 h3 h4 h5 h6 => lv_dup_x2 h1.1 h1.2.1 hd ha hb hd2 (k p e R s m args below meth c H locs cells slots ls h1 h2 h3 h4 h5 h6)
theorem ev_dup2_11 {a b : Value} (hd : decode M.2.1 pc = .ok (.dup2, 1)) (ha : a.category = 1) (hb : b.category = 1) (k : Ev l X M bc bs (pc + 1) L (a :: b :: a :: b :: st) n F Z) : Ev l X M bc bs (pc) L (a :: b :: st) n F Z :=
  fun p e R s m args below meth c H locs cells slots ls h1 h2 h3 h4 h5 h6 => lv_dup2_11 h1.1 h1.2.1 hd ha hb (k p e R s m args below meth c H locs cells slots ls h1 h2 h3 h4 h5 h6)
theorem ev_if_eq {x : Int32} {off : Int} (tgt : Nat) (hd : decode M.2.1 pc = .ok (.ifCond .eq off, 3)) (ht : (pc : Int) + off = (tgt : Int)) (kt : x = 0 → Ev l X M bc bs (tgt) L st n F Z) (kf : ¬ x = 0 → Ev l X M bc bs (pc + 3) L st n F Z) : Ev l X M bc bs (pc) L (.int x :: st) n F Z :=
  fun p e R s m args below meth c H locs cells slots ls h1 h2 h3 h4 h5 h6 => lv_if_eq h1.1 h1.2.1 hd ht (fun hc => kt hc p e R s m args below meth c H locs cells slots ls h1 h2 h3 h4 h5 h6) (fun hc => kf hc p e R s m args below meth c H locs cells slots ls h1 h2 h3 h4 h5 h6)
theorem ev_if_ne {x : Int32} {off : Int} (tgt : Nat) (hd : decode M.2.1 pc = .ok (.ifCond .ne off, 3)) (ht : (pc : Int) + off = (tgt : Int)) (kt : ¬ x = 0 → Ev l X M bc bs (tgt) L st n F Z) (kf : x = 0 → Ev l X M bc bs (pc + 3) L st n F Z) : Ev l X M bc bs (pc) L (.int x :: st) n F Z :=
  fun p e R s m args below meth c H locs cells slots ls h1 h2 h3 h4 h5 h6 => lv_if_ne h1.1 h1.2.1 hd ht (fun hc => kt hc p e R s m args below meth c H locs cells slots ls h1 h2 h3 h4 h5 h6) (fun hc => kf hc p e R s m args below meth c H locs cells slots ls h1 h2 h3 h4 h5 h6)
theorem ev_if_lt {x : Int32} {off : Int} (tgt : Nat) (hd : decode M.2.1 pc = .ok (.ifCond .lt off, 3)) (ht : (pc : Int) + off = (tgt : Int)) (kt : x < 0 → Ev l X M bc bs (tgt) L st n F Z) (kf : ¬ x < 0 → Ev l X M bc bs (pc + 3) L st n F Z) : Ev l X M bc bs (pc) L (.int x :: st) n F Z :=
  fun p e R s m args below meth c H locs cells slots ls h1 h2 h3 h4 h5 h6 => lv_if_lt h1.1 h1.2.1 hd ht (fun hc => kt hc p e R s m args below meth c H locs cells slots ls h1 h2 h3 h4 h5 h6) (fun hc => kf hc p e R s m args below meth c H locs cells slots ls h1 h2 h3 h4 h5 h6)
theorem ev_if_ge {x : Int32} {off : Int} (tgt : Nat) (hd : decode M.2.1 pc = .ok (.ifCond .ge off, 3)) (ht : (pc : Int) + off = (tgt : Int)) (kt : 0 ≤ x → Ev l X M bc bs (tgt) L st n F Z) (kf : ¬ 0 ≤ x → Ev l X M bc bs (pc + 3) L st n F Z) : Ev l X M bc bs (pc) L (.int x :: st) n F Z :=
  fun p e R s m args below meth c H locs cells slots ls h1 h2 h3 h4 h5 h6 => lv_if_ge h1.1 h1.2.1 hd ht (fun hc => kt hc p e R s m args below meth c H locs cells slots ls h1 h2 h3 h4 h5 h6) (fun hc => kf hc p e R s m args below meth c H locs cells slots ls h1 h2 h3 h4 h5 h6)
theorem ev_if_gt {x : Int32} {off : Int} (tgt : Nat) (hd : decode M.2.1 pc = .ok (.ifCond .gt off, 3)) (ht : (pc : Int) + off = (tgt : Int)) (kt : 0 < x → Ev l X M bc bs (tgt) L st n F Z) (kf : ¬ 0 < x → Ev l X M bc bs (pc + 3) L st n F Z) : Ev l X M bc bs (pc) L (.int x :: st) n F Z :=
  fun p e R s m args below meth c H locs cells slots ls h1 h2 h3 h4 h5 h6 => lv_if_gt h1.1 h1.2.1 hd ht (fun hc => kt hc p e R s m args below meth c H locs cells slots ls h1 h2 h3 h4 h5 h6) (fun hc => kf hc p e R s m args below meth c H locs cells slots ls h1 h2 h3 h4 h5 h6)
theorem ev_if_le {x : Int32} {off : Int} (tgt : Nat) (hd : decode M.2.1 pc = .ok (.ifCond .le off, 3)) (ht : (pc : Int) + off = (tgt : Int)) (kt : x ≤ 0 → Ev l X M bc bs (tgt) L st n F Z) (kf : ¬ x ≤ 0 → Ev l X M bc bs (pc + 3) L st n F Z) : Ev l X M bc bs (pc) L (.int x :: st) n F Z :=
  fun p e R s m args below meth c H locs cells slots ls h1 h2 h3 h4 h5 h6 => lv_if_le h1.1 h1.2.1 hd ht (fun hc => kt hc p e R s m args below meth c H locs cells slots ls h1 h2 h3 h4 h5 h6) (fun hc => kf hc p e R s m args below meth c H locs cells slots ls h1 h2 h3 h4 h5 h6)
theorem ev_icmp_eq {x y : Int32} {off : Int} (tgt : Nat) (hd : decode M.2.1 pc = .ok (.if_icmp .eq off, 3)) (ht : (pc : Int) + off = (tgt : Int)) (kt : x = y → Ev l X M bc bs (tgt) L st n F Z) (kf : ¬ x = y → Ev l X M bc bs (pc + 3) L st n F Z) : Ev l X M bc bs (pc) L (.int y :: .int x :: st) n F Z :=
  fun p e R s m args below meth c H locs cells slots ls h1 h2 h3 h4 h5 h6 => lv_icmp_eq h1.1 h1.2.1 hd ht (fun hc => kt hc p e R s m args below meth c H locs cells slots ls h1 h2 h3 h4 h5 h6) (fun hc => kf hc p e R s m args below meth c H locs cells slots ls h1 h2 h3 h4 h5 h6)
theorem ev_icmp_ne {x y : Int32} {off : Int} (tgt : Nat) (hd : decode M.2.1 pc = .ok (.if_icmp .ne off, 3)) (ht : (pc : Int) + off = (tgt : Int)) (kt : ¬ x = y → Ev l X M bc bs (tgt) L st n F Z) (kf : x = y → Ev l X M bc bs (pc + 3) L st n F Z) : Ev l X M bc bs (pc) L (.int y :: .int x :: st) n F Z :=
  fun p e R s m args below meth c H locs cells slots ls h1 h2 h3 h4 h5 h6 => lv_icmp_ne h1.1 h1.2.1 hd ht (fun hc => kt hc p e R s m args below meth c H locs cells slots ls h1 h2 h3 h4 h5 h6) (fun hc => kf hc p e R s m args below meth c H locs cells slots ls h1 h2 h3 h4 h5 h6)
theorem ev_icmp_lt {x y : Int32} {off : Int} (tgt : Nat) (hd : decode M.2.1 pc = .ok (.if_icmp .lt off, 3)) (ht : (pc : Int) + off = (tgt : Int)) (kt : x < y → Ev l X M bc bs (tgt) L st n F Z) (kf : ¬ x < y → Ev l X M bc bs (pc + 3) L st n F Z) : Ev l X M bc bs (pc) L (.int y :: .int x :: st) n F Z :=
  fun p e R s m args below meth c H locs cells slots ls h1 h2 h3 h4 h5 h6 => lv_icmp_lt h1.1 h1.2.1 hd ht (fun hc => kt hc p e R s m args below meth c H locs cells slots ls h1 h2 h3 h4 h5 h6) (fun hc => kf hc p e R s m args below meth c H locs cells slots ls h1 h2 h3 h4 h5 h6)
theorem ev_icmp_ge {x y : Int32} {off : Int} (tgt : Nat) (hd : decode M.2.1 pc = .ok (.if_icmp .ge off, 3)) (ht : (pc : Int) + off = (tgt : Int)) (kt : y ≤ x → Ev l X M bc bs (tgt) L st n F Z) (kf : ¬ y ≤ x → Ev l X M bc bs (pc + 3) L st n F Z) : Ev l X M bc bs (pc) L (.int y :: .int x :: st) n F Z :=
  fun p e R s m args below meth c H locs cells slots ls h1 h2 h3 h4 h5 h6 => lv_icmp_ge h1.1 h1.2.1 hd ht (fun hc => kt hc p e R s m args below meth c H locs cells slots ls h1 h2 h3 h4 h5 h6) (fun hc => kf hc p e R s m args below meth c H locs cells slots ls h1 h2 h3 h4 h5 h6)
theorem ev_icmp_gt {x y : Int32} {off : Int} (tgt : Nat) (hd : decode M.2.1 pc = .ok (.if_icmp .gt off, 3)) (ht : (pc : Int) + off = (tgt : Int)) (kt : y < x → Ev l X M bc bs (tgt) L st n F Z) (kf : ¬ y < x → Ev l X M bc bs (pc + 3) L st n F Z) : Ev l X M bc bs (pc) L (.int y :: .int x :: st) n F Z :=
  fun p e R s m args below meth c H locs cells slots ls h1 h2 h3 h4 h5 h6 => lv_icmp_gt h1.1 h1.2.1 hd ht (fun hc => kt hc p e R s m args below meth c H locs cells slots ls h1 h2 h3 h4 h5 h6) (fun hc => kf hc p e R s m args below meth c H locs cells slots ls h1 h2 h3 h4 h5 h6)
theorem ev_icmp_le {x y : Int32} {off : Int} (tgt : Nat) (hd : decode M.2.1 pc = .ok (.if_icmp .le off, 3)) (ht : (pc : Int) + off = (tgt : Int)) (kt : x ≤ y → Ev l X M bc bs (tgt) L st n F Z) (kf : ¬ x ≤ y → Ev l X M bc bs (pc + 3) L st n F Z) : Ev l X M bc bs (pc) L (.int y :: .int x :: st) n F Z :=
  fun p e R s m args below meth c H locs cells slots ls h1 h2 h3 h4 h5 h6 => lv_icmp_le h1.1 h1.2.1 hd ht (fun hc => kt hc p e R s m args below meth c H locs cells slots ls h1 h2 h3 h4 h5 h6) (fun hc => kf hc p e R s m args below meth c H locs cells slots ls h1 h2 h3 h4 h5 h6)
theorem ev_goto {off : Int} (tgt : Nat) (hd : decode M.2.1 pc = .ok (.goto off, 3)) (ht : (pc : Int) + off = (tgt : Int)) (k : Ev l X M bc bs (tgt) L st n F Z) : Ev l X M bc bs (pc) L st n F Z :=
  fun p e R s m args below meth c H locs cells slots ls h1 h2 h3 h4 h5 h6 => lv_goto h1.1 h1.2.1 hd ht (k p e R s m args below meth c H locs cells slots ls h1 h2 h3 h4 h5 h6)
theorem ev_tableOut {dflt lo hi : Int} {offs : Array Int} {len : Nat} {x : Int32} (tgt : Nat) (hd : decode M.2.1 pc = .ok (.tableswitch dflt lo hi offs, len)) (h : x.toInt < lo ∨ hi < x.toInt) (ht : (pc : Int) + dflt = (tgt : Int)) (k : Ev l X M bc bs (tgt) L st n F Z) : Ev l X M bc bs (pc) L (.int x :: st) n F Z :=
  fun p e R s m args below meth c H locs cells slots ls h1 h2 h3 h4 h5 h6 => lv_tableOut h1.1 h1.2.1 hd h ht (k p e R s m args below meth c H locs cells slots ls h1 h2 h3 h4 h5 h6)
theorem ev_tableIn {dflt lo hi : Int} {offs : Array Int} {len : Nat} {x : Int32} {off : Int} (tgt : Nat) (hd : decode M.2.1 pc = .ok (.tableswitch dflt lo hi offs, len)) (ha : ¬ x.toInt < lo) (hb : ¬ hi < x.toInt) (ho : offs[(x.toInt - lo).toNat]? = some off) (ht : (pc : Int) + off = (tgt : Int)) (k : Ev l X M bc bs (tgt) L st n F Z) : Ev l X M bc bs (pc) L (.int x :: st) n F Z :=
  fun p e R s m args below meth c H locs cells slots ls h1 h2 h3 h4 h5 h6 => lv_tableIn h1.1 h1.2.1 hd ha hb ho ht (k p e R s m args below meth c H locs cells slots ls h1 h2 h3 h4 h5 h6)
theorem ev_lookup {dflt : Int} {ps : Array (Int × Int)} {len : Nat} {x : Int32} {off : Int} (tgt : Nat) (hd : decode M.2.1 pc = .ok (.lookupswitch dflt ps, len)) (hp : (ps.toList.zip (ps.toList.drop 1)).all (fun (a, next) => a.1 < next.1) = true) (ho : Op.lookupswitch.offset ps.toList dflt x.toInt = off) (ht : (pc : Int) + off = (tgt : Int)) (k : Ev l X M bc bs (tgt) L st n F Z) : Ev l X M bc bs (pc) L (.int x :: st) n F Z :=
  fun p e R s m args below meth c H locs cells slots ls h1 h2 h3 h4 h5 h6 => lv_lookup h1.1 h1.2.1 hd hp ho ht (k p e R s m args below meth c H locs cells slots ls h1 h2 h3 h4 h5 h6)
theorem ev_ifnonnull {x : Nat} {off : Int} (tgt : Nat) (hd : decode M.2.1 pc = .ok (.ifnonnull off, 3)) (ht : (pc : Int) + off = (tgt : Int)) (k : Ev l X M bc bs (tgt) L st n F Z) : Ev l X M bc bs (pc) L (.ref x :: st) n F Z :=
  fun p e R s m args below meth c H locs cells slots ls h1 h2 h3 h4 h5 h6 => lv_ifnonnull h1.1 h1.2.1 hd ht (k p e R s m args below meth c H locs cells slots ls h1 h2 h3 h4 h5 h6)
theorem ev_ifnull {x : Nat} {off : Int} (hd : decode M.2.1 pc = .ok (.ifnull off, 3)) (k : Ev l X M bc bs (pc + 3) L st n F Z) : Ev l X M bc bs (pc) L (.ref x :: st) n F Z :=
  fun p e R s m args below meth c H locs cells slots ls h1 h2 h3 h4 h5 h6 => lv_ifnull h1.1 h1.2.1 hd (k p e R s m args below meth c H locs cells slots ls h1 h2 h3 h4 h5 h6)
theorem ev_ifnullN {off : Int} (tgt : Nat) (hd : decode M.2.1 pc = .ok (.ifnull off, 3)) (ht : (pc : Int) + off = (tgt : Int)) (k : Ev l X M bc bs (tgt) L st n F Z) : Ev l X M bc bs (pc) L (.null :: st) n F Z :=
  fun p e R s m args below meth c H locs cells slots ls h1 h2 h3 h4 h5 h6 => lv_ifnullN h1.1 h1.2.1 hd ht (k p e R s m args below meth c H locs cells slots ls h1 h2 h3 h4 h5 h6)
theorem ev_acmp_eq {a b : Option Nat} {off : Int} (tgt : Nat) (hd : decode M.2.1 pc = .ok (.if_acmp .eq off, 3)) (ht : (pc : Int) + off = (tgt : Int)) (kt : a = b → Ev l X M bc bs (tgt) L st n F Z) (kf : ¬ a = b → Ev l X M bc bs (pc + 3) L st n F Z) : Ev l X M bc bs (pc) L (va_rf b :: va_rf a :: st) n F Z :=
  fun p e R s m args below meth c H locs cells slots ls h1 h2 h3 h4 h5 h6 => lv_acmp_eq h1.1 h1.2.1 hd ht (fun hc => kt hc p e R s m args below meth c H locs cells slots ls h1 h2 h3 h4 h5 h6) (fun hc => kf hc p e R s m args below meth c H locs cells slots ls h1 h2 h3 h4 h5 h6)
theorem ev_acmp_ne {a b : Option Nat} {off : Int} (tgt : Nat) (hd : decode M.2.1 pc = .ok (.if_acmp .ne off, 3)) (ht : (pc : Int) + off = (tgt : Int)) (kt : ¬ a = b → Ev l X M bc bs (tgt) L st n F Z) (kf : a = b → Ev l X M bc bs (pc + 3) L st n F Z) : Ev l X M bc bs (pc) L (va_rf b :: va_rf a :: st) n F Z :=
  fun p e R s m args below meth c H locs cells slots ls h1 h2 h3 h4 h5 h6 => lv_acmp_ne h1.1 h1.2.1 hd ht (fun hc => kt hc p e R s m args below meth c H locs cells slots ls h1 h2 h3 h4 h5 h6) (fun hc => kf hc p e R s m args below meth c H locs cells slots ls h1 h2 h3 h4 h5 h6)
theorem Ev.sub (ks : List Nat) (hs : lv_pick L ks = L') (k : Ev l X M bc bs (pc) L' st n F Z) : Ev l X M bc bs (pc) L st n F Z :=
  fun p e R s m args below meth c H locs cells slots ls h1 h2 h3 h4 h5 h6 => k p e R s m args below meth c H locs cells slots ls h1 h2 h3 (lv_sub h4 ks hs) h5 h6
theorem Ev.room {bc2 bs2 : Nat} (hc : bc2 ≤ bc) (hs : bs2 ≤ bs) (k : Ev l X M bc2 bs2 (pc) L st n F Z) : Ev l X M bc bs (pc) L st n F Z :=
  fun p e R s m args below meth c H locs cells slots ls h1 h2 h3 h4 h5 h6 => k p e R s m args below meth c H locs cells slots ls h1 h2 h3 h4 (by omega) (by omega)
theorem ev_ldc {idx : Nat} {v : Int32} (hd : decode M.2.1 pc = .ok (.ldc idx, 2)) (hw : Jvm.Cond.constant M.1.cls idx v ∈ ev_gw) (k : Ev l X M bc bs (pc + 2) L (.int v :: st) n F Z) : Ev l X M bc bs (pc) L st n F Z :=
  fun p e R s m args below meth c H locs cells slots ls h1 h2 h3 h4 h5 h6 => lv_ldc h1.1 h1.2.1 h1.2.2.2.2.2.2.1 (h1.w hw) hd (k p e R s m args below meth c H locs cells slots ls h1 h2 h3 h4 h5 h6)
theorem ev_ldc2 {idx : Nat} {v : Int64} (hd : decode M.2.1 pc = .ok (.ldc2_w idx, 3)) (hw : Jvm.Cond.constantLong M.1.cls idx v ∈ ev_gw) (k : Ev l X M bc bs (pc + 3) L (.long v :: st) n F Z) : Ev l X M bc bs (pc) L st n F Z :=
  fun p e R s m args below meth c H locs cells slots ls h1 h2 h3 h4 h5 h6 => lv_ldc2 h1.1 h1.2.1 h1.2.2.2.2.2.2.1 (h1.w hw) hd (k p e R s m args below meth c H locs cells slots ls h1 h2 h3 h4 h5 h6)
theorem ev_P1 {X : ev_X} {a : Nat} {o : Nat × List Value} {H : Heap} (h : ev_at X a (.inr o) H) : va_P X.1 ev_cl [(a, .inr o)] H := fun k q hk => by
  cases k with
  | zero => cases hk; exact h
  | succ k => cases hk
theorem ev_PA {X : ev_X} {a t : Nat} {x : vp_A} {H : Heap} (h : ev_at X a (.inl (t, x)) H) {ty : FieldType} (ht : ev_tyl[t]? = some ty) : ∃ cA, X.2.1[t]? = some (cA, ty) ∧ va_P X.1 ev_cl [(a, .inl (cA, x))] H := by
  obtain ⟨⟨cA, t2⟩, h1, h2, h3⟩ := h
  have e : t2 = ty := Option.some.inj (h2.symm.trans ht)
  subst e
  refine ⟨cA, h1, fun k q hk => ?_⟩
  cases k with
  | zero => cases hk; exact h3
  | succ k => cases hk
/-- a class of the table: its words stand among ours, its fields' types, its fields' names differ -/
def ev_ck (ci : Nat) (r : vw_C) : Prop := ev_cl[ci]? = some r ∧ (∀ w ∈ u_ws r.1 r.2.1 r.2.2, w ∈ ev_gw) ∧ (∃ ty : Nat → FieldType, ∀ k, k < r.2.2 → parseFieldDescriptor (r.2.1 k).2.2.1 = some (ty k)) ∧ ∀ a, a < r.2.2 → ∀ b, b < r.2.2 → a ≠ b → (r.2.1 a).2.1 ≠ (r.2.1 b).2.1
/-- field k of class ci, as class own names it at place idx of its pool -/
def ev_fl (own : String) (idx ci k : Nat) : Prop := ∃ (r : vw_C) (ref : String), ev_ck ci r ∧ k < r.2.2 ∧ (Cond.fieldLink own idx ref (r.2.1 k).2.1 (r.2.1 k).2.2.1 ∈ ev_gw ∨ ∃ host, Cond.fieldLinkNest own idx ref (r.2.1 k).2.1 (r.2.1 k).2.2.1 host ∈ ev_gw) ∧ (ref = (r.2.1 k).1 ∨ Cond.sameField ref (r.2.1 k).1 (r.2.1 k).2.1 (r.2.1 k).2.2.1 ∈ ev_gw)
theorem ev_getfield {idx a ci : Nat} {fs : List Value} {v : Value} (kx : Nat) (hd : decode M.2.1 pc = .ok (.getfield idx, 3)) (hf : ev_fl M.1.cls idx ci kx) (hF : F a = some (.inr (ci, fs))) (hv : fs[kx]? = some v) (k : Ev l X M bc bs (pc + 3) L (v :: st) n F Z) : Ev l X M bc bs (pc) L (.ref a :: st) n F Z := by
  intro p e R s m args below meth c H locs cells slots ls h1 h2 h3 h4 h5 h6
  obtain ⟨⟨C, T, N⟩, ref, ⟨hc, hin, -, -⟩, hk, hl, hsm⟩ := hf
  have hsame : ∀ x, s.fieldFound? (T kx).1 (T kx).2.1 (T kx).2.2.1 = some x → s.fieldFound? ref (T kx).2.1 (T kx).2.2.1 = some x := by
    rcases hsm with rfl | hsm
    · exact fun _ h => h
    · exact fun x h => u_same (h1.w (args := args) hsm) x h
  rcases hl with hl | ⟨host, hl⟩
  · exact va_get h1.1 h1.2.1 (Ts := ev_gw) (fun w hw => h1.w hw) hin h1.2.2.2.2.2.2.1 h1.2.2.2.2.2.2.2.1.1 (ev_P1 (h2.2.2 _ _ hF).2) 0 rfl hc kx hk (h1.w hl) hsame hv hd (k p e R s m args below meth c H locs cells slots ls h1 h2 h3 h4 h5 h6)
  · exact va_getN h1.1 h1.2.1 (Ts := ev_gw) (fun w hw => h1.w hw) hin h1.2.2.2.2.2.2.1 h1.2.2.2.2.2.2.2.1.1 (ev_P1 (h2.2.2 _ _ hF).2) 0 rfl hc kx hk (h1.w hl) hsame hv hd (k p e R s m args below meth c H locs cells slots ls h1 h2 h3 h4 h5 h6)
theorem ev_putfield {idx a ci : Nat} {fs : List Value} {v : Value} (kx : Nat) (ty : FieldType) (hd : decode M.2.1 pc = .ok (.putfield idx, 3)) (hf : ev_fl M.1.cls idx ci kx) (hF : F a = some (.inr (ci, fs))) (hfin : ∀ r : vw_C, ev_cl[ci]? = some r → ((r.2.1 kx).2.2.2 = false ∨ ((r.2.1 kx).2.2.2 = true ∧ M.1.name = "<init>" ∧ (r.2.1 kx).1 = M.1.cls)) ∧ parseFieldDescriptor (r.2.1 kx).2.2.1 = some ty) (hn : narrow ty v = v) (hfit : fits ty v = true) (hl2 : kx < fs.length) (k : ∀ F2, ev_up F a (.inr (ci, fs.set kx v)) = F2 → Ev l X M bc bs (pc + 3) L st n F2 Z) : Ev l X M bc bs (pc) L (v :: .ref a :: st) n F Z := by
  intro p e R s m args below meth c H locs cells slots ls h1 h2 h3 h4 h5 h6
  obtain ⟨⟨C, T, N⟩, ref, ⟨hc, hin, ⟨ty0, hty⟩, hnm⟩, hk, hl, hsm⟩ := hf
  obtain ⟨hfin, hpd⟩ := hfin _ hc
  have hown := h1.2.2.2.2.2.2.1
  have hK := h1.2.2.2.2.2.2.2.1.1
  have hts : ∀ w ∈ ev_gw, w.before args s = true := fun w hw => h1.w hw
  have hsame : ∀ x, s.fieldFound? (T kx).1 (T kx).2.1 (T kx).2.2.1 = some x → s.fieldFound? ref (T kx).2.1 (T kx).2.2.1 = some x := by
    rcases hsm with rfl | hsm
    · exact fun _ h => h
    · exact fun x h => u_same (h1.w (args := args) hsm) x h
  have hap := va_apart (own := M.1.cls) hts hin ty0 hty hnm hK hc
  obtain ⟨r, hr1, cell, q1, q2, q3, q4⟩ := (h2.2.2 _ _ hF).2
  have hr : r = (C, T, N) := Option.some.inj (hr1.symm.trans hc)
  subst hr
  obtain ⟨hS, hfc, kC, hkC, hkind⟩ := hK.1 ci _ hc
  obtain ⟨cf, kf, fi, f, hi, hsl⟩ := hS kx hk
  have hst := (u_facts hfc hkC (u_lays hts hin hk) hi).1
  have hlay := hts _ (hin _ (u_in_lay hk))
  unfold u_lay at hlay
  have fin : ∀ H' : Heap, H'[a]? = some (cell.setSlot f.slot v) → H'.size = H.size → (∀ q, q ≠ a → H'[q]? = H[q]?) → W p l e R s m args below meth c H' (locs ++ [⟨a, f.slot⟩]) cells slots (Z R s args below) (F0 m (pc + 3) ls st) := by
    intro H' e1 e2 e3
    rw [hsl] at e1 ⊢
    refine k _ rfl p e R s m args below meth c H' _ cells slots ls h1 (h2.set hF ?_ e2 e3) (h3.put e2 e3 (h2.2.2 _ _ hF).1) h4 h5 h6
    exact ⟨_, hc, t_OB.to (V := updV (vp_V fs) kx v) ⟨_, e1, q2, q3, t_set q4 hap hk v⟩ (fun j _ => vp_updV_set hl2 v j)⟩
  rcases hfin with hfin | ⟨hfin, hini, hdecl⟩
  · rw [if_neg (by rw [hfin]; decide)] at hlay
    have h7 := u_store hfc hkC hkind hlay hi hpd hn hfit
    rcases hl with hl | ⟨host, hl⟩
    · exact W.putK h1.1 h1.2.1 (f := f) ⟨hown, h1.w hl, ⟨_, _, _, hsame _ hi⟩, hst⟩ (by rw [q2]; exact h7) q1 q3 (by rw [hsl]; exact k2_hasslot (q4 kx hk)) rfl rfl hd fin
    · exact va_WputK h1.1 h1.2.1 (f := f) hown (h1.w hl) (hsame _ hi) hst (by rw [q2]; exact h7) q1 q3 (by rw [hsl]; exact k2_hasslot (q4 kx hk)) rfl rfl hd fin
  · rw [if_pos hfin] at hlay
    have hcf : m.cls = cf := by
      obtain ⟨_, _, c', _, _, _, -, -, hf', -, -, -, hown2, -⟩ := Cond.laysFinal_spec hlay
      have e1 : c' = cf := by have := hi.symm.trans hf'; simp at this; exact this.1.symm
      have hdecl : (T kx).1 = M.1.cls := hdecl
      rw [hdecl] at hown2
      rw [← e1]; exact Option.some.inj (hown.symm.trans hown2)
    have h7 := u_fits hfc hkC hkind (Or.inr hlay) hi hpd hn hfit
    rcases hl with hl | ⟨host, hl⟩
    · exact W.putFinK h1.1 h1.2.1 hown (h1.w hl) (hsame _ hi) hst hcf (by rw [h1.2.2.2.2.2.1]; exact hini) (by rw [q2]; exact h7) q1 q3 (by rw [hsl]; exact k2_hasslot (q4 kx hk)) rfl rfl hd fin
    · refine va_Wputf h1.1 h1.2.1 hown (h1.w hl) (hsame _ hi) hst (Or.inr ⟨hcf, by rw [h1.2.2.2.2.2.1]; exact hini⟩) q1 (by rw [q3]; exact fun h => by cases h) (by rw [hsl]; exact k2_hasslot (q4 kx hk)) h7.1 (by rw [q3, q2]; exact h7.2) rfl rfl hd ?_
      have ha : a < H.size := (Array.getElem?_eq_some_iff.mp q1).1
      refine fin _ ?_ ?_ ?_
      · simp [Array.getElem?_setIfInBounds, ha]
      · simp
      · intro q hq
        simp [Array.getElem?_setIfInBounds, Ne.symm hq]
theorem ev_iaload {t a N : Nat} {f : Nat → Int32} {i : Int32} (hd : decode M.2.1 pc = .ok (.iaload, 1)) (hF : F a = some (.inl (t, N, .inl f))) (ht : ev_tyl[t]? = some .int) (hin : vp_in i N) (k : Ev l X M bc bs (pc + 1) L (.int (f i.toNatClampNeg) :: st) n F Z) : Ev l X M bc bs (pc) L (.int i :: .ref a :: st) n F Z := by
  intro p e R s m args below meth c H locs cells slots ls h1 h2 h3 h4 h5 h6
  obtain ⟨cA, g1, g2⟩ := ev_PA (h2.2.2 _ _ hF).2 ht
  exact va_iald h1.1 h1.2.1 h1.2.2.2.2.2.2.2.1.1 g2 0 t rfl g1 hin hd (k p e R s m args below meth c H locs cells slots ls h1 h2 h3 h4 h5 h6)
theorem ev_baload {t a N : Nat} {f : Nat → Int32} {i : Int32} (hd : decode M.2.1 pc = .ok (.baload, 1)) (hF : F a = some (.inl (t, N, .inl f))) (ht : ev_tyl[t]? = some .byte) (hin : vp_in i N) (k : Ev l X M bc bs (pc + 1) L (.int (f i.toNatClampNeg) :: st) n F Z) : Ev l X M bc bs (pc) L (.int i :: .ref a :: st) n F Z := by
  intro p e R s m args below meth c H locs cells slots ls h1 h2 h3 h4 h5 h6
  obtain ⟨cA, g1, g2⟩ := ev_PA (h2.2.2 _ _ hF).2 ht
  exact va_bald h1.1 h1.2.1 h1.2.2.2.2.2.2.2.1.1 g2 0 t rfl g1 hin hd (k p e R s m args below meth c H locs cells slots ls h1 h2 h3 h4 h5 h6)
theorem ev_zaload {t a N : Nat} {f : Nat → Int32} {i : Int32} (hd : decode M.2.1 pc = .ok (.baload, 1)) (hF : F a = some (.inl (t, N, .inl f))) (ht : ev_tyl[t]? = some .boolean) (hin : vp_in i N) (k : Ev l X M bc bs (pc + 1) L (.int (f i.toNatClampNeg) :: st) n F Z) : Ev l X M bc bs (pc) L (.int i :: .ref a :: st) n F Z := by
  intro p e R s m args below meth c H locs cells slots ls h1 h2 h3 h4 h5 h6
  obtain ⟨cA, g1, g2⟩ := ev_PA (h2.2.2 _ _ hF).2 ht
  exact va_zald h1.1 h1.2.1 h1.2.2.2.2.2.2.2.1.1 g2 0 t rfl g1 hin hd (k p e R s m args below meth c H locs cells slots ls h1 h2 h3 h4 h5 h6)
theorem ev_caload {t a N : Nat} {f : Nat → Int32} {i : Int32} (hd : decode M.2.1 pc = .ok (.caload, 1)) (hF : F a = some (.inl (t, N, .inl f))) (ht : ev_tyl[t]? = some .char) (hin : vp_in i N) (k : Ev l X M bc bs (pc + 1) L (.int (f i.toNatClampNeg) :: st) n F Z) : Ev l X M bc bs (pc) L (.int i :: .ref a :: st) n F Z := by
  intro p e R s m args below meth c H locs cells slots ls h1 h2 h3 h4 h5 h6
  obtain ⟨cA, g1, g2⟩ := ev_PA (h2.2.2 _ _ hF).2 ht
  exact va_cald h1.1 h1.2.1 h1.2.2.2.2.2.2.2.1.1 g2 0 t rfl g1 hin hd (k p e R s m args below meth c H locs cells slots ls h1 h2 h3 h4 h5 h6)
theorem ev_laload {t a N : Nat} {f : Nat → Int64} {i : Int32} (hd : decode M.2.1 pc = .ok (.laload, 1)) (hF : F a = some (.inl (t, N, .inr (.inl f)))) (ht : ev_tyl[t]? = some .long) (hin : vp_in i N) (k : Ev l X M bc bs (pc + 1) L (.long (f i.toNatClampNeg) :: st) n F Z) : Ev l X M bc bs (pc) L (.int i :: .ref a :: st) n F Z := by
  intro p e R s m args below meth c H locs cells slots ls h1 h2 h3 h4 h5 h6
  obtain ⟨cA, g1, g2⟩ := ev_PA (h2.2.2 _ _ hF).2 ht
  exact va_lald h1.1 h1.2.1 h1.2.2.2.2.2.2.2.1.1 g2 0 t rfl g1 hin hd (k p e R s m args below meth c H locs cells slots ls h1 h2 h3 h4 h5 h6)
theorem ev_alen {t a : Nat} {x : vp_A} {ty : FieldType} (hd : decode M.2.1 pc = .ok (.arraylength, 1)) (hF : F a = some (.inl (t, x))) (ht : ev_tyl[t]? = some ty) (k : Ev l X M bc bs (pc + 1) L (.int (nI x.1) :: st) n F Z) : Ev l X M bc bs (pc) L (.ref a :: st) n F Z := by
  intro p e R s m args below meth c H locs cells slots ls h1 h2 h3 h4 h5 h6
  obtain ⟨cA, g1, g2⟩ := ev_PA (h2.2.2 _ _ hF).2 ht
  exact va_alen h1.1 h1.2.1 h1.2.2.2.2.2.2.2.1.1 g2 0 t rfl g1 rfl hd (k p e R s m args below meth c H locs cells slots ls h1 h2 h3 h4 h5 h6)
theorem ev_aaload {t a N : Nat} {f : Nat → Option Nat} {i : Int32} {ty : FieldType} (hd : decode M.2.1 pc = .ok (.aaload, 1)) (hF : F a = some (.inl (t, N, .inr (.inr (.inr (.inr f)))))) (ht : ev_tyl[t]? = some ty) (hty : ty.isReference = true) (hin : vp_in i N) (k : Ev l X M bc bs (pc + 1) L (va_rf (f i.toNatClampNeg) :: st) n F Z) : Ev l X M bc bs (pc) L (.int i :: .ref a :: st) n F Z := by
  intro p e R s m args below meth c H locs cells slots ls h1 h2 h3 h4 h5 h6
  obtain ⟨cA, g1, g2⟩ := ev_PA (h2.2.2 _ _ hF).2 ht
  have hlt : i.toNatClampNeg < N := Nat.not_le.mp fun q => hin (Or.inr q)
  exact W.aald (v := va_rf (f i.toNatClampNeg)) (ty := ty) h1.1 h1.2.1 (g2 0 _ rfl) ((h1.2.2.2.2.2.2.2.1.1.2 t _ g1).1 N (fun j => va_rf (f j))) hty (fun q => by cases q) (by show ¬ (i < 0 ∨ (arrV _ _ _).slots.size ≤ _); rw [arrV_size]; exact hin) (by show (arrV _ _ _).slots[_]? = _; rw [arrV_read _ _ hlt]) rfl rfl hd (k p e R s m args below meth c H locs cells slots ls h1 h2 h3 h4 h5 h6)
theorem ev_iastore {t a N : Nat} {f : Nat → Int32} {i : Int32} {x : Int32} (hd : decode M.2.1 pc = .ok (.iastore, 1)) (hF : F a = some (.inl (t, N, .inl f))) (ht : ev_tyl[t]? = some .int) (hin : vp_in i N) (k : ∀ F2, ev_up F a (.inl (t, N, .inl (upd f i.toNatClampNeg x))) = F2 → Ev l X M bc bs (pc + 1) L st n F2 Z) : Ev l X M bc bs (pc) L (.int x :: .int i :: .ref a :: st) n F Z := by
  intro p e R s m args below meth c H locs cells slots ls h1 h2 h3 h4 h5 h6
  obtain ⟨⟨cA, t2⟩, g1, g2, g3⟩ := (h2.2.2 _ _ hF).2
  have e0 : t2 = .int := Option.some.inj (g2.symm.trans ht)
  subst e0
  refine W.iast h1.1 h1.2.1 g3 ((h1.2.2.2.2.2.2.2.1.1.2 t _ g1).1 N (fun j => .int (f j))) (fun q => by cases q) (by show ¬ (i < 0 ∨ (arrV _ _ _).slots.size ≤ _); rw [arrV_size]; exact hin) rfl rfl hd fun H1 ee z oq => ?_
  refine k _ rfl p e R s m args below meth c H1 _ cells slots ls h1 (h2.set hF ?_ z oq) (h3.put z oq (h2.2.2 _ _ hF).1) h4 h5 h6
  refine ⟨_, g1, g2, ?_⟩
  rw [ee]
  rw [vp_cell_i, vp_cell_i, arrV_store]
  congr 2
  funext q
  by_cases hq : q = i.toNatClampNeg
  · subst hq
    simp [updV, upd, vp_updL]
  · simp [updV, upd, vp_updL, hq]
theorem ev_lastore {t a N : Nat} {f : Nat → Int64} {i : Int32} {x : Int64} (hd : decode M.2.1 pc = .ok (.lastore, 1)) (hF : F a = some (.inl (t, N, .inr (.inl f)))) (ht : ev_tyl[t]? = some .long) (hin : vp_in i N) (k : ∀ F2, ev_up F a (.inl (t, N, .inr (.inl (vp_updL f i.toNatClampNeg x)))) = F2 → Ev l X M bc bs (pc + 1) L st n F2 Z) : Ev l X M bc bs (pc) L (.long x :: .int i :: .ref a :: st) n F Z := by
  intro p e R s m args below meth c H locs cells slots ls h1 h2 h3 h4 h5 h6
  obtain ⟨⟨cA, t2⟩, g1, g2, g3⟩ := (h2.2.2 _ _ hF).2
  have e0 : t2 = .long := Option.some.inj (g2.symm.trans ht)
  subst e0
  refine W.last h1.1 h1.2.1 g3 ((h1.2.2.2.2.2.2.2.1.1.2 t _ g1).1 N (fun j => .long (f j))) (fun q => by cases q) (by show ¬ (i < 0 ∨ (arrV _ _ _).slots.size ≤ _); rw [arrV_size]; exact hin) rfl rfl hd fun H1 ee z oq => ?_
  refine k _ rfl p e R s m args below meth c H1 _ cells slots ls h1 (h2.set hF ?_ z oq) (h3.put z oq (h2.2.2 _ _ hF).1) h4 h5 h6
  refine ⟨_, g1, g2, ?_⟩
  rw [ee]
  rw [vp_cell_l, vp_cell_l, arrV_store]
  congr 2
  funext q
  by_cases hq : q = i.toNatClampNeg
  · subst hq
    simp [updV, upd, vp_updL]
  · simp [updV, upd, vp_updL, hq]
theorem ev_bastore {t a N : Nat} {f : Nat → Int32} {i x : Int32} (hd : decode M.2.1 pc = .ok (.bastore, 1)) (hF : F a = some (.inl (t, N, .inl f))) (ht : ev_tyl[t]? = some .byte) (hin : vp_in i N) (hx : narrow .byte (.int x) = .int x) (k : ∀ F2, ev_up F a (.inl (t, N, .inl (upd f i.toNatClampNeg x))) = F2 → Ev l X M bc bs (pc + 1) L st n F2 Z) : Ev l X M bc bs (pc) L (.int x :: .int i :: .ref a :: st) n F Z := by
  intro p e R s m args below meth c H locs cells slots ls h1 h2 h3 h4 h5 h6
  obtain ⟨⟨cA, t2⟩, g1, g2, g3⟩ := (h2.2.2 _ _ hF).2
  have e0 : t2 = .byte := Option.some.inj (g2.symm.trans ht)
  subst e0
  refine W.bast h1.1 h1.2.1 g3 ((h1.2.2.2.2.2.2.2.1.1.2 t _ g1).1 N (fun j => .int (f j))) (fun q => by cases q) (by show ¬ (i < 0 ∨ (arrV _ _ _).slots.size ≤ _); rw [arrV_size]; exact hin) rfl rfl hd fun H1 ee z oq => ?_
  rw [hx] at ee
  refine k _ rfl p e R s m args below meth c H1 _ cells slots ls h1 (h2.set hF ?_ z oq) (h3.put z oq (h2.2.2 _ _ hF).1) h4 h5 h6
  refine ⟨_, g1, g2, ?_⟩
  rw [ee]
  rw [vp_cell_i, vp_cell_i, arrV_store]
  congr 2
  funext q
  by_cases hq : q = i.toNatClampNeg
  · subst hq
    simp [updV, upd]
  · simp [updV, upd, hq]
theorem ev_zastore {t a N : Nat} {f : Nat → Int32} {i x : Int32} (hd : decode M.2.1 pc = .ok (.bastore, 1)) (hF : F a = some (.inl (t, N, .inl f))) (ht : ev_tyl[t]? = some .boolean) (hin : vp_in i N) (hx : narrow .boolean (.int x) = .int x) (k : ∀ F2, ev_up F a (.inl (t, N, .inl (upd f i.toNatClampNeg x))) = F2 → Ev l X M bc bs (pc + 1) L st n F2 Z) : Ev l X M bc bs (pc) L (.int x :: .int i :: .ref a :: st) n F Z := by
  intro p e R s m args below meth c H locs cells slots ls h1 h2 h3 h4 h5 h6
  obtain ⟨⟨cA, t2⟩, g1, g2, g3⟩ := (h2.2.2 _ _ hF).2
  have e0 : t2 = .boolean := Option.some.inj (g2.symm.trans ht)
  subst e0
  refine W.zast h1.1 h1.2.1 g3 ((h1.2.2.2.2.2.2.2.1.1.2 t _ g1).1 N (fun j => .int (f j))) (fun q => by cases q) (by show ¬ (i < 0 ∨ (arrV _ _ _).slots.size ≤ _); rw [arrV_size]; exact hin) rfl rfl hd fun H1 ee z oq => ?_
  rw [hx] at ee
  refine k _ rfl p e R s m args below meth c H1 _ cells slots ls h1 (h2.set hF ?_ z oq) (h3.put z oq (h2.2.2 _ _ hF).1) h4 h5 h6
  refine ⟨_, g1, g2, ?_⟩
  rw [ee]
  rw [vp_cell_i, vp_cell_i, arrV_store]
  congr 2
  funext q
  by_cases hq : q = i.toNatClampNeg
  · subst hq
    simp [updV, upd]
  · simp [updV, upd, hq]
theorem ev_castore {t a N : Nat} {f : Nat → Int32} {i x : Int32} (hd : decode M.2.1 pc = .ok (.castore, 1)) (hF : F a = some (.inl (t, N, .inl f))) (ht : ev_tyl[t]? = some .char) (hin : vp_in i N) (hx : narrow .char (.int x) = .int x) (k : ∀ F2, ev_up F a (.inl (t, N, .inl (upd f i.toNatClampNeg x))) = F2 → Ev l X M bc bs (pc + 1) L st n F2 Z) : Ev l X M bc bs (pc) L (.int x :: .int i :: .ref a :: st) n F Z := by
  intro p e R s m args below meth c H locs cells slots ls h1 h2 h3 h4 h5 h6
  obtain ⟨⟨cA, t2⟩, g1, g2, g3⟩ := (h2.2.2 _ _ hF).2
  have e0 : t2 = .char := Option.some.inj (g2.symm.trans ht)
  subst e0
  refine W.cast h1.1 h1.2.1 g3 ((h1.2.2.2.2.2.2.2.1.1.2 t _ g1).1 N (fun j => .int (f j))) (fun q => by cases q) (by show ¬ (i < 0 ∨ (arrV _ _ _).slots.size ≤ _); rw [arrV_size]; exact hin) rfl rfl hd fun H1 ee z oq => ?_
  rw [hx] at ee
  refine k _ rfl p e R s m args below meth c H1 _ cells slots ls h1 (h2.set hF ?_ z oq) (h3.put z oq (h2.2.2 _ _ hF).1) h4 h5 h6
  refine ⟨_, g1, g2, ?_⟩
  rw [ee]
  rw [vp_cell_i, vp_cell_i, arrV_store]
  congr 2
  funext q
  by_cases hq : q = i.toNatClampNeg
  · subst hq
    simp [updV, upd]
  · simp [updV, upd, hq]
theorem ev_new {idx : Nat} (ci : Nat) {r : vw_C} (fs : List Value) (hd : decode M.2.1 pc = .ok (.new idx, 3)) (hck : ev_ck ci r) (hcl : Cond.classLink M.1.cls idx r.1 ∈ ev_gw) (hin : Cond.instantiable r.1 r.2.2 ∈ ev_gw) (hini : Cond.initialized r.1 ∈ ev_gw) (hfs : ∀ j, j < r.2.2 → (parseFieldDescriptor (r.2.1 j).2.2.1).map defaultValue = some (vp_V fs j)) {bc2 bs2 : Nat} (hb1 : bc2 + 1 ≤ bc) (hb2 : bs2 + r.2.2 ≤ bs) (k : ∀ F2, ev_up F n (.inr (ci, fs)) = F2 → Ev l X M bc2 bs2 (pc + 3) L (.ref n :: st) (n + 1) F2 Z) : Ev l X M bc bs (pc) L st n F Z := by
  intro p e R s m args below meth c H locs cells slots ls h1 h2 h3 h4 h5 h6
  obtain ⟨hc, hwi, ⟨ty0, hty⟩, hnm⟩ := hck
  have hown := h1.2.2.2.2.2.2.1
  have hK := h1.2.2.2.2.2.2.2.1.1
  have hts : ∀ w ∈ ev_gw, w.before args s = true := fun w hw => h1.w hw
  obtain ⟨hS, hfc, kC, hkC, hkind⟩ := hK.1 ci _ hc
  refine W.newcK h1.1 h1.2.1 hown (h1.w hcl) (h1.w hin) (h1.w hini) rfl hd (by omega) (by omega) hfc h2.1 fun H' kC' hkC' e1 e2 e3 => ?_
  have hbn := u_born ty0 hts hwi ⟨hS, hfc, kC, hkC, hkind⟩ hkC' e1 hty
  refine k _ rfl p e R s m args below meth c H' locs (cells + 1) (slots + r.2.2) ls h1 (h2.push ?_ e2 e3) ?_ h4 (by omega) (by omega)
  · exact ⟨_, hc, t_OB.to hbn (fun j hj => by have h9 := hfs j hj; rw [hty j hj] at h9; exact Option.some.inj h9)⟩
  · exact ⟨Nat.le_trans h3.1 (by rw [e2, h2.1]; omega), fun q hq hn => by rw [e3 q (by have := h3.1; rw [h2.1] at this; omega)]; exact h3.2.1 q hq hn, h3.2.2⟩
theorem ev_ireturn {v : Int32} {ty : FieldType} (hd : decode M.2.1 pc = .ok (.ireturn, 1)) (hr : M.2.2.2.1 = some ty) (hn : narrow ty (.int v) = .int v) (hq : Q (some (.int v)) n F) : Ev l X M bc bs (pc) L [.int v] n F (ev_mq X Q) := by
  intro p e R s m args below meth c H locs cells slots ls h1 h2 h3 h4 h5 h6
  refine W.widen (k := R.cells) (n := R.slots) (by omega) (by omega) ?_
  exact W.zret h1.1 h1.2.1 (h1.2.2.2.1.trans hr) hn (fun t ht hW => ⟨⟨_, n, F, rfl, hq, by rw [ht]; exact h2⟩, h3.F ht⟩) h3.2.2 hd h1.2.2.2.2.1
theorem ev_lreturn {v : Int64} (hd : decode M.2.1 pc = .ok (.lreturn, 1)) (hr : M.2.2.2.1 = some .long) (hq : Q (some (.long v)) n F) : Ev l X M bc bs (pc) L [.long v] n F (ev_mq X Q) := by
  intro p e R s m args below meth c H locs cells slots ls h1 h2 h3 h4 h5 h6
  refine W.widen (k := R.cells) (n := R.slots) (by omega) (by omega) ?_
  exact W.lret h1.1 h1.2.1 (h1.2.2.2.1.trans hr) (fun t ht hW => ⟨⟨_, n, F, rfl, hq, by rw [ht]; exact h2⟩, h3.F ht⟩) h3.2.2 hd h1.2.2.2.2.1
theorem ev_return (hd : decode M.2.1 pc = .ok (.return_, 1)) (hr : M.2.2.2.1 = none) (hq : Q none n F) : Ev l X M bc bs (pc) L [] n F (ev_mq X Q) := by
  intro p e R s m args below meth c H locs cells slots ls h1 h2 h3 h4 h5 h6
  refine W.widen (k := R.cells) (n := R.slots) (by omega) (by omega) ?_
  exact W.vret h1.1 h1.2.1 (h1.2.2.2.1.trans hr) (fun t ht hW => ⟨⟨_, n, F, rfl, hq, by rw [ht]; exact h2⟩, h3.F ht⟩) h3.2.2 hd h1.2.2.2.2.1
theorem ev_areturn {v : Value} {rt : FieldType} (hd : decode M.2.1 pc = .ok (.areturn, 1)) (hr : M.2.2.2.1 = some rt) (hrt : (∃ n, rt = .object n) ∨ ∃ t, rt = .array t) (hv : v = .null ∨ ∃ a, v = .ref a) (hq : Q (some v) n F) : Ev l X M bc bs (pc) L [v] n F (ev_mq X Q) := by
  intro p e R s m args below meth c H locs cells slots ls h1 h2 h3 h4 h5 h6
  refine W.widen (k := R.cells) (n := R.slots) (by omega) (by omega) ?_
  exact W.aret h1.1 h1.2.1 (h1.2.2.2.1.trans hr) hrt hv (fun t ht hW => ⟨⟨_, n, F, rfl, hq, by rw [ht]; exact h2⟩, h3.F ht⟩) h3.2.2 hd h1.2.2.2.2.1
theorem Cal.of {as : List Value} (hy : plainName M.1.cls = true) (hlen : (lg_sl as).length ≤ M.2.2.1) (h : Ev l X M bc bs 0 (lv_args 0 as) [] n F (ev_mq X Q)) : Cal l X M bc bs as n F Q := by
  refine Met.ofW (cc := M.2.1) (maxL := M.2.2.1) (ret := M.2.2.2.1) hy rfl ?_
  intro p e s m args below meth c s₁ B hml hv
  obtain ⟨rfl, hK, hR⟩ := hv
  have hl := lv_entry as (n := M.2.2.1) hlen
  rw [lg_entry_eq]
  generalize (lg_sl as ++ List.replicate (M.2.2.1 - (lg_sl as).length) Slot.unset).toArray = ls at hl ⊢
  exact h p e _ s m _ below meth c s.heap [] 0 0 ls ⟨B.exec, B.bytes, hml, B.returns, B.notSynchronized, (name_of_methodNamed B.named B.method).1, findClass_of_methodNamed B.named, hK, rfl, rfl⟩ hR va_S.rf hl (Nat.le_of_eq (Nat.zero_add _)) (Nat.le_of_eq (Nat.zero_add _))
/-- a call at place idx of own's pool: the method, its words, how many arguments -/
def ev_lc (own : String) (idx : Nat) (M2 : ev_M) (np : Nat) : Prop := (Cond.methodLink own idx M2.1 ∈ ev_gw ∨ ∃ host, Cond.methodLinkNest own idx M2.1 host ∈ ev_gw) ∧ Cond.code M2.1 M2.2.1 M2.2.2.1 M2.2.2.2.1 ∈ ev_gw ∧ Cond.initialized M2.1.cls ∈ ev_gw ∧ (M2.1.cls ≠ "java/lang/invoke/MethodHandle" ∧ M2.1.cls ≠ "java/lang/invoke/VarHandle") ∧ (parseMethodDescriptor M2.1.desc).map (fun d => d.parameters.length) = some np
theorem ev_lc.ps {own : String} {idx np : Nat} {M2 : ev_M} (h : ev_lc own idx M2 np) : ∀ sig, parseMethodDescriptor M2.1.desc = some sig → np = sig.parameters.length := by
  intro sig hs
  have h2 := h.2.2.2.2
  rw [hs] at h2
  exact (Option.some.inj h2).symm
theorem ev_lc.ws {own : String} {idx np : Nat} {M2 : ev_M} (h : ev_lc own idx M2 np) {p : Program} {R : Room} {s : State} {m : MethodId} {meth : Method} {c : Code} (h1 : ev_cs X M p R s m meth c) : ∀ w ∈ [Cond.code M2.1 M2.2.1 M2.2.2.1 M2.2.2.2.1], ∀ (a' : Array Value) (U : State), s.WarmedH U.vm → w.before a' U = true := by
  intro w hw a' U hW
  have e : w = Cond.code M2.1 M2.2.1 M2.2.2.1 M2.2.2.2.1 := by simpa using hw
  subst e
  exact ev_use (ev_gw_good _ h.2.1) rfl (ev_Nw_warm (ev_gw_good _ h.2.1) hW (h1.2.2.2.2.2.2.2.1.2.1 _ h.2.1))
theorem ev_cont {p : Program} {e : Env} {R : Room} {s : State} {m : MethodId} {args : Array Value} {below : List Frame} {meth : Method} {c : Code} {H : Heap} {locs : List Loc} {cells slots mc ms : Nat} {ls : Array Slot} {rest st0 : List Value} {Q2 : Option Value → Nat → ev_H → Prop} {a : Array Value} {Qf : State → Prop}
    (hr : va_Run p l e R s m args below meth c H locs cells slots mc ms (F0 m pc ls st0) rest (ev_Q X Q2 a) (ev_A X)) (hS : va_S (ev_A X) s.heap H locs)
    (kk : ∀ (v : Option Value) (n2 : Nat) (F2 : ev_H) (H1 : Heap) (locs1 : List Loc), Q2 v n2 F2 → ev_R X n2 F2 H1 → va_S (ev_A X) s.heap H1 locs1 → W p l e R s m args below meth c H1 locs1 (cells + mc) (slots + ms) Qf (F0 m (pc + 3) ls (v.toList ++ rest))) : W p l e R s m args below meth c H locs cells slots Qf (F0 m pc ls st0) := by
  intro T hT Xx
  obtain ⟨v, st₀, t, T', L2, h0, X', hL, e1, e2, ⟨⟨v2, n2, F2, hv, hq, hR⟩, hz, hk⟩, stp⟩ := hr T hT Xx
  cases hv
  rw [h0] at hz hk
  obtain ⟨t2, a1, b1⟩ := kk v n2 F2 T'.heap (locs ++ L2) hq (by rw [e1]; exact hR)
    ⟨Nat.le_trans hS.1 (by rw [e1]; exact hz), fun q g1 g2 => by rw [e1, hk q (Nat.lt_of_lt_of_le g1 hS.1) g2]; exact hS.2.1 q g1 g2, fun q hq => by
      rcases List.mem_append.mp hq with h | h
      · exact hS.2.2 q h
      · exact hL q h⟩ T' rfl X'
  exact ⟨t2, stp t2 a1, b1⟩
theorem ev_pre {p : Program} {R : Room} {s : State} {m : MethodId} {meth : Method} {c : Code} {H : Heap} {locs : List Loc} (h1 : ev_cs X M p R s m meth c) (h2 : ev_R X n F H) (h3 : va_S (ev_A X) s.heap H locs) (as : List Value) : FrameBlind (ev_P X as n F) ∧ ∀ U : State, U.heap = H → s.WarmedH U.vm → ev_P X as n F as.toArray U :=
  ⟨ev_P.blind, fun U hU hW => ⟨rfl, ev_K.warm hW (by rw [hU]; exact h3) h1.2.2.2.2.2.2.2.1, by rw [hU]; exact h2⟩⟩
theorem ev_invokestatic {idx np : Nat} (M2 : ev_M) {As st0 : List Value} {bc1 bs1 bc2 bs2 : Nat} {Q2 : Option Value → Nat → ev_H → Prop} (hd : decode M.2.1 pc = .ok (.invokestatic idx, 3)) (hlc : ev_lc M.1.cls idx M2 np) (hst : Cond.static M2.1 ∈ ev_gw) (hn : As.length = np) (hstk : st0 = As.reverse ++ st) (hcat : (st.map fun v => v.category).sum ≤ 8) (hfr : M2.2.2.2.2.1 + 1 ≤ M.2.2.2.2.1) (hlo : 8 + (M2.2.2.1 + 11) + M2.2.2.2.2.2 ≤ M.2.2.2.2.2) (hb1 : bc2 + bc1 ≤ bc) (hb2 : bs2 + bs1 ≤ bs) (hM : Cal l X M2 bc1 bs1 As n F Q2)
    (k : ∀ v n2 F2, Q2 v n2 F2 → Ev l X M bc2 bs2 (pc + 3) L (v.toList ++ st) n2 F2 Z) : Ev l X M bc bs (pc) L st0 n F Z := by
  intro p e R s m args below meth c H locs cells slots ls h1 h2 h3 h4 h5 h6
  have hpre := ev_pre h1 h2 h3 As
  refine ev_cont (mc := bc1) (ms := bs1) (rest := st) (Q2 := Q2) (a := As.toArray) ?_ h3 (fun v n2 F2 H1 locs1 hq hR hS => k v n2 F2 hq p e R s m args below meth c H1 locs1 (cells + bc1) (slots + bs1) ls h1 hR hS h4 (by omega) (by omega))
  rcases hlc.1 with hl | ⟨host, hl⟩
  · exact va_runS (Ts := ev_gw) (n := np) ⟨h1.1, h1.2.1, h1.2.2.1, h1.2.2.2.2.2.2.1, fun w hw => h1.w hw⟩ hM ⟨⟨rfl, rfl, by rw [h1.2.2.2.2.2.2.2.2.1]; exact hfr, by rw [h1.2.2.2.2.2.2.2.2.2]; exact hlo, hlc.ws h1, List.mem_cons_self, h1.w hlc.2.1, h1.w hlc.2.2.1, hlc.2.2.2.1, hlc.ps, h1.w hl⟩, h1.w hst⟩ hpre rfl hn h4.1 hstk (lv_room hcat) hd (by omega)
  · exact va_runSN (Ts := ev_gw) (n := np) (host := host) ⟨h1.1, h1.2.1, h1.2.2.1, h1.2.2.2.2.2.2.1, fun w hw => h1.w hw⟩ hM ⟨⟨⟨rfl, rfl, by rw [h1.2.2.2.2.2.2.2.2.1]; exact hfr, by rw [h1.2.2.2.2.2.2.2.2.2]; exact hlo, hlc.ws h1, List.mem_cons_self⟩, h1.w hlc.2.1, h1.w hlc.2.2.1, hlc.2.2.2.1, hlc.ps, h1.w hl⟩, h1.w hst, trivial⟩ hpre rfl hn h4.1 hstk (lv_room hcat) hd (by omega)
theorem ev_init {idx np b : Nat} (M2 : ev_M) {As st0 : List Value} {bc1 bs1 bc2 bs2 : Nat} {Q2 : Option Value → Nat → ev_H → Prop} (hd : decode M.2.1 pc = .ok (.invokespecial idx, 3)) (hlc : ev_lc M.1.cls idx M2 np) (hnm : M2.1.name = "<init>") (hrt : M2.2.2.2.1 = none) (hst : Cond.instanceMethod M2.1 ∈ ev_gw) (hn : As.length = np) (hstk : st0 = As.reverse ++ .ref b :: st) (hcat : (st.map fun v => v.category).sum ≤ 8) (hfr : M2.2.2.2.2.1 + 1 ≤ M.2.2.2.2.1) (hlo : 8 + (M2.2.2.1 + 11) + M2.2.2.2.2.2 ≤ M.2.2.2.2.2) (hb1 : bc2 + bc1 ≤ bc) (hb2 : bs2 + bs1 ≤ bs) (hM : Cal l X M2 bc1 bs1 (.ref b :: As) n F Q2)
    (k : ∀ v n2 F2, Q2 v n2 F2 → Ev l X M bc2 bs2 (pc + 3) L (v.toList ++ st) n2 F2 Z) : Ev l X M bc bs (pc) L st0 n F Z := by
  intro p e R s m args below meth c H locs cells slots ls h1 h2 h3 h4 h5 h6
  have hpre := ev_pre h1 h2 h3 (.ref b :: As)
  refine ev_cont (mc := bc1) (ms := bs1) (rest := st) (Q2 := Q2) (a := (Value.ref b :: As).toArray) ?_ h3 (fun v n2 F2 H1 locs1 hq hR hS => k v n2 F2 hq p e R s m args below meth c H1 locs1 (cells + bc1) (slots + bs1) ls h1 hR hS h4 (by omega) (by omega))
  have hcd := h1.w (args := args) hlc.2.1
  have hww := hlc.ws h1
  obtain ⟨y2, b2, n2, r2, f2, w2⟩ := M2
  dsimp only at hrt hcd hww
  subst hrt
  rcases hlc.1 with hl | ⟨host, hl⟩
  · exact va_runI (Ts := ev_gw) (n := np) ⟨h1.1, h1.2.1, h1.2.2.1, h1.2.2.2.2.2.2.1, fun w hw => h1.w hw⟩ hM ⟨⟨rfl, rfl, by rw [h1.2.2.2.2.2.2.2.2.1]; exact hfr, by rw [h1.2.2.2.2.2.2.2.2.2]; exact hlo, hww, List.mem_cons_self, hcd, h1.w hlc.2.2.1, hlc.2.2.2.1, hlc.ps, h1.w hl⟩, hnm, h1.w hst⟩ hpre rfl hn h4.1 hstk (lv_room hcat) hd (by omega)
  · exact va_runIN (Ts := ev_gw) (n := np) (host := host) ⟨h1.1, h1.2.1, h1.2.2.1, h1.2.2.2.2.2.2.1, fun w hw => h1.w hw⟩ hM ⟨⟨⟨rfl, rfl, by rw [h1.2.2.2.2.2.2.2.2.1]; exact hfr, by rw [h1.2.2.2.2.2.2.2.2.2]; exact hlo, hww, List.mem_cons_self⟩, hcd, h1.w hlc.2.2.1, hlc.2.2.2.1, hlc.ps, h1.w hl⟩, hnm, h1.w hst⟩ hpre rfl hn h4.1 hstk (lv_room hcat) hd (by omega)
theorem ev_invokevirtual {idx np b ci : Nat} (M2 : ev_M) {fs : List Value} {As st0 : List Value} {bc1 bs1 bc2 bs2 : Nat} {Q2 : Option Value → Nat → ev_H → Prop} (r : vw_C) (hd : decode M.2.1 pc = .ok (.invokevirtual idx, 3)) (hlc : ev_lc M.1.cls idx M2 np) (hst : Cond.instanceMethod M2.1 ∈ ev_gw) (hsel : Cond.selects r.1 M2.1 M2.1 ∈ ev_gw) (hr : ev_cl[ci]? = some r) (hF : F b = some (.inr (ci, fs))) (hn : As.length = np) (hstk : st0 = As.reverse ++ .ref b :: st) (hcat : (st.map fun v => v.category).sum ≤ 8) (hfr : M2.2.2.2.2.1 + 1 ≤ M.2.2.2.2.1) (hlo : 8 + (M2.2.2.1 + 11) + M2.2.2.2.2.2 ≤ M.2.2.2.2.2) (hb1 : bc2 + bc1 ≤ bc) (hb2 : bs2 + bs1 ≤ bs) (hM : Cal l X M2 bc1 bs1 (.ref b :: As) n F Q2)
    (k : ∀ v n2 F2, Q2 v n2 F2 → Ev l X M bc2 bs2 (pc + 3) L (v.toList ++ st) n2 F2 Z) : Ev l X M bc bs (pc) L st0 n F Z := by
  intro p e R s m args below meth c H locs cells slots ls h1 h2 h3 h4 h5 h6
  have hpre := ev_pre h1 h2 h3 (.ref b :: As)
  have hrc := va_recv h1.2.2.2.2.2.2.2.1.1 (ev_P1 (h2.2.2 _ _ hF).2) hr (q0 := 0) rfl
  refine ev_cont (mc := bc1) (ms := bs1) (rest := st) (Q2 := Q2) (a := (Value.ref b :: As).toArray) ?_ h3 (fun v n2 F2 H1 locs1 hq hR hS => k v n2 F2 hq p e R s m args below meth c H1 locs1 (cells + bc1) (slots + bs1) ls h1 hR hS h4 (by omega) (by omega))
  rcases hlc.1 with hl | ⟨host, hl⟩
  · exact va_runV (Ts := ev_gw) (n := np) (C := r.1) ⟨h1.1, h1.2.1, h1.2.2.1, h1.2.2.2.2.2.2.1, fun w hw => h1.w hw⟩ hM ⟨⟨rfl, rfl, by rw [h1.2.2.2.2.2.2.2.2.1]; exact hfr, by rw [h1.2.2.2.2.2.2.2.2.2]; exact hlo, hlc.ws h1, List.mem_cons_self, h1.w hlc.2.1, h1.w hlc.2.2.1, hlc.2.2.2.1, hlc.ps, h1.w hl⟩, h1.w hst, h1.w hsel⟩ ⟨hpre.1, hrc, hpre.2⟩ rfl hn h4.1 hstk (lv_room hcat) hd (by omega)
  · exact va_runVN (Ts := ev_gw) (n := np) (C := r.1) (host := host) ⟨h1.1, h1.2.1, h1.2.2.1, h1.2.2.2.2.2.2.1, fun w hw => h1.w hw⟩ hM ⟨⟨⟨rfl, rfl, by rw [h1.2.2.2.2.2.2.2.2.1]; exact hfr, by rw [h1.2.2.2.2.2.2.2.2.2]; exact hlo, hlc.ws h1, List.mem_cons_self⟩, h1.w hlc.2.1, h1.w hlc.2.2.1, hlc.2.2.2.1, hlc.ps, h1.w hl⟩, h1.w hst, h1.w hsel⟩ ⟨hpre.1, hrc, hpre.2⟩ rfl hn h4.1 hstk (lv_room hcat) hd (by omega)
theorem ev_checkcast {idx a ci : Nat} {fs : List Value} (r : vw_C) {nm : String} (hd : decode M.2.1 pc = .ok (.checkcast idx, 3)) (hcl : Cond.classLink M.1.cls idx nm ∈ ev_gw) (hct : Cond.castable r.1 nm ∈ ev_gw) (hr : ev_cl[ci]? = some r) (hF : F a = some (.inr (ci, fs))) (k : Ev l X M bc bs (pc + 3) L (.ref a :: st) n F Z) : Ev l X M bc bs (pc) L (.ref a :: st) n F Z := by
  intro p e R s m args below meth c H locs cells slots ls h1 h2 h3 h4 h5 h6
  have hrc := va_recv h1.2.2.2.2.2.2.2.1.1 (ev_P1 (h2.2.2 _ _ hF).2) hr (q0 := 0) rfl
  exact va_castY h1.1 h1.2.1 h1.2.2.2.2.2.2.1 (h1.w hcl) (h1.2.2.2.2.2.2.2.1.2.1 _ hct) hrc hd (k p e R s m args below meth c H locs cells slots ls h1 h2 h3 h4 h5 h6)
theorem ev_newarray {atype : ArrayType} (t N : Nat) (x : vp_A) {cnt : Int32} {ty : FieldType} (hd : decode M.2.1 pc = .ok (.newarray atype, 2)) (hw : Cond.arrayClass (newarray.typeOf atype) ∈ ev_gw) (hty : newarray.typeOf atype = ty) (ht : ev_tyl[t]? = some ty) (hpr : ∀ U cA, va_RA U cA ty → U.vm.findClass ("[" ++ ty.toString) = some cA) (ha : ∀ cA : ClassId, vp_cell cA x = arrV cA N (fun _ => defaultValue ty)) (hn : ¬ cnt < 0) (hN : cnt.toNatClampNeg = N) (hbytes : N * componentBytes ty ≤ 536870912) {bc2 bs2 : Nat} (hb1 : bc2 + 1 ≤ bc) (hb2 : bs2 + N ≤ bs) (k : ∀ F2, ev_up F n (.inl (t, x)) = F2 → Ev l X M bc2 bs2 (pc + 2) L (.ref n :: st) (n + 1) F2 Z) : Ev l X M bc bs (pc) L (.int cnt :: st) n F Z := by
  subst hty
  intro p e R s m args below meth c H locs cells slots ls h1 h2 h3 h4 h5 h6
  have hK := h1.2.2.2.2.2.2.2.1
  refine va_newaK h1.1 h1.2.1 (h1.w hw) rfl hd rfl hn hN hbytes (by omega) (by omega) h2.1 fun H' cA e1 e2 e3 e4 e5 => ?_
  refine k _ rfl p e R s m args below meth c H' locs (cells + 1) (slots + N) ls h1 (h2.push ?_ e2 e3) ?_ h4 (by omega) (by omega)
  · obtain ⟨t2, g1, g2⟩ := ev_tys hK ht
    have g3 := hpr s t2.1 (by have := (hK.1.2 t _ g1).2; rw [g2] at this; exact this)
    have g4 : t2.1 = cA := Option.some.inj (g3.symm.trans e5)
    exact ⟨t2, g1, by rw [g2]; exact ht, by rw [ha, g4]; exact e1⟩
  · exact ⟨Nat.le_trans h3.1 (by rw [e2, h2.1]; omega), fun q hq hn => by rw [e3 q (by have := h3.1; rw [h2.1] at this; omega)]; exact h3.2.1 q hq hn, h3.2.2⟩
theorem ev_objInit {idx a : Nat} (hd : decode M.2.1 pc = .ok (.invokespecial idx, 3)) (hw1 : Cond.methodLink M.1.cls idx Lib.objectInit ∈ ev_gw) (hw2 : Cond.instanceMethod Lib.objectInit ∈ ev_gw) (hw3 : Cond.code Lib.objectInit ⟨#[0xb1]⟩ 1 none ∈ ev_gw) (hfr : 1 ≤ M.2.2.2.2.1) (hlo : (st.map fun v => v.category).sum + 12 ≤ M.2.2.2.2.2) (k : Ev l X M bc bs (pc + 3) L st n F Z) : Ev l X M bc bs (pc) L (.ref a :: st) n F Z := by
  intro p e R s m args below meth c H locs cells slots ls h1 h2 h3 h4 h5 h6
  refine W.objInit h1.1 h1.2.1 h1.2.2.2.2.2.2.1 (h1.w hw1) (h1.w hw2) (h1.w hw3) rfl (h4.1.trans h1.2.2.1.symm) rfl hd (by rw [h1.2.2.2.2.2.2.2.2.1]; exact hfr) ?_ (k p e R s m args below meth c H locs cells slots ls h1 h2 h3 h4 h5 h6)
  rw [h1.2.2.2.2.2.2.2.2.2]
  show 2 * 0 + _ + 12 ≤ _
  omega
theorem ev_mmax {idx : Nat} {x y : Int32} (hd : decode M.2.1 pc = .ok (.invokestatic idx, 3)) (hw1 : Cond.methodLink M.1.cls idx Lib.Math.max.name ∈ ev_gw) (hw2 : Cond.static Lib.Math.max.name ∈ ev_gw) (hw3 : Cond.initialized "java/lang/Math" ∈ ev_gw) (hw4 : Cond.code Lib.Math.max.name Lib.Math.max.code 2 (some .int) ∈ ev_gw) (hfr : 1 ≤ M.2.2.2.2.1) (hlo : (st.map fun v => v.category).sum + 13 ≤ M.2.2.2.2.2) (k : Ev l X M bc bs (pc + 3) L (.int (if x < y then y else x) :: st) n F Z) : Ev l X M bc bs (pc) L (.int y :: .int x :: st) n F Z := by
  intro p e R s m args below meth c H locs cells slots ls h1 h2 h3 h4 h5 h6
  exact va_mmax h1.1 h1.2.1 (h1.2.2.1.trans h4.1.symm) h1.2.2.2.2.2.2.1 (h1.w hw1) (h1.w hw2) (h1.w hw3) (h1.w hw4) (by rw [h1.2.2.2.2.2.2.2.2.1]; exact hfr) (by rw [h1.2.2.2.2.2.2.2.2.2]; exact hlo) (by omega) (by omega) hd (k p e R s m args below meth c H locs cells slots ls h1 h2 h3 h4 h5 h6)
theorem ev_mmin {idx : Nat} {x y : Int32} (hd : decode M.2.1 pc = .ok (.invokestatic idx, 3)) (hw1 : Cond.methodLink M.1.cls idx Lib.Math.min.name ∈ ev_gw) (hw2 : Cond.static Lib.Math.min.name ∈ ev_gw) (hw3 : Cond.initialized "java/lang/Math" ∈ ev_gw) (hw4 : Cond.code Lib.Math.min.name Lib.Math.min.code 2 (some .int) ∈ ev_gw) (hfr : 1 ≤ M.2.2.2.2.1) (hlo : (st.map fun v => v.category).sum + 13 ≤ M.2.2.2.2.2) (k : Ev l X M bc bs (pc + 3) L (.int (if y < x then y else x) :: st) n F Z) : Ev l X M bc bs (pc) L (.int y :: .int x :: st) n F Z := by
  intro p e R s m args below meth c H locs cells slots ls h1 h2 h3 h4 h5 h6
  exact va_mmin h1.1 h1.2.1 (h1.2.2.1.trans h4.1.symm) h1.2.2.2.2.2.2.1 (h1.w hw1) (h1.w hw2) (h1.w hw3) (h1.w hw4) (by rw [h1.2.2.2.2.2.2.2.2.1]; exact hfr) (by rw [h1.2.2.2.2.2.2.2.2.2]; exact hlo) (by omega) (by omega) hd (k p e R s m args below meth c H locs cells slots ls h1 h2 h3 h4 h5 h6)
/-- a call that changes nothing, and answers v -/
def ev_pure (v : Value) (n : Nat) (F : ev_H) : Option Value → Nat → ev_H → Prop := fun v2 n2 F2 => v2 = some v ∧ n2 = n ∧ F2 = F
def ev_void (n : Nat) (F : ev_H) : Option Value → Nat → ev_H → Prop := fun v2 n2 F2 => v2 = none ∧ n2 = n ∧ F2 = F
theorem ev_purek {v : Value} (h : Ev l X M bc bs pc L (v :: st) n F Z) : ∀ v2 n2 F2, ev_pure v n F v2 n2 F2 → Ev l X M bc bs pc L (v2.toList ++ st) n2 F2 Z := by
  rintro _ _ _ ⟨rfl, rfl, rfl⟩
  exact h
theorem ev_voidk (h : Ev l X M bc bs pc L st n F Z) : ∀ v2 n2 F2, ev_void n F v2 n2 F2 → Ev l X M bc bs pc L (v2.toList ++ st) n2 F2 Z := by
  rintro _ _ _ ⟨rfl, rfl, rfl⟩
  exact h
theorem ev_fresh (k : (∀ q : Nat, n ≤ q → F q = none) → Ev l X M bc bs (pc) L st n F Z) : Ev l X M bc bs (pc) L st n F Z :=
  fun p e R s m args below meth c H locs cells slots ls h1 h2 h3 h4 h5 h6 => k (fun q hq => h2.none hq) p e R s m args below meth c H locs cells slots ls h1 h2 h3 h4 h5 h6
theorem ev_nf {a b : Nat} {x : ev_C} (ha : F a = some x) (hb : F b = none) : a ≠ b := fun e => by subst e; rw [ha] at hb; cases hb
theorem ev_rf {o : Option Nat} {x : Nat} (h : o = some x) (k : Ev l X M bc bs (pc) L (.ref x :: st) n F Z) : Ev l X M bc bs (pc) L (va_rf o :: st) n F Z := by subst h; exact k
theorem ev_rfN {o : Option Nat} (h : o = none) (k : Ev l X M bc bs (pc) L (.null :: st) n F Z) : Ev l X M bc bs (pc) L (va_rf o :: st) n F Z := by subst h; exact k
theorem ev_eqI {x y : Int32} (h : x = y) (k : Ev l X M bc bs (pc) L (.int y :: st) n F Z) : Ev l X M bc bs (pc) L (.int x :: st) n F Z := by subst h; exact k
theorem ev_swk {dflt lo hi : Int} {offs : Array Int} {len : Nat} {x : Int32} {off : Int} (i : Nat) (v : Int32) (tgt : Nat) (hd : decode M.2.1 pc = .ok (.tableswitch dflt lo hi offs, len)) (hv : v.toInt = lo + i) (hh : lo + i ≤ hi) (ho : offs[i]? = some off) (ht : (pc : Int) + off = (tgt : Int)) (kt : x = v → Ev l X M bc bs (tgt) L st n F Z) (kf : ¬ x = v → Ev l X M bc bs (pc) L (.int x :: st) n F Z) : Ev l X M bc bs (pc) L (.int x :: st) n F Z := by
  by_cases hx : x = v
  · subst hx
    exact ev_tableIn tgt hd (by omega) (by omega) (by rw [show (x.toInt - lo).toNat = i by omega]; exact ho) ht (kt rfl)
  · exact kf hx
theorem ev_getstatic {idx : Nat} {Cn nn dd : String} {v : Value} (hd : decode M.2.1 pc = .ok (.getstatic idx, 3)) (hZ : ∀ U : State, ev_S X U → va_Z Cn nn dd v (ev_A X) U U.heap) (hl : Cond.fieldLink M.1.cls idx Cn nn dd ∈ ev_gw ∨ ∃ host, Cond.fieldLinkNest M.1.cls idx Cn nn dd host ∈ ev_gw) (k : Ev l X M bc bs (pc + 3) L (v :: st) n F Z) : Ev l X M bc bs (pc) L st n F Z := by
  intro p e R s m args below meth c H locs cells slots ls h1 h2 h3 h4 h5 h6
  have hz := hZ s h1.2.2.2.2.2.2.2.1.2.2.1
  rcases hl with hl | ⟨host, hl⟩
  · exact va_gets h1.1 h1.2.1 hz h3 h1.2.2.2.2.2.2.1 (h1.w hl) (fun _ h => h) hd (k p e R s m args below meth c H locs cells slots ls h1 h2 h3 h4 h5 h6)
  · exact va_getsN h1.1 h1.2.1 hz h3 h1.2.2.2.2.2.2.1 (h1.w hl) (fun _ h => h) hd (k p e R s m args below meth c H locs cells slots ls h1 h2 h3 h4 h5 h6)
theorem ev_sld {i : Int32} (hd : decode M.2.1 pc = .ok (.iaload, 1)) (hin : vp_in i X.2.2.2.2.1) (k : Ev l X M bc bs (pc + 1) L (.int (X.2.2.2.2.2 i.toNatClampNeg) :: st) n F Z) : Ev l X M bc bs (pc) L (.int i :: .ref (X.2.2.2.1 0) :: st) n F Z := by
  intro p e R s m args below meth c H locs cells slots ls h1 h2 h3 h4 h5 h6
  obtain ⟨a1, a2, a3⟩ := h1.2.2.2.2.2.2.2.1.2.2.1.1
  exact va_sld h1.1 h1.2.1 a3 (Nat.lt_of_lt_of_le a2 a1) (fun z => Nat.lt_irrefl _ (Nat.lt_of_lt_of_le a2 z)) h3 hin hd (k p e R s m args below meth c H locs cells slots ls h1 h2 h3 h4 h5 h6)
theorem ev_slen (hd : decode M.2.1 pc = .ok (.arraylength, 1)) (k : Ev l X M bc bs (pc + 1) L (.int (nI X.2.2.2.2.1) :: st) n F Z) : Ev l X M bc bs (pc) L (.ref (X.2.2.2.1 0) :: st) n F Z := by
  intro p e R s m args below meth c H locs cells slots ls h1 h2 h3 h4 h5 h6
  obtain ⟨a1, a2, a3⟩ := h1.2.2.2.2.2.2.2.1.2.2.1.1
  exact va_slen h1.1 h1.2.1 a3 (Nat.lt_of_lt_of_le a2 a1) (fun z => Nat.lt_irrefl _ (Nat.lt_of_lt_of_le a2 z)) h3 hd (k p e R s m args below meth c H locs cells slots ls h1 h2 h3 h4 h5 h6)
end EvRows
end
section
theorem ck_0 : ev_ck 0 rC0 := ⟨rfl, by decide +kernel, ⟨fun k => (parseFieldDescriptor (T0_ k).2.2.1).getD .int, by decide +kernel⟩, by decide +kernel⟩
theorem ck_1 : ev_ck 1 rC1 := ⟨rfl, by decide +kernel, ⟨fun k => (parseFieldDescriptor (T1_ k).2.2.1).getD .int, by decide +kernel⟩, by decide +kernel⟩
theorem ck_2 : ev_ck 2 rC2 := ⟨rfl, by decide +kernel, ⟨fun k => (parseFieldDescriptor (T2_ k).2.2.1).getD .int, by decide +kernel⟩, by decide +kernel⟩
theorem ck_3 : ev_ck 3 rC3 := ⟨rfl, by decide +kernel, ⟨fun k => (parseFieldDescriptor (T3_ k).2.2.1).getD .int, by decide +kernel⟩, by decide +kernel⟩
theorem ck_4 : ev_ck 4 rC4 := ⟨rfl, by decide +kernel, ⟨fun k => (parseFieldDescriptor (T4_ k).2.2.1).getD .int, by decide +kernel⟩, by decide +kernel⟩
theorem ck_5 : ev_ck 5 rC5 := ⟨rfl, by decide +kernel, ⟨fun k => (parseFieldDescriptor (T5_ k).2.2.1).getD .int, by decide +kernel⟩, by decide +kernel⟩
theorem ck_6 : ev_ck 6 rC6 := ⟨rfl, by decide +kernel, ⟨fun k => (parseFieldDescriptor (T6_ k).2.2.1).getD .int, by decide +kernel⟩, by decide +kernel⟩
theorem ck_7 : ev_ck 7 rC7 := ⟨rfl, by decide +kernel, ⟨fun k => (parseFieldDescriptor (T7_ k).2.2.1).getD .int, by decide +kernel⟩, by decide +kernel⟩
theorem ck_8 : ev_ck 8 rC8 := ⟨rfl, by decide +kernel, ⟨fun k => (parseFieldDescriptor (T8_ k).2.2.1).getD .int, by decide +kernel⟩, by decide +kernel⟩
theorem ck_9 : ev_ck 9 rC9 := ⟨rfl, by decide +kernel, ⟨fun k => (parseFieldDescriptor (T9_ k).2.2.1).getD .int, by decide +kernel⟩, by decide +kernel⟩
theorem ck_10 : ev_ck 10 rC10 := ⟨rfl, by decide +kernel, ⟨fun k => (parseFieldDescriptor (T10_ k).2.2.1).getD .int, by decide +kernel⟩, by decide +kernel⟩
theorem ck_11 : ev_ck 11 rC11 := ⟨rfl, by decide +kernel, ⟨fun k => (parseFieldDescriptor (T11_ k).2.2.1).getD .int, by decide +kernel⟩, by decide +kernel⟩
theorem ck_12 : ev_ck 12 rC12 := ⟨rfl, by decide +kernel, ⟨fun k => (parseFieldDescriptor (T12_ k).2.2.1).getD .int, by decide +kernel⟩, by decide +kernel⟩
theorem lc_P_9 : ev_lc "PostingShelf" 9 M_St_init 0 := ⟨Or.inr ⟨_, wd_37⟩, wd_39, wd_2, ⟨by decide, by decide⟩, by decide +kernel⟩
theorem fl_P_10 : ev_fl "PostingShelf" 10 0 0 := ⟨rC0, "PostingShelf", ck_0, by decide, Or.inl wd_195, Or.inl rfl⟩
theorem fl_P_16 : ev_fl "PostingShelf" 16 0 1 := ⟨rC0, "PostingShelf", ck_0, by decide, Or.inl wd_196, Or.inl rfl⟩
theorem fl_P_20 : ev_fl "PostingShelf" 20 0 2 := ⟨rC0, "PostingShelf", ck_0, by decide, Or.inl wd_197, Or.inl rfl⟩
theorem lc_P_26 : ev_lc "PostingShelf" 26 M_Pe_init 0 := ⟨Or.inr ⟨_, wd_55⟩, wd_57, wd_3, ⟨by decide, by decide⟩, by decide +kernel⟩
theorem fl_P_27 : ev_fl "PostingShelf" 27 0 3 := ⟨rC0, "PostingShelf", ck_0, by decide, Or.inl wd_198, Or.inl rfl⟩
theorem lc_P_33 : ev_lc "PostingShelf" 33 M_Sh_init 0 := ⟨Or.inr ⟨_, wd_99⟩, wd_101, wd_7, ⟨by decide, by decide⟩, by decide +kernel⟩
theorem fl_P_34 : ev_fl "PostingShelf" 34 0 4 := ⟨rC0, "PostingShelf", ck_0, by decide, Or.inl wd_199, Or.inl rfl⟩
theorem lc_P_40 : ev_lc "PostingShelf" 40 M_Ma_init 0 := ⟨Or.inr ⟨_, wd_116⟩, wd_118, wd_8, ⟨by decide, by decide⟩, by decide +kernel⟩
theorem fl_P_41 : ev_fl "PostingShelf" 41 0 5 := ⟨rC0, "PostingShelf", ck_0, by decide, Or.inl wd_200, Or.inl rfl⟩
theorem lc_P_47 : ev_lc "PostingShelf" 47 M_Qs_init 0 := ⟨Or.inr ⟨_, wd_135⟩, wd_137, wd_9, ⟨by decide, by decide⟩, by decide +kernel⟩
theorem fl_P_48 : ev_fl "PostingShelf" 48 0 6 := ⟨rC0, "PostingShelf", ck_0, by decide, Or.inl wd_201, Or.inl rfl⟩
theorem lc_P_54 : ev_lc "PostingShelf" 54 M_Ra_init 0 := ⟨Or.inr ⟨_, wd_156⟩, wd_158, wd_10, ⟨by decide, by decide⟩, by decide +kernel⟩
theorem fl_P_55 : ev_fl "PostingShelf" 55 0 7 := ⟨rC0, "PostingShelf", ck_0, by decide, Or.inl wd_202, Or.inl rfl⟩
theorem lc_P_61 : ev_lc "PostingShelf" 61 M_Re_init 0 := ⟨Or.inr ⟨_, wd_178⟩, wd_180, wd_11, ⟨by decide, by decide⟩, by decide +kernel⟩
theorem fl_P_62 : ev_fl "PostingShelf" 62 0 8 := ⟨rC0, "PostingShelf", ck_0, by decide, Or.inl wd_203, Or.inl rfl⟩
theorem fl_St_9 : ev_fl "PostingShelf$Stemmer" 9 1 0 := ⟨rC1, "PostingShelf$Stemmer", ck_1, by decide, Or.inl wd_41, Or.inl rfl⟩
theorem fl_St_15 : ev_fl "PostingShelf$Stemmer" 15 1 1 := ⟨rC1, "PostingShelf$Stemmer", ck_1, by decide, Or.inl wd_42, Or.inl rfl⟩
theorem fl_St_19 : ev_fl "PostingShelf$Stemmer" 19 1 2 := ⟨rC1, "PostingShelf$Stemmer", ck_1, by decide, Or.inl wd_43, Or.inl rfl⟩
theorem lc_Pe_9 : ev_lc "PostingShelf$Pending" 9 M_AL_init 0 := ⟨Or.inl wd_61, wd_63, wd_6, ⟨by decide, by decide⟩, by decide +kernel⟩
theorem fl_Pe_10 : ev_fl "PostingShelf$Pending" 10 2 0 := ⟨rC2, "PostingShelf$Pending", ck_2, by decide, Or.inl wd_86, Or.inl rfl⟩
theorem fl_Pe_16 : ev_fl "PostingShelf$Pending" 16 2 1 := ⟨rC2, "PostingShelf$Pending", ck_2, by decide, Or.inl wd_89, Or.inl rfl⟩
theorem lc_AL_1 : ev_lc "java/util/ArrayList" 1 M_AbL_init 0 := ⟨Or.inl wd_64, wd_66, wd_5, ⟨by decide, by decide⟩, by decide +kernel⟩
theorem fl_AL_9 : ev_fl "java/util/ArrayList" 9 12 0 := ⟨rC12, "java/util/ArrayList", ck_12, by decide, Or.inl wd_73, Or.inl rfl⟩
theorem lc_AbL_1 : ev_lc "java/util/AbstractList" 1 M_AbC_init 0 := ⟨Or.inl wd_67, wd_69, wd_4, ⟨by decide, by decide⟩, by decide +kernel⟩
theorem fl_AbL_7 : ev_fl "java/util/AbstractList" 7 12 2 := ⟨rC12, "java/util/AbstractList", ck_12, by decide, Or.inl wd_75, Or.inl rfl⟩
theorem lc_Sh_9 : ev_lc "PostingShelf$Shelf" 9 M_AL_init 0 := ⟨Or.inl wd_104, wd_63, wd_6, ⟨by decide, by decide⟩, by decide +kernel⟩
theorem fl_Sh_10 : ev_fl "PostingShelf$Shelf" 10 3 0 := ⟨rC3, "PostingShelf$Shelf", ck_3, by decide, Or.inl wd_105, Or.inl rfl⟩
theorem fl_Sh_16 : ev_fl "PostingShelf$Shelf" 16 3 1 := ⟨rC3, "PostingShelf$Shelf", ck_3, by decide, Or.inl wd_107, Or.inl rfl⟩
theorem fl_Ma_7 : ev_fl "PostingShelf$Machine" 7 4 0 := ⟨rC4, "PostingShelf$Machine", ck_4, by decide, Or.inl wd_120, Or.inl rfl⟩
theorem fl_Ma_13 : ev_fl "PostingShelf$Machine" 13 4 1 := ⟨rC4, "PostingShelf$Machine", ck_4, by decide, Or.inl wd_122, Or.inl rfl⟩
theorem fl_Ma_16 : ev_fl "PostingShelf$Machine" 16 4 2 := ⟨rC4, "PostingShelf$Machine", ck_4, by decide, Or.inl wd_124, Or.inl rfl⟩
theorem lc_Qs_11 : ev_lc "PostingShelf$QueryStack" 11 M_AL_init 0 := ⟨Or.inl wd_140, wd_63, wd_6, ⟨by decide, by decide⟩, by decide +kernel⟩
theorem fl_Qs_12 : ev_fl "PostingShelf$QueryStack" 12 5 0 := ⟨rC5, "PostingShelf$QueryStack", ck_5, by decide, Or.inl wd_141, Or.inl rfl⟩
theorem fl_Qs_18 : ev_fl "PostingShelf$QueryStack" 18 5 1 := ⟨rC5, "PostingShelf$QueryStack", ck_5, by decide, Or.inl wd_142, Or.inl rfl⟩
theorem fl_Qs_22 : ev_fl "PostingShelf$QueryStack" 22 5 2 := ⟨rC5, "PostingShelf$QueryStack", ck_5, by decide, Or.inl wd_143, Or.inl rfl⟩
theorem fl_Ra_11 : ev_fl "PostingShelf$Ranking" 11 6 0 := ⟨rC6, "PostingShelf$Ranking", ck_6, by decide, Or.inl wd_162, Or.inl rfl⟩
theorem fl_Ra_16 : ev_fl "PostingShelf$Ranking" 16 6 1 := ⟨rC6, "PostingShelf$Ranking", ck_6, by decide, Or.inl wd_163, Or.inl rfl⟩
theorem fl_Ra_20 : ev_fl "PostingShelf$Ranking" 20 6 2 := ⟨rC6, "PostingShelf$Ranking", ck_6, by decide, Or.inl wd_164, Or.inl rfl⟩
theorem fl_Ra_24 : ev_fl "PostingShelf$Ranking" 24 6 3 := ⟨rC6, "PostingShelf$Ranking", ck_6, by decide, Or.inl wd_165, Or.inl rfl⟩
theorem fl_Re_9 : ev_fl "PostingShelf$Results" 9 7 0 := ⟨rC7, "PostingShelf$Results", ck_7, by decide, Or.inl wd_182, Or.inl rfl⟩
theorem fl_Re_15 : ev_fl "PostingShelf$Results" 15 7 1 := ⟨rC7, "PostingShelf$Results", ck_7, by decide, Or.inl wd_184, Or.inl rfl⟩
theorem fl_Re_18 : ev_fl "PostingShelf$Results" 18 7 2 := ⟨rC7, "PostingShelf$Results", ck_7, by decide, Or.inl wd_186, Or.inl rfl⟩
theorem lc_P_66 : ev_lc "PostingShelf" 66 M_St_isWord 1 := ⟨Or.inl wd_227, wd_229, wd_2, ⟨by decide, by decide⟩, by decide +kernel⟩
theorem lc_P_70 : ev_lc "PostingShelf" 70 M_St_stemOf 1 := ⟨Or.inl wd_232, wd_235, wd_2, ⟨by decide, by decide⟩, by decide +kernel⟩
theorem lc_St_39 : ev_lc "PostingShelf$Stemmer" 39 M_St_unpack 1 := ⟨Or.inl wd_236, wd_239, wd_2, ⟨by decide, by decide⟩, by decide +kernel⟩
theorem lc_St_43 : ev_lc "PostingShelf$Stemmer" 43 M_St_dropPlural 0 := ⟨Or.inl wd_332, wd_335, wd_2, ⟨by decide, by decide⟩, by decide +kernel⟩
theorem lc_St_46 : ev_lc "PostingShelf$Stemmer" 46 M_St_dropPastOrGerund 0 := ⟨Or.inl wd_365, wd_368, wd_2, ⟨by decide, by decide⟩, by decide +kernel⟩
theorem lc_St_49 : ev_lc "PostingShelf$Stemmer" 49 M_St_turnFinalY 0 := ⟨Or.inl wd_397, wd_400, wd_2, ⟨by decide, by decide⟩, by decide +kernel⟩
theorem lc_St_52 : ev_lc "PostingShelf$Stemmer" 52 M_St_packed 0 := ⟨Or.inl wd_402, wd_405, wd_2, ⟨by decide, by decide⟩, by decide +kernel⟩
theorem lc_St_58 : ev_lc "PostingShelf$Stemmer" 58 M_St_append 1 := ⟨Or.inl wd_241, wd_244, wd_2, ⟨by decide, by decide⟩, by decide +kernel⟩
theorem lc_St_64 : ev_lc "PostingShelf$Stemmer" 64 M_Str_indexOf 1 := ⟨Or.inl wd_246, wd_249, wd_13, ⟨by decide, by decide⟩, by decide +kernel⟩
theorem lc_Str_633 : ev_lc "java/lang/String" 633 M_Str_indexOf2 2 := ⟨Or.inl wd_250, wd_253, wd_13, ⟨by decide, by decide⟩, by decide +kernel⟩
theorem lc_Str_492 : ev_lc "java/lang/String" 492 M_Str_isLatin1 0 := ⟨Or.inl wd_254, wd_257, wd_13, ⟨by decide, by decide⟩, by decide +kernel⟩
theorem lc_Str_505 : ev_lc "java/lang/String" 505 M_Str_length 0 := ⟨Or.inl wd_260, wd_263, wd_13, ⟨by decide, by decide⟩, by decide +kernel⟩
theorem lc_Str_637 : ev_lc "java/lang/String" 637 M_Lat_indexOf 4 := ⟨Or.inl wd_268, wd_270, wd_14, ⟨by decide, by decide⟩, by decide +kernel⟩
theorem lc_Str_640 : ev_lc "java/lang/String" 640 M_Utf_indexOf 4 := ⟨Or.inl wd_283, wd_285, wd_16, ⟨by decide, by decide⟩, by decide +kernel⟩
theorem lc_Str_335 : ev_lc "java/lang/String" 335 M_Str_coder 0 := ⟨Or.inl wd_264, wd_267, wd_13, ⟨by decide, by decide⟩, by decide +kernel⟩
theorem lc_Lat_88 : ev_lc "java/lang/StringLatin1" 88 M_Lat_canEncode 1 := ⟨Or.inl wd_271, wd_273, wd_14, ⟨by decide, by decide⟩, by decide +kernel⟩
theorem lc_Lat_95 : ev_lc "java/lang/StringLatin1" 95 M_Lat_indexOfChar 4 := ⟨Or.inl wd_280, wd_282, wd_14, ⟨by decide, by decide⟩, by decide +kernel⟩
theorem lc_Utf_228 : ev_lc "java/lang/StringUTF16" 228 M_Utf_indexOfChar 4 := ⟨Or.inl wd_289, wd_291, wd_16, ⟨by decide, by decide⟩, by decide +kernel⟩
theorem lc_Utf_232 : ev_lc "java/lang/StringUTF16" 232 M_Utf_indexOfSupplementary 4 := ⟨Or.inl wd_318, wd_320, wd_16, ⟨by decide, by decide⟩, by decide +kernel⟩
theorem lc_Utf_96 : ev_lc "java/lang/StringUTF16" 96 M_Utf_checkBoundsBeginEnd 3 := ⟨Or.inl wd_292, wd_294, wd_16, ⟨by decide, by decide⟩, by decide +kernel⟩
theorem lc_Utf_244 : ev_lc "java/lang/StringUTF16" 244 M_Utf_indexOfCharUnsafe 4 := ⟨Or.inl wd_306, wd_308, wd_16, ⟨by decide, by decide⟩, by decide +kernel⟩
theorem lc_Utf_48 : ev_lc "java/lang/StringUTF16" 48 M_Utf_length 1 := ⟨Or.inl wd_295, wd_297, wd_16, ⟨by decide, by decide⟩, by decide +kernel⟩
theorem lc_Utf_241 : ev_lc "java/lang/StringUTF16" 241 M_Str_checkBoundsBeginEnd 3 := ⟨Or.inl wd_298, wd_300, wd_13, ⟨by decide, by decide⟩, by decide +kernel⟩
theorem lc_Str_1062 : ev_lc "java/lang/String" 1062 M_Pre_checkFromToIndex 4 := ⟨Or.inl wd_303, wd_305, wd_17, ⟨by decide, by decide⟩, by decide +kernel⟩
theorem lc_Utf_71 : ev_lc "java/lang/StringUTF16" 71 M_Utf_getChar 2 := ⟨Or.inl wd_309, wd_311, wd_16, ⟨by decide, by decide⟩, by decide +kernel⟩
theorem lc_Utf_164 : ev_lc "java/lang/StringUTF16" 164 M_Chr_isValidCodePoint 1 := ⟨Or.inl wd_321, wd_323, wd_18, ⟨by decide, by decide⟩, by decide +kernel⟩
theorem lc_Utf_157 : ev_lc "java/lang/StringUTF16" 157 M_Chr_highSurrogate 1 := ⟨Or.inl wd_324, wd_326, wd_18, ⟨by decide, by decide⟩, by decide +kernel⟩
theorem lc_Utf_161 : ev_lc "java/lang/StringUTF16" 161 M_Chr_lowSurrogate 1 := ⟨Or.inl wd_328, wd_330, wd_18, ⟨by decide, by decide⟩, by decide +kernel⟩
theorem lc_St_72 : ev_lc "PostingShelf$Stemmer" 72 M_St_endsIn 1 := ⟨Or.inl wd_337, wd_340, wd_2, ⟨by decide, by decide⟩, by decide +kernel⟩
theorem lc_St_113 : ev_lc "PostingShelf$Stemmer" 113 M_Str_length 0 := ⟨Or.inl wd_341, wd_263, wd_13, ⟨by decide, by decide⟩, by decide +kernel⟩
theorem lc_St_116 : ev_lc "PostingShelf$Stemmer" 116 M_Str_charAt 1 := ⟨Or.inl wd_342, wd_345, wd_13, ⟨by decide, by decide⟩, by decide +kernel⟩
theorem lc_Str_495 : ev_lc "java/lang/String" 495 M_Lat_charAt 2 := ⟨Or.inl wd_346, wd_348, wd_14, ⟨by decide, by decide⟩, by decide +kernel⟩
theorem lc_Str_498 : ev_lc "java/lang/String" 498 M_Utf_charAt 2 := ⟨Or.inl wd_355, wd_357, wd_16, ⟨by decide, by decide⟩, by decide +kernel⟩
theorem lc_Lat_9 : ev_lc "java/lang/StringLatin1" 9 M_Str_checkIndex 2 := ⟨Or.inl wd_349, wd_351, wd_13, ⟨by decide, by decide⟩, by decide +kernel⟩
theorem lc_Str_1059 : ev_lc "java/lang/String" 1059 M_Pre_checkIndex 3 := ⟨Or.inl wd_352, wd_354, wd_17, ⟨by decide, by decide⟩, by decide +kernel⟩
theorem lc_Utf_67 : ev_lc "java/lang/StringUTF16" 67 M_Utf_checkIndex 2 := ⟨Or.inl wd_358, wd_360, wd_16, ⟨by decide, by decide⟩, by decide +kernel⟩
theorem lc_Utf_414 : ev_lc "java/lang/StringUTF16" 414 M_Str_checkIndex 2 := ⟨Or.inl wd_361, wd_351, wd_13, ⟨by decide, by decide⟩, by decide +kernel⟩
theorem lc_St_84 : ev_lc "PostingShelf$Stemmer" 84 M_St_measure 1 := ⟨Or.inl wd_370, wd_373, wd_2, ⟨by decide, by decide⟩, by decide +kernel⟩
theorem lc_St_91 : ev_lc "PostingShelf$Stemmer" 91 M_St_hasVowel 1 := ⟨Or.inl wd_376, wd_379, wd_2, ⟨by decide, by decide⟩, by decide +kernel⟩
theorem lc_St_95 : ev_lc "PostingShelf$Stemmer" 95 M_St_mendEnd 0 := ⟨Or.inl wd_380, wd_383, wd_2, ⟨by decide, by decide⟩, by decide +kernel⟩
theorem lc_St_104 : ev_lc "PostingShelf$Stemmer" 104 M_St_endsInDouble 0 := ⟨Or.inl wd_387, wd_390, wd_2, ⟨by decide, by decide⟩, by decide +kernel⟩
theorem lc_St_108 : ev_lc "PostingShelf$Stemmer" 108 M_St_endsShort 0 := ⟨Or.inl wd_392, wd_395, wd_2, ⟨by decide, by decide⟩, by decide +kernel⟩
theorem fl_P_74 : ev_fl "PostingShelf" 74 4 2 := ⟨rC4, "PostingShelf$Machine", ck_4, by decide, Or.inr ⟨_, wd_125⟩, Or.inl rfl⟩
theorem lc_P_78 : ev_lc "PostingShelf" 78 M_St_termOf 1 := ⟨Or.inl wd_411, wd_414, wd_2, ⟨by decide, by decide⟩, by decide +kernel⟩
theorem lc_St_31 : ev_lc "PostingShelf$Stemmer" 31 M_St_isStopWord 1 := ⟨Or.inl wd_415, wd_417, wd_2, ⟨by decide, by decide⟩, by decide +kernel⟩
theorem lc_St_35 : ev_lc "PostingShelf$Stemmer" 35 M_St_stemOf 1 := ⟨Or.inl wd_420, wd_235, wd_2, ⟨by decide, by decide⟩, by decide +kernel⟩
theorem lc_P_81 : ev_lc "PostingShelf" 81 M_P_isId 1 := ⟨Or.inl wd_425, wd_427, wd_1, ⟨by decide, by decide⟩, by decide +kernel⟩
theorem lc_P_87 : ev_lc "PostingShelf" 87 M_Arr_copyOf 2 := ⟨Or.inl wd_430, wd_432, wd_20, ⟨by decide, by decide⟩, by decide +kernel⟩
theorem lc_P_93 : ev_lc "PostingShelf" 93 M_D_init 2 := ⟨Or.inl wd_444, wd_446, wd_19, ⟨by decide, by decide⟩, by decide +kernel⟩
theorem lc_P_96 : ev_lc "PostingShelf" 96 M_Pe_putDocument 1 := ⟨Or.inl wd_460, wd_463, wd_3, ⟨by decide, by decide⟩, by decide +kernel⟩
theorem lc_P_100 : ev_lc "PostingShelf" 100 M_Pe_idCount 0 := ⟨Or.inl wd_546, wd_549, wd_3, ⟨by decide, by decide⟩, by decide +kernel⟩
theorem fl_D_9 : ev_fl "PostingShelf$Document" 9 8 0 := ⟨rC8, "PostingShelf$Document", ck_8, by decide, Or.inl wd_448, Or.inl rfl⟩
theorem fl_D_15 : ev_fl "PostingShelf$Document" 15 8 1 := ⟨rC8, "PostingShelf$Document", ck_8, by decide, Or.inl wd_454, Or.inl rfl⟩
theorem fl_Pe_26 : ev_fl "PostingShelf$Pending" 26 8 0 := ⟨rC8, "PostingShelf$Document", ck_8, by decide, Or.inr ⟨_, wd_451⟩, Or.inl rfl⟩
theorem lc_Pe_31 : ev_lc "PostingShelf$Pending" 31 M_Pe_dropDocument 1 := ⟨Or.inl wd_464, wd_467, wd_3, ⟨by decide, by decide⟩, by decide +kernel⟩
theorem lc_Pe_35 : ev_lc "PostingShelf$Pending" 35 M_AL_add 1 := ⟨Or.inl wd_494, wd_497, wd_6, ⟨by decide, by decide⟩, by decide +kernel⟩
theorem lc_Pe_39 : ev_lc "PostingShelf$Pending" 39 M_AL_size 0 := ⟨Or.inl wd_468, wd_471, wd_6, ⟨by decide, by decide⟩, by decide +kernel⟩
theorem lc_Pe_43 : ev_lc "PostingShelf$Pending" 43 M_AL_get 1 := ⟨Or.inl wd_472, wd_475, wd_6, ⟨by decide, by decide⟩, by decide +kernel⟩
theorem lc_Pe_47 : ev_lc "PostingShelf$Pending" 47 M_AL_remove 1 := ⟨Or.inl wd_485, wd_488, wd_6, ⟨by decide, by decide⟩, by decide +kernel⟩
theorem fl_AL_48 : ev_fl "java/util/ArrayList" 48 12 1 := ⟨rC12, "java/util/ArrayList", ck_12, by decide, Or.inl wd_74, Or.inl rfl⟩
theorem lc_AL_118 : ev_lc "java/util/ArrayList" 118 M_Obs_checkIndex 2 := ⟨Or.inl wd_476, wd_478, wd_22, ⟨by decide, by decide⟩, by decide +kernel⟩
theorem lc_AL_123 : ev_lc "java/util/ArrayList" 123 M_AL_elementData 1 := ⟨Or.inl wd_480, wd_483, wd_6, ⟨by decide, by decide⟩, by decide +kernel⟩
theorem lc_Obs_105 : ev_lc "java/util/Objects" 105 M_Pre_checkIndex 3 := ⟨Or.inl wd_479, wd_354, wd_17, ⟨by decide, by decide⟩, by decide +kernel⟩
theorem lc_AL_144 : ev_lc "java/util/ArrayList" 144 M_AL_fastRemove 2 := ⟨Or.inl wd_489, wd_492, wd_6, ⟨by decide, by decide⟩, by decide +kernel⟩
theorem fl_AL_63 : ev_fl "java/util/ArrayList" 63 12 2 := ⟨rC12, "java/util/ArrayList", ck_12, by decide, Or.inl wd_76, Or.inr wd_77⟩
theorem lc_AL_131 : ev_lc "java/util/ArrayList" 131 M_AL_add2 3 := ⟨Or.inl wd_498, wd_501, wd_6, ⟨by decide, by decide⟩, by decide +kernel⟩
theorem lc_AL_129 : ev_lc "java/util/ArrayList" 129 M_AL_grow 0 := ⟨Or.inl wd_502, wd_505, wd_6, ⟨by decide, by decide⟩, by decide +kernel⟩
theorem lc_AL_69 : ev_lc "java/util/ArrayList" 69 M_AL_grow2 1 := ⟨Or.inl wd_506, wd_509, wd_6, ⟨by decide, by decide⟩, by decide +kernel⟩
theorem lc_AL_73 : ev_lc "java/util/ArrayList" 73 M_ASup_newLength 3 := ⟨Or.inl wd_510, wd_512, wd_23, ⟨by decide, by decide⟩, by decide +kernel⟩
theorem lc_AL_66 : ev_lc "java/util/ArrayList" 66 M_Arr_copyOf2 2 := ⟨Or.inl wd_518, wd_520, wd_20, ⟨by decide, by decide⟩, by decide +kernel⟩
theorem lc_ASup_201 : ev_lc "jdk/internal/util/ArraysSupport" 201 M_ASup_hugeLength 2 := ⟨Or.inl wd_515, wd_517, wd_23, ⟨by decide, by decide⟩, by decide +kernel⟩
theorem lc_Arr_300 : ev_lc "java/util/Arrays" 300 M_Arr_copyOf3 3 := ⟨Or.inl wd_538, wd_540, wd_20, ⟨by decide, by decide⟩, by decide +kernel⟩
theorem lc_Pe_20 : ev_lc "PostingShelf$Pending" 20 M_Int_bitCount 1 := ⟨Or.inl wd_550, wd_552, wd_24, ⟨by decide, by decide⟩, by decide +kernel⟩
theorem lc_P_104 : ev_lc "PostingShelf" 104 M_Pe_putDeletion 1 := ⟨Or.inl wd_560, wd_563, wd_3, ⟨by decide, by decide⟩, by decide +kernel⟩
theorem fl_P_108 : ev_fl "PostingShelf" 108 2 0 := ⟨rC2, "PostingShelf$Pending", ck_2, by decide, Or.inr ⟨_, wd_88⟩, Or.inl rfl⟩
theorem lc_P_112 : ev_lc "PostingShelf" 112 M_AL_isEmpty 0 := ⟨Or.inl wd_568, wd_571, wd_6, ⟨by decide, by decide⟩, by decide +kernel⟩
theorem fl_P_118 : ev_fl "PostingShelf" 118 3 0 := ⟨rC3, "PostingShelf$Shelf", ck_3, by decide, Or.inr ⟨_, wd_106⟩, Or.inl rfl⟩
theorem lc_P_121 : ev_lc "PostingShelf" 121 M_AL_size 0 := ⟨Or.inl wd_572, wd_471, wd_6, ⟨by decide, by decide⟩, by decide +kernel⟩
theorem fl_P_124 : ev_fl "PostingShelf" 124 2 1 := ⟨rC2, "PostingShelf$Pending", ck_2, by decide, Or.inr ⟨_, wd_91⟩, Or.inl rfl⟩
theorem lc_P_127 : ev_lc "PostingShelf" 127 M_Sh_hasLiveAmong 1 := ⟨Or.inl wd_573, wd_576, wd_7, ⟨by decide, by decide⟩, by decide +kernel⟩
theorem lc_P_130 : ev_lc "PostingShelf" 130 M_Ma_writeBlocks 1 := ⟨Or.inl wd_583, wd_586, wd_8, ⟨by decide, by decide⟩, by decide +kernel⟩
theorem lc_P_133 : ev_lc "PostingShelf" 133 M_Sh_takeIn 1 := ⟨Or.inl wd_591, wd_594, wd_7, ⟨by decide, by decide⟩, by decide +kernel⟩
theorem lc_P_137 : ev_lc "PostingShelf" 137 M_Pe_clear 0 := ⟨Or.inl wd_636, wd_639, wd_3, ⟨by decide, by decide⟩, by decide +kernel⟩
theorem lc_P_140 : ev_lc "PostingShelf" 140 M_P_goDown 0 := ⟨Or.inl wd_644, wd_647, wd_1, ⟨by decide, by decide⟩, by decide +kernel⟩
theorem fl_P_143 : ev_fl "PostingShelf" 143 3 1 := ⟨rC3, "PostingShelf$Shelf", ck_3, by decide, Or.inr ⟨_, wd_108⟩, Or.inl rfl⟩
theorem lc_Sh_19 : ev_lc "PostingShelf$Shelf" 19 M_AL_size 0 := ⟨Or.inl wd_577, wd_471, wd_6, ⟨by decide, by decide⟩, by decide +kernel⟩
theorem lc_Sh_23 : ev_lc "PostingShelf$Shelf" 23 M_AL_get 1 := ⟨Or.inl wd_578, wd_475, wd_6, ⟨by decide, by decide⟩, by decide +kernel⟩
theorem fl_Sh_29 : ev_fl "PostingShelf$Shelf" 29 8 0 := ⟨rC8, "PostingShelf$Document", ck_8, by decide, Or.inr ⟨_, wd_450⟩, Or.inl rfl⟩
theorem lc_Sh_33 : ev_lc "PostingShelf$Shelf" 33 M_P_isAmong 2 := ⟨Or.inr ⟨_, wd_580⟩, wd_582, wd_1, ⟨by decide, by decide⟩, by decide +kernel⟩
theorem lc_Ma_20 : ev_lc "PostingShelf$Machine" 20 M_Ma_writeBlock 0 := ⟨Or.inl wd_587, wd_590, wd_8, ⟨by decide, by decide⟩, by decide +kernel⟩
theorem fl_Sh_39 : ev_fl "PostingShelf$Shelf" 39 2 1 := ⟨rC2, "PostingShelf$Pending", ck_2, by decide, Or.inr ⟨_, wd_90⟩, Or.inl rfl⟩
theorem lc_Sh_44 : ev_lc "PostingShelf$Shelf" 44 M_Sh_markDeleted 1 := ⟨Or.inl wd_595, wd_598, wd_7, ⟨by decide, by decide⟩, by decide +kernel⟩
theorem fl_Sh_48 : ev_fl "PostingShelf$Shelf" 48 2 0 := ⟨rC2, "PostingShelf$Pending", ck_2, by decide, Or.inr ⟨_, wd_87⟩, Or.inl rfl⟩
theorem lc_Sh_51 : ev_lc "PostingShelf$Shelf" 51 M_AL_isEmpty 0 := ⟨Or.inl wd_601, wd_571, wd_6, ⟨by decide, by decide⟩, by decide +kernel⟩
theorem lc_Sh_55 : ev_lc "PostingShelf$Shelf" 55 M_Sh_appendSegment 1 := ⟨Or.inl wd_602, wd_605, wd_7, ⟨by decide, by decide⟩, by decide +kernel⟩
theorem fl_Sh_61 : ev_fl "PostingShelf$Shelf" 61 9 1 := ⟨rC9, "PostingShelf$Segment", ck_9, by decide, Or.inr ⟨_, wd_617⟩, Or.inl rfl⟩
theorem lc_Sh_64 : ev_lc "PostingShelf$Shelf" 64 M_AL_remove 1 := ⟨Or.inl wd_600, wd_488, wd_6, ⟨by decide, by decide⟩, by decide +kernel⟩
theorem lc_Sh_67 : ev_lc "PostingShelf$Shelf" 67 M_Sg_init 0 := ⟨Or.inr ⟨_, wd_607⟩, wd_609, wd_25, ⟨by decide, by decide⟩, by decide +kernel⟩
theorem fl_Sh_68 : ev_fl "PostingShelf$Shelf" 68 9 0 := ⟨rC9, "PostingShelf$Segment", ck_9, by decide, Or.inr ⟨_, wd_614⟩, Or.inl rfl⟩
theorem lc_Sh_69 : ev_lc "PostingShelf$Shelf" 69 M_AL_add 1 := ⟨Or.inl wd_623, wd_497, wd_6, ⟨by decide, by decide⟩, by decide +kernel⟩
theorem lc_Sh_73 : ev_lc "PostingShelf$Shelf" 73 M_Sh_insertLive 1 := ⟨Or.inl wd_624, wd_627, wd_7, ⟨by decide, by decide⟩, by decide +kernel⟩
theorem lc_Sg_9 : ev_lc "PostingShelf$Segment" 9 M_AL_init 0 := ⟨Or.inl wd_612, wd_63, wd_6, ⟨by decide, by decide⟩, by decide +kernel⟩
theorem fl_Sg_10 : ev_fl "PostingShelf$Segment" 10 9 0 := ⟨rC9, "PostingShelf$Segment", ck_9, by decide, Or.inl wd_613, Or.inl rfl⟩
theorem fl_Sg_16 : ev_fl "PostingShelf$Segment" 16 9 1 := ⟨rC9, "PostingShelf$Segment", ck_9, by decide, Or.inl wd_616, Or.inl rfl⟩
theorem lc_Sh_77 : ev_lc "PostingShelf$Shelf" 77 M_AL_add3 2 := ⟨Or.inl wd_628, wd_631, wd_6, ⟨by decide, by decide⟩, by decide +kernel⟩
theorem lc_AL_135 : ev_lc "java/util/ArrayList" 135 M_AL_rangeCheckForAdd 1 := ⟨Or.inl wd_632, wd_635, wd_6, ⟨by decide, by decide⟩, by decide +kernel⟩
theorem lc_Pe_50 : ev_lc "PostingShelf$Pending" 50 M_AL_clear 0 := ⟨Or.inl wd_640, wd_643, wd_6, ⟨by decide, by decide⟩, by decide +kernel⟩
theorem lc_P_185 : ev_lc "PostingShelf" 185 M_Qs_clear 0 := ⟨Or.inl wd_648, wd_651, wd_9, ⟨by decide, by decide⟩, by decide +kernel⟩
theorem lc_Qs_26 : ev_lc "PostingShelf$QueryStack" 26 M_AL_clear 0 := ⟨Or.inl wd_652, wd_643, wd_6, ⟨by decide, by decide⟩, by decide +kernel⟩
theorem lc_P_146 : ev_lc "PostingShelf" 146 M_Sh_joinedFrom 1 := ⟨Or.inl wd_657, wd_660, wd_7, ⟨by decide, by decide⟩, by decide +kernel⟩
theorem fl_P_150 : ev_fl "PostingShelf" 150 9 0 := ⟨rC9, "PostingShelf$Segment", ck_9, by decide, Or.inr ⟨_, wd_615⟩, Or.inl rfl⟩
theorem lc_P_153 : ev_lc "PostingShelf" 153 M_Sh_replaceTwo 2 := ⟨Or.inl wd_674, wd_677, wd_7, ⟨by decide, by decide⟩, by decide +kernel⟩
theorem lc_Sh_80 : ev_lc "PostingShelf$Shelf" 80 M_Sg_copyLive 1 := ⟨Or.inl wd_661, wd_664, wd_25, ⟨by decide, by decide⟩, by decide +kernel⟩
theorem lc_Sg_35 : ev_lc "PostingShelf$Segment" 35 M_AL_size 0 := ⟨Or.inl wd_665, wd_471, wd_6, ⟨by decide, by decide⟩, by decide +kernel⟩
theorem lc_Sg_39 : ev_lc "PostingShelf$Segment" 39 M_Sg_isLive 1 := ⟨Or.inl wd_666, wd_669, wd_25, ⟨by decide, by decide⟩, by decide +kernel⟩
theorem lc_Sg_20 : ev_lc "PostingShelf$Segment" 20 M_AL_get 1 := ⟨Or.inl wd_670, wd_475, wd_6, ⟨by decide, by decide⟩, by decide +kernel⟩
theorem lc_Sg_43 : ev_lc "PostingShelf$Segment" 43 M_AL_add 1 := ⟨Or.inl wd_673, wd_497, wd_6, ⟨by decide, by decide⟩, by decide +kernel⟩
theorem fl_Sg_26 : ev_fl "PostingShelf$Segment" 26 8 0 := ⟨rC8, "PostingShelf$Document", ck_8, by decide, Or.inr ⟨_, wd_449⟩, Or.inl rfl⟩
theorem lc_Sg_29 : ev_lc "PostingShelf$Segment" 29 M_P_isAmong 2 := ⟨Or.inr ⟨_, wd_672⟩, wd_582, wd_1, ⟨by decide, by decide⟩, by decide +kernel⟩
theorem lc_Sh_83 : ev_lc "PostingShelf$Shelf" 83 M_AL_set 2 := ⟨Or.inl wd_678, wd_681, wd_6, ⟨by decide, by decide⟩, by decide +kernel⟩
theorem fl_P_157 : ev_fl "PostingShelf" 157 4 1 := ⟨rC4, "PostingShelf$Machine", ck_4, by decide, Or.inr ⟨_, wd_123⟩, Or.inl rfl⟩
theorem fl_P_160 : ev_fl "PostingShelf" 160 5 2 := ⟨rC5, "PostingShelf$QueryStack", ck_5, by decide, Or.inr ⟨_, wd_145⟩, Or.inl rfl⟩
theorem lc_P_163 : ev_lc "PostingShelf" 163 M_Qs_pushTerm 1 := ⟨Or.inl wd_694, wd_697, wd_9, ⟨by decide, by decide⟩, by decide +kernel⟩
theorem lc_Qs_57 : ev_lc "PostingShelf$QueryStack" 57 M_Sp_init 2 := ⟨Or.inl wd_700, wd_702, wd_26, ⟨by decide, by decide⟩, by decide +kernel⟩
theorem lc_Qs_60 : ev_lc "PostingShelf$QueryStack" 60 M_Qs_push 3 := ⟨Or.inl wd_713, wd_716, wd_9, ⟨by decide, by decide⟩, by decide +kernel⟩
theorem fl_Sp_7 : ev_fl "PostingShelf$Step" 7 10 0 := ⟨rC10, "PostingShelf$Step", ck_10, by decide, Or.inl wd_704, Or.inl rfl⟩
theorem fl_Sp_13 : ev_fl "PostingShelf$Step" 13 10 1 := ⟨rC10, "PostingShelf$Step", ck_10, by decide, Or.inl wd_706, Or.inl rfl⟩
theorem lc_Qs_71 : ev_lc "PostingShelf$QueryStack" 71 M_AL_add 1 := ⟨Or.inl wd_717, wd_497, wd_6, ⟨by decide, by decide⟩, by decide +kernel⟩
theorem lc_P_167 : ev_lc "PostingShelf" 167 M_Qs_areTerms 1 := ⟨Or.inl wd_722, wd_725, wd_9, ⟨by decide, by decide⟩, by decide +kernel⟩
theorem lc_P_170 : ev_lc "PostingShelf" 170 M_Qs_makePhrase 1 := ⟨Or.inl wd_731, wd_734, wd_9, ⟨by decide, by decide⟩, by decide +kernel⟩
theorem lc_Qs_29 : ev_lc "PostingShelf$QueryStack" 29 M_Qs_deepest 1 := ⟨Or.inl wd_726, wd_729, wd_9, ⟨by decide, by decide⟩, by decide +kernel⟩
theorem lc_Qs_64 : ev_lc "PostingShelf$QueryStack" 64 M_AL_isEmpty 0 := ⟨Or.inl wd_735, wd_571, wd_6, ⟨by decide, by decide⟩, by decide +kernel⟩
theorem lc_Qs_39 : ev_lc "PostingShelf$QueryStack" 39 M_AL_size 0 := ⟨Or.inl wd_736, wd_471, wd_6, ⟨by decide, by decide⟩, by decide +kernel⟩
theorem lc_Qs_68 : ev_lc "PostingShelf$QueryStack" 68 M_AL_remove 1 := ⟨Or.inl wd_737, wd_488, wd_6, ⟨by decide, by decide⟩, by decide +kernel⟩
theorem lc_Qs_49 : ev_lc "PostingShelf$QueryStack" 49 M_Qs_firstTerm 1 := ⟨Or.inl wd_738, wd_741, wd_9, ⟨by decide, by decide⟩, by decide +kernel⟩
theorem fl_Qs_53 : ev_fl "PostingShelf$QueryStack" 53 10 1 := ⟨rC10, "PostingShelf$Step", ck_10, by decide, Or.inr ⟨_, wd_707⟩, Or.inl rfl⟩
theorem lc_P_174 : ev_lc "PostingShelf" 174 M_Qs_deepest 1 := ⟨Or.inl wd_746, wd_729, wd_9, ⟨by decide, by decide⟩, by decide +kernel⟩
theorem lc_P_177 : ev_lc "PostingShelf" 177 M_Qs_makeJoin 2 := ⟨Or.inl wd_747, wd_750, wd_9, ⟨by decide, by decide⟩, by decide +kernel⟩
theorem lc_P_181 : ev_lc "PostingShelf" 181 M_Re_clear 0 := ⟨Or.inl wd_755, wd_758, wd_11, ⟨by decide, by decide⟩, by decide +kernel⟩
theorem lc_P_182 : ev_lc "PostingShelf" 182 M_P_collectMatches 0 := ⟨Or.inl wd_759, wd_762, wd_1, ⟨by decide, by decide⟩, by decide +kernel⟩
theorem fl_P_186 : ev_fl "PostingShelf" 186 7 2 := ⟨rC7, "PostingShelf$Results", ck_7, by decide, Or.inr ⟨_, wd_187⟩, Or.inl rfl⟩
theorem lc_P_223 : ev_lc "PostingShelf" 223 M_AL_get 1 := ⟨Or.inl wd_763, wd_475, wd_6, ⟨by decide, by decide⟩, by decide +kernel⟩
theorem lc_P_230 : ev_lc "PostingShelf" 230 M_Qs_matches 1 := ⟨Or.inl wd_764, wd_767, wd_9, ⟨by decide, by decide⟩, by decide +kernel⟩
theorem fl_P_234 : ev_fl "PostingShelf" 234 8 0 := ⟨rC8, "PostingShelf$Document", ck_8, by decide, Or.inr ⟨_, wd_453⟩, Or.inl rfl⟩
theorem lc_P_237 : ev_lc "PostingShelf" 237 M_Re_insert 3 := ⟨Or.inl wd_780, wd_783, wd_11, ⟨by decide, by decide⟩, by decide +kernel⟩
theorem lc_Qs_43 : ev_lc "PostingShelf$QueryStack" 43 M_AL_get 1 := ⟨Or.inl wd_768, wd_475, wd_6, ⟨by decide, by decide⟩, by decide +kernel⟩
theorem lc_Qs_75 : ev_lc "PostingShelf$QueryStack" 75 M_Qs_answersBehind 3 := ⟨Or.inl wd_769, wd_771, wd_9, ⟨by decide, by decide⟩, by decide +kernel⟩
theorem fl_Qs_79 : ev_fl "PostingShelf$QueryStack" 79 10 0 := ⟨rC10, "PostingShelf$Step", ck_10, by decide, Or.inr ⟨_, wd_705⟩, Or.inl rfl⟩
theorem lc_Qs_82 : ev_lc "PostingShelf$QueryStack" 82 M_D_hasRow 1 := ⟨Or.inl wd_772, wd_775, wd_19, ⟨by decide, by decide⟩, by decide +kernel⟩
theorem lc_D_23 : ev_lc "PostingShelf$Document" 23 M_D_hasRowAt 2 := ⟨Or.inl wd_776, wd_779, wd_19, ⟨by decide, by decide⟩, by decide +kernel⟩
theorem lc_P_189 : ev_lc "PostingShelf" 189 M_Ra_clear 0 := ⟨Or.inl wd_789, wd_792, wd_10, ⟨by decide, by decide⟩, by decide +kernel⟩
theorem lc_P_190 : ev_lc "PostingShelf" 190 M_Ra_weighBag 2 := ⟨Or.inl wd_793, wd_796, wd_10, ⟨by decide, by decide⟩, by decide +kernel⟩
theorem lc_P_194 : ev_lc "PostingShelf" 194 M_Ra_chooseBest 3 := ⟨Or.inl wd_828, wd_831, wd_10, ⟨by decide, by decide⟩, by decide +kernel⟩
theorem lc_Ra_27 : ev_lc "PostingShelf$Ranking" 27 M_P_totalLength 1 := ⟨Or.inr ⟨_, wd_797⟩, wd_799, wd_1, ⟨by decide, by decide⟩, by decide +kernel⟩
theorem fl_Ra_31 : ev_fl "PostingShelf$Ranking" 31 5 2 := ⟨rC5, "PostingShelf$QueryStack", ck_5, by decide, Or.inr ⟨_, wd_144⟩, Or.inl rfl⟩
theorem lc_Ra_42 : ev_lc "PostingShelf$Ranking" 42 M_Qs_termAt 1 := ⟨Or.inl wd_805, wd_808, wd_9, ⟨by decide, by decide⟩, by decide +kernel⟩
theorem lc_Ra_46 : ev_lc "PostingShelf$Ranking" 46 M_Ra_weighTerm 4 := ⟨Or.inl wd_809, wd_812, wd_10, ⟨by decide, by decide⟩, by decide +kernel⟩
theorem lc_P_227 : ev_lc "PostingShelf" 227 M_D_length 0 := ⟨Or.inl wd_800, wd_803, wd_19, ⟨by decide, by decide⟩, by decide +kernel⟩
theorem lc_Ra_50 : ev_lc "PostingShelf$Ranking" 50 M_AL_size 0 := ⟨Or.inl wd_813, wd_471, wd_6, ⟨by decide, by decide⟩, by decide +kernel⟩
theorem lc_Ra_56 : ev_lc "PostingShelf$Ranking" 56 M_Ra_holders 2 := ⟨Or.inl wd_814, wd_816, wd_10, ⟨by decide, by decide⟩, by decide +kernel⟩
theorem lc_Ra_60 : ev_lc "PostingShelf$Ranking" 60 M_Ra_rarity 2 := ⟨Or.inl wd_823, wd_825, wd_10, ⟨by decide, by decide⟩, by decide +kernel⟩
theorem lc_Ra_63 : ev_lc "PostingShelf$Ranking" 63 M_AL_get 1 := ⟨Or.inl wd_817, wd_475, wd_6, ⟨by decide, by decide⟩, by decide +kernel⟩
theorem lc_Ra_69 : ev_lc "PostingShelf$Ranking" 69 M_D_timesOf 1 := ⟨Or.inl wd_819, wd_822, wd_19, ⟨by decide, by decide⟩, by decide +kernel⟩
theorem lc_Ra_73 : ev_lc "PostingShelf$Ranking" 73 M_D_length 0 := ⟨Or.inl wd_826, wd_803, wd_19, ⟨by decide, by decide⟩, by decide +kernel⟩
theorem lc_Ra_79 : ev_lc "PostingShelf$Ranking" 79 M_Ra_hasTermOfBag 1 := ⟨Or.inl wd_832, wd_835, wd_10, ⟨by decide, by decide⟩, by decide +kernel⟩
theorem lc_Ra_83 : ev_lc "PostingShelf$Ranking" 83 M_Ra_boundOf 1 := ⟨Or.inl wd_836, wd_839, wd_10, ⟨by decide, by decide⟩, by decide +kernel⟩
theorem lc_Ra_87 : ev_lc "PostingShelf$Ranking" 87 M_Re_leastWeight 0 := ⟨Or.inl wd_840, wd_843, wd_11, ⟨by decide, by decide⟩, by decide +kernel⟩
theorem fl_Ra_92 : ev_fl "PostingShelf$Ranking" 92 8 0 := ⟨rC8, "PostingShelf$Document", ck_8, by decide, Or.inr ⟨_, wd_452⟩, Or.inl rfl⟩
theorem lc_Ra_95 : ev_lc "PostingShelf$Ranking" 95 M_Ra_weightOf 1 := ⟨Or.inl wd_844, wd_847, wd_10, ⟨by decide, by decide⟩, by decide +kernel⟩
theorem lc_Ra_98 : ev_lc "PostingShelf$Ranking" 98 M_Re_insert 3 := ⟨Or.inl wd_848, wd_783, wd_11, ⟨by decide, by decide⟩, by decide +kernel⟩
theorem lc_P_198 : ev_lc "PostingShelf" 198 M_Re_has 1 := ⟨Or.inl wd_853, wd_856, wd_11, ⟨by decide, by decide⟩, by decide +kernel⟩
theorem fl_P_201 : ev_fl "PostingShelf" 201 7 0 := ⟨rC7, "PostingShelf$Results", ck_7, by decide, Or.inr ⟨_, wd_183⟩, Or.inl rfl⟩
theorem fl_P_204 : ev_fl "PostingShelf" 204 7 1 := ⟨rC7, "PostingShelf$Results", ck_7, by decide, Or.inr ⟨_, wd_185⟩, Or.inl rfl⟩
theorem fl_P_207 : ev_fl "PostingShelf" 207 6 3 := ⟨rC6, "PostingShelf$Ranking", ck_6, by decide, Or.inr ⟨_, wd_166⟩, Or.inl rfl⟩
theorem lc_P_210 : ev_lc "PostingShelf" 210 M_Sh_documentCount 0 := ⟨Or.inl wd_869, wd_872, wd_7, ⟨by decide, by decide⟩, by decide +kernel⟩
theorem lc_P_213 : ev_lc "PostingShelf" 213 M_P_totalLength 1 := ⟨Or.inl wd_873, wd_799, wd_1, ⟨by decide, by decide⟩, by decide +kernel⟩
theorem fl_P_217 : ev_fl "PostingShelf" 217 4 0 := ⟨rC4, "PostingShelf$Machine", ck_4, by decide, Or.inr ⟨_, wd_121⟩, Or.inl rfl⟩
theorem lc_P_220 : ev_lc "PostingShelf" 220 M_Sh_entryCount 0 := ⟨Or.inl wd_874, wd_877, wd_7, ⟨by decide, by decide⟩, by decide +kernel⟩
theorem lc_Sh_87 : ev_lc "PostingShelf$Shelf" 87 M_Sg_entryCount 0 := ⟨Or.inl wd_878, wd_881, wd_25, ⟨by decide, by decide⟩, by decide +kernel⟩
theorem lc_Sg_47 : ev_lc "PostingShelf$Segment" 47 M_D_differentTerms 0 := ⟨Or.inl wd_882, wd_885, wd_19, ⟨by decide, by decide⟩, by decide +kernel⟩
theorem lc_D_19 : ev_lc "PostingShelf$Document" 19 M_D_isFirst 1 := ⟨Or.inl wd_886, wd_889, wd_19, ⟨by decide, by decide⟩, by decide +kernel⟩
theorem fl_Mo_7 : ev_fl "PostingShelfModel" 7 11 0 := ⟨rC11, "PostingShelfModel", ck_11, by decide, Or.inl wd_896, Or.inl rfl⟩
theorem fl_Mo_13 : ev_fl "PostingShelfModel" 13 11 2 := ⟨rC11, "PostingShelfModel", ck_11, by decide, Or.inl wd_898, Or.inl rfl⟩
theorem fl_Mo_17 : ev_fl "PostingShelfModel" 17 11 3 := ⟨rC11, "PostingShelfModel", ck_11, by decide, Or.inl wd_899, Or.inl rfl⟩
theorem fl_Mo_20 : ev_fl "PostingShelfModel" 20 11 4 := ⟨rC11, "PostingShelfModel", ck_11, by decide, Or.inl wd_900, Or.inl rfl⟩
theorem fl_Mo_23 : ev_fl "PostingShelfModel" 23 11 6 := ⟨rC11, "PostingShelfModel", ck_11, by decide, Or.inl wd_902, Or.inl rfl⟩
theorem fl_Mo_26 : ev_fl "PostingShelfModel" 26 11 7 := ⟨rC11, "PostingShelfModel", ck_11, by decide, Or.inl wd_903, Or.inl rfl⟩
theorem fl_Mo_29 : ev_fl "PostingShelfModel" 29 11 8 := ⟨rC11, "PostingShelfModel", ck_11, by decide, Or.inl wd_904, Or.inl rfl⟩
theorem fl_Mo_33 : ev_fl "PostingShelfModel" 33 11 9 := ⟨rC11, "PostingShelfModel", ck_11, by decide, Or.inl wd_905, Or.inl rfl⟩
theorem fl_Mo_36 : ev_fl "PostingShelfModel" 36 11 10 := ⟨rC11, "PostingShelfModel", ck_11, by decide, Or.inl wd_906, Or.inl rfl⟩
theorem fl_Mo_39 : ev_fl "PostingShelfModel" 39 11 16 := ⟨rC11, "PostingShelfModel", ck_11, by decide, Or.inl wd_912, Or.inl rfl⟩
theorem fl_Mo_42 : ev_fl "PostingShelfModel" 42 11 17 := ⟨rC11, "PostingShelfModel", ck_11, by decide, Or.inl wd_913, Or.inl rfl⟩
theorem fl_Mo_45 : ev_fl "PostingShelfModel" 45 11 19 := ⟨rC11, "PostingShelfModel", ck_11, by decide, Or.inl wd_915, Or.inl rfl⟩
theorem fl_Mo_48 : ev_fl "PostingShelfModel" 48 11 20 := ⟨rC11, "PostingShelfModel", ck_11, by decide, Or.inl wd_916, Or.inl rfl⟩
theorem fl_Mo_51 : ev_fl "PostingShelfModel" 51 11 21 := ⟨rC11, "PostingShelfModel", ck_11, by decide, Or.inl wd_917, Or.inl rfl⟩
theorem fl_Mo_54 : ev_fl "PostingShelfModel" 54 11 23 := ⟨rC11, "PostingShelfModel", ck_11, by decide, Or.inl wd_919, Or.inl rfl⟩
theorem fl_Mo_57 : ev_fl "PostingShelfModel" 57 11 24 := ⟨rC11, "PostingShelfModel", ck_11, by decide, Or.inl wd_920, Or.inl rfl⟩
theorem fl_Mo_60 : ev_fl "PostingShelfModel" 60 11 26 := ⟨rC11, "PostingShelfModel", ck_11, by decide, Or.inl wd_922, Or.inl rfl⟩
theorem fl_Mo_63 : ev_fl "PostingShelfModel" 63 11 27 := ⟨rC11, "PostingShelfModel", ck_11, by decide, Or.inl wd_923, Or.inl rfl⟩
theorem fl_Mo_66 : ev_fl "PostingShelfModel" 66 11 28 := ⟨rC11, "PostingShelfModel", ck_11, by decide, Or.inl wd_924, Or.inl rfl⟩
theorem lc_Mo_122 : ev_lc "PostingShelfModel" 122 M_Mo_isWord 1 := ⟨Or.inl wd_988, wd_990, wd_12, ⟨by decide, by decide⟩, by decide +kernel⟩
theorem lc_Mo_125 : ev_lc "PostingShelfModel" 125 M_Mo_stemOf 1 := ⟨Or.inl wd_998, wd_1000, wd_12, ⟨by decide, by decide⟩, by decide +kernel⟩
theorem lc_Mo_71 : ev_lc "PostingShelfModel" 71 M_Mo_length 1 := ⟨Or.inl wd_991, wd_993, wd_12, ⟨by decide, by decide⟩, by decide +kernel⟩
theorem lc_Mo_75 : ev_lc "PostingShelfModel" 75 M_Mo_letter 2 := ⟨Or.inl wd_994, wd_996, wd_12, ⟨by decide, by decide⟩, by decide +kernel⟩
theorem lc_Mo_114 : ev_lc "PostingShelfModel" 114 M_Mo_plural 1 := ⟨Or.inl wd_1001, wd_1003, wd_12, ⟨by decide, by decide⟩, by decide +kernel⟩
theorem lc_Mo_117 : ev_lc "PostingShelfModel" 117 M_Mo_past 1 := ⟨Or.inl wd_1016, wd_1018, wd_12, ⟨by decide, by decide⟩, by decide +kernel⟩
theorem lc_Mo_107 : ev_lc "PostingShelfModel" 107 M_Mo_someVowel 2 := ⟨Or.inl wd_1025, wd_1027, wd_12, ⟨by decide, by decide⟩, by decide +kernel⟩
theorem lc_Mo_83 : ev_lc "PostingShelfModel" 83 M_Mo_first 2 := ⟨Or.inl wd_1013, wd_1015, wd_12, ⟨by decide, by decide⟩, by decide +kernel⟩
theorem lc_Mo_87 : ev_lc "PostingShelfModel" 87 M_Mo_text 4 := ⟨Or.inl wd_1004, wd_1006, wd_12, ⟨by decide, by decide⟩, by decide +kernel⟩
theorem lc_Mo_91 : ev_lc "PostingShelfModel" 91 M_Mo_ends 2 := ⟨Or.inl wd_1007, wd_1009, wd_12, ⟨by decide, by decide⟩, by decide +kernel⟩
theorem lc_Mo_95 : ev_lc "PostingShelfModel" 95 M_Mo_without 2 := ⟨Or.inl wd_1010, wd_1012, wd_12, ⟨by decide, by decide⟩, by decide +kernel⟩
theorem lc_Mo_100 : ev_lc "PostingShelfModel" 100 M_Mo_measure 2 := ⟨Or.inl wd_1019, wd_1021, wd_12, ⟨by decide, by decide⟩, by decide +kernel⟩
theorem lc_Mo_110 : ev_lc "PostingShelfModel" 110 M_Mo_mended 1 := ⟨Or.inl wd_1028, wd_1030, wd_12, ⟨by decide, by decide⟩, by decide +kernel⟩
theorem lc_Mo_79 : ev_lc "PostingShelfModel" 79 M_Mo_isVowel 2 := ⟨Or.inl wd_1022, wd_1024, wd_12, ⟨by decide, by decide⟩, by decide +kernel⟩
theorem lc_Mo_103 : ev_lc "PostingShelfModel" 103 M_Mo_shortEnd 1 := ⟨Or.inl wd_1032, wd_1034, wd_12, ⟨by decide, by decide⟩, by decide +kernel⟩
theorem fl_Mo_131 : ev_fl "PostingShelfModel" 131 11 12 := ⟨rC11, "PostingShelfModel", ck_11, by decide, Or.inl wd_908, Or.inl rfl⟩
theorem fl_Mo_135 : ev_fl "PostingShelfModel" 135 11 1 := ⟨rC11, "PostingShelfModel", ck_11, by decide, Or.inl wd_897, Or.inl rfl⟩
theorem lc_Mo_139 : ev_lc "PostingShelfModel" 139 M_Mo_termOf 1 := ⟨Or.inl wd_1040, wd_1042, wd_12, ⟨by decide, by decide⟩, by decide +kernel⟩
theorem lc_Mo_128 : ev_lc "PostingShelfModel" 128 M_Mo_isStop 1 := ⟨Or.inl wd_1043, wd_1045, wd_12, ⟨by decide, by decide⟩, by decide +kernel⟩
theorem lc_Mo_142 : ev_lc "PostingShelfModel" 142 M_Mo_idle 0 := ⟨Or.inl wd_1050, wd_1053, wd_12, ⟨by decide, by decide⟩, by decide +kernel⟩
theorem lc_Mo_164 : ev_lc "PostingShelfModel" 164 M_Mo_documents 0 := ⟨Or.inl wd_1062, wd_1065, wd_12, ⟨by decide, by decide⟩, by decide +kernel⟩
theorem fl_Mo_161 : ev_fl "PostingShelfModel" 161 11 11 := ⟨rC11, "PostingShelfModel", ck_11, by decide, Or.inl wd_907, Or.inl rfl⟩
theorem fl_Mo_158 : ev_fl "PostingShelfModel" 158 11 5 := ⟨rC11, "PostingShelfModel", ck_11, by decide, Or.inl wd_901, Or.inl rfl⟩
theorem fl_Mo_152 : ev_fl "PostingShelfModel" 152 11 13 := ⟨rC11, "PostingShelfModel", ck_11, by decide, Or.inl wd_909, Or.inl rfl⟩
theorem lc_Mo_167 : ev_lc "PostingShelfModel" 167 M_Mo_write 1 := ⟨Or.inl wd_1066, wd_1069, wd_12, ⟨by decide, by decide⟩, by decide +kernel⟩
theorem lc_Mo_171 : ev_lc "PostingShelfModel" 171 M_Mo_happen 0 := ⟨Or.inl wd_1070, wd_1073, wd_12, ⟨by decide, by decide⟩, by decide +kernel⟩
theorem lc_Mo_174 : ev_lc "PostingShelfModel" 174 M_Mo_stop 0 := ⟨Or.inl wd_1074, wd_1077, wd_12, ⟨by decide, by decide⟩, by decide +kernel⟩
theorem lc_Mo_177 : ev_lc "PostingShelfModel" 177 M_Mo_live 0 := ⟨Or.inl wd_1078, wd_1081, wd_12, ⟨by decide, by decide⟩, by decide +kernel⟩
theorem fl_Mo_155 : ev_fl "PostingShelfModel" 155 11 14 := ⟨rC11, "PostingShelfModel", ck_11, by decide, Or.inl wd_910, Or.inl rfl⟩
theorem fl_Mo_146 : ev_fl "PostingShelfModel" 146 11 15 := ⟨rC11, "PostingShelfModel", ck_11, by decide, Or.inl wd_911, Or.inl rfl⟩
theorem fl_Mo_149 : ev_fl "PostingShelfModel" 149 11 18 := ⟨rC11, "PostingShelfModel", ck_11, by decide, Or.inl wd_914, Or.inl rfl⟩
theorem lc_Mo_184 : ev_lc "PostingShelfModel" 184 M_Mo_join2 1 := ⟨Or.inl wd_1086, wd_1089, wd_12, ⟨by decide, by decide⟩, by decide +kernel⟩
theorem lc_Mo_180 : ev_lc "PostingShelfModel" 180 M_Mo_copyRow 2 := ⟨Or.inl wd_1090, wd_1093, wd_12, ⟨by decide, by decide⟩, by decide +kernel⟩
theorem lc_Mo_188 : ev_lc "PostingShelfModel" 188 M_Mo_push 3 := ⟨Or.inl wd_1106, wd_1109, wd_12, ⟨by decide, by decide⟩, by decide +kernel⟩
theorem fl_Mo_200 : ev_fl "PostingShelfModel" 200 11 22 := ⟨rC11, "PostingShelfModel", ck_11, by decide, Or.inl wd_918, Or.inl rfl⟩
theorem lc_Mo_203 : ev_lc "PostingShelfModel" 203 M_Mo_lookUp 0 := ⟨Or.inl wd_1122, wd_1125, wd_12, ⟨by decide, by decide⟩, by decide +kernel⟩
theorem lc_Mo_206 : ev_lc "PostingShelfModel" 206 M_Mo_matches 1 := ⟨Or.inl wd_1126, wd_1129, wd_12, ⟨by decide, by decide⟩, by decide +kernel⟩
theorem lc_Mo_192 : ev_lc "PostingShelfModel" 192 M_Mo_times 2 := ⟨Or.inl wd_1130, wd_1133, wd_12, ⟨by decide, by decide⟩, by decide +kernel⟩
theorem lc_Mo_196 : ev_lc "PostingShelfModel" 196 M_Mo_phraseIn 3 := ⟨Or.inl wd_1134, wd_1137, wd_12, ⟨by decide, by decide⟩, by decide +kernel⟩
theorem fl_Mo_239 : ev_fl "PostingShelfModel" 239 11 25 := ⟨rC11, "PostingShelfModel", ck_11, by decide, Or.inl wd_921, Or.inl rfl⟩
theorem lc_Mo_250 : ev_lc "PostingShelfModel" 250 M_Mo_weighAll 1 := ⟨Or.inl wd_1142, wd_1145, wd_12, ⟨by decide, by decide⟩, by decide +kernel⟩
theorem lc_Mo_253 : ev_lc "PostingShelfModel" 253 M_Mo_best 1 := ⟨Or.inl wd_1178, wd_1181, wd_12, ⟨by decide, by decide⟩, by decide +kernel⟩
theorem lc_Mo_242 : ev_lc "PostingShelfModel" 242 M_Mo_sum 2 := ⟨Or.inl wd_1147, wd_1150, wd_12, ⟨by decide, by decide⟩, by decide +kernel⟩
theorem lc_Mo_246 : ev_lc "PostingShelfModel" 246 M_Mo_least 1 := ⟨Or.inl wd_1174, wd_1177, wd_12, ⟨by decide, by decide⟩, by decide +kernel⟩
theorem lc_Mo_234 : ev_lc "PostingShelfModel" 234 M_Mo_bound 1 := ⟨Or.inl wd_1151, wd_1154, wd_12, ⟨by decide, by decide⟩, by decide +kernel⟩
theorem lc_Mo_230 : ev_lc "PostingShelfModel" 230 M_Mo_weightOf 2 := ⟨Or.inl wd_1155, wd_1158, wd_12, ⟨by decide, by decide⟩, by decide +kernel⟩
theorem lc_Mo_213 : ev_lc "PostingShelfModel" 213 M_Mo_lengths 0 := ⟨Or.inl wd_1159, wd_1162, wd_12, ⟨by decide, by decide⟩, by decide +kernel⟩
theorem lc_Mo_210 : ev_lc "PostingShelfModel" 210 M_Mo_lengthOf 1 := ⟨Or.inl wd_1163, wd_1166, wd_12, ⟨by decide, by decide⟩, by decide +kernel⟩
theorem lc_Mo_256 : ev_lc "PostingShelfModel" 256 M_Mo_different 1 := ⟨Or.inl wd_1198, wd_1201, wd_12, ⟨by decide, by decide⟩, by decide +kernel⟩
theorem lc_La_9 : ev_lc "PostingShelfLaw" 9 M_P_init 0 := ⟨Or.inl wd_29, wd_31, wd_1, ⟨by decide, by decide⟩, by decide +kernel⟩
theorem lc_La_12 : ev_lc "PostingShelfLaw" 12 M_Mo_init 0 := ⟨Or.inl wd_892, wd_894, wd_12, ⟨by decide, by decide⟩, by decide +kernel⟩
theorem lc_La_15 : ev_lc "PostingShelfLaw" 15 M_P_stem 1 := ⟨Or.inl wd_223, wd_226, wd_1, ⟨by decide, by decide⟩, by decide +kernel⟩
theorem lc_La_19 : ev_lc "PostingShelfLaw" 19 M_Mo_stem 1 := ⟨Or.inl wd_984, wd_987, wd_12, ⟨by decide, by decide⟩, by decide +kernel⟩
theorem lc_La_20 : ev_lc "PostingShelfLaw" 20 M_P_feed 1 := ⟨Or.inl wd_407, wd_410, wd_1, ⟨by decide, by decide⟩, by decide +kernel⟩
theorem lc_La_24 : ev_lc "PostingShelfLaw" 24 M_Mo_feed 1 := ⟨Or.inl wd_1036, wd_1039, wd_12, ⟨by decide, by decide⟩, by decide +kernel⟩
theorem lc_La_25 : ev_lc "PostingShelfLaw" 25 M_P_add 1 := ⟨Or.inl wd_421, wd_424, wd_1, ⟨by decide, by decide⟩, by decide +kernel⟩
theorem lc_La_29 : ev_lc "PostingShelfLaw" 29 M_Mo_add 1 := ⟨Or.inl wd_1046, wd_1049, wd_12, ⟨by decide, by decide⟩, by decide +kernel⟩
theorem lc_La_30 : ev_lc "PostingShelfLaw" 30 M_P_delete 1 := ⟨Or.inl wd_556, wd_559, wd_1, ⟨by decide, by decide⟩, by decide +kernel⟩
theorem lc_La_33 : ev_lc "PostingShelfLaw" 33 M_Mo_delete 1 := ⟨Or.inl wd_1054, wd_1057, wd_12, ⟨by decide, by decide⟩, by decide +kernel⟩
theorem lc_La_34 : ev_lc "PostingShelfLaw" 34 M_P_commit 0 := ⟨Or.inl wd_564, wd_567, wd_1, ⟨by decide, by decide⟩, by decide +kernel⟩
theorem lc_La_38 : ev_lc "PostingShelfLaw" 38 M_Mo_commit 0 := ⟨Or.inl wd_1058, wd_1061, wd_12, ⟨by decide, by decide⟩, by decide +kernel⟩
theorem lc_La_39 : ev_lc "PostingShelfLaw" 39 M_P_merge 1 := ⟨Or.inl wd_653, wd_656, wd_1, ⟨by decide, by decide⟩, by decide +kernel⟩
theorem lc_La_42 : ev_lc "PostingShelfLaw" 42 M_Mo_merge 1 := ⟨Or.inl wd_1082, wd_1085, wd_12, ⟨by decide, by decide⟩, by decide +kernel⟩
theorem lc_La_43 : ev_lc "PostingShelfLaw" 43 M_P_fuse 1 := ⟨Or.inl wd_682, wd_685, wd_1, ⟨by decide, by decide⟩, by decide +kernel⟩
theorem lc_La_47 : ev_lc "PostingShelfLaw" 47 M_Mo_fuse 1 := ⟨Or.inl wd_1094, wd_1097, wd_12, ⟨by decide, by decide⟩, by decide +kernel⟩
theorem lc_La_48 : ev_lc "PostingShelfLaw" 48 M_P_restart 0 := ⟨Or.inl wd_686, wd_689, wd_1, ⟨by decide, by decide⟩, by decide +kernel⟩
theorem lc_La_52 : ev_lc "PostingShelfLaw" 52 M_Mo_restart 0 := ⟨Or.inl wd_1098, wd_1101, wd_12, ⟨by decide, by decide⟩, by decide +kernel⟩
theorem lc_La_53 : ev_lc "PostingShelfLaw" 53 M_P_term 1 := ⟨Or.inl wd_690, wd_693, wd_1, ⟨by decide, by decide⟩, by decide +kernel⟩
theorem lc_La_56 : ev_lc "PostingShelfLaw" 56 M_Mo_term 1 := ⟨Or.inl wd_1102, wd_1105, wd_12, ⟨by decide, by decide⟩, by decide +kernel⟩
theorem lc_La_57 : ev_lc "PostingShelfLaw" 57 M_P_phrase 1 := ⟨Or.inl wd_718, wd_721, wd_1, ⟨by decide, by decide⟩, by decide +kernel⟩
theorem lc_La_60 : ev_lc "PostingShelfLaw" 60 M_Mo_phrase 1 := ⟨Or.inl wd_1110, wd_1113, wd_12, ⟨by decide, by decide⟩, by decide +kernel⟩
theorem lc_La_61 : ev_lc "PostingShelfLaw" 61 M_P_join 1 := ⟨Or.inl wd_742, wd_745, wd_1, ⟨by decide, by decide⟩, by decide +kernel⟩
theorem lc_La_64 : ev_lc "PostingShelfLaw" 64 M_Mo_join 1 := ⟨Or.inl wd_1114, wd_1117, wd_12, ⟨by decide, by decide⟩, by decide +kernel⟩
theorem lc_La_65 : ev_lc "PostingShelfLaw" 65 M_P_find 0 := ⟨Or.inl wd_751, wd_754, wd_1, ⟨by decide, by decide⟩, by decide +kernel⟩
theorem lc_La_68 : ev_lc "PostingShelfLaw" 68 M_Mo_find 0 := ⟨Or.inl wd_1118, wd_1121, wd_12, ⟨by decide, by decide⟩, by decide +kernel⟩
theorem lc_La_69 : ev_lc "PostingShelfLaw" 69 M_P_rank 1 := ⟨Or.inl wd_785, wd_788, wd_1, ⟨by decide, by decide⟩, by decide +kernel⟩
theorem lc_La_72 : ev_lc "PostingShelfLaw" 72 M_Mo_rank 1 := ⟨Or.inl wd_1138, wd_1141, wd_12, ⟨by decide, by decide⟩, by decide +kernel⟩
theorem lc_La_73 : ev_lc "PostingShelfLaw" 73 M_P_result 1 := ⟨Or.inl wd_849, wd_852, wd_1, ⟨by decide, by decide⟩, by decide +kernel⟩
theorem lc_La_76 : ev_lc "PostingShelfLaw" 76 M_Mo_result 1 := ⟨Or.inl wd_1182, wd_1185, wd_12, ⟨by decide, by decide⟩, by decide +kernel⟩
theorem lc_La_77 : ev_lc "PostingShelfLaw" 77 M_P_weight 1 := ⟨Or.inl wd_857, wd_860, wd_1, ⟨by decide, by decide⟩, by decide +kernel⟩
theorem lc_La_80 : ev_lc "PostingShelfLaw" 80 M_Mo_weight 1 := ⟨Or.inl wd_1186, wd_1189, wd_12, ⟨by decide, by decide⟩, by decide +kernel⟩
theorem lc_La_81 : ev_lc "PostingShelfLaw" 81 M_P_weighed 0 := ⟨Or.inl wd_861, wd_864, wd_1, ⟨by decide, by decide⟩, by decide +kernel⟩
theorem lc_La_84 : ev_lc "PostingShelfLaw" 84 M_Mo_weighed 0 := ⟨Or.inl wd_1190, wd_1193, wd_12, ⟨by decide, by decide⟩, by decide +kernel⟩
theorem lc_La_85 : ev_lc "PostingShelfLaw" 85 M_P_size 1 := ⟨Or.inl wd_865, wd_868, wd_1, ⟨by decide, by decide⟩, by decide +kernel⟩
theorem lc_La_88 : ev_lc "PostingShelfLaw" 88 M_Mo_size 1 := ⟨Or.inl wd_1194, wd_1197, wd_12, ⟨by decide, by decide⟩, by decide +kernel⟩
/-- the reference as a cell: its rows lie behind it -/
abbrev moO (r : Nat) (drafted rows segments stopped fuse written tokens height results weighed : Int32) : ev_C := .inr (11, [.ref (r + 1), .int drafted, .ref (r + 2), .ref (r + 3), .ref (r + 4), .int rows, .ref (r + 5), .ref (r + 6), .ref (r + 7), .ref (r + 8), .ref (r + 9), .int segments, .int stopped, .int fuse, .int written, .int tokens, .ref (r + 10), .ref (r + 11), .int height, .ref (r + 12), .ref (r + 13), .ref (r + 14), .int results, .ref (r + 15), .ref (r + 16), .int weighed, .ref (r + 17), .ref (r + 18), .ref (r + 19)])
abbrev psO (r : Nat) (draftWords : Int32) : ev_C := .inr (0, [.ref (r + 1), .ref (r + 4), .int draftWords, .ref (r + 5), .ref (r + 7), .ref (r + 10), .ref (r + 11), .ref (r + 14), .ref (r + 25)])
theorem ev_pfn {M : ev_M} {ci kx : Nat} {r0 : vw_C} {ty : FieldType} (h0 : ev_cl[ci]? = some r0) (h1 : (r0.2.1 kx).2.2.2 = false ∨ ((r0.2.1 kx).2.2.2 = true ∧ M.1.name = "<init>" ∧ (r0.2.1 kx).1 = M.1.cls)) (h2 : parseFieldDescriptor (r0.2.1 kx).2.2.1 = some ty) : ∀ r : vw_C, ev_cl[ci]? = some r → ((r.2.1 kx).2.2.2 = false ∨ ((r.2.1 kx).2.2.2 = true ∧ M.1.name = "<init>" ∧ (r.2.1 kx).1 = M.1.cls)) ∧ parseFieldDescriptor (r.2.1 kx).2.2.1 = some ty := fun r hr => by
  have e := Option.some.inj (h0.symm.trans hr)
  subst e
  exact ⟨h1, h2⟩
theorem pf_0_draftWords {M : ev_M} : ∀ r : vw_C, ev_cl[0]? = some r → ((r.2.1 2).2.2.2 = false ∨ ((r.2.1 2).2.2.2 = true ∧ M.1.name = "<init>" ∧ (r.2.1 2).1 = M.1.cls)) ∧ parseFieldDescriptor (r.2.1 2).2.2.1 = some .int := ev_pfn (r0 := rC0) rfl (Or.inl rfl) (by decide +kernel)
theorem pf_1_length {M : ev_M} : ∀ r : vw_C, ev_cl[1]? = some r → ((r.2.1 2).2.2.2 = false ∨ ((r.2.1 2).2.2.2 = true ∧ M.1.name = "<init>" ∧ (r.2.1 2).1 = M.1.cls)) ∧ parseFieldDescriptor (r.2.1 2).2.2.1 = some .int := ev_pfn (r0 := rC1) rfl (Or.inl rfl) (by decide +kernel)
theorem pf_2_ids {M : ev_M} : ∀ r : vw_C, ev_cl[2]? = some r → ((r.2.1 1).2.2.2 = false ∨ ((r.2.1 1).2.2.2 = true ∧ M.1.name = "<init>" ∧ (r.2.1 1).1 = M.1.cls)) ∧ parseFieldDescriptor (r.2.1 1).2.2.1 = some .int := ev_pfn (r0 := rC2) rfl (Or.inl rfl) (by decide +kernel)
theorem pf_4_blocksWritten {M : ev_M} : ∀ r : vw_C, ev_cl[4]? = some r → ((r.2.1 0).2.2.2 = false ∨ ((r.2.1 0).2.2.2 = true ∧ M.1.name = "<init>" ∧ (r.2.1 0).1 = M.1.cls)) ∧ parseFieldDescriptor (r.2.1 0).2.2.1 = some .int := ev_pfn (r0 := rC4) rfl (Or.inl rfl) (by decide +kernel)
theorem pf_4_blocksToStop {M : ev_M} : ∀ r : vw_C, ev_cl[4]? = some r → ((r.2.1 1).2.2.2 = false ∨ ((r.2.1 1).2.2.2 = true ∧ M.1.name = "<init>" ∧ (r.2.1 1).1 = M.1.cls)) ∧ parseFieldDescriptor (r.2.1 1).2.2.1 = some .int := ev_pfn (r0 := rC4) rfl (Or.inl rfl) (by decide +kernel)
theorem pf_4_stopped {M : ev_M} : ∀ r : vw_C, ev_cl[4]? = some r → ((r.2.1 2).2.2.2 = false ∨ ((r.2.1 2).2.2.2 = true ∧ M.1.name = "<init>" ∧ (r.2.1 2).1 = M.1.cls)) ∧ parseFieldDescriptor (r.2.1 2).2.2.1 = some .boolean := ev_pfn (r0 := rC4) rfl (Or.inl rfl) (by decide +kernel)
theorem pf_5_height {M : ev_M} : ∀ r : vw_C, ev_cl[5]? = some r → ((r.2.1 2).2.2.2 = false ∨ ((r.2.1 2).2.2.2 = true ∧ M.1.name = "<init>" ∧ (r.2.1 2).1 = M.1.cls)) ∧ parseFieldDescriptor (r.2.1 2).2.2.1 = some .int := ev_pfn (r0 := rC5) rfl (Or.inl rfl) (by decide +kernel)
theorem pf_6_termCount {M : ev_M} : ∀ r : vw_C, ev_cl[6]? = some r → ((r.2.1 2).2.2.2 = false ∨ ((r.2.1 2).2.2.2 = true ∧ M.1.name = "<init>" ∧ (r.2.1 2).1 = M.1.cls)) ∧ parseFieldDescriptor (r.2.1 2).2.2.1 = some .int := ev_pfn (r0 := rC6) rfl (Or.inl rfl) (by decide +kernel)
theorem pf_6_weighedCount {M : ev_M} : ∀ r : vw_C, ev_cl[6]? = some r → ((r.2.1 3).2.2.2 = false ∨ ((r.2.1 3).2.2.2 = true ∧ M.1.name = "<init>" ∧ (r.2.1 3).1 = M.1.cls)) ∧ parseFieldDescriptor (r.2.1 3).2.2.1 = some .int := ev_pfn (r0 := rC6) rfl (Or.inl rfl) (by decide +kernel)
theorem pf_7_count {M : ev_M} : ∀ r : vw_C, ev_cl[7]? = some r → ((r.2.1 2).2.2.2 = false ∨ ((r.2.1 2).2.2.2 = true ∧ M.1.name = "<init>" ∧ (r.2.1 2).1 = M.1.cls)) ∧ parseFieldDescriptor (r.2.1 2).2.2.1 = some .int := ev_pfn (r0 := rC7) rfl (Or.inl rfl) (by decide +kernel)
theorem pf_9_deletedIds {M : ev_M} : ∀ r : vw_C, ev_cl[9]? = some r → ((r.2.1 1).2.2.2 = false ∨ ((r.2.1 1).2.2.2 = true ∧ M.1.name = "<init>" ∧ (r.2.1 1).1 = M.1.cls)) ∧ parseFieldDescriptor (r.2.1 1).2.2.1 = some .int := ev_pfn (r0 := rC9) rfl (Or.inl rfl) (by decide +kernel)
theorem pf_11_drafted {M : ev_M} : ∀ r : vw_C, ev_cl[11]? = some r → ((r.2.1 1).2.2.2 = false ∨ ((r.2.1 1).2.2.2 = true ∧ M.1.name = "<init>" ∧ (r.2.1 1).1 = M.1.cls)) ∧ parseFieldDescriptor (r.2.1 1).2.2.1 = some .int := ev_pfn (r0 := rC11) rfl (Or.inl rfl) (by decide +kernel)
theorem pf_11_rows {M : ev_M} : ∀ r : vw_C, ev_cl[11]? = some r → ((r.2.1 5).2.2.2 = false ∨ ((r.2.1 5).2.2.2 = true ∧ M.1.name = "<init>" ∧ (r.2.1 5).1 = M.1.cls)) ∧ parseFieldDescriptor (r.2.1 5).2.2.1 = some .int := ev_pfn (r0 := rC11) rfl (Or.inl rfl) (by decide +kernel)
theorem pf_11_segments {M : ev_M} : ∀ r : vw_C, ev_cl[11]? = some r → ((r.2.1 11).2.2.2 = false ∨ ((r.2.1 11).2.2.2 = true ∧ M.1.name = "<init>" ∧ (r.2.1 11).1 = M.1.cls)) ∧ parseFieldDescriptor (r.2.1 11).2.2.1 = some .int := ev_pfn (r0 := rC11) rfl (Or.inl rfl) (by decide +kernel)
theorem pf_11_stopped {M : ev_M} : ∀ r : vw_C, ev_cl[11]? = some r → ((r.2.1 12).2.2.2 = false ∨ ((r.2.1 12).2.2.2 = true ∧ M.1.name = "<init>" ∧ (r.2.1 12).1 = M.1.cls)) ∧ parseFieldDescriptor (r.2.1 12).2.2.1 = some .boolean := ev_pfn (r0 := rC11) rfl (Or.inl rfl) (by decide +kernel)
theorem pf_11_fuse {M : ev_M} : ∀ r : vw_C, ev_cl[11]? = some r → ((r.2.1 13).2.2.2 = false ∨ ((r.2.1 13).2.2.2 = true ∧ M.1.name = "<init>" ∧ (r.2.1 13).1 = M.1.cls)) ∧ parseFieldDescriptor (r.2.1 13).2.2.1 = some .int := ev_pfn (r0 := rC11) rfl (Or.inl rfl) (by decide +kernel)
theorem pf_11_written {M : ev_M} : ∀ r : vw_C, ev_cl[11]? = some r → ((r.2.1 14).2.2.2 = false ∨ ((r.2.1 14).2.2.2 = true ∧ M.1.name = "<init>" ∧ (r.2.1 14).1 = M.1.cls)) ∧ parseFieldDescriptor (r.2.1 14).2.2.1 = some .int := ev_pfn (r0 := rC11) rfl (Or.inl rfl) (by decide +kernel)
theorem pf_11_tokens {M : ev_M} : ∀ r : vw_C, ev_cl[11]? = some r → ((r.2.1 15).2.2.2 = false ∨ ((r.2.1 15).2.2.2 = true ∧ M.1.name = "<init>" ∧ (r.2.1 15).1 = M.1.cls)) ∧ parseFieldDescriptor (r.2.1 15).2.2.1 = some .int := ev_pfn (r0 := rC11) rfl (Or.inl rfl) (by decide +kernel)
theorem pf_11_height {M : ev_M} : ∀ r : vw_C, ev_cl[11]? = some r → ((r.2.1 18).2.2.2 = false ∨ ((r.2.1 18).2.2.2 = true ∧ M.1.name = "<init>" ∧ (r.2.1 18).1 = M.1.cls)) ∧ parseFieldDescriptor (r.2.1 18).2.2.1 = some .int := ev_pfn (r0 := rC11) rfl (Or.inl rfl) (by decide +kernel)
theorem pf_11_results {M : ev_M} : ∀ r : vw_C, ev_cl[11]? = some r → ((r.2.1 22).2.2.2 = false ∨ ((r.2.1 22).2.2.2 = true ∧ M.1.name = "<init>" ∧ (r.2.1 22).1 = M.1.cls)) ∧ parseFieldDescriptor (r.2.1 22).2.2.1 = some .int := ev_pfn (r0 := rC11) rfl (Or.inl rfl) (by decide +kernel)
theorem pf_11_weighed {M : ev_M} : ∀ r : vw_C, ev_cl[11]? = some r → ((r.2.1 25).2.2.2 = false ∨ ((r.2.1 25).2.2.2 = true ∧ M.1.name = "<init>" ∧ (r.2.1 25).1 = M.1.cls)) ∧ parseFieldDescriptor (r.2.1 25).2.2.1 = some .int := ev_pfn (r0 := rC11) rfl (Or.inl rfl) (by decide +kernel)
theorem pf_12_elementData {M : ev_M} : ∀ r : vw_C, ev_cl[12]? = some r → ((r.2.1 0).2.2.2 = false ∨ ((r.2.1 0).2.2.2 = true ∧ M.1.name = "<init>" ∧ (r.2.1 0).1 = M.1.cls)) ∧ parseFieldDescriptor (r.2.1 0).2.2.1 = some (.array (.object "java/lang/Object")) := ev_pfn (r0 := rC12) rfl (Or.inl rfl) (by decide +kernel)
theorem pf_12_size {M : ev_M} : ∀ r : vw_C, ev_cl[12]? = some r → ((r.2.1 1).2.2.2 = false ∨ ((r.2.1 1).2.2.2 = true ∧ M.1.name = "<init>" ∧ (r.2.1 1).1 = M.1.cls)) ∧ parseFieldDescriptor (r.2.1 1).2.2.1 = some .int := ev_pfn (r0 := rC12) rfl (Or.inl rfl) (by decide +kernel)
theorem pf_12_modCount {M : ev_M} : ∀ r : vw_C, ev_cl[12]? = some r → ((r.2.1 2).2.2.2 = false ∨ ((r.2.1 2).2.2.2 = true ∧ M.1.name = "<init>" ∧ (r.2.1 2).1 = M.1.cls)) ∧ parseFieldDescriptor (r.2.1 2).2.2.1 = some .int := ev_pfn (r0 := rC12) rfl (Or.inl rfl) (by decide +kernel)
end
section
set_option maxRecDepth 100000 in
set_option maxHeartbeats 4000000 in
theorem s_Mo_letter_0 {l : Launch} {X : ev_X} {bc bs n : Nat} {F : ev_H} {Q : Option Value → Nat → ev_H → Prop} {j0 : Int64} {i2 : Int32} 
    (q10_0 : Q (some (.int (((j0 >>> ((5 * i2).toInt64 &&& 63)) &&& 31).toInt32))) n F) :
    Ev l X M_Mo_letter bc bs 0 [(0, .long j0), (2, .int i2)] [] n F (ev_mq X Q) := by
  refine ev_lload_n (pc := 0) d_Mo_letter_0 rfl ?_
  refine ev_iconst (pc := 1) 5 d_Mo_letter_1 (by decide) ?_
  refine ev_iload_n (pc := 2) d_Mo_letter_2 rfl ?_
  refine ev_imul (pc := 3) d_Mo_letter_3 ?_
  refine ev_lshr (pc := 4) d_Mo_letter_4 ?_
  refine ev_ldc2 (pc := 5) (v := 31) d_Mo_letter_5 wd_997 ?_
  refine ev_land (pc := 8) d_Mo_letter_8 ?_
  refine ev_l2i (pc := 9) d_Mo_letter_9 ?_
  exact ev_ireturn (pc := 10) d_Mo_letter_10 rfl rfl q10_0
set_option maxRecDepth 100000 in
set_option maxHeartbeats 4000000 in
theorem s_Mo_length_0 {l : Launch} {X : ev_X} {bc bs n : Nat} {F : ev_H} {Q : Option Value → Nat → ev_H → Prop} {j0 : Int64} 
    (k2_0 : Ev l X M_Mo_length bc bs 2 [(0, .long j0), (2, .int 0)] [] n F (ev_mq X Q)) :
    Ev l X M_Mo_length bc bs 0 [(0, .long j0)] [] n F (ev_mq X Q) := by
  refine ev_iconst (pc := 0) 0 d_Mo_length_0 (by decide) ?_
  refine ev_istore_n (pc := 1) d_Mo_length_1 (Nat.le_of_ble_eq_true rfl) [1, 0] rfl ?_
  exact k2_0

set_option maxRecDepth 100000 in
set_option maxHeartbeats 4000000 in
theorem s_Mo_length_2 {l : Launch} {X : ev_X} {bc bs n : Nat} {F : ev_H} {Q : Option Value → Nat → ev_H → Prop} {j0 : Int64} {i2 : Int32} 
    (q25_0 : (12 ≤ i2) → Q (some (.int i2)) n F)
    (q25_1 : (¬ 12 ≤ i2) → ((lg_cmp (j0 >>> ((5 * i2).toInt64 &&& 63)) 0) = 0) → Q (some (.int i2)) n F)
    (k2_2 : (¬ 12 ≤ i2) → (¬ (lg_cmp (j0 >>> ((5 * i2).toInt64 &&& 63)) 0) = 0) → Ev l X M_Mo_length bc bs 2 [(0, .long j0), (2, .int (i2 + 1))] [] n F (ev_mq X Q)) :
    Ev l X M_Mo_length bc bs 2 [(0, .long j0), (2, .int i2)] [] n F (ev_mq X Q) := by
  refine ev_iload_n (pc := 2) d_Mo_length_2 rfl ?_
  refine ev_bipush (pc := 3) 12 d_Mo_length_3 (by decide) ?_
  refine ev_icmp_ge (pc := 5) 24 d_Mo_length_5 (by decide) (fun c5 => ?_) (fun c5 => ?_)
  · refine ev_iload_n (pc := 24) d_Mo_length_24 rfl ?_
    exact ev_ireturn (pc := 25) d_Mo_length_25 rfl rfl (q25_0 c5)
  · refine ev_lload_n (pc := 8) d_Mo_length_8 rfl ?_
    refine ev_iconst (pc := 9) 5 d_Mo_length_9 (by decide) ?_
    refine ev_iload_n (pc := 10) d_Mo_length_10 rfl ?_
    refine ev_imul (pc := 11) d_Mo_length_11 ?_
    refine ev_lshr (pc := 12) d_Mo_length_12 ?_
    refine ev_lconst (pc := 13) 0 d_Mo_length_13 (by decide) ?_
    refine ev_lcmp (pc := 14) d_Mo_length_14 ?_
    refine ev_if_eq (pc := 15) 24 d_Mo_length_15 (by decide) (fun c15 => ?_) (fun c15 => ?_)
    · refine ev_iload_n (pc := 24) d_Mo_length_24 rfl ?_
      exact ev_ireturn (pc := 25) d_Mo_length_25 rfl rfl (q25_1 c5 c15)
    · refine ev_iinc (pc := 18) 1 1 d_Mo_length_18 rfl (by decide) (Nat.le_of_ble_eq_true rfl) [1, 0] rfl ?_
      refine ev_goto (pc := 21) 2 d_Mo_length_21 (by decide) ?_
      exact (k2_2 c5 c15)
set_option maxRecDepth 100000 in
set_option maxHeartbeats 4000000 in
theorem s_Mo_isVowel_0 {l : Launch} {X : ev_X} {bc bs n : Nat} {F : ev_H} {Q : Option Value → Nat → ev_H → Prop} {j0 : Int64} {i2 : Int32} 
    (k5_0 : Ev l X M_Mo_isVowel bc bs 5 [(0, .long j0), (2, .int i2), (3, .int 0), (4, .int 0)] [] n F (ev_mq X Q)) :
    Ev l X M_Mo_isVowel bc bs 0 [(0, .long j0), (2, .int i2)] [] n F (ev_mq X Q) := by
  refine ev_iconst (pc := 0) 0 d_Mo_isVowel_0 (by decide) ?_
  refine ev_istore_n (pc := 1) d_Mo_isVowel_1 (Nat.le_of_ble_eq_true rfl) [1, 2, 0] rfl ?_
  refine ev_iconst (pc := 2) 0 d_Mo_isVowel_2 (by decide) ?_
  refine ev_istore (pc := 3) d_Mo_isVowel_3 (Nat.le_of_ble_eq_true rfl) [1, 2, 3, 0] rfl ?_
  exact k5_0

set_option maxRecDepth 100000 in
set_option maxHeartbeats 4000000 in
theorem s_Mo_isVowel_5 {l : Launch} {X : ev_X} {bc bs n : Nat} {F : ev_H} {Q : Option Value → Nat → ev_H → Prop} {j0 : Int64} {i2 : Int32} {i3 : Int32} {i4 : Int32} {v14 : Int32} 
    (q81_0 : (i2 < i4) → Q (some (.int i3)) n F)
    (nr81_1 : (i2 < i4) → narrow .boolean (.int i3) = .int i3)
    (c14_2 : (¬ i2 < i4) → Cal l X M_Mo_letter 0 0 [.long j0, .int i4] n F (ev_pure (.int v14) n F))
    (k5_3 : (¬ i2 < i4) → (v14 = 1) → Ev l X M_Mo_isVowel bc bs 5 [(0, .long j0), (2, .int i2), (3, .int 1), (4, .int (i4 + 1))] [] n F (ev_mq X Q))
    (k5_4 : (¬ i2 < i4) → (¬ v14 = 1) → (v14 = 5) → Ev l X M_Mo_isVowel bc bs 5 [(0, .long j0), (2, .int i2), (3, .int 1), (4, .int (i4 + 1))] [] n F (ev_mq X Q))
    (k5_5 : (¬ i2 < i4) → (¬ v14 = 1) → (¬ v14 = 5) → (v14 = 9) → Ev l X M_Mo_isVowel bc bs 5 [(0, .long j0), (2, .int i2), (3, .int 1), (4, .int (i4 + 1))] [] n F (ev_mq X Q))
    (k5_6 : (¬ i2 < i4) → (¬ v14 = 1) → (¬ v14 = 5) → (¬ v14 = 9) → (v14 = 15) → Ev l X M_Mo_isVowel bc bs 5 [(0, .long j0), (2, .int i2), (3, .int 1), (4, .int (i4 + 1))] [] n F (ev_mq X Q))
    (k5_7 : (¬ i2 < i4) → (¬ v14 = 1) → (¬ v14 = 5) → (¬ v14 = 9) → (¬ v14 = 15) → (v14 = 21) → Ev l X M_Mo_isVowel bc bs 5 [(0, .long j0), (2, .int i2), (3, .int 1), (4, .int (i4 + 1))] [] n F (ev_mq X Q))
    (k5_8 : (¬ i2 < i4) → (¬ v14 = 1) → (¬ v14 = 5) → (¬ v14 = 9) → (¬ v14 = 15) → (¬ v14 = 21) → (¬ v14 = 25) → Ev l X M_Mo_isVowel bc bs 5 [(0, .long j0), (2, .int i2), (3, .int 0), (4, .int (i4 + 1))] [] n F (ev_mq X Q))
    (k5_9 : (¬ i2 < i4) → (¬ v14 = 1) → (¬ v14 = 5) → (¬ v14 = 9) → (¬ v14 = 15) → (¬ v14 = 21) → (v14 = 25) → (i4 ≤ 0) → Ev l X M_Mo_isVowel bc bs 5 [(0, .long j0), (2, .int i2), (3, .int 0), (4, .int (i4 + 1))] [] n F (ev_mq X Q))
    (k5_10 : (¬ i2 < i4) → (¬ v14 = 1) → (¬ v14 = 5) → (¬ v14 = 9) → (¬ v14 = 15) → (¬ v14 = 21) → (v14 = 25) → (¬ i4 ≤ 0) → (¬ i3 = 0) → Ev l X M_Mo_isVowel bc bs 5 [(0, .long j0), (2, .int i2), (3, .int 0), (4, .int (i4 + 1))] [] n F (ev_mq X Q))
    (k5_11 : (¬ i2 < i4) → (¬ v14 = 1) → (¬ v14 = 5) → (¬ v14 = 9) → (¬ v14 = 15) → (¬ v14 = 21) → (v14 = 25) → (¬ i4 ≤ 0) → (i3 = 0) → Ev l X M_Mo_isVowel bc bs 5 [(0, .long j0), (2, .int i2), (3, .int 1), (4, .int (i4 + 1))] [] n F (ev_mq X Q)) :
    Ev l X M_Mo_isVowel bc bs 5 [(0, .long j0), (2, .int i2), (3, .int i3), (4, .int i4)] [] n F (ev_mq X Q) := by
  refine ev_iload (pc := 5) d_Mo_isVowel_5 rfl ?_
  refine ev_iload_n (pc := 7) d_Mo_isVowel_7 rfl ?_
  refine ev_icmp_gt (pc := 8) 80 d_Mo_isVowel_8 (by decide) (fun c8 => ?_) (fun c8 => ?_)
  · refine ev_iload_n (pc := 80) d_Mo_isVowel_80 rfl ?_
    exact ev_ireturn (pc := 81) d_Mo_isVowel_81 rfl (nr81_1 c8) (q81_0 c8)
  · refine ev_lload_n (pc := 11) d_Mo_isVowel_11 rfl ?_
    refine ev_iload (pc := 12) d_Mo_isVowel_12 rfl ?_
    refine ev_invokestatic (pc := 14) (As := [.long j0, .int i4]) (st := []) (Q2 := ev_pure (.int v14) n F) (bc1 := 0) (bs1 := 0) M_Mo_letter d_Mo_isVowel_14 lc_Mo_75 wd_995 rfl rfl (Nat.le_of_ble_eq_true rfl) (Nat.le_of_ble_eq_true rfl) (Nat.le_of_ble_eq_true rfl) (Nat.le_refl _) (Nat.le_refl _) (c14_2 c8) ?_
    refine ev_purek ?_
    refine ev_istore (pc := 17) d_Mo_isVowel_17 (Nat.le_of_ble_eq_true rfl) [1, 2, 3, 4, 0] rfl ?_
    refine ev_iload (pc := 19) d_Mo_isVowel_19 rfl ?_
    refine ev_iconst (pc := 21) 1 d_Mo_isVowel_21 (by decide) ?_
    refine ev_icmp_eq (pc := 22) 68 d_Mo_isVowel_22 (by decide) (fun c22 => ?_) (fun c22 => ?_)
    · refine ev_iconst (pc := 68) 1 d_Mo_isVowel_68 (by decide) ?_
      refine ev_goto (pc := 69) 73 d_Mo_isVowel_69 (by decide) ?_
      refine ev_istore_n (pc := 73) d_Mo_isVowel_73 (Nat.le_of_ble_eq_true rfl) [1, 2, 0, 3, 4] rfl ?_
      refine ev_iinc (pc := 74) 3 1 d_Mo_isVowel_74 rfl (by decide) (Nat.le_of_ble_eq_true rfl) [1, 2, 3, 0, 4] rfl ?_
      refine ev_goto (pc := 77) 5 d_Mo_isVowel_77 (by decide) ?_
      exact Ev.sub [0, 1, 2, 3] rfl (k5_3 c8 c22)
    · refine ev_iload (pc := 25) d_Mo_isVowel_25 rfl ?_
      refine ev_iconst (pc := 27) 5 d_Mo_isVowel_27 (by decide) ?_
      refine ev_icmp_eq (pc := 28) 68 d_Mo_isVowel_28 (by decide) (fun c28 => ?_) (fun c28 => ?_)
      · refine ev_iconst (pc := 68) 1 d_Mo_isVowel_68 (by decide) ?_
        refine ev_goto (pc := 69) 73 d_Mo_isVowel_69 (by decide) ?_
        refine ev_istore_n (pc := 73) d_Mo_isVowel_73 (Nat.le_of_ble_eq_true rfl) [1, 2, 0, 3, 4] rfl ?_
        refine ev_iinc (pc := 74) 3 1 d_Mo_isVowel_74 rfl (by decide) (Nat.le_of_ble_eq_true rfl) [1, 2, 3, 0, 4] rfl ?_
        refine ev_goto (pc := 77) 5 d_Mo_isVowel_77 (by decide) ?_
        exact Ev.sub [0, 1, 2, 3] rfl (k5_4 c8 c22 c28)
      · refine ev_iload (pc := 31) d_Mo_isVowel_31 rfl ?_
        refine ev_bipush (pc := 33) 9 d_Mo_isVowel_33 (by decide) ?_
        refine ev_icmp_eq (pc := 35) 68 d_Mo_isVowel_35 (by decide) (fun c35 => ?_) (fun c35 => ?_)
        · refine ev_iconst (pc := 68) 1 d_Mo_isVowel_68 (by decide) ?_
          refine ev_goto (pc := 69) 73 d_Mo_isVowel_69 (by decide) ?_
          refine ev_istore_n (pc := 73) d_Mo_isVowel_73 (Nat.le_of_ble_eq_true rfl) [1, 2, 0, 3, 4] rfl ?_
          refine ev_iinc (pc := 74) 3 1 d_Mo_isVowel_74 rfl (by decide) (Nat.le_of_ble_eq_true rfl) [1, 2, 3, 0, 4] rfl ?_
          refine ev_goto (pc := 77) 5 d_Mo_isVowel_77 (by decide) ?_
          exact Ev.sub [0, 1, 2, 3] rfl (k5_5 c8 c22 c28 c35)
        · refine ev_iload (pc := 38) d_Mo_isVowel_38 rfl ?_
          refine ev_bipush (pc := 40) 15 d_Mo_isVowel_40 (by decide) ?_
          refine ev_icmp_eq (pc := 42) 68 d_Mo_isVowel_42 (by decide) (fun c42 => ?_) (fun c42 => ?_)
          · refine ev_iconst (pc := 68) 1 d_Mo_isVowel_68 (by decide) ?_
            refine ev_goto (pc := 69) 73 d_Mo_isVowel_69 (by decide) ?_
            refine ev_istore_n (pc := 73) d_Mo_isVowel_73 (Nat.le_of_ble_eq_true rfl) [1, 2, 0, 3, 4] rfl ?_
            refine ev_iinc (pc := 74) 3 1 d_Mo_isVowel_74 rfl (by decide) (Nat.le_of_ble_eq_true rfl) [1, 2, 3, 0, 4] rfl ?_
            refine ev_goto (pc := 77) 5 d_Mo_isVowel_77 (by decide) ?_
            exact Ev.sub [0, 1, 2, 3] rfl (k5_6 c8 c22 c28 c35 c42)
          · refine ev_iload (pc := 45) d_Mo_isVowel_45 rfl ?_
            refine ev_bipush (pc := 47) 21 d_Mo_isVowel_47 (by decide) ?_
            refine ev_icmp_eq (pc := 49) 68 d_Mo_isVowel_49 (by decide) (fun c49 => ?_) (fun c49 => ?_)
            · refine ev_iconst (pc := 68) 1 d_Mo_isVowel_68 (by decide) ?_
              refine ev_goto (pc := 69) 73 d_Mo_isVowel_69 (by decide) ?_
              refine ev_istore_n (pc := 73) d_Mo_isVowel_73 (Nat.le_of_ble_eq_true rfl) [1, 2, 0, 3, 4] rfl ?_
              refine ev_iinc (pc := 74) 3 1 d_Mo_isVowel_74 rfl (by decide) (Nat.le_of_ble_eq_true rfl) [1, 2, 3, 0, 4] rfl ?_
              refine ev_goto (pc := 77) 5 d_Mo_isVowel_77 (by decide) ?_
              exact Ev.sub [0, 1, 2, 3] rfl (k5_7 c8 c22 c28 c35 c42 c49)
            · refine ev_iload (pc := 52) d_Mo_isVowel_52 rfl ?_
              refine ev_bipush (pc := 54) 25 d_Mo_isVowel_54 (by decide) ?_
              refine ev_icmp_ne (pc := 56) 72 d_Mo_isVowel_56 (by decide) (fun c56 => ?_) (fun c56 => ?_)
              · refine ev_iconst (pc := 72) 0 d_Mo_isVowel_72 (by decide) ?_
                refine ev_istore_n (pc := 73) d_Mo_isVowel_73 (Nat.le_of_ble_eq_true rfl) [1, 2, 0, 3, 4] rfl ?_
                refine ev_iinc (pc := 74) 3 1 d_Mo_isVowel_74 rfl (by decide) (Nat.le_of_ble_eq_true rfl) [1, 2, 3, 0, 4] rfl ?_
                refine ev_goto (pc := 77) 5 d_Mo_isVowel_77 (by decide) ?_
                exact Ev.sub [0, 1, 2, 3] rfl (k5_8 c8 c22 c28 c35 c42 c49 c56)
              · refine ev_iload (pc := 59) d_Mo_isVowel_59 rfl ?_
                refine ev_if_le (pc := 61) 72 d_Mo_isVowel_61 (by decide) (fun c61 => ?_) (fun c61 => ?_)
                · refine ev_iconst (pc := 72) 0 d_Mo_isVowel_72 (by decide) ?_
                  refine ev_istore_n (pc := 73) d_Mo_isVowel_73 (Nat.le_of_ble_eq_true rfl) [1, 2, 0, 3, 4] rfl ?_
                  refine ev_iinc (pc := 74) 3 1 d_Mo_isVowel_74 rfl (by decide) (Nat.le_of_ble_eq_true rfl) [1, 2, 3, 0, 4] rfl ?_
                  refine ev_goto (pc := 77) 5 d_Mo_isVowel_77 (by decide) ?_
                  exact Ev.sub [0, 1, 2, 3] rfl (k5_9 c8 c22 c28 c35 c42 c49 c56 c61)
                · refine ev_iload_n (pc := 64) d_Mo_isVowel_64 rfl ?_
                  refine ev_if_ne (pc := 65) 72 d_Mo_isVowel_65 (by decide) (fun c65 => ?_) (fun c65 => ?_)
                  · refine ev_iconst (pc := 72) 0 d_Mo_isVowel_72 (by decide) ?_
                    refine ev_istore_n (pc := 73) d_Mo_isVowel_73 (Nat.le_of_ble_eq_true rfl) [1, 2, 0, 3, 4] rfl ?_
                    refine ev_iinc (pc := 74) 3 1 d_Mo_isVowel_74 rfl (by decide) (Nat.le_of_ble_eq_true rfl) [1, 2, 3, 0, 4] rfl ?_
                    refine ev_goto (pc := 77) 5 d_Mo_isVowel_77 (by decide) ?_
                    exact Ev.sub [0, 1, 2, 3] rfl (k5_10 c8 c22 c28 c35 c42 c49 c56 c61 c65)
                  · refine ev_iconst (pc := 68) 1 d_Mo_isVowel_68 (by decide) ?_
                    refine ev_goto (pc := 69) 73 d_Mo_isVowel_69 (by decide) ?_
                    refine ev_istore_n (pc := 73) d_Mo_isVowel_73 (Nat.le_of_ble_eq_true rfl) [1, 2, 0, 3, 4] rfl ?_
                    refine ev_iinc (pc := 74) 3 1 d_Mo_isVowel_74 rfl (by decide) (Nat.le_of_ble_eq_true rfl) [1, 2, 3, 0, 4] rfl ?_
                    refine ev_goto (pc := 77) 5 d_Mo_isVowel_77 (by decide) ?_
                    exact Ev.sub [0, 1, 2, 3] rfl (k5_11 c8 c22 c28 c35 c42 c49 c56 c61 c65)
set_option maxRecDepth 100000 in
set_option maxHeartbeats 4000000 in
theorem s_Mo_isWord_0 {l : Launch} {X : ev_X} {bc bs n : Nat} {F : ev_H} {Q : Option Value → Nat → ev_H → Prop} {j0 : Int64} 
    (q16_0 : ((lg_cmp j0 0) ≤ 0) → Q (some (.int 0)) n F)
    (k21_1 : (¬ (lg_cmp j0 0) ≤ 0) → ((lg_cmp (j0 >>> ((60 : Int32).toInt64 &&& 63)) 0) = 0) → Ev l X M_Mo_isWord bc bs 21 [(0, .long j0), (2, .int 1), (3, .int 0)] [] n F (ev_mq X Q))
    (q16_2 : (¬ (lg_cmp j0 0) ≤ 0) → (¬ (lg_cmp (j0 >>> ((60 : Int32).toInt64 &&& 63)) 0) = 0) → Q (some (.int 0)) n F) :
    Ev l X M_Mo_isWord bc bs 0 [(0, .long j0)] [] n F (ev_mq X Q) := by
  refine ev_lload_n (pc := 0) d_Mo_isWord_0 rfl ?_
  refine ev_lconst (pc := 1) 0 d_Mo_isWord_1 (by decide) ?_
  refine ev_lcmp (pc := 2) d_Mo_isWord_2 ?_
  refine ev_if_le (pc := 3) 15 d_Mo_isWord_3 (by decide) (fun c3 => ?_) (fun c3 => ?_)
  · refine ev_iconst (pc := 15) 0 d_Mo_isWord_15 (by decide) ?_
    exact ev_ireturn (pc := 16) d_Mo_isWord_16 rfl rfl (q16_0 c3)
  · refine ev_lload_n (pc := 6) d_Mo_isWord_6 rfl ?_
    refine ev_bipush (pc := 7) 60 d_Mo_isWord_7 (by decide) ?_
    refine ev_lshr (pc := 9) d_Mo_isWord_9 ?_
    refine ev_lconst (pc := 10) 0 d_Mo_isWord_10 (by decide) ?_
    refine ev_lcmp (pc := 11) d_Mo_isWord_11 ?_
    refine ev_if_eq (pc := 12) 17 d_Mo_isWord_12 (by decide) (fun c12 => ?_) (fun c12 => ?_)
    · refine ev_iconst (pc := 17) 1 d_Mo_isWord_17 (by decide) ?_
      refine ev_istore_n (pc := 18) d_Mo_isWord_18 (Nat.le_of_ble_eq_true rfl) [1, 0] rfl ?_
      refine ev_iconst (pc := 19) 0 d_Mo_isWord_19 (by decide) ?_
      refine ev_istore_n (pc := 20) d_Mo_isWord_20 (Nat.le_of_ble_eq_true rfl) [1, 2, 0] rfl ?_
      exact (k21_1 c3 c12)
    · refine ev_iconst (pc := 15) 0 d_Mo_isWord_15 (by decide) ?_
      exact ev_ireturn (pc := 16) d_Mo_isWord_16 rfl rfl (q16_2 c3 c12)

set_option maxRecDepth 100000 in
set_option maxHeartbeats 4000000 in
theorem s_Mo_isWord_21 {l : Launch} {X : ev_X} {bc bs n : Nat} {F : ev_H} {Q : Option Value → Nat → ev_H → Prop} {j0 : Int64} {i2 : Int32} {i3 : Int32} {v23 : Int32} {v35 : Int32} {v44 : Int32} 
    (c23_0 : Cal l X M_Mo_length 0 0 [.long j0] n F (ev_pure (.int v23) n F))
    (q65_1 : (v23 ≤ i3) → Q (some (.int i2)) n F)
    (nr65_2 : (v23 ≤ i3) → narrow .boolean (.int i2) = .int i2)
    (k21_3 : (¬ v23 ≤ i3) → (i2 = 0) → Ev l X M_Mo_isWord bc bs 21 [(0, .long j0), (2, .int 0), (3, .int (i3 + 1))] [] n F (ev_mq X Q))
    (c35_4 : (¬ v23 ≤ i3) → (¬ i2 = 0) → Cal l X M_Mo_letter 0 0 [.long j0, .int i3] n F (ev_pure (.int v35) n F))
    (k21_5 : (¬ v23 ≤ i3) → (¬ i2 = 0) → (v35 < 1) → Ev l X M_Mo_isWord bc bs 21 [(0, .long j0), (2, .int 0), (3, .int (i3 + 1))] [] n F (ev_mq X Q))
    (c44_6 : (¬ v23 ≤ i3) → (¬ i2 = 0) → (¬ v35 < 1) → Cal l X M_Mo_letter 0 0 [.long j0, .int i3] n F (ev_pure (.int v44) n F))
    (k21_7 : (¬ v23 ≤ i3) → (¬ i2 = 0) → (¬ v35 < 1) → (26 < v44) → Ev l X M_Mo_isWord bc bs 21 [(0, .long j0), (2, .int 0), (3, .int (i3 + 1))] [] n F (ev_mq X Q))
    (k21_8 : (¬ v23 ≤ i3) → (¬ i2 = 0) → (¬ v35 < 1) → (¬ 26 < v44) → Ev l X M_Mo_isWord bc bs 21 [(0, .long j0), (2, .int 1), (3, .int (i3 + 1))] [] n F (ev_mq X Q)) :
    Ev l X M_Mo_isWord bc bs 21 [(0, .long j0), (2, .int i2), (3, .int i3)] [] n F (ev_mq X Q) := by
  refine ev_iload_n (pc := 21) d_Mo_isWord_21 rfl ?_
  refine ev_lload_n (pc := 22) d_Mo_isWord_22 rfl ?_
  refine ev_invokestatic (pc := 23) (As := [.long j0]) (st := [.int i3]) (Q2 := ev_pure (.int v23) n F) (bc1 := 0) (bs1 := 0) M_Mo_length d_Mo_isWord_23 lc_Mo_71 wd_992 rfl rfl (Nat.le_of_ble_eq_true rfl) (Nat.le_of_ble_eq_true rfl) (Nat.le_of_ble_eq_true rfl) (Nat.le_refl _) (Nat.le_refl _) c23_0 ?_
  refine ev_purek ?_
  refine ev_icmp_ge (pc := 26) 64 d_Mo_isWord_26 (by decide) (fun c26 => ?_) (fun c26 => ?_)
  · refine ev_iload_n (pc := 64) d_Mo_isWord_64 rfl ?_
    exact ev_ireturn (pc := 65) d_Mo_isWord_65 rfl (nr65_2 c26) (q65_1 c26)
  · refine ev_iload_n (pc := 29) d_Mo_isWord_29 rfl ?_
    refine ev_if_eq (pc := 30) 56 d_Mo_isWord_30 (by decide) (fun c30 => ?_) (fun c30 => ?_)
    · refine ev_iconst (pc := 56) 0 d_Mo_isWord_56 (by decide) ?_
      refine ev_istore_n (pc := 57) d_Mo_isWord_57 (Nat.le_of_ble_eq_true rfl) [1, 0, 2] rfl ?_
      refine ev_iinc (pc := 58) 2 1 d_Mo_isWord_58 rfl (by decide) (Nat.le_of_ble_eq_true rfl) [1, 2, 0] rfl ?_
      refine ev_goto (pc := 61) 21 d_Mo_isWord_61 (by decide) ?_
      exact (k21_3 c26 c30)
    · refine ev_lload_n (pc := 33) d_Mo_isWord_33 rfl ?_
      refine ev_iload_n (pc := 34) d_Mo_isWord_34 rfl ?_
      refine ev_invokestatic (pc := 35) (As := [.long j0, .int i3]) (st := []) (Q2 := ev_pure (.int v35) n F) (bc1 := 0) (bs1 := 0) M_Mo_letter d_Mo_isWord_35 lc_Mo_75 wd_995 rfl rfl (Nat.le_of_ble_eq_true rfl) (Nat.le_of_ble_eq_true rfl) (Nat.le_of_ble_eq_true rfl) (Nat.le_refl _) (Nat.le_refl _) (c35_4 c26 c30) ?_
      refine ev_purek ?_
      refine ev_iconst (pc := 38) 1 d_Mo_isWord_38 (by decide) ?_
      refine ev_icmp_lt (pc := 39) 56 d_Mo_isWord_39 (by decide) (fun c39 => ?_) (fun c39 => ?_)
      · refine ev_iconst (pc := 56) 0 d_Mo_isWord_56 (by decide) ?_
        refine ev_istore_n (pc := 57) d_Mo_isWord_57 (Nat.le_of_ble_eq_true rfl) [1, 0, 2] rfl ?_
        refine ev_iinc (pc := 58) 2 1 d_Mo_isWord_58 rfl (by decide) (Nat.le_of_ble_eq_true rfl) [1, 2, 0] rfl ?_
        refine ev_goto (pc := 61) 21 d_Mo_isWord_61 (by decide) ?_
        exact (k21_5 c26 c30 c39)
      · refine ev_lload_n (pc := 42) d_Mo_isWord_42 rfl ?_
        refine ev_iload_n (pc := 43) d_Mo_isWord_43 rfl ?_
        refine ev_invokestatic (pc := 44) (As := [.long j0, .int i3]) (st := []) (Q2 := ev_pure (.int v44) n F) (bc1 := 0) (bs1 := 0) M_Mo_letter d_Mo_isWord_44 lc_Mo_75 wd_995 rfl rfl (Nat.le_of_ble_eq_true rfl) (Nat.le_of_ble_eq_true rfl) (Nat.le_of_ble_eq_true rfl) (Nat.le_refl _) (Nat.le_refl _) (c44_6 c26 c30 c39) ?_
        refine ev_purek ?_
        refine ev_bipush (pc := 47) 26 d_Mo_isWord_47 (by decide) ?_
        refine ev_icmp_gt (pc := 49) 56 d_Mo_isWord_49 (by decide) (fun c49 => ?_) (fun c49 => ?_)
        · refine ev_iconst (pc := 56) 0 d_Mo_isWord_56 (by decide) ?_
          refine ev_istore_n (pc := 57) d_Mo_isWord_57 (Nat.le_of_ble_eq_true rfl) [1, 0, 2] rfl ?_
          refine ev_iinc (pc := 58) 2 1 d_Mo_isWord_58 rfl (by decide) (Nat.le_of_ble_eq_true rfl) [1, 2, 0] rfl ?_
          refine ev_goto (pc := 61) 21 d_Mo_isWord_61 (by decide) ?_
          exact (k21_7 c26 c30 c39 c49)
        · refine ev_iconst (pc := 52) 1 d_Mo_isWord_52 (by decide) ?_
          refine ev_goto (pc := 53) 57 d_Mo_isWord_53 (by decide) ?_
          refine ev_istore_n (pc := 57) d_Mo_isWord_57 (Nat.le_of_ble_eq_true rfl) [1, 0, 2] rfl ?_
          refine ev_iinc (pc := 58) 2 1 d_Mo_isWord_58 rfl (by decide) (Nat.le_of_ble_eq_true rfl) [1, 2, 0] rfl ?_
          refine ev_goto (pc := 61) 21 d_Mo_isWord_61 (by decide) ?_
          exact (k21_8 c26 c30 c39 c49)
set_option maxRecDepth 100000 in
set_option maxHeartbeats 4000000 in
theorem s_Mo_first_0 {l : Launch} {X : ev_X} {bc bs n : Nat} {F : ev_H} {Q : Option Value → Nat → ev_H → Prop} {j0 : Int64} {i2 : Int32} 
    (q9_0 : Q (some (.long (j0 &&& (((1 : Int64) <<< ((5 * i2).toInt64 &&& 63)) - 1)))) n F) :
    Ev l X M_Mo_first bc bs 0 [(0, .long j0), (2, .int i2)] [] n F (ev_mq X Q) := by
  refine ev_lload_n (pc := 0) d_Mo_first_0 rfl ?_
  refine ev_lconst (pc := 1) 1 d_Mo_first_1 (by decide) ?_
  refine ev_iconst (pc := 2) 5 d_Mo_first_2 (by decide) ?_
  refine ev_iload_n (pc := 3) d_Mo_first_3 rfl ?_
  refine ev_imul (pc := 4) d_Mo_first_4 ?_
  refine ev_lshl (pc := 5) d_Mo_first_5 ?_
  refine ev_lconst (pc := 6) 1 d_Mo_first_6 (by decide) ?_
  refine ev_lsub (pc := 7) d_Mo_first_7 ?_
  refine ev_land (pc := 8) d_Mo_first_8 ?_
  exact ev_lreturn (pc := 9) d_Mo_first_9 rfl q9_0
set_option maxRecDepth 100000 in
set_option maxHeartbeats 4000000 in
theorem s_Mo_measure_0 {l : Launch} {X : ev_X} {bc bs n : Nat} {F : ev_H} {Q : Option Value → Nat → ev_H → Prop} {j0 : Int64} {i2 : Int32} 
    (k5_0 : Ev l X M_Mo_measure bc bs 5 [(0, .long j0), (2, .int i2), (3, .int 0), (4, .int 0)] [] n F (ev_mq X Q)) :
    Ev l X M_Mo_measure bc bs 0 [(0, .long j0), (2, .int i2)] [] n F (ev_mq X Q) := by
  refine ev_iconst (pc := 0) 0 d_Mo_measure_0 (by decide) ?_
  refine ev_istore_n (pc := 1) d_Mo_measure_1 (Nat.le_of_ble_eq_true rfl) [1, 2, 0] rfl ?_
  refine ev_iconst (pc := 2) 0 d_Mo_measure_2 (by decide) ?_
  refine ev_istore (pc := 3) d_Mo_measure_3 (Nat.le_of_ble_eq_true rfl) [1, 2, 3, 0] rfl ?_
  exact k5_0

set_option maxRecDepth 100000 in
set_option maxHeartbeats 4000000 in
theorem s_Mo_measure_5 {l : Launch} {X : ev_X} {bc bs n : Nat} {F : ev_H} {Q : Option Value → Nat → ev_H → Prop} {j0 : Int64} {i2 : Int32} {i3 : Int32} {i4 : Int32} {v16 : Int32} {v27 : Int32} 
    (q48_0 : (i2 ≤ (i4 + 1)) → Q (some (.int i3)) n F)
    (c16_1 : (¬ i2 ≤ (i4 + 1)) → Cal l X M_Mo_isVowel 0 0 [.long j0, .int i4] n F (ev_pure (.int v16) n F))
    (k5_2 : (¬ i2 ≤ (i4 + 1)) → (v16 = 0) → Ev l X M_Mo_measure bc bs 5 [(0, .long j0), (2, .int i2), (3, .int i3), (4, .int (i4 + 1))] [] n F (ev_mq X Q))
    (c27_3 : (¬ i2 ≤ (i4 + 1)) → (¬ v16 = 0) → Cal l X M_Mo_isVowel 0 0 [.long j0, .int (i4 + 1)] n F (ev_pure (.int v27) n F))
    (k5_4 : (¬ i2 ≤ (i4 + 1)) → (¬ v16 = 0) → (¬ v27 = 0) → Ev l X M_Mo_measure bc bs 5 [(0, .long j0), (2, .int i2), (3, .int i3), (4, .int (i4 + 1))] [] n F (ev_mq X Q))
    (k5_5 : (¬ i2 ≤ (i4 + 1)) → (¬ v16 = 0) → (v27 = 0) → Ev l X M_Mo_measure bc bs 5 [(0, .long j0), (2, .int i2), (3, .int (i3 + 1)), (4, .int (i4 + 1))] [] n F (ev_mq X Q)) :
    Ev l X M_Mo_measure bc bs 5 [(0, .long j0), (2, .int i2), (3, .int i3), (4, .int i4)] [] n F (ev_mq X Q) := by
  refine ev_iload (pc := 5) d_Mo_measure_5 rfl ?_
  refine ev_iconst (pc := 7) 1 d_Mo_measure_7 (by decide) ?_
  refine ev_iadd (pc := 8) d_Mo_measure_8 ?_
  refine ev_iload_n (pc := 9) d_Mo_measure_9 rfl ?_
  refine ev_icmp_ge (pc := 10) 47 d_Mo_measure_10 (by decide) (fun c10 => ?_) (fun c10 => ?_)
  · refine ev_iload_n (pc := 47) d_Mo_measure_47 rfl ?_
    exact ev_ireturn (pc := 48) d_Mo_measure_48 rfl rfl (q48_0 c10)
  · refine ev_lload_n (pc := 13) d_Mo_measure_13 rfl ?_
    refine ev_iload (pc := 14) d_Mo_measure_14 rfl ?_
    refine ev_invokestatic (pc := 16) (As := [.long j0, .int i4]) (st := []) (Q2 := ev_pure (.int v16) n F) (bc1 := 0) (bs1 := 0) M_Mo_isVowel d_Mo_measure_16 lc_Mo_79 wd_1023 rfl rfl (Nat.le_of_ble_eq_true rfl) (Nat.le_of_ble_eq_true rfl) (Nat.le_of_ble_eq_true rfl) (Nat.le_refl _) (Nat.le_refl _) (c16_1 c10) ?_
    refine ev_purek ?_
    refine ev_if_eq (pc := 19) 39 d_Mo_measure_19 (by decide) (fun c19 => ?_) (fun c19 => ?_)
    · refine ev_iload_n (pc := 39) d_Mo_measure_39 rfl ?_
      refine ev_istore_n (pc := 40) d_Mo_measure_40 (Nat.le_of_ble_eq_true rfl) [1, 2, 0, 3] rfl ?_
      refine ev_iinc (pc := 41) 3 1 d_Mo_measure_41 rfl (by decide) (Nat.le_of_ble_eq_true rfl) [1, 2, 3, 0] rfl ?_
      refine ev_goto (pc := 44) 5 d_Mo_measure_44 (by decide) ?_
      exact (k5_2 c10 c19)
    · refine ev_lload_n (pc := 22) d_Mo_measure_22 rfl ?_
      refine ev_iload (pc := 23) d_Mo_measure_23 rfl ?_
      refine ev_iconst (pc := 25) 1 d_Mo_measure_25 (by decide) ?_
      refine ev_iadd (pc := 26) d_Mo_measure_26 ?_
      refine ev_invokestatic (pc := 27) (As := [.long j0, .int (i4 + 1)]) (st := []) (Q2 := ev_pure (.int v27) n F) (bc1 := 0) (bs1 := 0) M_Mo_isVowel d_Mo_measure_27 lc_Mo_79 wd_1023 rfl rfl (Nat.le_of_ble_eq_true rfl) (Nat.le_of_ble_eq_true rfl) (Nat.le_of_ble_eq_true rfl) (Nat.le_refl _) (Nat.le_refl _) (c27_3 c10 c19) ?_
      refine ev_purek ?_
      refine ev_if_ne (pc := 30) 39 d_Mo_measure_30 (by decide) (fun c30 => ?_) (fun c30 => ?_)
      · refine ev_iload_n (pc := 39) d_Mo_measure_39 rfl ?_
        refine ev_istore_n (pc := 40) d_Mo_measure_40 (Nat.le_of_ble_eq_true rfl) [1, 2, 0, 3] rfl ?_
        refine ev_iinc (pc := 41) 3 1 d_Mo_measure_41 rfl (by decide) (Nat.le_of_ble_eq_true rfl) [1, 2, 3, 0] rfl ?_
        refine ev_goto (pc := 44) 5 d_Mo_measure_44 (by decide) ?_
        exact (k5_4 c10 c19 c30)
      · refine ev_iload_n (pc := 33) d_Mo_measure_33 rfl ?_
        refine ev_iconst (pc := 34) 1 d_Mo_measure_34 (by decide) ?_
        refine ev_iadd (pc := 35) d_Mo_measure_35 ?_
        refine ev_goto (pc := 36) 40 d_Mo_measure_36 (by decide) ?_
        refine ev_istore_n (pc := 40) d_Mo_measure_40 (Nat.le_of_ble_eq_true rfl) [1, 2, 0, 3] rfl ?_
        refine ev_iinc (pc := 41) 3 1 d_Mo_measure_41 rfl (by decide) (Nat.le_of_ble_eq_true rfl) [1, 2, 3, 0] rfl ?_
        refine ev_goto (pc := 44) 5 d_Mo_measure_44 (by decide) ?_
        exact (k5_5 c10 c19 c30)
set_option maxRecDepth 100000 in
set_option maxHeartbeats 4000000 in
theorem s_Mo_someVowel_0 {l : Launch} {X : ev_X} {bc bs n : Nat} {F : ev_H} {Q : Option Value → Nat → ev_H → Prop} {j0 : Int64} {i2 : Int32} 
    (k5_0 : Ev l X M_Mo_someVowel bc bs 5 [(0, .long j0), (2, .int i2), (3, .int 0), (4, .int 0)] [] n F (ev_mq X Q)) :
    Ev l X M_Mo_someVowel bc bs 0 [(0, .long j0), (2, .int i2)] [] n F (ev_mq X Q) := by
  refine ev_iconst (pc := 0) 0 d_Mo_someVowel_0 (by decide) ?_
  refine ev_istore_n (pc := 1) d_Mo_someVowel_1 (Nat.le_of_ble_eq_true rfl) [1, 2, 0] rfl ?_
  refine ev_iconst (pc := 2) 0 d_Mo_someVowel_2 (by decide) ?_
  refine ev_istore (pc := 3) d_Mo_someVowel_3 (Nat.le_of_ble_eq_true rfl) [1, 2, 3, 0] rfl ?_
  exact k5_0

set_option maxRecDepth 100000 in
set_option maxHeartbeats 4000000 in
theorem s_Mo_someVowel_5 {l : Launch} {X : ev_X} {bc bs n : Nat} {F : ev_H} {Q : Option Value → Nat → ev_H → Prop} {j0 : Int64} {i2 : Int32} {i3 : Int32} {i4 : Int32} {v18 : Int32} 
    (q37_0 : (i2 ≤ i4) → Q (some (.int i3)) n F)
    (nr37_1 : (i2 ≤ i4) → narrow .boolean (.int i3) = .int i3)
    (k5_2 : (¬ i2 ≤ i4) → (¬ i3 = 0) → Ev l X M_Mo_someVowel bc bs 5 [(0, .long j0), (2, .int i2), (3, .int 1), (4, .int (i4 + 1))] [] n F (ev_mq X Q))
    (c18_3 : (¬ i2 ≤ i4) → (i3 = 0) → Cal l X M_Mo_isVowel 0 0 [.long j0, .int i4] n F (ev_pure (.int v18) n F))
    (k5_4 : (¬ i2 ≤ i4) → (i3 = 0) → (v18 = 0) → Ev l X M_Mo_someVowel bc bs 5 [(0, .long j0), (2, .int i2), (3, .int 0), (4, .int (i4 + 1))] [] n F (ev_mq X Q))
    (k5_5 : (¬ i2 ≤ i4) → (i3 = 0) → (¬ v18 = 0) → Ev l X M_Mo_someVowel bc bs 5 [(0, .long j0), (2, .int i2), (3, .int 1), (4, .int (i4 + 1))] [] n F (ev_mq X Q)) :
    Ev l X M_Mo_someVowel bc bs 5 [(0, .long j0), (2, .int i2), (3, .int i3), (4, .int i4)] [] n F (ev_mq X Q) := by
  refine ev_iload (pc := 5) d_Mo_someVowel_5 rfl ?_
  refine ev_iload_n (pc := 7) d_Mo_someVowel_7 rfl ?_
  refine ev_icmp_ge (pc := 8) 36 d_Mo_someVowel_8 (by decide) (fun c8 => ?_) (fun c8 => ?_)
  · refine ev_iload_n (pc := 36) d_Mo_someVowel_36 rfl ?_
    exact ev_ireturn (pc := 37) d_Mo_someVowel_37 rfl (nr37_1 c8) (q37_0 c8)
  · refine ev_iload_n (pc := 11) d_Mo_someVowel_11 rfl ?_
    refine ev_if_ne (pc := 12) 24 d_Mo_someVowel_12 (by decide) (fun c12 => ?_) (fun c12 => ?_)
    · refine ev_iconst (pc := 24) 1 d_Mo_someVowel_24 (by decide) ?_
      refine ev_goto (pc := 25) 29 d_Mo_someVowel_25 (by decide) ?_
      refine ev_istore_n (pc := 29) d_Mo_someVowel_29 (Nat.le_of_ble_eq_true rfl) [1, 2, 0, 3] rfl ?_
      refine ev_iinc (pc := 30) 3 1 d_Mo_someVowel_30 rfl (by decide) (Nat.le_of_ble_eq_true rfl) [1, 2, 3, 0] rfl ?_
      refine ev_goto (pc := 33) 5 d_Mo_someVowel_33 (by decide) ?_
      exact (k5_2 c8 c12)
    · refine ev_lload_n (pc := 15) d_Mo_someVowel_15 rfl ?_
      refine ev_iload (pc := 16) d_Mo_someVowel_16 rfl ?_
      refine ev_invokestatic (pc := 18) (As := [.long j0, .int i4]) (st := []) (Q2 := ev_pure (.int v18) n F) (bc1 := 0) (bs1 := 0) M_Mo_isVowel d_Mo_someVowel_18 lc_Mo_79 wd_1023 rfl rfl (Nat.le_of_ble_eq_true rfl) (Nat.le_of_ble_eq_true rfl) (Nat.le_of_ble_eq_true rfl) (Nat.le_refl _) (Nat.le_refl _) (c18_3 c8 c12) ?_
      refine ev_purek ?_
      refine ev_if_eq (pc := 21) 28 d_Mo_someVowel_21 (by decide) (fun c21 => ?_) (fun c21 => ?_)
      · refine ev_iconst (pc := 28) 0 d_Mo_someVowel_28 (by decide) ?_
        refine ev_istore_n (pc := 29) d_Mo_someVowel_29 (Nat.le_of_ble_eq_true rfl) [1, 2, 0, 3] rfl ?_
        refine ev_iinc (pc := 30) 3 1 d_Mo_someVowel_30 rfl (by decide) (Nat.le_of_ble_eq_true rfl) [1, 2, 3, 0] rfl ?_
        refine ev_goto (pc := 33) 5 d_Mo_someVowel_33 (by decide) ?_
        exact (k5_4 c8 c12 c21)
      · refine ev_iconst (pc := 24) 1 d_Mo_someVowel_24 (by decide) ?_
        refine ev_goto (pc := 25) 29 d_Mo_someVowel_25 (by decide) ?_
        refine ev_istore_n (pc := 29) d_Mo_someVowel_29 (Nat.le_of_ble_eq_true rfl) [1, 2, 0, 3] rfl ?_
        refine ev_iinc (pc := 30) 3 1 d_Mo_someVowel_30 rfl (by decide) (Nat.le_of_ble_eq_true rfl) [1, 2, 3, 0] rfl ?_
        refine ev_goto (pc := 33) 5 d_Mo_someVowel_33 (by decide) ?_
        exact (k5_5 c8 c12 c21)
set_option maxRecDepth 100000 in
set_option maxHeartbeats 4000000 in
theorem s_Mo_text_0 {l : Launch} {X : ev_X} {bc bs n : Nat} {F : ev_H} {Q : Option Value → Nat → ev_H → Prop} {i0 : Int32} {i1 : Int32} {i2 : Int32} {i3 : Int32} 
    (q19_0 : Q (some (.long (((i0.toInt64 ||| (i1.toInt64 <<< ((5 : Int32).toInt64 &&& 63))) ||| (i2.toInt64 <<< ((10 : Int32).toInt64 &&& 63))) ||| (i3.toInt64 <<< ((15 : Int32).toInt64 &&& 63))))) n F) :
    Ev l X M_Mo_text bc bs 0 [(0, .int i0), (1, .int i1), (2, .int i2), (3, .int i3)] [] n F (ev_mq X Q) := by
  refine ev_iload_n (pc := 0) d_Mo_text_0 rfl ?_
  refine ev_i2l (pc := 1) d_Mo_text_1 ?_
  refine ev_iload_n (pc := 2) d_Mo_text_2 rfl ?_
  refine ev_i2l (pc := 3) d_Mo_text_3 ?_
  refine ev_iconst (pc := 4) 5 d_Mo_text_4 (by decide) ?_
  refine ev_lshl (pc := 5) d_Mo_text_5 ?_
  refine ev_lor (pc := 6) d_Mo_text_6 ?_
  refine ev_iload_n (pc := 7) d_Mo_text_7 rfl ?_
  refine ev_i2l (pc := 8) d_Mo_text_8 ?_
  refine ev_bipush (pc := 9) 10 d_Mo_text_9 (by decide) ?_
  refine ev_lshl (pc := 11) d_Mo_text_11 ?_
  refine ev_lor (pc := 12) d_Mo_text_12 ?_
  refine ev_iload_n (pc := 13) d_Mo_text_13 rfl ?_
  refine ev_i2l (pc := 14) d_Mo_text_14 ?_
  refine ev_bipush (pc := 15) 15 d_Mo_text_15 (by decide) ?_
  refine ev_lshl (pc := 17) d_Mo_text_17 ?_
  refine ev_lor (pc := 18) d_Mo_text_18 ?_
  exact ev_lreturn (pc := 19) d_Mo_text_19 rfl q19_0
set_option maxRecDepth 100000 in
set_option maxHeartbeats 4000000 in
theorem s_Mo_ends_0 {l : Launch} {X : ev_X} {bc bs n : Nat} {F : ev_H} {Q : Option Value → Nat → ev_H → Prop} {j0 : Int64} {j2 : Int64} {v1 : Int32} {v5 : Int32} 
    (c1_0 : Cal l X M_Mo_length 0 0 [.long j0] n F (ev_pure (.int v1) n F))
    (c5_1 : Cal l X M_Mo_length 0 0 [.long j2] n F (ev_pure (.int v5) n F))
    (q32_2 : ((v1 - v5) < 0) → Q (some (.int 0)) n F)
    (q32_3 : (¬ (v1 - v5) < 0) → (¬ (lg_cmp (j0 >>> ((5 * (v1 - v5)).toInt64 &&& 63)) j2) = 0) → Q (some (.int 0)) n F)
    (q32_4 : (¬ (v1 - v5) < 0) → ((lg_cmp (j0 >>> ((5 * (v1 - v5)).toInt64 &&& 63)) j2) = 0) → Q (some (.int 1)) n F) :
    Ev l X M_Mo_ends bc bs 0 [(0, .long j0), (2, .long j2)] [] n F (ev_mq X Q) := by
  refine ev_lload_n (pc := 0) d_Mo_ends_0 rfl ?_
  refine ev_invokestatic (pc := 1) (As := [.long j0]) (st := []) (Q2 := ev_pure (.int v1) n F) (bc1 := 0) (bs1 := 0) M_Mo_length d_Mo_ends_1 lc_Mo_71 wd_992 rfl rfl (Nat.le_of_ble_eq_true rfl) (Nat.le_of_ble_eq_true rfl) (Nat.le_of_ble_eq_true rfl) (Nat.le_refl _) (Nat.le_refl _) c1_0 ?_
  refine ev_purek ?_
  refine ev_lload_n (pc := 4) d_Mo_ends_4 rfl ?_
  refine ev_invokestatic (pc := 5) (As := [.long j2]) (st := [.int v1]) (Q2 := ev_pure (.int v5) n F) (bc1 := 0) (bs1 := 0) M_Mo_length d_Mo_ends_5 lc_Mo_71 wd_992 rfl rfl (Nat.le_of_ble_eq_true rfl) (Nat.le_of_ble_eq_true rfl) (Nat.le_of_ble_eq_true rfl) (Nat.le_refl _) (Nat.le_refl _) c5_1 ?_
  refine ev_purek ?_
  refine ev_isub (pc := 8) d_Mo_ends_8 ?_
  refine ev_istore (pc := 9) d_Mo_ends_9 (Nat.le_of_ble_eq_true rfl) [1, 2, 0] rfl ?_
  refine ev_iload (pc := 11) d_Mo_ends_11 rfl ?_
  refine ev_if_lt (pc := 13) 31 d_Mo_ends_13 (by decide) (fun c13 => ?_) (fun c13 => ?_)
  · refine ev_iconst (pc := 31) 0 d_Mo_ends_31 (by decide) ?_
    exact ev_ireturn (pc := 32) d_Mo_ends_32 rfl rfl (q32_2 c13)
  · refine ev_lload_n (pc := 16) d_Mo_ends_16 rfl ?_
    refine ev_iconst (pc := 17) 5 d_Mo_ends_17 (by decide) ?_
    refine ev_iload (pc := 18) d_Mo_ends_18 rfl ?_
    refine ev_imul (pc := 20) d_Mo_ends_20 ?_
    refine ev_lshr (pc := 21) d_Mo_ends_21 ?_
    refine ev_lload_n (pc := 22) d_Mo_ends_22 rfl ?_
    refine ev_lcmp (pc := 23) d_Mo_ends_23 ?_
    refine ev_if_ne (pc := 24) 31 d_Mo_ends_24 (by decide) (fun c24 => ?_) (fun c24 => ?_)
    · refine ev_iconst (pc := 31) 0 d_Mo_ends_31 (by decide) ?_
      exact ev_ireturn (pc := 32) d_Mo_ends_32 rfl rfl (q32_3 c13 c24)
    · refine ev_iconst (pc := 27) 1 d_Mo_ends_27 (by decide) ?_
      refine ev_goto (pc := 28) 32 d_Mo_ends_28 (by decide) ?_
      exact ev_ireturn (pc := 32) d_Mo_ends_32 rfl rfl (q32_4 c13 c24)
set_option maxRecDepth 100000 in
set_option maxHeartbeats 4000000 in
theorem s_Mo_without_0 {l : Launch} {X : ev_X} {bc bs n : Nat} {F : ev_H} {Q : Option Value → Nat → ev_H → Prop} {j0 : Int64} {i2 : Int32} {v2 : Int32} {v7 : Int64} 
    (c2_0 : Cal l X M_Mo_length 0 0 [.long j0] n F (ev_pure (.int v2) n F))
    (c7_1 : Cal l X M_Mo_first 0 0 [.long j0, .int (v2 - i2)] n F (ev_pure (.long v7) n F))
    (q10_2 : Q (some (.long v7)) n F) :
    Ev l X M_Mo_without bc bs 0 [(0, .long j0), (2, .int i2)] [] n F (ev_mq X Q) := by
  refine ev_lload_n (pc := 0) d_Mo_without_0 rfl ?_
  refine ev_lload_n (pc := 1) d_Mo_without_1 rfl ?_
  refine ev_invokestatic (pc := 2) (As := [.long j0]) (st := [.long j0]) (Q2 := ev_pure (.int v2) n F) (bc1 := 0) (bs1 := 0) M_Mo_length d_Mo_without_2 lc_Mo_71 wd_992 rfl rfl (Nat.le_of_ble_eq_true rfl) (Nat.le_of_ble_eq_true rfl) (Nat.le_of_ble_eq_true rfl) (Nat.le_refl _) (Nat.le_refl _) c2_0 ?_
  refine ev_purek ?_
  refine ev_iload_n (pc := 5) d_Mo_without_5 rfl ?_
  refine ev_isub (pc := 6) d_Mo_without_6 ?_
  refine ev_invokestatic (pc := 7) (As := [.long j0, .int (v2 - i2)]) (st := []) (Q2 := ev_pure (.long v7) n F) (bc1 := 0) (bs1 := 0) M_Mo_first d_Mo_without_7 lc_Mo_83 wd_1014 rfl rfl (Nat.le_of_ble_eq_true rfl) (Nat.le_of_ble_eq_true rfl) (Nat.le_of_ble_eq_true rfl) (Nat.le_refl _) (Nat.le_refl _) c7_1 ?_
  refine ev_purek ?_
  exact ev_lreturn (pc := 10) d_Mo_without_10 rfl q10_2
set_option maxRecDepth 100000 in
set_option maxHeartbeats 4000000 in
theorem s_Mo_isStop_0 {l : Launch} {X : ev_X} {bc bs n : Nat} {F : ev_H} {Q : Option Value → Nat → ev_H → Prop} {j0 : Int64} {v6 : Int64} {v20 : Int64} {v34 : Int64} {v48 : Int64} {v62 : Int64} 
    (c6_0 : Cal l X M_Mo_text 0 0 [.int 1, .int 14, .int 0, .int 0] n F (ev_pure (.long v6) n F))
    (k69_1 : ((lg_cmp j0 v6) = 0) → Ev l X M_Mo_isStop bc bs 69 [(0, .long j0)] [] n F (ev_mq X Q))
    (c20_2 : (¬ (lg_cmp j0 v6) = 0) → Cal l X M_Mo_text 0 0 [.int 9, .int 14, .int 0, .int 0] n F (ev_pure (.long v20) n F))
    (k69_3 : (¬ (lg_cmp j0 v6) = 0) → ((lg_cmp j0 v20) = 0) → Ev l X M_Mo_isStop bc bs 69 [(0, .long j0)] [] n F (ev_mq X Q))
    (c34_4 : (¬ (lg_cmp j0 v6) = 0) → (¬ (lg_cmp j0 v20) = 0) → Cal l X M_Mo_text 0 0 [.int 15, .int 6, .int 0, .int 0] n F (ev_pure (.long v34) n F))
    (k69_5 : (¬ (lg_cmp j0 v6) = 0) → (¬ (lg_cmp j0 v20) = 0) → ((lg_cmp j0 v34) = 0) → Ev l X M_Mo_isStop bc bs 69 [(0, .long j0)] [] n F (ev_mq X Q))
    (c48_6 : (¬ (lg_cmp j0 v6) = 0) → (¬ (lg_cmp j0 v20) = 0) → (¬ (lg_cmp j0 v34) = 0) → Cal l X M_Mo_text 0 0 [.int 15, .int 18, .int 0, .int 0] n F (ev_pure (.long v48) n F))
    (k69_7 : (¬ (lg_cmp j0 v6) = 0) → (¬ (lg_cmp j0 v20) = 0) → (¬ (lg_cmp j0 v34) = 0) → ((lg_cmp j0 v48) = 0) → Ev l X M_Mo_isStop bc bs 69 [(0, .long j0)] [] n F (ev_mq X Q))
    (c62_8 : (¬ (lg_cmp j0 v6) = 0) → (¬ (lg_cmp j0 v20) = 0) → (¬ (lg_cmp j0 v34) = 0) → (¬ (lg_cmp j0 v48) = 0) → Cal l X M_Mo_text 0 0 [.int 20, .int 15, .int 0, .int 0] n F (ev_pure (.long v62) n F))
    (k74_9 : (¬ (lg_cmp j0 v6) = 0) → (¬ (lg_cmp j0 v20) = 0) → (¬ (lg_cmp j0 v34) = 0) → (¬ (lg_cmp j0 v48) = 0) → (¬ (lg_cmp j0 v62) = 0) → Ev l X M_Mo_isStop bc bs 74 [(0, .long j0)] [.int 0] n F (ev_mq X Q))
    (k69_10 : (¬ (lg_cmp j0 v6) = 0) → (¬ (lg_cmp j0 v20) = 0) → (¬ (lg_cmp j0 v34) = 0) → (¬ (lg_cmp j0 v48) = 0) → ((lg_cmp j0 v62) = 0) → Ev l X M_Mo_isStop bc bs 69 [(0, .long j0)] [] n F (ev_mq X Q)) :
    Ev l X M_Mo_isStop bc bs 0 [(0, .long j0)] [] n F (ev_mq X Q) := by
  refine ev_lload_n (pc := 0) d_Mo_isStop_0 rfl ?_
  refine ev_iconst (pc := 1) 1 d_Mo_isStop_1 (by decide) ?_
  refine ev_bipush (pc := 2) 14 d_Mo_isStop_2 (by decide) ?_
  refine ev_iconst (pc := 4) 0 d_Mo_isStop_4 (by decide) ?_
  refine ev_iconst (pc := 5) 0 d_Mo_isStop_5 (by decide) ?_
  refine ev_invokestatic (pc := 6) (As := [.int 1, .int 14, .int 0, .int 0]) (st := [.long j0]) (Q2 := ev_pure (.long v6) n F) (bc1 := 0) (bs1 := 0) M_Mo_text d_Mo_isStop_6 lc_Mo_87 wd_1005 rfl rfl (Nat.le_of_ble_eq_true rfl) (Nat.le_of_ble_eq_true rfl) (Nat.le_of_ble_eq_true rfl) (Nat.le_refl _) (Nat.le_refl _) c6_0 ?_
  refine ev_purek ?_
  refine ev_lcmp (pc := 9) d_Mo_isStop_9 ?_
  refine ev_if_eq (pc := 10) 69 d_Mo_isStop_10 (by decide) (fun c10 => ?_) (fun c10 => ?_)
  · exact (k69_1 c10)
  · refine ev_lload_n (pc := 13) d_Mo_isStop_13 rfl ?_
    refine ev_bipush (pc := 14) 9 d_Mo_isStop_14 (by decide) ?_
    refine ev_bipush (pc := 16) 14 d_Mo_isStop_16 (by decide) ?_
    refine ev_iconst (pc := 18) 0 d_Mo_isStop_18 (by decide) ?_
    refine ev_iconst (pc := 19) 0 d_Mo_isStop_19 (by decide) ?_
    refine ev_invokestatic (pc := 20) (As := [.int 9, .int 14, .int 0, .int 0]) (st := [.long j0]) (Q2 := ev_pure (.long v20) n F) (bc1 := 0) (bs1 := 0) M_Mo_text d_Mo_isStop_20 lc_Mo_87 wd_1005 rfl rfl (Nat.le_of_ble_eq_true rfl) (Nat.le_of_ble_eq_true rfl) (Nat.le_of_ble_eq_true rfl) (Nat.le_refl _) (Nat.le_refl _) (c20_2 c10) ?_
    refine ev_purek ?_
    refine ev_lcmp (pc := 23) d_Mo_isStop_23 ?_
    refine ev_if_eq (pc := 24) 69 d_Mo_isStop_24 (by decide) (fun c24 => ?_) (fun c24 => ?_)
    · exact (k69_3 c10 c24)
    · refine ev_lload_n (pc := 27) d_Mo_isStop_27 rfl ?_
      refine ev_bipush (pc := 28) 15 d_Mo_isStop_28 (by decide) ?_
      refine ev_bipush (pc := 30) 6 d_Mo_isStop_30 (by decide) ?_
      refine ev_iconst (pc := 32) 0 d_Mo_isStop_32 (by decide) ?_
      refine ev_iconst (pc := 33) 0 d_Mo_isStop_33 (by decide) ?_
      refine ev_invokestatic (pc := 34) (As := [.int 15, .int 6, .int 0, .int 0]) (st := [.long j0]) (Q2 := ev_pure (.long v34) n F) (bc1 := 0) (bs1 := 0) M_Mo_text d_Mo_isStop_34 lc_Mo_87 wd_1005 rfl rfl (Nat.le_of_ble_eq_true rfl) (Nat.le_of_ble_eq_true rfl) (Nat.le_of_ble_eq_true rfl) (Nat.le_refl _) (Nat.le_refl _) (c34_4 c10 c24) ?_
      refine ev_purek ?_
      refine ev_lcmp (pc := 37) d_Mo_isStop_37 ?_
      refine ev_if_eq (pc := 38) 69 d_Mo_isStop_38 (by decide) (fun c38 => ?_) (fun c38 => ?_)
      · exact (k69_5 c10 c24 c38)
      · refine ev_lload_n (pc := 41) d_Mo_isStop_41 rfl ?_
        refine ev_bipush (pc := 42) 15 d_Mo_isStop_42 (by decide) ?_
        refine ev_bipush (pc := 44) 18 d_Mo_isStop_44 (by decide) ?_
        refine ev_iconst (pc := 46) 0 d_Mo_isStop_46 (by decide) ?_
        refine ev_iconst (pc := 47) 0 d_Mo_isStop_47 (by decide) ?_
        refine ev_invokestatic (pc := 48) (As := [.int 15, .int 18, .int 0, .int 0]) (st := [.long j0]) (Q2 := ev_pure (.long v48) n F) (bc1 := 0) (bs1 := 0) M_Mo_text d_Mo_isStop_48 lc_Mo_87 wd_1005 rfl rfl (Nat.le_of_ble_eq_true rfl) (Nat.le_of_ble_eq_true rfl) (Nat.le_of_ble_eq_true rfl) (Nat.le_refl _) (Nat.le_refl _) (c48_6 c10 c24 c38) ?_
        refine ev_purek ?_
        refine ev_lcmp (pc := 51) d_Mo_isStop_51 ?_
        refine ev_if_eq (pc := 52) 69 d_Mo_isStop_52 (by decide) (fun c52 => ?_) (fun c52 => ?_)
        · exact (k69_7 c10 c24 c38 c52)
        · refine ev_lload_n (pc := 55) d_Mo_isStop_55 rfl ?_
          refine ev_bipush (pc := 56) 20 d_Mo_isStop_56 (by decide) ?_
          refine ev_bipush (pc := 58) 15 d_Mo_isStop_58 (by decide) ?_
          refine ev_iconst (pc := 60) 0 d_Mo_isStop_60 (by decide) ?_
          refine ev_iconst (pc := 61) 0 d_Mo_isStop_61 (by decide) ?_
          refine ev_invokestatic (pc := 62) (As := [.int 20, .int 15, .int 0, .int 0]) (st := [.long j0]) (Q2 := ev_pure (.long v62) n F) (bc1 := 0) (bs1 := 0) M_Mo_text d_Mo_isStop_62 lc_Mo_87 wd_1005 rfl rfl (Nat.le_of_ble_eq_true rfl) (Nat.le_of_ble_eq_true rfl) (Nat.le_of_ble_eq_true rfl) (Nat.le_refl _) (Nat.le_refl _) (c62_8 c10 c24 c38 c52) ?_
          refine ev_purek ?_
          refine ev_lcmp (pc := 65) d_Mo_isStop_65 ?_
          refine ev_if_ne (pc := 66) 73 d_Mo_isStop_66 (by decide) (fun c66 => ?_) (fun c66 => ?_)
          · refine ev_iconst (pc := 73) 0 d_Mo_isStop_73 (by decide) ?_
            exact (k74_9 c10 c24 c38 c52 c66)
          · exact (k69_10 c10 c24 c38 c52 c66)

set_option maxRecDepth 100000 in
set_option maxHeartbeats 4000000 in
theorem s_Mo_isStop_69 {l : Launch} {X : ev_X} {bc bs n : Nat} {F : ev_H} {Q : Option Value → Nat → ev_H → Prop} {j0 : Int64} 
    (k74_0 : Ev l X M_Mo_isStop bc bs 74 [(0, .long j0)] [.int 1] n F (ev_mq X Q)) :
    Ev l X M_Mo_isStop bc bs 69 [(0, .long j0)] [] n F (ev_mq X Q) := by
  refine ev_iconst (pc := 69) 1 d_Mo_isStop_69 (by decide) ?_
  refine ev_goto (pc := 70) 74 d_Mo_isStop_70 (by decide) ?_
  exact k74_0

set_option maxRecDepth 100000 in
set_option maxHeartbeats 4000000 in
theorem s_Mo_isStop_74 {l : Launch} {X : ev_X} {bc bs n : Nat} {F : ev_H} {Q : Option Value → Nat → ev_H → Prop} {j0 : Int64} {is0 : Int32} {v91 : Int64} {v105 : Int64} 
    (k112_0 : ((lg_cmp j0 1) = 0) → Ev l X M_Mo_isStop bc bs 112 [(0, .long j0), (2, .int is0)] [] n F (ev_mq X Q))
    (k112_1 : (¬ (lg_cmp j0 1) = 0) → (¬ is0 = 0) → Ev l X M_Mo_isStop bc bs 112 [(0, .long j0), (2, .int is0)] [] n F (ev_mq X Q))
    (c91_2 : (¬ (lg_cmp j0 1) = 0) → (is0 = 0) → Cal l X M_Mo_text 0 0 [.int 1, .int 14, .int 4, .int 0] n F (ev_pure (.long v91) n F))
    (k112_3 : (¬ (lg_cmp j0 1) = 0) → (is0 = 0) → ((lg_cmp j0 v91) = 0) → Ev l X M_Mo_isStop bc bs 112 [(0, .long j0), (2, .int is0)] [] n F (ev_mq X Q))
    (c105_4 : (¬ (lg_cmp j0 1) = 0) → (is0 = 0) → (¬ (lg_cmp j0 v91) = 0) → Cal l X M_Mo_text 0 0 [.int 20, .int 8, .int 5, .int 0] n F (ev_pure (.long v105) n F))
    (k117_5 : (¬ (lg_cmp j0 1) = 0) → (is0 = 0) → (¬ (lg_cmp j0 v91) = 0) → (¬ (lg_cmp j0 v105) = 0) → Ev l X M_Mo_isStop bc bs 117 [(0, .long j0), (2, .int is0)] [.int 0] n F (ev_mq X Q))
    (k112_6 : (¬ (lg_cmp j0 1) = 0) → (is0 = 0) → (¬ (lg_cmp j0 v91) = 0) → ((lg_cmp j0 v105) = 0) → Ev l X M_Mo_isStop bc bs 112 [(0, .long j0), (2, .int is0)] [] n F (ev_mq X Q)) :
    Ev l X M_Mo_isStop bc bs 74 [(0, .long j0)] [.int is0] n F (ev_mq X Q) := by
  refine ev_istore_n (pc := 74) d_Mo_isStop_74 (Nat.le_of_ble_eq_true rfl) [1, 0] rfl ?_
  refine ev_lload_n (pc := 75) d_Mo_isStop_75 rfl ?_
  refine ev_lconst (pc := 76) 1 d_Mo_isStop_76 (by decide) ?_
  refine ev_lcmp (pc := 77) d_Mo_isStop_77 ?_
  refine ev_if_eq (pc := 78) 112 d_Mo_isStop_78 (by decide) (fun c78 => ?_) (fun c78 => ?_)
  · exact (k112_0 c78)
  · refine ev_iload_n (pc := 81) d_Mo_isStop_81 rfl ?_
    refine ev_if_ne (pc := 82) 112 d_Mo_isStop_82 (by decide) (fun c82 => ?_) (fun c82 => ?_)
    · exact (k112_1 c78 c82)
    · refine ev_lload_n (pc := 85) d_Mo_isStop_85 rfl ?_
      refine ev_iconst (pc := 86) 1 d_Mo_isStop_86 (by decide) ?_
      refine ev_bipush (pc := 87) 14 d_Mo_isStop_87 (by decide) ?_
      refine ev_iconst (pc := 89) 4 d_Mo_isStop_89 (by decide) ?_
      refine ev_iconst (pc := 90) 0 d_Mo_isStop_90 (by decide) ?_
      refine ev_invokestatic (pc := 91) (As := [.int 1, .int 14, .int 4, .int 0]) (st := [.long j0]) (Q2 := ev_pure (.long v91) n F) (bc1 := 0) (bs1 := 0) M_Mo_text d_Mo_isStop_91 lc_Mo_87 wd_1005 rfl rfl (Nat.le_of_ble_eq_true rfl) (Nat.le_of_ble_eq_true rfl) (Nat.le_of_ble_eq_true rfl) (Nat.le_refl _) (Nat.le_refl _) (c91_2 c78 c82) ?_
      refine ev_purek ?_
      refine ev_lcmp (pc := 94) d_Mo_isStop_94 ?_
      refine ev_if_eq (pc := 95) 112 d_Mo_isStop_95 (by decide) (fun c95 => ?_) (fun c95 => ?_)
      · exact (k112_3 c78 c82 c95)
      · refine ev_lload_n (pc := 98) d_Mo_isStop_98 rfl ?_
        refine ev_bipush (pc := 99) 20 d_Mo_isStop_99 (by decide) ?_
        refine ev_bipush (pc := 101) 8 d_Mo_isStop_101 (by decide) ?_
        refine ev_iconst (pc := 103) 5 d_Mo_isStop_103 (by decide) ?_
        refine ev_iconst (pc := 104) 0 d_Mo_isStop_104 (by decide) ?_
        refine ev_invokestatic (pc := 105) (As := [.int 20, .int 8, .int 5, .int 0]) (st := [.long j0]) (Q2 := ev_pure (.long v105) n F) (bc1 := 0) (bs1 := 0) M_Mo_text d_Mo_isStop_105 lc_Mo_87 wd_1005 rfl rfl (Nat.le_of_ble_eq_true rfl) (Nat.le_of_ble_eq_true rfl) (Nat.le_of_ble_eq_true rfl) (Nat.le_refl _) (Nat.le_refl _) (c105_4 c78 c82 c95) ?_
        refine ev_purek ?_
        refine ev_lcmp (pc := 108) d_Mo_isStop_108 ?_
        refine ev_if_ne (pc := 109) 116 d_Mo_isStop_109 (by decide) (fun c109 => ?_) (fun c109 => ?_)
        · refine ev_iconst (pc := 116) 0 d_Mo_isStop_116 (by decide) ?_
          exact (k117_5 c78 c82 c95 c109)
        · exact (k112_6 c78 c82 c95 c109)

set_option maxRecDepth 100000 in
set_option maxHeartbeats 4000000 in
theorem s_Mo_isStop_112 {l : Launch} {X : ev_X} {bc bs n : Nat} {F : ev_H} {Q : Option Value → Nat → ev_H → Prop} {j0 : Int64} {i2 : Int32} 
    (k117_0 : Ev l X M_Mo_isStop bc bs 117 [(0, .long j0), (2, .int i2)] [.int 1] n F (ev_mq X Q)) :
    Ev l X M_Mo_isStop bc bs 112 [(0, .long j0), (2, .int i2)] [] n F (ev_mq X Q) := by
  refine ev_iconst (pc := 112) 1 d_Mo_isStop_112 (by decide) ?_
  refine ev_goto (pc := 113) 117 d_Mo_isStop_113 (by decide) ?_
  exact k117_0

set_option maxRecDepth 100000 in
set_option maxHeartbeats 4000000 in
theorem s_Mo_isStop_117 {l : Launch} {X : ev_X} {bc bs n : Nat} {F : ev_H} {Q : Option Value → Nat → ev_H → Prop} {j0 : Int64} {i2 : Int32} {is0 : Int32} 
    (q117_0 : Q (some (.int is0)) n F)
    (nr117_1 : narrow .boolean (.int is0) = .int is0) :
    Ev l X M_Mo_isStop bc bs 117 [(0, .long j0), (2, .int i2)] [.int is0] n F (ev_mq X Q) := by
  exact ev_ireturn (pc := 117) d_Mo_isStop_117 rfl nr117_1 q117_0
set_option maxRecDepth 100000 in
set_option maxHeartbeats 4000000 in
theorem s_Mo_plural_0 {l : Launch} {X : ev_X} {bc bs n : Nat} {F : ev_H} {Q : Option Value → Nat → ev_H → Prop} {j0 : Int64} {v8 : Int64} {v11 : Int32} {v35 : Int64} {v24 : Int64} {v27 : Int32} {v45 : Int64} {v48 : Int32} {v61 : Int64} {v64 : Int32} {v72 : Int64} {v35_2 : Int64} 
    (c8_0 : Cal l X M_Mo_text 0 0 [.int 19, .int 19, .int 5, .int 19] n F (ev_pure (.long v8) n F))
    (c11_1 : Cal l X M_Mo_ends 0 0 [.long j0, .long v8] n F (ev_pure (.int v11) n F))
    (c35_2 : (¬ v11 = 0) → Cal l X M_Mo_without 0 0 [.long j0, .int 2] n F (ev_pure (.long v35) n F))
    (q38_3 : (¬ v11 = 0) → Q (some (.long v35)) n F)
    (c24_4 : (v11 = 0) → Cal l X M_Mo_text 0 0 [.int 9, .int 5, .int 19, .int 0] n F (ev_pure (.long v24) n F))
    (c27_5 : (v11 = 0) → Cal l X M_Mo_ends 0 0 [.long j0, .long v24] n F (ev_pure (.int v27) n F))
    (c45_6 : (v11 = 0) → (v27 = 0) → Cal l X M_Mo_text 0 0 [.int 19, .int 0, .int 0, .int 0] n F (ev_pure (.long v45) n F))
    (c48_7 : (v11 = 0) → (v27 = 0) → Cal l X M_Mo_ends 0 0 [.long j0, .long v45] n F (ev_pure (.int v48) n F))
    (q79_8 : (v11 = 0) → (v27 = 0) → (v48 = 0) → Q (some (.long j0)) n F)
    (c61_9 : (v11 = 0) → (v27 = 0) → (¬ v48 = 0) → Cal l X M_Mo_text 0 0 [.int 19, .int 19, .int 0, .int 0] n F (ev_pure (.long v61) n F))
    (c64_10 : (v11 = 0) → (v27 = 0) → (¬ v48 = 0) → Cal l X M_Mo_ends 0 0 [.long j0, .long v61] n F (ev_pure (.int v64) n F))
    (q79_11 : (v11 = 0) → (v27 = 0) → (¬ v48 = 0) → (¬ v64 = 0) → Q (some (.long j0)) n F)
    (c72_12 : (v11 = 0) → (v27 = 0) → (¬ v48 = 0) → (v64 = 0) → Cal l X M_Mo_without 0 0 [.long j0, .int 1] n F (ev_pure (.long v72) n F))
    (q79_13 : (v11 = 0) → (v27 = 0) → (¬ v48 = 0) → (v64 = 0) → Q (some (.long v72)) n F)
    (c35_14 : (v11 = 0) → (¬ v27 = 0) → Cal l X M_Mo_without 0 0 [.long j0, .int 2] n F (ev_pure (.long v35_2) n F))
    (q38_15 : (v11 = 0) → (¬ v27 = 0) → Q (some (.long v35_2)) n F) :
    Ev l X M_Mo_plural bc bs 0 [(0, .long j0)] [] n F (ev_mq X Q) := by
  refine ev_lload_n (pc := 0) d_Mo_plural_0 rfl ?_
  refine ev_bipush (pc := 1) 19 d_Mo_plural_1 (by decide) ?_
  refine ev_bipush (pc := 3) 19 d_Mo_plural_3 (by decide) ?_
  refine ev_iconst (pc := 5) 5 d_Mo_plural_5 (by decide) ?_
  refine ev_bipush (pc := 6) 19 d_Mo_plural_6 (by decide) ?_
  refine ev_invokestatic (pc := 8) (As := [.int 19, .int 19, .int 5, .int 19]) (st := [.long j0]) (Q2 := ev_pure (.long v8) n F) (bc1 := 0) (bs1 := 0) M_Mo_text d_Mo_plural_8 lc_Mo_87 wd_1005 rfl rfl (Nat.le_of_ble_eq_true rfl) (Nat.le_of_ble_eq_true rfl) (Nat.le_of_ble_eq_true rfl) (Nat.le_refl _) (Nat.le_refl _) c8_0 ?_
  refine ev_purek ?_
  refine ev_invokestatic (pc := 11) (As := [.long j0, .long v8]) (st := []) (Q2 := ev_pure (.int v11) n F) (bc1 := 0) (bs1 := 0) M_Mo_ends d_Mo_plural_11 lc_Mo_91 wd_1008 rfl rfl (Nat.le_of_ble_eq_true rfl) (Nat.le_of_ble_eq_true rfl) (Nat.le_of_ble_eq_true rfl) (Nat.le_refl _) (Nat.le_refl _) c11_1 ?_
  refine ev_purek ?_
  refine ev_if_ne (pc := 14) 33 d_Mo_plural_14 (by decide) (fun c14 => ?_) (fun c14 => ?_)
  · refine ev_lload_n (pc := 33) d_Mo_plural_33 rfl ?_
    refine ev_iconst (pc := 34) 2 d_Mo_plural_34 (by decide) ?_
    refine ev_invokestatic (pc := 35) (As := [.long j0, .int 2]) (st := []) (Q2 := ev_pure (.long v35) n F) (bc1 := 0) (bs1 := 0) M_Mo_without d_Mo_plural_35 lc_Mo_95 wd_1011 rfl rfl (Nat.le_of_ble_eq_true rfl) (Nat.le_of_ble_eq_true rfl) (Nat.le_of_ble_eq_true rfl) (Nat.le_refl _) (Nat.le_refl _) (c35_2 c14) ?_
    refine ev_purek ?_
    exact ev_lreturn (pc := 38) d_Mo_plural_38 rfl (q38_3 c14)
  · refine ev_lload_n (pc := 17) d_Mo_plural_17 rfl ?_
    refine ev_bipush (pc := 18) 9 d_Mo_plural_18 (by decide) ?_
    refine ev_iconst (pc := 20) 5 d_Mo_plural_20 (by decide) ?_
    refine ev_bipush (pc := 21) 19 d_Mo_plural_21 (by decide) ?_
    refine ev_iconst (pc := 23) 0 d_Mo_plural_23 (by decide) ?_
    refine ev_invokestatic (pc := 24) (As := [.int 9, .int 5, .int 19, .int 0]) (st := [.long j0]) (Q2 := ev_pure (.long v24) n F) (bc1 := 0) (bs1 := 0) M_Mo_text d_Mo_plural_24 lc_Mo_87 wd_1005 rfl rfl (Nat.le_of_ble_eq_true rfl) (Nat.le_of_ble_eq_true rfl) (Nat.le_of_ble_eq_true rfl) (Nat.le_refl _) (Nat.le_refl _) (c24_4 c14) ?_
    refine ev_purek ?_
    refine ev_invokestatic (pc := 27) (As := [.long j0, .long v24]) (st := []) (Q2 := ev_pure (.int v27) n F) (bc1 := 0) (bs1 := 0) M_Mo_ends d_Mo_plural_27 lc_Mo_91 wd_1008 rfl rfl (Nat.le_of_ble_eq_true rfl) (Nat.le_of_ble_eq_true rfl) (Nat.le_of_ble_eq_true rfl) (Nat.le_refl _) (Nat.le_refl _) (c27_5 c14) ?_
    refine ev_purek ?_
    refine ev_if_eq (pc := 30) 39 d_Mo_plural_30 (by decide) (fun c30 => ?_) (fun c30 => ?_)
    · refine ev_lload_n (pc := 39) d_Mo_plural_39 rfl ?_
      refine ev_bipush (pc := 40) 19 d_Mo_plural_40 (by decide) ?_
      refine ev_iconst (pc := 42) 0 d_Mo_plural_42 (by decide) ?_
      refine ev_iconst (pc := 43) 0 d_Mo_plural_43 (by decide) ?_
      refine ev_iconst (pc := 44) 0 d_Mo_plural_44 (by decide) ?_
      refine ev_invokestatic (pc := 45) (As := [.int 19, .int 0, .int 0, .int 0]) (st := [.long j0]) (Q2 := ev_pure (.long v45) n F) (bc1 := 0) (bs1 := 0) M_Mo_text d_Mo_plural_45 lc_Mo_87 wd_1005 rfl rfl (Nat.le_of_ble_eq_true rfl) (Nat.le_of_ble_eq_true rfl) (Nat.le_of_ble_eq_true rfl) (Nat.le_refl _) (Nat.le_refl _) (c45_6 c14 c30) ?_
      refine ev_purek ?_
      refine ev_invokestatic (pc := 48) (As := [.long j0, .long v45]) (st := []) (Q2 := ev_pure (.int v48) n F) (bc1 := 0) (bs1 := 0) M_Mo_ends d_Mo_plural_48 lc_Mo_91 wd_1008 rfl rfl (Nat.le_of_ble_eq_true rfl) (Nat.le_of_ble_eq_true rfl) (Nat.le_of_ble_eq_true rfl) (Nat.le_refl _) (Nat.le_refl _) (c48_7 c14 c30) ?_
      refine ev_purek ?_
      refine ev_if_eq (pc := 51) 78 d_Mo_plural_51 (by decide) (fun c51 => ?_) (fun c51 => ?_)
      · refine ev_lload_n (pc := 78) d_Mo_plural_78 rfl ?_
        exact ev_lreturn (pc := 79) d_Mo_plural_79 rfl (q79_8 c14 c30 c51)
      · refine ev_lload_n (pc := 54) d_Mo_plural_54 rfl ?_
        refine ev_bipush (pc := 55) 19 d_Mo_plural_55 (by decide) ?_
        refine ev_bipush (pc := 57) 19 d_Mo_plural_57 (by decide) ?_
        refine ev_iconst (pc := 59) 0 d_Mo_plural_59 (by decide) ?_
        refine ev_iconst (pc := 60) 0 d_Mo_plural_60 (by decide) ?_
        refine ev_invokestatic (pc := 61) (As := [.int 19, .int 19, .int 0, .int 0]) (st := [.long j0]) (Q2 := ev_pure (.long v61) n F) (bc1 := 0) (bs1 := 0) M_Mo_text d_Mo_plural_61 lc_Mo_87 wd_1005 rfl rfl (Nat.le_of_ble_eq_true rfl) (Nat.le_of_ble_eq_true rfl) (Nat.le_of_ble_eq_true rfl) (Nat.le_refl _) (Nat.le_refl _) (c61_9 c14 c30 c51) ?_
        refine ev_purek ?_
        refine ev_invokestatic (pc := 64) (As := [.long j0, .long v61]) (st := []) (Q2 := ev_pure (.int v64) n F) (bc1 := 0) (bs1 := 0) M_Mo_ends d_Mo_plural_64 lc_Mo_91 wd_1008 rfl rfl (Nat.le_of_ble_eq_true rfl) (Nat.le_of_ble_eq_true rfl) (Nat.le_of_ble_eq_true rfl) (Nat.le_refl _) (Nat.le_refl _) (c64_10 c14 c30 c51) ?_
        refine ev_purek ?_
        refine ev_if_ne (pc := 67) 78 d_Mo_plural_67 (by decide) (fun c67 => ?_) (fun c67 => ?_)
        · refine ev_lload_n (pc := 78) d_Mo_plural_78 rfl ?_
          exact ev_lreturn (pc := 79) d_Mo_plural_79 rfl (q79_11 c14 c30 c51 c67)
        · refine ev_lload_n (pc := 70) d_Mo_plural_70 rfl ?_
          refine ev_iconst (pc := 71) 1 d_Mo_plural_71 (by decide) ?_
          refine ev_invokestatic (pc := 72) (As := [.long j0, .int 1]) (st := []) (Q2 := ev_pure (.long v72) n F) (bc1 := 0) (bs1 := 0) M_Mo_without d_Mo_plural_72 lc_Mo_95 wd_1011 rfl rfl (Nat.le_of_ble_eq_true rfl) (Nat.le_of_ble_eq_true rfl) (Nat.le_of_ble_eq_true rfl) (Nat.le_refl _) (Nat.le_refl _) (c72_12 c14 c30 c51 c67) ?_
          refine ev_purek ?_
          refine ev_goto (pc := 75) 79 d_Mo_plural_75 (by decide) ?_
          exact ev_lreturn (pc := 79) d_Mo_plural_79 rfl (q79_13 c14 c30 c51 c67)
    · refine ev_lload_n (pc := 33) d_Mo_plural_33 rfl ?_
      refine ev_iconst (pc := 34) 2 d_Mo_plural_34 (by decide) ?_
      refine ev_invokestatic (pc := 35) (As := [.long j0, .int 2]) (st := []) (Q2 := ev_pure (.long v35_2) n F) (bc1 := 0) (bs1 := 0) M_Mo_without d_Mo_plural_35 lc_Mo_95 wd_1011 rfl rfl (Nat.le_of_ble_eq_true rfl) (Nat.le_of_ble_eq_true rfl) (Nat.le_of_ble_eq_true rfl) (Nat.le_refl _) (Nat.le_refl _) (c35_14 c14 c30) ?_
      refine ev_purek ?_
      exact ev_lreturn (pc := 38) d_Mo_plural_38 rfl (q38_15 c14 c30)
set_option maxRecDepth 100000 in
set_option maxHeartbeats 4000000 in
theorem s_Mo_shortEnd_0 {l : Launch} {X : ev_X} {bc bs n : Nat} {F : ev_H} {Q : Option Value → Nat → ev_H → Prop} {j0 : Int64} {v1 : Int32} {v14 : Int32} {v24 : Int32} {v34 : Int32} {v46 : Int32} {v58 : Int32} 
    (c1_0 : Cal l X M_Mo_length 0 0 [.long j0] n F (ev_pure (.int v1) n F))
    (q41_1 : (v1 < 3) → Q (some (.int 0)) n F)
    (c14_2 : (¬ v1 < 3) → Cal l X M_Mo_isVowel 0 0 [.long j0, .int (v1 - 3)] n F (ev_pure (.int v14) n F))
    (q41_3 : (¬ v1 < 3) → (¬ v14 = 0) → Q (some (.int 0)) n F)
    (c24_4 : (¬ v1 < 3) → (v14 = 0) → Cal l X M_Mo_isVowel 0 0 [.long j0, .int (v1 - 2)] n F (ev_pure (.int v24) n F))
    (q41_5 : (¬ v1 < 3) → (v14 = 0) → (v24 = 0) → Q (some (.int 0)) n F)
    (c34_6 : (¬ v1 < 3) → (v14 = 0) → (¬ v24 = 0) → Cal l X M_Mo_isVowel 0 0 [.long j0, .int (v1 - 1)] n F (ev_pure (.int v34) n F))
    (c46_7 : (¬ v1 < 3) → (v14 = 0) → (¬ v24 = 0) → (v34 = 0) → Cal l X M_Mo_letter 0 0 [.long j0, .int (v1 - 1)] n F (ev_pure (.int v46) n F))
    (q71_8 : (¬ v1 < 3) → (v14 = 0) → (¬ v24 = 0) → (v34 = 0) → (v46 < 23) → Q (some (.int 1)) n F)
    (c58_9 : (¬ v1 < 3) → (v14 = 0) → (¬ v24 = 0) → (v34 = 0) → (¬ v46 < 23) → Cal l X M_Mo_letter 0 0 [.long j0, .int (v1 - 1)] n F (ev_pure (.int v58) n F))
    (q71_10 : (¬ v1 < 3) → (v14 = 0) → (¬ v24 = 0) → (v34 = 0) → (¬ v46 < 23) → (¬ v58 = 26) → Q (some (.int 0)) n F)
    (q71_11 : (¬ v1 < 3) → (v14 = 0) → (¬ v24 = 0) → (v34 = 0) → (¬ v46 < 23) → (v58 = 26) → Q (some (.int 1)) n F)
    (q41_12 : (¬ v1 < 3) → (v14 = 0) → (¬ v24 = 0) → (¬ v34 = 0) → Q (some (.int 0)) n F) :
    Ev l X M_Mo_shortEnd bc bs 0 [(0, .long j0)] [] n F (ev_mq X Q) := by
  refine ev_lload_n (pc := 0) d_Mo_shortEnd_0 rfl ?_
  refine ev_invokestatic (pc := 1) (As := [.long j0]) (st := []) (Q2 := ev_pure (.int v1) n F) (bc1 := 0) (bs1 := 0) M_Mo_length d_Mo_shortEnd_1 lc_Mo_71 wd_992 rfl rfl (Nat.le_of_ble_eq_true rfl) (Nat.le_of_ble_eq_true rfl) (Nat.le_of_ble_eq_true rfl) (Nat.le_refl _) (Nat.le_refl _) c1_0 ?_
  refine ev_purek ?_
  refine ev_istore_n (pc := 4) d_Mo_shortEnd_4 (Nat.le_of_ble_eq_true rfl) [1, 0] rfl ?_
  refine ev_iload_n (pc := 5) d_Mo_shortEnd_5 rfl ?_
  refine ev_iconst (pc := 6) 3 d_Mo_shortEnd_6 (by decide) ?_
  refine ev_icmp_lt (pc := 7) 40 d_Mo_shortEnd_7 (by decide) (fun c7 => ?_) (fun c7 => ?_)
  · refine ev_iconst (pc := 40) 0 d_Mo_shortEnd_40 (by decide) ?_
    exact ev_ireturn (pc := 41) d_Mo_shortEnd_41 rfl rfl (q41_1 c7)
  · refine ev_lload_n (pc := 10) d_Mo_shortEnd_10 rfl ?_
    refine ev_iload_n (pc := 11) d_Mo_shortEnd_11 rfl ?_
    refine ev_iconst (pc := 12) 3 d_Mo_shortEnd_12 (by decide) ?_
    refine ev_isub (pc := 13) d_Mo_shortEnd_13 ?_
    refine ev_invokestatic (pc := 14) (As := [.long j0, .int (v1 - 3)]) (st := []) (Q2 := ev_pure (.int v14) n F) (bc1 := 0) (bs1 := 0) M_Mo_isVowel d_Mo_shortEnd_14 lc_Mo_79 wd_1023 rfl rfl (Nat.le_of_ble_eq_true rfl) (Nat.le_of_ble_eq_true rfl) (Nat.le_of_ble_eq_true rfl) (Nat.le_refl _) (Nat.le_refl _) (c14_2 c7) ?_
    refine ev_purek ?_
    refine ev_if_ne (pc := 17) 40 d_Mo_shortEnd_17 (by decide) (fun c17 => ?_) (fun c17 => ?_)
    · refine ev_iconst (pc := 40) 0 d_Mo_shortEnd_40 (by decide) ?_
      exact ev_ireturn (pc := 41) d_Mo_shortEnd_41 rfl rfl (q41_3 c7 c17)
    · refine ev_lload_n (pc := 20) d_Mo_shortEnd_20 rfl ?_
      refine ev_iload_n (pc := 21) d_Mo_shortEnd_21 rfl ?_
      refine ev_iconst (pc := 22) 2 d_Mo_shortEnd_22 (by decide) ?_
      refine ev_isub (pc := 23) d_Mo_shortEnd_23 ?_
      refine ev_invokestatic (pc := 24) (As := [.long j0, .int (v1 - 2)]) (st := []) (Q2 := ev_pure (.int v24) n F) (bc1 := 0) (bs1 := 0) M_Mo_isVowel d_Mo_shortEnd_24 lc_Mo_79 wd_1023 rfl rfl (Nat.le_of_ble_eq_true rfl) (Nat.le_of_ble_eq_true rfl) (Nat.le_of_ble_eq_true rfl) (Nat.le_refl _) (Nat.le_refl _) (c24_4 c7 c17) ?_
      refine ev_purek ?_
      refine ev_if_eq (pc := 27) 40 d_Mo_shortEnd_27 (by decide) (fun c27 => ?_) (fun c27 => ?_)
      · refine ev_iconst (pc := 40) 0 d_Mo_shortEnd_40 (by decide) ?_
        exact ev_ireturn (pc := 41) d_Mo_shortEnd_41 rfl rfl (q41_5 c7 c17 c27)
      · refine ev_lload_n (pc := 30) d_Mo_shortEnd_30 rfl ?_
        refine ev_iload_n (pc := 31) d_Mo_shortEnd_31 rfl ?_
        refine ev_iconst (pc := 32) 1 d_Mo_shortEnd_32 (by decide) ?_
        refine ev_isub (pc := 33) d_Mo_shortEnd_33 ?_
        refine ev_invokestatic (pc := 34) (As := [.long j0, .int (v1 - 1)]) (st := []) (Q2 := ev_pure (.int v34) n F) (bc1 := 0) (bs1 := 0) M_Mo_isVowel d_Mo_shortEnd_34 lc_Mo_79 wd_1023 rfl rfl (Nat.le_of_ble_eq_true rfl) (Nat.le_of_ble_eq_true rfl) (Nat.le_of_ble_eq_true rfl) (Nat.le_refl _) (Nat.le_refl _) (c34_6 c7 c17 c27) ?_
        refine ev_purek ?_
        refine ev_if_eq (pc := 37) 42 d_Mo_shortEnd_37 (by decide) (fun c37 => ?_) (fun c37 => ?_)
        · refine ev_lload_n (pc := 42) d_Mo_shortEnd_42 rfl ?_
          refine ev_iload_n (pc := 43) d_Mo_shortEnd_43 rfl ?_
          refine ev_iconst (pc := 44) 1 d_Mo_shortEnd_44 (by decide) ?_
          refine ev_isub (pc := 45) d_Mo_shortEnd_45 ?_
          refine ev_invokestatic (pc := 46) (As := [.long j0, .int (v1 - 1)]) (st := []) (Q2 := ev_pure (.int v46) n F) (bc1 := 0) (bs1 := 0) M_Mo_letter d_Mo_shortEnd_46 lc_Mo_75 wd_995 rfl rfl (Nat.le_of_ble_eq_true rfl) (Nat.le_of_ble_eq_true rfl) (Nat.le_of_ble_eq_true rfl) (Nat.le_refl _) (Nat.le_refl _) (c46_7 c7 c17 c27 c37) ?_
          refine ev_purek ?_
          refine ev_bipush (pc := 49) 23 d_Mo_shortEnd_49 (by decide) ?_
          refine ev_icmp_lt (pc := 51) 66 d_Mo_shortEnd_51 (by decide) (fun c51 => ?_) (fun c51 => ?_)
          · refine ev_iconst (pc := 66) 1 d_Mo_shortEnd_66 (by decide) ?_
            refine ev_goto (pc := 67) 71 d_Mo_shortEnd_67 (by decide) ?_
            exact ev_ireturn (pc := 71) d_Mo_shortEnd_71 rfl rfl (q71_8 c7 c17 c27 c37 c51)
          · refine ev_lload_n (pc := 54) d_Mo_shortEnd_54 rfl ?_
            refine ev_iload_n (pc := 55) d_Mo_shortEnd_55 rfl ?_
            refine ev_iconst (pc := 56) 1 d_Mo_shortEnd_56 (by decide) ?_
            refine ev_isub (pc := 57) d_Mo_shortEnd_57 ?_
            refine ev_invokestatic (pc := 58) (As := [.long j0, .int (v1 - 1)]) (st := []) (Q2 := ev_pure (.int v58) n F) (bc1 := 0) (bs1 := 0) M_Mo_letter d_Mo_shortEnd_58 lc_Mo_75 wd_995 rfl rfl (Nat.le_of_ble_eq_true rfl) (Nat.le_of_ble_eq_true rfl) (Nat.le_of_ble_eq_true rfl) (Nat.le_refl _) (Nat.le_refl _) (c58_9 c7 c17 c27 c37 c51) ?_
            refine ev_purek ?_
            refine ev_bipush (pc := 61) 26 d_Mo_shortEnd_61 (by decide) ?_
            refine ev_icmp_ne (pc := 63) 70 d_Mo_shortEnd_63 (by decide) (fun c63 => ?_) (fun c63 => ?_)
            · refine ev_iconst (pc := 70) 0 d_Mo_shortEnd_70 (by decide) ?_
              exact ev_ireturn (pc := 71) d_Mo_shortEnd_71 rfl rfl (q71_10 c7 c17 c27 c37 c51 c63)
            · refine ev_iconst (pc := 66) 1 d_Mo_shortEnd_66 (by decide) ?_
              refine ev_goto (pc := 67) 71 d_Mo_shortEnd_67 (by decide) ?_
              exact ev_ireturn (pc := 71) d_Mo_shortEnd_71 rfl rfl (q71_11 c7 c17 c27 c37 c51 c63)
        · refine ev_iconst (pc := 40) 0 d_Mo_shortEnd_40 (by decide) ?_
          exact ev_ireturn (pc := 41) d_Mo_shortEnd_41 rfl rfl (q41_12 c7 c17 c27 c37)
set_option maxRecDepth 100000 in
set_option maxHeartbeats 4000000 in
theorem s_Mo_mended_0 {l : Launch} {X : ev_X} {bc bs n : Nat} {F : ev_H} {Q : Option Value → Nat → ev_H → Prop} {j0 : Int64} {v1 : Int32} {v21 : Int64} {v24 : Int32} {v36 : Int64} {v39 : Int32} {v52 : Int64} {v55 : Int32} {v67 : Int32} {v83 : Int32} {v93 : Int32} {v103 : Int32} 
    (c1_0 : Cal l X M_Mo_length 0 0 [.long j0] n F (ev_pure (.int v1) n F))
    (c21_1 : Cal l X M_Mo_text 0 0 [.int 1, .int 20, .int 0, .int 0] n F (ev_pure (.long v21) n F))
    (c24_2 : Cal l X M_Mo_ends 0 0 [.long j0, .long v21] n F (ev_pure (.int v24) n F))
    (k61_3 : (¬ v24 = 0) → Ev l X M_Mo_mended bc bs 61 [(0, .long j0), (2, .int v1), (3, .long (j0 ||| ((5 : Int64) <<< ((5 * v1).toInt64 &&& 63))))] [] n F (ev_mq X Q))
    (c36_4 : (v24 = 0) → Cal l X M_Mo_text 0 0 [.int 2, .int 12, .int 0, .int 0] n F (ev_pure (.long v36) n F))
    (c39_5 : (v24 = 0) → Cal l X M_Mo_ends 0 0 [.long j0, .long v36] n F (ev_pure (.int v39) n F))
    (k61_6 : (v24 = 0) → (¬ v39 = 0) → Ev l X M_Mo_mended bc bs 61 [(0, .long j0), (2, .int v1), (3, .long (j0 ||| ((5 : Int64) <<< ((5 * v1).toInt64 &&& 63))))] [] n F (ev_mq X Q))
    (c52_7 : (v24 = 0) → (v39 = 0) → Cal l X M_Mo_text 0 0 [.int 9, .int 26, .int 0, .int 0] n F (ev_pure (.long v52) n F))
    (c55_8 : (v24 = 0) → (v39 = 0) → Cal l X M_Mo_ends 0 0 [.long j0, .long v52] n F (ev_pure (.int v55) n F))
    (c67_9 : (v24 = 0) → (v39 = 0) → (v55 = 0) → Cal l X M_Mo_letter 0 0 [.long j0, .int (v1 - 1)] n F (ev_pure (.int v67) n F))
    (k113_10 : (v24 = 0) → (v39 = 0) → (v55 = 0) → (v1 ≤ 1) → Ev l X M_Mo_mended bc bs 113 [(0, .long j0), (2, .int v1), (3, .long (j0 ||| ((5 : Int64) <<< ((5 * v1).toInt64 &&& 63)))), (5, .int v67)] [] n F (ev_mq X Q))
    (c83_11 : (v24 = 0) → (v39 = 0) → (v55 = 0) → (¬ v1 ≤ 1) → Cal l X M_Mo_letter 0 0 [.long j0, .int (v1 - 2)] n F (ev_pure (.int v83) n F))
    (k113_12 : (v24 = 0) → (v39 = 0) → (v55 = 0) → (¬ v1 ≤ 1) → (¬ v67 = v83) → Ev l X M_Mo_mended bc bs 113 [(0, .long j0), (2, .int v1), (3, .long (j0 ||| ((5 : Int64) <<< ((5 * v1).toInt64 &&& 63)))), (5, .int v67)] [] n F (ev_mq X Q))
    (c93_13 : (v24 = 0) → (v39 = 0) → (v55 = 0) → (¬ v1 ≤ 1) → (v67 = v83) → Cal l X M_Mo_isVowel 0 0 [.long j0, .int (v1 - 1)] n F (ev_pure (.int v93) n F))
    (k113_14 : (v24 = 0) → (v39 = 0) → (v55 = 0) → (¬ v1 ≤ 1) → (v67 = v83) → (¬ v93 = 0) → Ev l X M_Mo_mended bc bs 113 [(0, .long j0), (2, .int v1), (3, .long (j0 ||| ((5 : Int64) <<< ((5 * v1).toInt64 &&& 63)))), (5, .int v67)] [] n F (ev_mq X Q))
    (c103_15 : (v24 = 0) → (v39 = 0) → (v55 = 0) → (¬ v1 ≤ 1) → (v67 = v83) → (v93 = 0) → Cal l X M_Mo_isVowel 0 0 [.long j0, .int (v1 - 2)] n F (ev_pure (.int v103) n F))
    (k113_16 : (v24 = 0) → (v39 = 0) → (v55 = 0) → (¬ v1 ≤ 1) → (v67 = v83) → (v93 = 0) → (¬ v103 = 0) → Ev l X M_Mo_mended bc bs 113 [(0, .long j0), (2, .int v1), (3, .long (j0 ||| ((5 : Int64) <<< ((5 * v1).toInt64 &&& 63)))), (5, .int v67)] [] n F (ev_mq X Q))
    (k114_17 : (v24 = 0) → (v39 = 0) → (v55 = 0) → (¬ v1 ≤ 1) → (v67 = v83) → (v93 = 0) → (v103 = 0) → Ev l X M_Mo_mended bc bs 114 [(0, .long j0), (2, .int v1), (3, .long (j0 ||| ((5 : Int64) <<< ((5 * v1).toInt64 &&& 63)))), (5, .int v67)] [.int 1] n F (ev_mq X Q))
    (k61_18 : (v24 = 0) → (v39 = 0) → (¬ v55 = 0) → Ev l X M_Mo_mended bc bs 61 [(0, .long j0), (2, .int v1), (3, .long (j0 ||| ((5 : Int64) <<< ((5 * v1).toInt64 &&& 63))))] [] n F (ev_mq X Q)) :
    Ev l X M_Mo_mended bc bs 0 [(0, .long j0)] [] n F (ev_mq X Q) := by
  refine ev_lload_n (pc := 0) d_Mo_mended_0 rfl ?_
  refine ev_invokestatic (pc := 1) (As := [.long j0]) (st := []) (Q2 := ev_pure (.int v1) n F) (bc1 := 0) (bs1 := 0) M_Mo_length d_Mo_mended_1 lc_Mo_71 wd_992 rfl rfl (Nat.le_of_ble_eq_true rfl) (Nat.le_of_ble_eq_true rfl) (Nat.le_of_ble_eq_true rfl) (Nat.le_refl _) (Nat.le_refl _) c1_0 ?_
  refine ev_purek ?_
  refine ev_istore_n (pc := 4) d_Mo_mended_4 (Nat.le_of_ble_eq_true rfl) [1, 0] rfl ?_
  refine ev_lload_n (pc := 5) d_Mo_mended_5 rfl ?_
  refine ev_ldc2 (pc := 6) (v := 5) d_Mo_mended_6 wd_1031 ?_
  refine ev_iconst (pc := 9) 5 d_Mo_mended_9 (by decide) ?_
  refine ev_iload_n (pc := 10) d_Mo_mended_10 rfl ?_
  refine ev_imul (pc := 11) d_Mo_mended_11 ?_
  refine ev_lshl (pc := 12) d_Mo_mended_12 ?_
  refine ev_lor (pc := 13) d_Mo_mended_13 ?_
  refine ev_lstore_n (pc := 14) d_Mo_mended_14 (Nat.le_of_ble_eq_true rfl) [1, 2, 0] rfl ?_
  refine ev_lload_n (pc := 15) d_Mo_mended_15 rfl ?_
  refine ev_iconst (pc := 16) 1 d_Mo_mended_16 (by decide) ?_
  refine ev_bipush (pc := 17) 20 d_Mo_mended_17 (by decide) ?_
  refine ev_iconst (pc := 19) 0 d_Mo_mended_19 (by decide) ?_
  refine ev_iconst (pc := 20) 0 d_Mo_mended_20 (by decide) ?_
  refine ev_invokestatic (pc := 21) (As := [.int 1, .int 20, .int 0, .int 0]) (st := [.long j0]) (Q2 := ev_pure (.long v21) n F) (bc1 := 0) (bs1 := 0) M_Mo_text d_Mo_mended_21 lc_Mo_87 wd_1005 rfl rfl (Nat.le_of_ble_eq_true rfl) (Nat.le_of_ble_eq_true rfl) (Nat.le_of_ble_eq_true rfl) (Nat.le_refl _) (Nat.le_refl _) c21_1 ?_
  refine ev_purek ?_
  refine ev_invokestatic (pc := 24) (As := [.long j0, .long v21]) (st := []) (Q2 := ev_pure (.int v24) n F) (bc1 := 0) (bs1 := 0) M_Mo_ends d_Mo_mended_24 lc_Mo_91 wd_1008 rfl rfl (Nat.le_of_ble_eq_true rfl) (Nat.le_of_ble_eq_true rfl) (Nat.le_of_ble_eq_true rfl) (Nat.le_refl _) (Nat.le_refl _) c24_2 ?_
  refine ev_purek ?_
  refine ev_if_ne (pc := 27) 61 d_Mo_mended_27 (by decide) (fun c27 => ?_) (fun c27 => ?_)
  · exact (k61_3 c27)
  · refine ev_lload_n (pc := 30) d_Mo_mended_30 rfl ?_
    refine ev_iconst (pc := 31) 2 d_Mo_mended_31 (by decide) ?_
    refine ev_bipush (pc := 32) 12 d_Mo_mended_32 (by decide) ?_
    refine ev_iconst (pc := 34) 0 d_Mo_mended_34 (by decide) ?_
    refine ev_iconst (pc := 35) 0 d_Mo_mended_35 (by decide) ?_
    refine ev_invokestatic (pc := 36) (As := [.int 2, .int 12, .int 0, .int 0]) (st := [.long j0]) (Q2 := ev_pure (.long v36) n F) (bc1 := 0) (bs1 := 0) M_Mo_text d_Mo_mended_36 lc_Mo_87 wd_1005 rfl rfl (Nat.le_of_ble_eq_true rfl) (Nat.le_of_ble_eq_true rfl) (Nat.le_of_ble_eq_true rfl) (Nat.le_refl _) (Nat.le_refl _) (c36_4 c27) ?_
    refine ev_purek ?_
    refine ev_invokestatic (pc := 39) (As := [.long j0, .long v36]) (st := []) (Q2 := ev_pure (.int v39) n F) (bc1 := 0) (bs1 := 0) M_Mo_ends d_Mo_mended_39 lc_Mo_91 wd_1008 rfl rfl (Nat.le_of_ble_eq_true rfl) (Nat.le_of_ble_eq_true rfl) (Nat.le_of_ble_eq_true rfl) (Nat.le_refl _) (Nat.le_refl _) (c39_5 c27) ?_
    refine ev_purek ?_
    refine ev_if_ne (pc := 42) 61 d_Mo_mended_42 (by decide) (fun c42 => ?_) (fun c42 => ?_)
    · exact (k61_6 c27 c42)
    · refine ev_lload_n (pc := 45) d_Mo_mended_45 rfl ?_
      refine ev_bipush (pc := 46) 9 d_Mo_mended_46 (by decide) ?_
      refine ev_bipush (pc := 48) 26 d_Mo_mended_48 (by decide) ?_
      refine ev_iconst (pc := 50) 0 d_Mo_mended_50 (by decide) ?_
      refine ev_iconst (pc := 51) 0 d_Mo_mended_51 (by decide) ?_
      refine ev_invokestatic (pc := 52) (As := [.int 9, .int 26, .int 0, .int 0]) (st := [.long j0]) (Q2 := ev_pure (.long v52) n F) (bc1 := 0) (bs1 := 0) M_Mo_text d_Mo_mended_52 lc_Mo_87 wd_1005 rfl rfl (Nat.le_of_ble_eq_true rfl) (Nat.le_of_ble_eq_true rfl) (Nat.le_of_ble_eq_true rfl) (Nat.le_refl _) (Nat.le_refl _) (c52_7 c27 c42) ?_
      refine ev_purek ?_
      refine ev_invokestatic (pc := 55) (As := [.long j0, .long v52]) (st := []) (Q2 := ev_pure (.int v55) n F) (bc1 := 0) (bs1 := 0) M_Mo_ends d_Mo_mended_55 lc_Mo_91 wd_1008 rfl rfl (Nat.le_of_ble_eq_true rfl) (Nat.le_of_ble_eq_true rfl) (Nat.le_of_ble_eq_true rfl) (Nat.le_refl _) (Nat.le_refl _) (c55_8 c27 c42) ?_
      refine ev_purek ?_
      refine ev_if_eq (pc := 58) 63 d_Mo_mended_58 (by decide) (fun c58 => ?_) (fun c58 => ?_)
      · refine ev_lload_n (pc := 63) d_Mo_mended_63 rfl ?_
        refine ev_iload_n (pc := 64) d_Mo_mended_64 rfl ?_
        refine ev_iconst (pc := 65) 1 d_Mo_mended_65 (by decide) ?_
        refine ev_isub (pc := 66) d_Mo_mended_66 ?_
        refine ev_invokestatic (pc := 67) (As := [.long j0, .int (v1 - 1)]) (st := []) (Q2 := ev_pure (.int v67) n F) (bc1 := 0) (bs1 := 0) M_Mo_letter d_Mo_mended_67 lc_Mo_75 wd_995 rfl rfl (Nat.le_of_ble_eq_true rfl) (Nat.le_of_ble_eq_true rfl) (Nat.le_of_ble_eq_true rfl) (Nat.le_refl _) (Nat.le_refl _) (c67_9 c27 c42 c58) ?_
        refine ev_purek ?_
        refine ev_istore (pc := 70) d_Mo_mended_70 (Nat.le_of_ble_eq_true rfl) [1, 2, 3, 0] rfl ?_
        refine ev_iload_n (pc := 72) d_Mo_mended_72 rfl ?_
        refine ev_iconst (pc := 73) 1 d_Mo_mended_73 (by decide) ?_
        refine ev_icmp_le (pc := 74) 113 d_Mo_mended_74 (by decide) (fun c74 => ?_) (fun c74 => ?_)
        · exact (k113_10 c27 c42 c58 c74)
        · refine ev_iload (pc := 77) d_Mo_mended_77 rfl ?_
          refine ev_lload_n (pc := 79) d_Mo_mended_79 rfl ?_
          refine ev_iload_n (pc := 80) d_Mo_mended_80 rfl ?_
          refine ev_iconst (pc := 81) 2 d_Mo_mended_81 (by decide) ?_
          refine ev_isub (pc := 82) d_Mo_mended_82 ?_
          refine ev_invokestatic (pc := 83) (As := [.long j0, .int (v1 - 2)]) (st := [.int v67]) (Q2 := ev_pure (.int v83) n F) (bc1 := 0) (bs1 := 0) M_Mo_letter d_Mo_mended_83 lc_Mo_75 wd_995 rfl rfl (Nat.le_of_ble_eq_true rfl) (Nat.le_of_ble_eq_true rfl) (Nat.le_of_ble_eq_true rfl) (Nat.le_refl _) (Nat.le_refl _) (c83_11 c27 c42 c58 c74) ?_
          refine ev_purek ?_
          refine ev_icmp_ne (pc := 86) 113 d_Mo_mended_86 (by decide) (fun c86 => ?_) (fun c86 => ?_)
          · exact (k113_12 c27 c42 c58 c74 c86)
          · refine ev_lload_n (pc := 89) d_Mo_mended_89 rfl ?_
            refine ev_iload_n (pc := 90) d_Mo_mended_90 rfl ?_
            refine ev_iconst (pc := 91) 1 d_Mo_mended_91 (by decide) ?_
            refine ev_isub (pc := 92) d_Mo_mended_92 ?_
            refine ev_invokestatic (pc := 93) (As := [.long j0, .int (v1 - 1)]) (st := []) (Q2 := ev_pure (.int v93) n F) (bc1 := 0) (bs1 := 0) M_Mo_isVowel d_Mo_mended_93 lc_Mo_79 wd_1023 rfl rfl (Nat.le_of_ble_eq_true rfl) (Nat.le_of_ble_eq_true rfl) (Nat.le_of_ble_eq_true rfl) (Nat.le_refl _) (Nat.le_refl _) (c93_13 c27 c42 c58 c74 c86) ?_
            refine ev_purek ?_
            refine ev_if_ne (pc := 96) 113 d_Mo_mended_96 (by decide) (fun c96 => ?_) (fun c96 => ?_)
            · exact (k113_14 c27 c42 c58 c74 c86 c96)
            · refine ev_lload_n (pc := 99) d_Mo_mended_99 rfl ?_
              refine ev_iload_n (pc := 100) d_Mo_mended_100 rfl ?_
              refine ev_iconst (pc := 101) 2 d_Mo_mended_101 (by decide) ?_
              refine ev_isub (pc := 102) d_Mo_mended_102 ?_
              refine ev_invokestatic (pc := 103) (As := [.long j0, .int (v1 - 2)]) (st := []) (Q2 := ev_pure (.int v103) n F) (bc1 := 0) (bs1 := 0) M_Mo_isVowel d_Mo_mended_103 lc_Mo_79 wd_1023 rfl rfl (Nat.le_of_ble_eq_true rfl) (Nat.le_of_ble_eq_true rfl) (Nat.le_of_ble_eq_true rfl) (Nat.le_refl _) (Nat.le_refl _) (c103_15 c27 c42 c58 c74 c86 c96) ?_
              refine ev_purek ?_
              refine ev_if_ne (pc := 106) 113 d_Mo_mended_106 (by decide) (fun c106 => ?_) (fun c106 => ?_)
              · exact (k113_16 c27 c42 c58 c74 c86 c96 c106)
              · refine ev_iconst (pc := 109) 1 d_Mo_mended_109 (by decide) ?_
                refine ev_goto (pc := 110) 114 d_Mo_mended_110 (by decide) ?_
                exact (k114_17 c27 c42 c58 c74 c86 c96 c106)
      · exact (k61_18 c27 c42 c58)

set_option maxRecDepth 100000 in
set_option maxHeartbeats 4000000 in
theorem s_Mo_mended_61 {l : Launch} {X : ev_X} {bc bs n : Nat} {F : ev_H} {Q : Option Value → Nat → ev_H → Prop} {j0 : Int64} {i2 : Int32} {j3 : Int64} 
    (q62_0 : Q (some (.long j3)) n F) :
    Ev l X M_Mo_mended bc bs 61 [(0, .long j0), (2, .int i2), (3, .long j3)] [] n F (ev_mq X Q) := by
  refine ev_lload_n (pc := 61) d_Mo_mended_61 rfl ?_
  exact ev_lreturn (pc := 62) d_Mo_mended_62 rfl q62_0

set_option maxRecDepth 100000 in
set_option maxHeartbeats 4000000 in
theorem s_Mo_mended_113 {l : Launch} {X : ev_X} {bc bs n : Nat} {F : ev_H} {Q : Option Value → Nat → ev_H → Prop} {j0 : Int64} {i2 : Int32} {j3 : Int64} {i5 : Int32} 
    (k114_0 : Ev l X M_Mo_mended bc bs 114 [(0, .long j0), (2, .int i2), (3, .long j3), (5, .int i5)] [.int 0] n F (ev_mq X Q)) :
    Ev l X M_Mo_mended bc bs 113 [(0, .long j0), (2, .int i2), (3, .long j3), (5, .int i5)] [] n F (ev_mq X Q) := by
  refine ev_iconst (pc := 113) 0 d_Mo_mended_113 (by decide) ?_
  exact k114_0

set_option maxRecDepth 100000 in
set_option maxHeartbeats 4000000 in
theorem s_Mo_mended_114 {l : Launch} {X : ev_X} {bc bs n : Nat} {F : ev_H} {Q : Option Value → Nat → ev_H → Prop} {j0 : Int64} {i2 : Int32} {j3 : Int64} {i5 : Int32} {is0 : Int32} {v144 : Int64} 
    (k148_0 : (is0 = 0) → Ev l X M_Mo_mended bc bs 148 [(0, .long j0), (2, .int i2), (3, .long j3), (5, .int i5), (6, .int is0)] [] n F (ev_mq X Q))
    (k148_1 : (¬ is0 = 0) → (i5 = 12) → Ev l X M_Mo_mended bc bs 148 [(0, .long j0), (2, .int i2), (3, .long j3), (5, .int i5), (6, .int is0)] [] n F (ev_mq X Q))
    (k148_2 : (¬ is0 = 0) → (¬ i5 = 12) → (i5 = 19) → Ev l X M_Mo_mended bc bs 148 [(0, .long j0), (2, .int i2), (3, .long j3), (5, .int i5), (6, .int is0)] [] n F (ev_mq X Q))
    (k148_3 : (¬ is0 = 0) → (¬ i5 = 12) → (¬ i5 = 19) → (i5 = 26) → Ev l X M_Mo_mended bc bs 148 [(0, .long j0), (2, .int i2), (3, .long j3), (5, .int i5), (6, .int is0)] [] n F (ev_mq X Q))
    (c144_4 : (¬ is0 = 0) → (¬ i5 = 12) → (¬ i5 = 19) → (¬ i5 = 26) → Cal l X M_Mo_without 0 0 [.long j0, .int 1] n F (ev_pure (.long v144) n F))
    (q147_5 : (¬ is0 = 0) → (¬ i5 = 12) → (¬ i5 = 19) → (¬ i5 = 26) → Q (some (.long v144)) n F) :
    Ev l X M_Mo_mended bc bs 114 [(0, .long j0), (2, .int i2), (3, .long j3), (5, .int i5)] [.int is0] n F (ev_mq X Q) := by
  refine ev_istore (pc := 114) d_Mo_mended_114 (Nat.le_of_ble_eq_true rfl) [1, 2, 3, 4, 0] rfl ?_
  refine ev_iload (pc := 116) d_Mo_mended_116 rfl ?_
  refine ev_if_eq (pc := 118) 148 d_Mo_mended_118 (by decide) (fun c118 => ?_) (fun c118 => ?_)
  · exact (k148_0 c118)
  · refine ev_iload (pc := 121) d_Mo_mended_121 rfl ?_
    refine ev_bipush (pc := 123) 12 d_Mo_mended_123 (by decide) ?_
    refine ev_icmp_eq (pc := 125) 148 d_Mo_mended_125 (by decide) (fun c125 => ?_) (fun c125 => ?_)
    · exact (k148_1 c118 c125)
    · refine ev_iload (pc := 128) d_Mo_mended_128 rfl ?_
      refine ev_bipush (pc := 130) 19 d_Mo_mended_130 (by decide) ?_
      refine ev_icmp_eq (pc := 132) 148 d_Mo_mended_132 (by decide) (fun c132 => ?_) (fun c132 => ?_)
      · exact (k148_2 c118 c125 c132)
      · refine ev_iload (pc := 135) d_Mo_mended_135 rfl ?_
        refine ev_bipush (pc := 137) 26 d_Mo_mended_137 (by decide) ?_
        refine ev_icmp_eq (pc := 139) 148 d_Mo_mended_139 (by decide) (fun c139 => ?_) (fun c139 => ?_)
        · exact (k148_3 c118 c125 c132 c139)
        · refine ev_lload_n (pc := 142) d_Mo_mended_142 rfl ?_
          refine ev_iconst (pc := 143) 1 d_Mo_mended_143 (by decide) ?_
          refine ev_invokestatic (pc := 144) (As := [.long j0, .int 1]) (st := []) (Q2 := ev_pure (.long v144) n F) (bc1 := 0) (bs1 := 0) M_Mo_without d_Mo_mended_144 lc_Mo_95 wd_1011 rfl rfl (Nat.le_of_ble_eq_true rfl) (Nat.le_of_ble_eq_true rfl) (Nat.le_of_ble_eq_true rfl) (Nat.le_refl _) (Nat.le_refl _) (c144_4 c118 c125 c132 c139) ?_
          refine ev_purek ?_
          exact ev_lreturn (pc := 147) d_Mo_mended_147 rfl (q147_5 c118 c125 c132 c139)

set_option maxRecDepth 100000 in
set_option maxHeartbeats 4000000 in
theorem s_Mo_mended_148 {l : Launch} {X : ev_X} {bc bs n : Nat} {F : ev_H} {Q : Option Value → Nat → ev_H → Prop} {j0 : Int64} {i2 : Int32} {j3 : Int64} {i5 : Int32} {i6 : Int32} {v150 : Int32} {v158 : Int32} 
    (c150_0 : Cal l X M_Mo_measure 0 0 [.long j0, .int i2] n F (ev_pure (.int v150) n F))
    (q169_1 : (¬ v150 = 1) → Q (some (.long j0)) n F)
    (c158_2 : (v150 = 1) → Cal l X M_Mo_shortEnd 0 0 [.long j0] n F (ev_pure (.int v158) n F))
    (q169_3 : (v150 = 1) → (v158 = 0) → Q (some (.long j0)) n F)
    (q169_4 : (v150 = 1) → (¬ v158 = 0) → Q (some (.long j3)) n F) :
    Ev l X M_Mo_mended bc bs 148 [(0, .long j0), (2, .int i2), (3, .long j3), (5, .int i5), (6, .int i6)] [] n F (ev_mq X Q) := by
  refine ev_lload_n (pc := 148) d_Mo_mended_148 rfl ?_
  refine ev_iload_n (pc := 149) d_Mo_mended_149 rfl ?_
  refine ev_invokestatic (pc := 150) (As := [.long j0, .int i2]) (st := []) (Q2 := ev_pure (.int v150) n F) (bc1 := 0) (bs1 := 0) M_Mo_measure d_Mo_mended_150 lc_Mo_100 wd_1020 rfl rfl (Nat.le_of_ble_eq_true rfl) (Nat.le_of_ble_eq_true rfl) (Nat.le_of_ble_eq_true rfl) (Nat.le_refl _) (Nat.le_refl _) c150_0 ?_
  refine ev_purek ?_
  refine ev_iconst (pc := 153) 1 d_Mo_mended_153 (by decide) ?_
  refine ev_icmp_ne (pc := 154) 168 d_Mo_mended_154 (by decide) (fun c154 => ?_) (fun c154 => ?_)
  · refine ev_lload_n (pc := 168) d_Mo_mended_168 rfl ?_
    exact ev_lreturn (pc := 169) d_Mo_mended_169 rfl (q169_1 c154)
  · refine ev_lload_n (pc := 157) d_Mo_mended_157 rfl ?_
    refine ev_invokestatic (pc := 158) (As := [.long j0]) (st := []) (Q2 := ev_pure (.int v158) n F) (bc1 := 0) (bs1 := 0) M_Mo_shortEnd d_Mo_mended_158 lc_Mo_103 wd_1033 rfl rfl (Nat.le_of_ble_eq_true rfl) (Nat.le_of_ble_eq_true rfl) (Nat.le_of_ble_eq_true rfl) (Nat.le_refl _) (Nat.le_refl _) (c158_2 c154) ?_
    refine ev_purek ?_
    refine ev_if_eq (pc := 161) 168 d_Mo_mended_161 (by decide) (fun c161 => ?_) (fun c161 => ?_)
    · refine ev_lload_n (pc := 168) d_Mo_mended_168 rfl ?_
      exact ev_lreturn (pc := 169) d_Mo_mended_169 rfl (q169_3 c154 c161)
    · refine ev_lload_n (pc := 164) d_Mo_mended_164 rfl ?_
      refine ev_goto (pc := 165) 169 d_Mo_mended_165 (by decide) ?_
      exact ev_lreturn (pc := 169) d_Mo_mended_169 rfl (q169_4 c154 c161)
set_option maxRecDepth 100000 in
set_option maxHeartbeats 4000000 in
theorem s_Mo_past_0 {l : Launch} {X : ev_X} {bc bs n : Nat} {F : ev_H} {Q : Option Value → Nat → ev_H → Prop} {j0 : Int64} {v1 : Int32} {v10 : Int64} {v13 : Int32} {v44 : Int64} {v47 : Int32} {v82 : Int64} {v85 : Int32} {v95 : Int32} {v105 : Int64} {v108 : Int64} {v57 : Int32} {v82_2 : Int64} {v85_2 : Int32} {v95_2 : Int32} {v105_2 : Int64} {v108_2 : Int64} {v67 : Int64} {v70 : Int64} {v23 : Int32} {v31 : Int64} 
    (c1_0 : Cal l X M_Mo_length 0 0 [.long j0] n F (ev_pure (.int v1) n F))
    (c10_1 : Cal l X M_Mo_text 0 0 [.int 5, .int 5, .int 4, .int 0] n F (ev_pure (.long v10) n F))
    (c13_2 : Cal l X M_Mo_ends 0 0 [.long j0, .long v10] n F (ev_pure (.int v13) n F))
    (c44_3 : (v13 = 0) → Cal l X M_Mo_text 0 0 [.int 5, .int 4, .int 0, .int 0] n F (ev_pure (.long v44) n F))
    (c47_4 : (v13 = 0) → Cal l X M_Mo_ends 0 0 [.long j0, .long v44] n F (ev_pure (.int v47) n F))
    (c82_5 : (v13 = 0) → (v47 = 0) → Cal l X M_Mo_text 0 0 [.int 9, .int 14, .int 7, .int 0] n F (ev_pure (.long v82) n F))
    (c85_6 : (v13 = 0) → (v47 = 0) → Cal l X M_Mo_ends 0 0 [.long j0, .long v82] n F (ev_pure (.int v85) n F))
    (q115_7 : (v13 = 0) → (v47 = 0) → (v85 = 0) → Q (some (.long j0)) n F)
    (c95_8 : (v13 = 0) → (v47 = 0) → (¬ v85 = 0) → Cal l X M_Mo_someVowel 0 0 [.long j0, .int (v1 - 3)] n F (ev_pure (.int v95) n F))
    (q115_9 : (v13 = 0) → (v47 = 0) → (¬ v85 = 0) → (v95 = 0) → Q (some (.long j0)) n F)
    (c105_10 : (v13 = 0) → (v47 = 0) → (¬ v85 = 0) → (¬ v95 = 0) → Cal l X M_Mo_first 0 0 [.long j0, .int (v1 - 3)] n F (ev_pure (.long v105) n F))
    (c108_11 : (v13 = 0) → (v47 = 0) → (¬ v85 = 0) → (¬ v95 = 0) → Cal l X M_Mo_mended 0 0 [.long v105] n F (ev_pure (.long v108) n F))
    (q115_12 : (v13 = 0) → (v47 = 0) → (¬ v85 = 0) → (¬ v95 = 0) → Q (some (.long v108)) n F)
    (c57_13 : (v13 = 0) → (¬ v47 = 0) → Cal l X M_Mo_someVowel 0 0 [.long j0, .int (v1 - 2)] n F (ev_pure (.int v57) n F))
    (c82_14 : (v13 = 0) → (¬ v47 = 0) → (v57 = 0) → Cal l X M_Mo_text 0 0 [.int 9, .int 14, .int 7, .int 0] n F (ev_pure (.long v82_2) n F))
    (c85_15 : (v13 = 0) → (¬ v47 = 0) → (v57 = 0) → Cal l X M_Mo_ends 0 0 [.long j0, .long v82_2] n F (ev_pure (.int v85_2) n F))
    (q115_16 : (v13 = 0) → (¬ v47 = 0) → (v57 = 0) → (v85_2 = 0) → Q (some (.long j0)) n F)
    (c95_17 : (v13 = 0) → (¬ v47 = 0) → (v57 = 0) → (¬ v85_2 = 0) → Cal l X M_Mo_someVowel 0 0 [.long j0, .int (v1 - 3)] n F (ev_pure (.int v95_2) n F))
    (q115_18 : (v13 = 0) → (¬ v47 = 0) → (v57 = 0) → (¬ v85_2 = 0) → (v95_2 = 0) → Q (some (.long j0)) n F)
    (c105_19 : (v13 = 0) → (¬ v47 = 0) → (v57 = 0) → (¬ v85_2 = 0) → (¬ v95_2 = 0) → Cal l X M_Mo_first 0 0 [.long j0, .int (v1 - 3)] n F (ev_pure (.long v105_2) n F))
    (c108_20 : (v13 = 0) → (¬ v47 = 0) → (v57 = 0) → (¬ v85_2 = 0) → (¬ v95_2 = 0) → Cal l X M_Mo_mended 0 0 [.long v105_2] n F (ev_pure (.long v108_2) n F))
    (q115_21 : (v13 = 0) → (¬ v47 = 0) → (v57 = 0) → (¬ v85_2 = 0) → (¬ v95_2 = 0) → Q (some (.long v108_2)) n F)
    (c67_22 : (v13 = 0) → (¬ v47 = 0) → (¬ v57 = 0) → Cal l X M_Mo_first 0 0 [.long j0, .int (v1 - 2)] n F (ev_pure (.long v67) n F))
    (c70_23 : (v13 = 0) → (¬ v47 = 0) → (¬ v57 = 0) → Cal l X M_Mo_mended 0 0 [.long v67] n F (ev_pure (.long v70) n F))
    (q73_24 : (v13 = 0) → (¬ v47 = 0) → (¬ v57 = 0) → Q (some (.long v70)) n F)
    (c23_25 : (¬ v13 = 0) → Cal l X M_Mo_measure 0 0 [.long j0, .int (v1 - 3)] n F (ev_pure (.int v23) n F))
    (q38_26 : (¬ v13 = 0) → (v23 ≤ 0) → Q (some (.long j0)) n F)
    (c31_27 : (¬ v13 = 0) → (¬ v23 ≤ 0) → Cal l X M_Mo_without 0 0 [.long j0, .int 1] n F (ev_pure (.long v31) n F))
    (q38_28 : (¬ v13 = 0) → (¬ v23 ≤ 0) → Q (some (.long v31)) n F) :
    Ev l X M_Mo_past bc bs 0 [(0, .long j0)] [] n F (ev_mq X Q) := by
  refine ev_lload_n (pc := 0) d_Mo_past_0 rfl ?_
  refine ev_invokestatic (pc := 1) (As := [.long j0]) (st := []) (Q2 := ev_pure (.int v1) n F) (bc1 := 0) (bs1 := 0) M_Mo_length d_Mo_past_1 lc_Mo_71 wd_992 rfl rfl (Nat.le_of_ble_eq_true rfl) (Nat.le_of_ble_eq_true rfl) (Nat.le_of_ble_eq_true rfl) (Nat.le_refl _) (Nat.le_refl _) c1_0 ?_
  refine ev_purek ?_
  refine ev_istore_n (pc := 4) d_Mo_past_4 (Nat.le_of_ble_eq_true rfl) [1, 0] rfl ?_
  refine ev_lload_n (pc := 5) d_Mo_past_5 rfl ?_
  refine ev_iconst (pc := 6) 5 d_Mo_past_6 (by decide) ?_
  refine ev_iconst (pc := 7) 5 d_Mo_past_7 (by decide) ?_
  refine ev_iconst (pc := 8) 4 d_Mo_past_8 (by decide) ?_
  refine ev_iconst (pc := 9) 0 d_Mo_past_9 (by decide) ?_
  refine ev_invokestatic (pc := 10) (As := [.int 5, .int 5, .int 4, .int 0]) (st := [.long j0]) (Q2 := ev_pure (.long v10) n F) (bc1 := 0) (bs1 := 0) M_Mo_text d_Mo_past_10 lc_Mo_87 wd_1005 rfl rfl (Nat.le_of_ble_eq_true rfl) (Nat.le_of_ble_eq_true rfl) (Nat.le_of_ble_eq_true rfl) (Nat.le_refl _) (Nat.le_refl _) c10_1 ?_
  refine ev_purek ?_
  refine ev_invokestatic (pc := 13) (As := [.long j0, .long v10]) (st := []) (Q2 := ev_pure (.int v13) n F) (bc1 := 0) (bs1 := 0) M_Mo_ends d_Mo_past_13 lc_Mo_91 wd_1008 rfl rfl (Nat.le_of_ble_eq_true rfl) (Nat.le_of_ble_eq_true rfl) (Nat.le_of_ble_eq_true rfl) (Nat.le_refl _) (Nat.le_refl _) c13_2 ?_
  refine ev_purek ?_
  refine ev_if_eq (pc := 16) 39 d_Mo_past_16 (by decide) (fun c16 => ?_) (fun c16 => ?_)
  · refine ev_lload_n (pc := 39) d_Mo_past_39 rfl ?_
    refine ev_iconst (pc := 40) 5 d_Mo_past_40 (by decide) ?_
    refine ev_iconst (pc := 41) 4 d_Mo_past_41 (by decide) ?_
    refine ev_iconst (pc := 42) 0 d_Mo_past_42 (by decide) ?_
    refine ev_iconst (pc := 43) 0 d_Mo_past_43 (by decide) ?_
    refine ev_invokestatic (pc := 44) (As := [.int 5, .int 4, .int 0, .int 0]) (st := [.long j0]) (Q2 := ev_pure (.long v44) n F) (bc1 := 0) (bs1 := 0) M_Mo_text d_Mo_past_44 lc_Mo_87 wd_1005 rfl rfl (Nat.le_of_ble_eq_true rfl) (Nat.le_of_ble_eq_true rfl) (Nat.le_of_ble_eq_true rfl) (Nat.le_refl _) (Nat.le_refl _) (c44_3 c16) ?_
    refine ev_purek ?_
    refine ev_invokestatic (pc := 47) (As := [.long j0, .long v44]) (st := []) (Q2 := ev_pure (.int v47) n F) (bc1 := 0) (bs1 := 0) M_Mo_ends d_Mo_past_47 lc_Mo_91 wd_1008 rfl rfl (Nat.le_of_ble_eq_true rfl) (Nat.le_of_ble_eq_true rfl) (Nat.le_of_ble_eq_true rfl) (Nat.le_refl _) (Nat.le_refl _) (c47_4 c16) ?_
    refine ev_purek ?_
    refine ev_if_eq (pc := 50) 74 d_Mo_past_50 (by decide) (fun c50 => ?_) (fun c50 => ?_)
    · refine ev_lload_n (pc := 74) d_Mo_past_74 rfl ?_
      refine ev_bipush (pc := 75) 9 d_Mo_past_75 (by decide) ?_
      refine ev_bipush (pc := 77) 14 d_Mo_past_77 (by decide) ?_
      refine ev_bipush (pc := 79) 7 d_Mo_past_79 (by decide) ?_
      refine ev_iconst (pc := 81) 0 d_Mo_past_81 (by decide) ?_
      refine ev_invokestatic (pc := 82) (As := [.int 9, .int 14, .int 7, .int 0]) (st := [.long j0]) (Q2 := ev_pure (.long v82) n F) (bc1 := 0) (bs1 := 0) M_Mo_text d_Mo_past_82 lc_Mo_87 wd_1005 rfl rfl (Nat.le_of_ble_eq_true rfl) (Nat.le_of_ble_eq_true rfl) (Nat.le_of_ble_eq_true rfl) (Nat.le_refl _) (Nat.le_refl _) (c82_5 c16 c50) ?_
      refine ev_purek ?_
      refine ev_invokestatic (pc := 85) (As := [.long j0, .long v82]) (st := []) (Q2 := ev_pure (.int v85) n F) (bc1 := 0) (bs1 := 0) M_Mo_ends d_Mo_past_85 lc_Mo_91 wd_1008 rfl rfl (Nat.le_of_ble_eq_true rfl) (Nat.le_of_ble_eq_true rfl) (Nat.le_of_ble_eq_true rfl) (Nat.le_refl _) (Nat.le_refl _) (c85_6 c16 c50) ?_
      refine ev_purek ?_
      refine ev_if_eq (pc := 88) 114 d_Mo_past_88 (by decide) (fun c88 => ?_) (fun c88 => ?_)
      · refine ev_lload_n (pc := 114) d_Mo_past_114 rfl ?_
        exact ev_lreturn (pc := 115) d_Mo_past_115 rfl (q115_7 c16 c50 c88)
      · refine ev_lload_n (pc := 91) d_Mo_past_91 rfl ?_
        refine ev_iload_n (pc := 92) d_Mo_past_92 rfl ?_
        refine ev_iconst (pc := 93) 3 d_Mo_past_93 (by decide) ?_
        refine ev_isub (pc := 94) d_Mo_past_94 ?_
        refine ev_invokestatic (pc := 95) (As := [.long j0, .int (v1 - 3)]) (st := []) (Q2 := ev_pure (.int v95) n F) (bc1 := 0) (bs1 := 0) M_Mo_someVowel d_Mo_past_95 lc_Mo_107 wd_1026 rfl rfl (Nat.le_of_ble_eq_true rfl) (Nat.le_of_ble_eq_true rfl) (Nat.le_of_ble_eq_true rfl) (Nat.le_refl _) (Nat.le_refl _) (c95_8 c16 c50 c88) ?_
        refine ev_purek ?_
        refine ev_if_eq (pc := 98) 114 d_Mo_past_98 (by decide) (fun c98 => ?_) (fun c98 => ?_)
        · refine ev_lload_n (pc := 114) d_Mo_past_114 rfl ?_
          exact ev_lreturn (pc := 115) d_Mo_past_115 rfl (q115_9 c16 c50 c88 c98)
        · refine ev_lload_n (pc := 101) d_Mo_past_101 rfl ?_
          refine ev_iload_n (pc := 102) d_Mo_past_102 rfl ?_
          refine ev_iconst (pc := 103) 3 d_Mo_past_103 (by decide) ?_
          refine ev_isub (pc := 104) d_Mo_past_104 ?_
          refine ev_invokestatic (pc := 105) (As := [.long j0, .int (v1 - 3)]) (st := []) (Q2 := ev_pure (.long v105) n F) (bc1 := 0) (bs1 := 0) M_Mo_first d_Mo_past_105 lc_Mo_83 wd_1014 rfl rfl (Nat.le_of_ble_eq_true rfl) (Nat.le_of_ble_eq_true rfl) (Nat.le_of_ble_eq_true rfl) (Nat.le_refl _) (Nat.le_refl _) (c105_10 c16 c50 c88 c98) ?_
          refine ev_purek ?_
          refine ev_invokestatic (pc := 108) (As := [.long v105]) (st := []) (Q2 := ev_pure (.long v108) n F) (bc1 := 0) (bs1 := 0) M_Mo_mended d_Mo_past_108 lc_Mo_110 wd_1029 rfl rfl (Nat.le_of_ble_eq_true rfl) (Nat.le_of_ble_eq_true rfl) (Nat.le_of_ble_eq_true rfl) (Nat.le_refl _) (Nat.le_refl _) (c108_11 c16 c50 c88 c98) ?_
          refine ev_purek ?_
          refine ev_goto (pc := 111) 115 d_Mo_past_111 (by decide) ?_
          exact ev_lreturn (pc := 115) d_Mo_past_115 rfl (q115_12 c16 c50 c88 c98)
    · refine ev_lload_n (pc := 53) d_Mo_past_53 rfl ?_
      refine ev_iload_n (pc := 54) d_Mo_past_54 rfl ?_
      refine ev_iconst (pc := 55) 2 d_Mo_past_55 (by decide) ?_
      refine ev_isub (pc := 56) d_Mo_past_56 ?_
      refine ev_invokestatic (pc := 57) (As := [.long j0, .int (v1 - 2)]) (st := []) (Q2 := ev_pure (.int v57) n F) (bc1 := 0) (bs1 := 0) M_Mo_someVowel d_Mo_past_57 lc_Mo_107 wd_1026 rfl rfl (Nat.le_of_ble_eq_true rfl) (Nat.le_of_ble_eq_true rfl) (Nat.le_of_ble_eq_true rfl) (Nat.le_refl _) (Nat.le_refl _) (c57_13 c16 c50) ?_
      refine ev_purek ?_
      refine ev_if_eq (pc := 60) 74 d_Mo_past_60 (by decide) (fun c60 => ?_) (fun c60 => ?_)
      · refine ev_lload_n (pc := 74) d_Mo_past_74 rfl ?_
        refine ev_bipush (pc := 75) 9 d_Mo_past_75 (by decide) ?_
        refine ev_bipush (pc := 77) 14 d_Mo_past_77 (by decide) ?_
        refine ev_bipush (pc := 79) 7 d_Mo_past_79 (by decide) ?_
        refine ev_iconst (pc := 81) 0 d_Mo_past_81 (by decide) ?_
        refine ev_invokestatic (pc := 82) (As := [.int 9, .int 14, .int 7, .int 0]) (st := [.long j0]) (Q2 := ev_pure (.long v82_2) n F) (bc1 := 0) (bs1 := 0) M_Mo_text d_Mo_past_82 lc_Mo_87 wd_1005 rfl rfl (Nat.le_of_ble_eq_true rfl) (Nat.le_of_ble_eq_true rfl) (Nat.le_of_ble_eq_true rfl) (Nat.le_refl _) (Nat.le_refl _) (c82_14 c16 c50 c60) ?_
        refine ev_purek ?_
        refine ev_invokestatic (pc := 85) (As := [.long j0, .long v82_2]) (st := []) (Q2 := ev_pure (.int v85_2) n F) (bc1 := 0) (bs1 := 0) M_Mo_ends d_Mo_past_85 lc_Mo_91 wd_1008 rfl rfl (Nat.le_of_ble_eq_true rfl) (Nat.le_of_ble_eq_true rfl) (Nat.le_of_ble_eq_true rfl) (Nat.le_refl _) (Nat.le_refl _) (c85_15 c16 c50 c60) ?_
        refine ev_purek ?_
        refine ev_if_eq (pc := 88) 114 d_Mo_past_88 (by decide) (fun c88 => ?_) (fun c88 => ?_)
        · refine ev_lload_n (pc := 114) d_Mo_past_114 rfl ?_
          exact ev_lreturn (pc := 115) d_Mo_past_115 rfl (q115_16 c16 c50 c60 c88)
        · refine ev_lload_n (pc := 91) d_Mo_past_91 rfl ?_
          refine ev_iload_n (pc := 92) d_Mo_past_92 rfl ?_
          refine ev_iconst (pc := 93) 3 d_Mo_past_93 (by decide) ?_
          refine ev_isub (pc := 94) d_Mo_past_94 ?_
          refine ev_invokestatic (pc := 95) (As := [.long j0, .int (v1 - 3)]) (st := []) (Q2 := ev_pure (.int v95_2) n F) (bc1 := 0) (bs1 := 0) M_Mo_someVowel d_Mo_past_95 lc_Mo_107 wd_1026 rfl rfl (Nat.le_of_ble_eq_true rfl) (Nat.le_of_ble_eq_true rfl) (Nat.le_of_ble_eq_true rfl) (Nat.le_refl _) (Nat.le_refl _) (c95_17 c16 c50 c60 c88) ?_
          refine ev_purek ?_
          refine ev_if_eq (pc := 98) 114 d_Mo_past_98 (by decide) (fun c98 => ?_) (fun c98 => ?_)
          · refine ev_lload_n (pc := 114) d_Mo_past_114 rfl ?_
            exact ev_lreturn (pc := 115) d_Mo_past_115 rfl (q115_18 c16 c50 c60 c88 c98)
          · refine ev_lload_n (pc := 101) d_Mo_past_101 rfl ?_
            refine ev_iload_n (pc := 102) d_Mo_past_102 rfl ?_
            refine ev_iconst (pc := 103) 3 d_Mo_past_103 (by decide) ?_
            refine ev_isub (pc := 104) d_Mo_past_104 ?_
            refine ev_invokestatic (pc := 105) (As := [.long j0, .int (v1 - 3)]) (st := []) (Q2 := ev_pure (.long v105_2) n F) (bc1 := 0) (bs1 := 0) M_Mo_first d_Mo_past_105 lc_Mo_83 wd_1014 rfl rfl (Nat.le_of_ble_eq_true rfl) (Nat.le_of_ble_eq_true rfl) (Nat.le_of_ble_eq_true rfl) (Nat.le_refl _) (Nat.le_refl _) (c105_19 c16 c50 c60 c88 c98) ?_
            refine ev_purek ?_
            refine ev_invokestatic (pc := 108) (As := [.long v105_2]) (st := []) (Q2 := ev_pure (.long v108_2) n F) (bc1 := 0) (bs1 := 0) M_Mo_mended d_Mo_past_108 lc_Mo_110 wd_1029 rfl rfl (Nat.le_of_ble_eq_true rfl) (Nat.le_of_ble_eq_true rfl) (Nat.le_of_ble_eq_true rfl) (Nat.le_refl _) (Nat.le_refl _) (c108_20 c16 c50 c60 c88 c98) ?_
            refine ev_purek ?_
            refine ev_goto (pc := 111) 115 d_Mo_past_111 (by decide) ?_
            exact ev_lreturn (pc := 115) d_Mo_past_115 rfl (q115_21 c16 c50 c60 c88 c98)
      · refine ev_lload_n (pc := 63) d_Mo_past_63 rfl ?_
        refine ev_iload_n (pc := 64) d_Mo_past_64 rfl ?_
        refine ev_iconst (pc := 65) 2 d_Mo_past_65 (by decide) ?_
        refine ev_isub (pc := 66) d_Mo_past_66 ?_
        refine ev_invokestatic (pc := 67) (As := [.long j0, .int (v1 - 2)]) (st := []) (Q2 := ev_pure (.long v67) n F) (bc1 := 0) (bs1 := 0) M_Mo_first d_Mo_past_67 lc_Mo_83 wd_1014 rfl rfl (Nat.le_of_ble_eq_true rfl) (Nat.le_of_ble_eq_true rfl) (Nat.le_of_ble_eq_true rfl) (Nat.le_refl _) (Nat.le_refl _) (c67_22 c16 c50 c60) ?_
        refine ev_purek ?_
        refine ev_invokestatic (pc := 70) (As := [.long v67]) (st := []) (Q2 := ev_pure (.long v70) n F) (bc1 := 0) (bs1 := 0) M_Mo_mended d_Mo_past_70 lc_Mo_110 wd_1029 rfl rfl (Nat.le_of_ble_eq_true rfl) (Nat.le_of_ble_eq_true rfl) (Nat.le_of_ble_eq_true rfl) (Nat.le_refl _) (Nat.le_refl _) (c70_23 c16 c50 c60) ?_
        refine ev_purek ?_
        exact ev_lreturn (pc := 73) d_Mo_past_73 rfl (q73_24 c16 c50 c60)
  · refine ev_lload_n (pc := 19) d_Mo_past_19 rfl ?_
    refine ev_iload_n (pc := 20) d_Mo_past_20 rfl ?_
    refine ev_iconst (pc := 21) 3 d_Mo_past_21 (by decide) ?_
    refine ev_isub (pc := 22) d_Mo_past_22 ?_
    refine ev_invokestatic (pc := 23) (As := [.long j0, .int (v1 - 3)]) (st := []) (Q2 := ev_pure (.int v23) n F) (bc1 := 0) (bs1 := 0) M_Mo_measure d_Mo_past_23 lc_Mo_100 wd_1020 rfl rfl (Nat.le_of_ble_eq_true rfl) (Nat.le_of_ble_eq_true rfl) (Nat.le_of_ble_eq_true rfl) (Nat.le_refl _) (Nat.le_refl _) (c23_25 c16) ?_
    refine ev_purek ?_
    refine ev_if_le (pc := 26) 37 d_Mo_past_26 (by decide) (fun c26 => ?_) (fun c26 => ?_)
    · refine ev_lload_n (pc := 37) d_Mo_past_37 rfl ?_
      exact ev_lreturn (pc := 38) d_Mo_past_38 rfl (q38_26 c16 c26)
    · refine ev_lload_n (pc := 29) d_Mo_past_29 rfl ?_
      refine ev_iconst (pc := 30) 1 d_Mo_past_30 (by decide) ?_
      refine ev_invokestatic (pc := 31) (As := [.long j0, .int 1]) (st := []) (Q2 := ev_pure (.long v31) n F) (bc1 := 0) (bs1 := 0) M_Mo_without d_Mo_past_31 lc_Mo_95 wd_1011 rfl rfl (Nat.le_of_ble_eq_true rfl) (Nat.le_of_ble_eq_true rfl) (Nat.le_of_ble_eq_true rfl) (Nat.le_refl _) (Nat.le_refl _) (c31_27 c16 c26) ?_
      refine ev_purek ?_
      refine ev_goto (pc := 34) 38 d_Mo_past_34 (by decide) ?_
      exact ev_lreturn (pc := 38) d_Mo_past_38 rfl (q38_28 c16 c26)
set_option maxRecDepth 100000 in
set_option maxHeartbeats 4000000 in
theorem s_Mo_stemOf_0 {l : Launch} {X : ev_X} {bc bs n : Nat} {F : ev_H} {Q : Option Value → Nat → ev_H → Prop} {j0 : Int64} {v1 : Int32} {v11 : Int64} {v14 : Int64} {v19 : Int32} {v29 : Int32} {v42 : Int32} {v65 : Int64} 
    (c1_0 : Cal l X M_Mo_length 0 0 [.long j0] n F (ev_pure (.int v1) n F))
    (c11_1 : (3 ≤ v1) → Cal l X M_Mo_plural 0 0 [.long j0] n F (ev_pure (.long v11) n F))
    (c14_2 : (3 ≤ v1) → Cal l X M_Mo_past 0 0 [.long v11] n F (ev_pure (.long v14) n F))
    (c19_3 : (3 ≤ v1) → Cal l X M_Mo_length 0 0 [.long v14] n F (ev_pure (.int v19) n F))
    (c29_4 : (3 ≤ v1) → Cal l X M_Mo_letter 0 0 [.long v14, .int (v19 - 1)] n F (ev_pure (.int v29) n F))
    (q83_5 : (3 ≤ v1) → (¬ v29 = 25) → Q (some (.long v14)) n F)
    (c42_6 : (3 ≤ v1) → (v29 = 25) → Cal l X M_Mo_someVowel 0 0 [.long v14, .int (v19 - 1)] n F (ev_pure (.int v42) n F))
    (q83_7 : (3 ≤ v1) → (v29 = 25) → (v42 = 0) → Q (some (.long v14)) n F)
    (c65_8 : (3 ≤ v1) → (v29 = 25) → (¬ v42 = 0) → Cal l X M_Mo_first 0 0 [.long v14, .int (v19 - 1)] n F (ev_pure (.long v65) n F))
    (q83_9 : (3 ≤ v1) → (v29 = 25) → (¬ v42 = 0) → Q (some (.long (v65 ||| ((9 : Int64) <<< ((5 * (v19 - 1)).toInt64 &&& 63))))) n F)
    (q9_10 : (¬ 3 ≤ v1) → Q (some (.long j0)) n F) :
    Ev l X M_Mo_stemOf bc bs 0 [(0, .long j0)] [] n F (ev_mq X Q) := by
  refine ev_lload_n (pc := 0) d_Mo_stemOf_0 rfl ?_
  refine ev_invokestatic (pc := 1) (As := [.long j0]) (st := []) (Q2 := ev_pure (.int v1) n F) (bc1 := 0) (bs1 := 0) M_Mo_length d_Mo_stemOf_1 lc_Mo_71 wd_992 rfl rfl (Nat.le_of_ble_eq_true rfl) (Nat.le_of_ble_eq_true rfl) (Nat.le_of_ble_eq_true rfl) (Nat.le_refl _) (Nat.le_refl _) c1_0 ?_
  refine ev_purek ?_
  refine ev_iconst (pc := 4) 3 d_Mo_stemOf_4 (by decide) ?_
  refine ev_icmp_ge (pc := 5) 10 d_Mo_stemOf_5 (by decide) (fun c5 => ?_) (fun c5 => ?_)
  · refine ev_lload_n (pc := 10) d_Mo_stemOf_10 rfl ?_
    refine ev_invokestatic (pc := 11) (As := [.long j0]) (st := []) (Q2 := ev_pure (.long v11) n F) (bc1 := 0) (bs1 := 0) M_Mo_plural d_Mo_stemOf_11 lc_Mo_114 wd_1002 rfl rfl (Nat.le_of_ble_eq_true rfl) (Nat.le_of_ble_eq_true rfl) (Nat.le_of_ble_eq_true rfl) (Nat.le_refl _) (Nat.le_refl _) (c11_1 c5) ?_
    refine ev_purek ?_
    refine ev_invokestatic (pc := 14) (As := [.long v11]) (st := []) (Q2 := ev_pure (.long v14) n F) (bc1 := 0) (bs1 := 0) M_Mo_past d_Mo_stemOf_14 lc_Mo_117 wd_1017 rfl rfl (Nat.le_of_ble_eq_true rfl) (Nat.le_of_ble_eq_true rfl) (Nat.le_of_ble_eq_true rfl) (Nat.le_refl _) (Nat.le_refl _) (c14_2 c5) ?_
    refine ev_purek ?_
    refine ev_lstore_n (pc := 17) d_Mo_stemOf_17 (Nat.le_of_ble_eq_true rfl) [1, 0] rfl ?_
    refine ev_lload_n (pc := 18) d_Mo_stemOf_18 rfl ?_
    refine ev_invokestatic (pc := 19) (As := [.long v14]) (st := []) (Q2 := ev_pure (.int v19) n F) (bc1 := 0) (bs1 := 0) M_Mo_length d_Mo_stemOf_19 lc_Mo_71 wd_992 rfl rfl (Nat.le_of_ble_eq_true rfl) (Nat.le_of_ble_eq_true rfl) (Nat.le_of_ble_eq_true rfl) (Nat.le_refl _) (Nat.le_refl _) (c19_3 c5) ?_
    refine ev_purek ?_
    refine ev_istore (pc := 22) d_Mo_stemOf_22 (Nat.le_of_ble_eq_true rfl) [1, 2, 0] rfl ?_
    refine ev_lload_n (pc := 24) d_Mo_stemOf_24 rfl ?_
    refine ev_iload (pc := 25) d_Mo_stemOf_25 rfl ?_
    refine ev_iconst (pc := 27) 1 d_Mo_stemOf_27 (by decide) ?_
    refine ev_isub (pc := 28) d_Mo_stemOf_28 ?_
    refine ev_invokestatic (pc := 29) (As := [.long v14, .int (v19 - 1)]) (st := []) (Q2 := ev_pure (.int v29) n F) (bc1 := 0) (bs1 := 0) M_Mo_letter d_Mo_stemOf_29 lc_Mo_75 wd_995 rfl rfl (Nat.le_of_ble_eq_true rfl) (Nat.le_of_ble_eq_true rfl) (Nat.le_of_ble_eq_true rfl) (Nat.le_refl _) (Nat.le_refl _) (c29_4 c5) ?_
    refine ev_purek ?_
    refine ev_bipush (pc := 32) 25 d_Mo_stemOf_32 (by decide) ?_
    refine ev_icmp_ne (pc := 34) 52 d_Mo_stemOf_34 (by decide) (fun c34 => ?_) (fun c34 => ?_)
    · refine ev_iconst (pc := 52) 0 d_Mo_stemOf_52 (by decide) ?_
      refine ev_istore (pc := 53) d_Mo_stemOf_53 (Nat.le_of_ble_eq_true rfl) [1, 2, 3, 0] rfl ?_
      refine ev_iload (pc := 55) d_Mo_stemOf_55 rfl ?_
      refine ev_if_eq (pc := 57) 82 d_Mo_stemOf_57 (by decide) (fun _ => ?_) (fun c57 => absurd (by decide) c57)
      refine ev_lload_n (pc := 82) d_Mo_stemOf_82 rfl ?_
      exact ev_lreturn (pc := 83) d_Mo_stemOf_83 rfl (q83_5 c5 c34)
    · refine ev_lload_n (pc := 37) d_Mo_stemOf_37 rfl ?_
      refine ev_iload (pc := 38) d_Mo_stemOf_38 rfl ?_
      refine ev_iconst (pc := 40) 1 d_Mo_stemOf_40 (by decide) ?_
      refine ev_isub (pc := 41) d_Mo_stemOf_41 ?_
      refine ev_invokestatic (pc := 42) (As := [.long v14, .int (v19 - 1)]) (st := []) (Q2 := ev_pure (.int v42) n F) (bc1 := 0) (bs1 := 0) M_Mo_someVowel d_Mo_stemOf_42 lc_Mo_107 wd_1026 rfl rfl (Nat.le_of_ble_eq_true rfl) (Nat.le_of_ble_eq_true rfl) (Nat.le_of_ble_eq_true rfl) (Nat.le_refl _) (Nat.le_refl _) (c42_6 c5 c34) ?_
      refine ev_purek ?_
      refine ev_if_eq (pc := 45) 52 d_Mo_stemOf_45 (by decide) (fun c45 => ?_) (fun c45 => ?_)
      · refine ev_iconst (pc := 52) 0 d_Mo_stemOf_52 (by decide) ?_
        refine ev_istore (pc := 53) d_Mo_stemOf_53 (Nat.le_of_ble_eq_true rfl) [1, 2, 3, 0] rfl ?_
        refine ev_iload (pc := 55) d_Mo_stemOf_55 rfl ?_
        refine ev_if_eq (pc := 57) 82 d_Mo_stemOf_57 (by decide) (fun _ => ?_) (fun c57 => absurd (by decide) c57)
        refine ev_lload_n (pc := 82) d_Mo_stemOf_82 rfl ?_
        exact ev_lreturn (pc := 83) d_Mo_stemOf_83 rfl (q83_7 c5 c34 c45)
      · refine ev_iconst (pc := 48) 1 d_Mo_stemOf_48 (by decide) ?_
        refine ev_goto (pc := 49) 53 d_Mo_stemOf_49 (by decide) ?_
        refine ev_istore (pc := 53) d_Mo_stemOf_53 (Nat.le_of_ble_eq_true rfl) [1, 2, 3, 0] rfl ?_
        refine ev_iload (pc := 55) d_Mo_stemOf_55 rfl ?_
        refine ev_if_eq (pc := 57) 82 d_Mo_stemOf_57 (by decide) (fun c57 => absurd c57 (by decide)) (fun _ => ?_)
        refine ev_lload_n (pc := 60) d_Mo_stemOf_60 rfl ?_
        refine ev_iload (pc := 61) d_Mo_stemOf_61 rfl ?_
        refine ev_iconst (pc := 63) 1 d_Mo_stemOf_63 (by decide) ?_
        refine ev_isub (pc := 64) d_Mo_stemOf_64 ?_
        refine ev_invokestatic (pc := 65) (As := [.long v14, .int (v19 - 1)]) (st := []) (Q2 := ev_pure (.long v65) n F) (bc1 := 0) (bs1 := 0) M_Mo_first d_Mo_stemOf_65 lc_Mo_83 wd_1014 rfl rfl (Nat.le_of_ble_eq_true rfl) (Nat.le_of_ble_eq_true rfl) (Nat.le_of_ble_eq_true rfl) (Nat.le_refl _) (Nat.le_refl _) (c65_8 c5 c34 c45) ?_
        refine ev_purek ?_
        refine ev_ldc2 (pc := 68) (v := 9) d_Mo_stemOf_68 wd_1035 ?_
        refine ev_iconst (pc := 71) 5 d_Mo_stemOf_71 (by decide) ?_
        refine ev_iload (pc := 72) d_Mo_stemOf_72 rfl ?_
        refine ev_iconst (pc := 74) 1 d_Mo_stemOf_74 (by decide) ?_
        refine ev_isub (pc := 75) d_Mo_stemOf_75 ?_
        refine ev_imul (pc := 76) d_Mo_stemOf_76 ?_
        refine ev_lshl (pc := 77) d_Mo_stemOf_77 ?_
        refine ev_lor (pc := 78) d_Mo_stemOf_78 ?_
        refine ev_goto (pc := 79) 83 d_Mo_stemOf_79 (by decide) ?_
        exact ev_lreturn (pc := 83) d_Mo_stemOf_83 rfl (q83_9 c5 c34 c45)
  · refine ev_lload_n (pc := 8) d_Mo_stemOf_8 rfl ?_
    exact ev_lreturn (pc := 9) d_Mo_stemOf_9 rfl (q9_10 c5)
set_option maxRecDepth 100000 in
set_option maxHeartbeats 4000000 in
theorem s_Mo_termOf_0 {l : Launch} {X : ev_X} {bc bs n : Nat} {F : ev_H} {Q : Option Value → Nat → ev_H → Prop} {j0 : Int64} {v1 : Int32} {v12 : Int64} 
    (c1_0 : Cal l X M_Mo_isStop 0 0 [.long j0] n F (ev_pure (.int v1) n F))
    (c12_1 : (v1 = 0) → Cal l X M_Mo_stemOf 0 0 [.long j0] n F (ev_pure (.long v12) n F))
    (q15_2 : (v1 = 0) → Q (some (.long v12)) n F)
    (q15_3 : (¬ v1 = 0) → Q (some (.long 0)) n F) :
    Ev l X M_Mo_termOf bc bs 0 [(0, .long j0)] [] n F (ev_mq X Q) := by
  refine ev_lload_n (pc := 0) d_Mo_termOf_0 rfl ?_
  refine ev_invokestatic (pc := 1) (As := [.long j0]) (st := []) (Q2 := ev_pure (.int v1) n F) (bc1 := 0) (bs1 := 0) M_Mo_isStop d_Mo_termOf_1 lc_Mo_128 wd_1044 rfl rfl (Nat.le_of_ble_eq_true rfl) (Nat.le_of_ble_eq_true rfl) (Nat.le_of_ble_eq_true rfl) (Nat.le_refl _) (Nat.le_refl _) c1_0 ?_
  refine ev_purek ?_
  refine ev_if_eq (pc := 4) 11 d_Mo_termOf_4 (by decide) (fun c4 => ?_) (fun c4 => ?_)
  · refine ev_lload_n (pc := 11) d_Mo_termOf_11 rfl ?_
    refine ev_invokestatic (pc := 12) (As := [.long j0]) (st := []) (Q2 := ev_pure (.long v12) n F) (bc1 := 0) (bs1 := 0) M_Mo_stemOf d_Mo_termOf_12 lc_Mo_125 wd_999 rfl rfl (Nat.le_of_ble_eq_true rfl) (Nat.le_of_ble_eq_true rfl) (Nat.le_of_ble_eq_true rfl) (Nat.le_refl _) (Nat.le_refl _) (c12_1 c4) ?_
    refine ev_purek ?_
    exact ev_lreturn (pc := 15) d_Mo_termOf_15 rfl (q15_2 c4)
  · refine ev_lconst (pc := 7) 0 d_Mo_termOf_7 (by decide) ?_
    refine ev_goto (pc := 8) 15 d_Mo_termOf_8 (by decide) ?_
    exact ev_lreturn (pc := 15) d_Mo_termOf_15 rfl (q15_3 c4)
end
section
/-! ===== lN n to 2^64: shifts, and, or, masks, one bit ===== -/
theorem wb_tb (n : Nat) : (lN n).toBitVec = BitVec.ofNat 64 n := rfl
theorem wb_inj {a b : Int64} (h : a.toBitVec = b.toBitVec) : a = b := Int64.toBitVec_inj.mp h
theorem wb_tn {n : Nat} (h : n < 2 ^ 64) : (lN n).toBitVec.toNat = n := by rw [wb_tb, BitVec.toNat_ofNat, Nat.mod_eq_of_lt h]
theorem wb_of (x : Int64) : ∃ n, n < 2 ^ 64 ∧ x = lN n := ⟨x.toBitVec.toNat, x.toBitVec.isLt, wb_inj (by rw [wb_tb]; simp)⟩
theorem wb_of32 (x : Int32) : ∃ n, n < 2 ^ 32 ∧ x = nI n := ⟨x.toBitVec.toNat, x.toBitVec.isLt, Int32.toBitVec_inj.mp (by show _ = BitVec.ofNat 32 _; simp)⟩
theorem wb_c : ∀ k, k < 64 → ((nI k).toInt64 &&& 63) = lN k := by decide +kernel
theorem wb_cu : ∀ k, k < 64 → ((nI k).toInt64.toUInt64 &&& Int64.toUInt64 63) = UInt64.ofNat k := by decide +kernel
theorem wb_sm : ∀ k, k < 64 → (BitVec.ofNat 64 k).smod 64 = BitVec.ofNat 64 k := by decide +kernel
theorem wb_pw {a b : Nat} (h : a ≤ b) : 2 ^ b = 2 ^ a * 2 ^ (b - a) := by rw [← Nat.pow_add]; congr 1; omega
theorem wb_lt2 {a b : Nat} (h : a < b) : 2 ^ a < 2 ^ b := Nat.pow_lt_pow_right (by decide) h
theorem wb_mod (n : Nat) : lN n = lN (n % 2 ^ 64) := wb_inj (by rw [wb_tb, wb_tb]; apply BitVec.eq_of_toNat_eq; rw [BitVec.toNat_ofNat, BitVec.toNat_ofNat, Nat.mod_mod])
theorem wb_shr {n k : Nat} (hn : n < 2 ^ 64) (hk : k < 64) : ((lN n).toUInt64 >>> ((nI k).toInt64.toUInt64 &&& Int64.toUInt64 63)).toInt64 = lN (n / 2 ^ k) := by
  rw [wb_cu k hk]
  apply wb_inj
  apply BitVec.eq_of_toNat_eq
  show ((lN n).toUInt64 >>> UInt64.ofNat k).toNat = (BitVec.ofNat 64 _).toNat
  have h1 : (UInt64.ofNat k).toNat = k := by
    show (BitVec.ofNat 64 k).toNat = k
    rw [BitVec.toNat_ofNat, Nat.mod_eq_of_lt (by omega)]
  have h2 : (lN n).toUInt64.toNat = n := wb_tn hn
  rw [UInt64.toNat_shiftRight, h1, h2, Nat.mod_eq_of_lt hk, Nat.shiftRight_eq_div_pow, BitVec.toNat_ofNat, Nat.mod_eq_of_lt (Nat.lt_of_le_of_lt (Nat.div_le_self _ _) hn)]
theorem wb_shl (n : Nat) {k : Nat} (hk : k < 64) : lN n <<< ((nI k).toInt64 &&& 63) = lN (n * 2 ^ k) := by
  rw [wb_c k hk]
  apply wb_inj
  rw [Int64.toBitVec_shiftLeft, wb_tb, wb_tb, wb_tb, wb_sm k hk]
  apply BitVec.eq_of_toNat_eq
  rw [BitVec.shiftLeft_eq', BitVec.toNat_shiftLeft, BitVec.toNat_ofNat, BitVec.toNat_ofNat, BitVec.toNat_ofNat, Nat.mod_eq_of_lt (show k < 2 ^ 64 by omega), Nat.shiftLeft_eq, Nat.mul_mod, Nat.mod_mod, ← Nat.mul_mod]
theorem wb_and {a b : Nat} (ha : a < 2 ^ 64) (hb : b < 2 ^ 64) : lN a &&& lN b = lN (a &&& b) := by
  apply wb_inj
  rw [Int64.toBitVec_and, wb_tb, wb_tb, wb_tb]
  apply BitVec.eq_of_toNat_eq
  rw [BitVec.toNat_and, BitVec.toNat_ofNat, BitVec.toNat_ofNat, BitVec.toNat_ofNat, Nat.mod_eq_of_lt ha, Nat.mod_eq_of_lt hb, Nat.mod_eq_of_lt (Nat.and_lt_two_pow _ hb)]
theorem wb_or {a b : Nat} (ha : a < 2 ^ 64) (hb : b < 2 ^ 64) : lN a ||| lN b = lN (a ||| b) := by
  apply wb_inj
  rw [Int64.toBitVec_or, wb_tb, wb_tb, wb_tb]
  apply BitVec.eq_of_toNat_eq
  rw [BitVec.toNat_or, BitVec.toNat_ofNat, BitVec.toNat_ofNat, BitVec.toNat_ofNat, Nat.mod_eq_of_lt ha, Nat.mod_eq_of_lt hb, Nat.mod_eq_of_lt (Nat.or_lt_two_pow ha hb)]
theorem wb_mask {n k : Nat} (hn : n < 2 ^ 64) (hk : k < 64) : lN n &&& lN (2 ^ k - 1) = lN (n % 2 ^ k) := by
  rw [wb_and hn (by have := wb_lt2 hk; omega), Nat.and_two_pow_sub_one_eq_mod]
theorem wb_a1 {n : Nat} (hn : n < 2 ^ 64) : lN n &&& 1 = lN (n % 2) := wb_mask (k := 1) hn (by decide)
theorem wb_bit {n k : Nat} (hn : n < 2 ^ 64) (hk : k < 64) : ((lN n).toUInt64 >>> ((nI k).toInt64.toUInt64 &&& Int64.toUInt64 63)).toInt64 &&& 1 = lN (n / 2 ^ k % 2) := by
  rw [wb_shr hn hk, wb_a1 (Nat.lt_of_le_of_lt (Nat.div_le_self _ _) hn)]
theorem wb_xor {q k : Nat} (hk : k < 63) (h : 2 ^ k ≤ q) (h2 : q < 2 ^ (k + 1)) : lN q ^^^ lN (2 ^ k) = lN (q - 2 ^ k) := by
  obtain ⟨r, rfl⟩ : ∃ r, q = 2 ^ k + r := ⟨q - 2 ^ k, by omega⟩
  have hr : r < 2 ^ k := by rw [Nat.pow_succ] at h2; omega
  have hx : (2 ^ k + r) ^^^ 2 ^ k = r := by
    apply Nat.eq_of_testBit_eq
    intro i
    rw [Nat.testBit_xor, Nat.testBit_two_pow]
    rcases Nat.lt_trichotomy i k with h | h | h
    · rw [Nat.testBit_two_pow_add_gt h]
      simp [show ¬ k = i by omega]
    · subst h
      rw [Nat.testBit_two_pow_add_eq]
      simp
    · have a1 : 2 ^ (k + 1) ≤ 2 ^ i := Nat.pow_le_pow_right (by decide) h
      rw [Nat.testBit_lt_two_pow (show 2 ^ k + r < 2 ^ i by omega), Nat.testBit_lt_two_pow (show r < 2 ^ i by omega)]
      simp [show ¬ k = i by omega]
  have b1 := wb_lt2 (show k + 1 < 64 by omega)
  have b2 := wb_lt2 (show k < 64 by omega)
  apply wb_inj
  rw [Int64.toBitVec_xor, wb_tb, wb_tb, wb_tb]
  apply BitVec.eq_of_toNat_eq
  rw [BitVec.toNat_xor, BitVec.toNat_ofNat, BitVec.toNat_ofNat, BitVec.toNat_ofNat, Nat.mod_eq_of_lt (by omega : 2 ^ k + r < 2 ^ 64), Nat.mod_eq_of_lt b2, hx, Nat.add_sub_cancel_left, Nat.mod_eq_of_lt (by omega)]
/-! ===== lN: masks, 'or' of parts that don't overlap is a sum ===== -/
theorem u_tn {n : Nat} (h : n < 2 ^ 64) : (UInt64.ofNat n).toNat = n := Nat.mod_eq_of_lt h
theorem g_and {a b c : Nat} (ha : a < 2 ^ 64) (hb : b < 2 ^ 64) (hc : a &&& b = c) : lN a &&& lN b = lN c := by
  subst hc
  have h : UInt64.ofNat a &&& UInt64.ofNat b = UInt64.ofNat (a &&& b) := UInt64.toNat_inj.mp (by rw [UInt64.toNat_and, u_tn ha, u_tn hb, u_tn (Nat.and_lt_two_pow a hb)])
  have h2 := congrArg UInt64.toInt64 h
  exact h2
theorem g_and1 {a : Nat} (ha : a < 2 ^ 64) : lN a &&& 1 = lN (a % 2) := g_and (b := 1) ha (by decide) (Nat.and_two_pow_sub_one_eq_mod a 1)
theorem g_mask {a s p : Nat} (hp : 2 ^ s = p) (hs : s < 64) (ha : a < 2 ^ 64) : lN a &&& lN (p - 1) = lN (a % p) := by
  subst hp
  have := Nat.pow_lt_pow_right (show 1 < 2 by decide) hs
  exact g_and ha (by omega) (Nat.and_two_pow_sub_one_eq_mod a s)
theorem g_or {k p a b : Nat} (hp : 2 ^ k = p) (ha : a < p) (h : b * p + a < 2 ^ 64) : lN (b * p) ||| lN a = lN (b * p + a) := by
  subst hp
  have h1 : b * 2 ^ k ||| a = b * 2 ^ k + a := by rw [← Nat.shiftLeft_eq, Nat.shiftLeft_add_eq_or_of_lt ha]
  have h3 : UInt64.ofNat (b * 2 ^ k) ||| UInt64.ofNat a = UInt64.ofNat (b * 2 ^ k + a) := UInt64.toNat_inj.mp (by rw [UInt64.toNat_or, u_tn (by omega), u_tn (by omega), u_tn h, h1])
  have h2 := congrArg UInt64.toInt64 h3
  exact h2
theorem g_or' {k p a b : Nat} (hp : 2 ^ k = p) (ha : a < p) (h : a + b * p < 2 ^ 64) : lN a ||| lN (b * p) = lN (a + b * p) := by
  rw [Int64.or_comm, g_or hp ha (by omega), Nat.add_comm]
theorem g_ushr {a k p : Nat} {y : UInt64} (hy : y = UInt64.ofNat k) (hk : k < 64) (hp : 2 ^ k = p) (ha : a < 2 ^ 64) : ((lN a).toUInt64 >>> y).toInt64 = lN (a / p) := by
  subst hy hp
  have h : UInt64.ofNat a >>> UInt64.ofNat k = UInt64.ofNat (a / 2 ^ k) := UInt64.toNat_inj.mp (by rw [UInt64.toNat_shiftRight, u_tn ha, u_tn (by omega), u_tn (Nat.lt_of_le_of_lt (Nat.div_le_self _ _) ha), Nat.mod_eq_of_lt hk, Nat.shiftRight_eq_div_pow])
  have h2 := congrArg UInt64.toInt64 h
  exact h2
theorem g_shl {a k p : Nat} {y : Int64} (hy : y.toBitVec.smod 64 = BitVec.ofNat 64 k) (hk : k < 64) (hp : 2 ^ k = p) (ha : a < 2 ^ 64) : lN a <<< y = lN (a * p) := by
  subst hp
  apply Int64.toBitVec_inj.mp
  rw [Int64.toBitVec_shiftLeft, hy]
  apply BitVec.eq_of_toNat_eq
  have hb : (lN a).toBitVec.toNat = a := Nat.mod_eq_of_lt ha
  have hk' : (BitVec.ofNat 64 k).toNat = k := Nat.mod_eq_of_lt (by omega)
  have h : ((lN a).toBitVec <<< BitVec.ofNat 64 k).toNat = (a * 2 ^ k) % 2 ^ 64 := by simp only [BitVec.shiftLeft_eq', BitVec.toNat_shiftLeft, hb, hk', Nat.shiftLeft_eq]
  exact h
/-! ===== lN to 2^62 under >> and >>> ===== -/
theorem pf_lI {a : Nat} (h : a < 2 ^ 63) : (lN a).toInt = (a : Int) := lg_ofNat_toInt h
theorem pf_shr {a d : Nat} {D : Int64} (hD : (D.toBitVec.smod 64).toNat = d) (h : a < 2 ^ 62) : lN a >>> D = lN (a / 2 ^ d) := by
  have hd : a / 2 ^ d ≤ a := Nat.div_le_self _ _
  apply Int64.toInt_inj.mp
  have e : (lN a >>> D).toInt = (lN a).toInt >>> d := by
    rw [← hD]
    exact BitVec.toInt_sshiftRight ..
  rw [e, Int.shiftRight_eq_div_pow, pf_lI (by omega), pf_lI (by omega)]
  rfl
theorem pf_ushr {a d : Nat} {D : UInt64} (hD : D.toNat % 64 = d) (h : a < 2 ^ 62) : ((lN a).toUInt64 >>> D).toInt64 = lN (a / 2 ^ d) := by
  have hd : a / 2 ^ d ≤ a := Nat.div_le_self _ _
  have e : (lN a).toUInt64 >>> D = UInt64.ofNat (a / 2 ^ d) := UInt64.toNat_inj.mp (by
    rw [UInt64.toNat_shiftRight, hD, Nat.shiftRight_eq_div_pow, UInt64.toNat_ofNat']
    show (UInt64.ofNat a).toNat / 2 ^ d = _
    rw [UInt64.toNat_ofNat', Nat.mod_eq_of_lt (by omega), Nat.mod_eq_of_lt (by omega)])
  rw [e]
  rfl
theorem pf_andw (x : Int64) : ∃ m, m < 2 ^ 32 ∧ x &&& 4294967295 = lN m := ⟨x.toBitVec.toNat % 2 ^ 32, Nat.mod_lt _ (by decide), Int64.toBitVec_inj.mp (BitVec.eq_of_toNat_eq (by
  show (x.toBitVec &&& 4294967295#64).toNat = (BitVec.ofNat 64 (x.toBitVec.toNat % 2 ^ 32)).toNat
  rw [BitVec.toNat_and, show (4294967295#64).toNat = 2 ^ 32 - 1 from by decide, Nat.and_two_pow_sub_one_eq_mod, BitVec.toNat_ofNat]
  omega))⟩
end
section
/-! words as numbers: digits to the base 32, the lowest first; pure -/
def sd (N i : Nat) : Nat := N / 32 ^ i % 32
def slF : Nat → Nat → Nat
  | 0, _ => 0
  | k + 1, N => if N = 0 then 0 else slF k (N / 32) + 1
/-- how many letters -/
def sl (N : Nat) : Nat := slF 12 N
theorem slF_lt : ∀ (k N : Nat), N < 32 ^ k → N < 32 ^ slF k N
  | 0, N, h => h
  | k + 1, N, h => by
    unfold slF
    by_cases e : N = 0
    · rw [if_pos e, e]; decide
    · rw [if_neg e]
      have h1 : N / 32 < 32 ^ k := by
        rw [Nat.pow_succ] at h
        exact Nat.div_lt_of_lt_mul (by rw [Nat.mul_comm]; exact h)
      have h2 := slF_lt k (N / 32) h1
      rw [Nat.pow_succ]
      have h3 : N / 32 + 1 ≤ 32 ^ slF k (N / 32) := h2
      have h4 : N < (N / 32 + 1) * 32 := by omega
      exact Nat.lt_of_lt_of_le h4 (Nat.mul_le_mul_right _ h3)
theorem slF_ge : ∀ (k N : Nat), N ≠ 0 → N < 32 ^ k → 32 ^ (slF k N - 1) ≤ N
  | 0, N, h, h2 => by simp at h2; exact absurd h2 h
  | k + 1, N, h, h2 => by
    unfold slF
    rw [if_neg h]
    by_cases e : N / 32 = 0
    · have : slF k (N / 32) = 0 := by
        rw [e]; cases k <;> simp [slF]
      rw [this]
      simp
      omega
    · have h1 : N / 32 < 32 ^ k := by
        rw [Nat.pow_succ] at h2
        exact Nat.div_lt_of_lt_mul (by rw [Nat.mul_comm]; exact h2)
      have h3 := slF_ge k (N / 32) e h1
      have h4 : slF k (N / 32) ≠ 0 := by
        intro e2
        have h5 := slF_lt k (N / 32) h1
        rw [e2] at h5
        simp at h5
        omega
      have h6 : 32 ^ (slF k (N / 32) + 1 - 1) = 32 ^ (slF k (N / 32) - 1) * 32 := by
        rw [← Nat.pow_succ]
        congr 1
        omega
      rw [h6]
      have h7 := Nat.mul_le_mul_right 32 h3
      omega
theorem slF_le : ∀ (k N : Nat), slF k N ≤ k
  | 0, N => Nat.le_refl _
  | k + 1, N => by
    unfold slF
    by_cases e : N = 0
    · rw [if_pos e]; omega
    · rw [if_neg e]
      have := slF_le k (N / 32)
      omega
theorem sl_lt {N : Nat} (h : N < 32 ^ 12) : N < 32 ^ sl N := slF_lt 12 N h
theorem sl_ge {N : Nat} (h0 : N ≠ 0) (h : N < 32 ^ 12) : 32 ^ (sl N - 1) ≤ N := slF_ge 12 N h0 h
theorem sl_le (N : Nat) : sl N ≤ 12 := slF_le 12 N
theorem sl_pos {N : Nat} (h0 : N ≠ 0) : 0 < sl N := by
  unfold sl slF
  rw [if_neg h0]
  omega
theorem pow32_le {a b : Nat} (h : a ≤ b) : 32 ^ a ≤ 32 ^ b := Nat.pow_le_pow_right (by decide) h
theorem pow32_lt {a b : Nat} (h : a < b) : 32 ^ a < 32 ^ b := Nat.pow_lt_pow_right (by decide) h
theorem pow32_pos (a : Nat) : 0 < 32 ^ a := Nat.pow_pos (by decide)
/-- the number of letters, by its bounds -/
theorem sl_uniq {N k : Nat} (h : N < 32 ^ 12) (h1 : N < 32 ^ k) (h2 : k = 0 ∨ 32 ^ (k - 1) ≤ N) : sl N = k := by
  by_cases e : N = 0
  · subst e
    rcases h2 with rfl | h2
    · rfl
    · have := pow32_pos (k - 1)
      omega
  · have a := sl_lt h
    have b := sl_ge e h
    have c := sl_pos e
    rcases Nat.lt_trichotomy (sl N) k with g | g | g
    · rcases h2 with rfl | h2
      · omega
      · have := pow32_le (show sl N ≤ k - 1 by omega)
        omega
    · exact g
    · have := pow32_le (show k ≤ sl N - 1 by omega)
      omega
theorem sd_lt (N i : Nat) : sd N i < 32 := Nat.mod_lt _ (by decide)
/-- cut to k letters -/
theorem sd_mod {N k i : Nat} (h : i < k) : sd (N % 32 ^ k) i = sd N i := by
  unfold sd
  obtain ⟨d, rfl⟩ : ∃ d, k = i + (d + 1) := ⟨k - i - 1, by omega⟩
  rw [Nat.pow_add, Nat.mod_mul_right_div_self, Nat.pow_succ, Nat.mul_comm (32 ^ d) 32, Nat.mod_mul_right_mod]
theorem sd_shr (N a i : Nat) : sd (N / 32 ^ a) i = sd N (a + i) := by
  unfold sd
  rw [Nat.div_div_eq_div_mul, ← Nat.pow_add]
theorem sl_mod {N k : Nat} (h : N < 32 ^ 12) (hk : k ≤ 12) (hd : k = 0 ∨ sd N (k - 1) ≠ 0) : sl (N % 32 ^ k) = k := by
  have h1 : N % 32 ^ k < 32 ^ k := Nat.mod_lt _ (pow32_pos k)
  refine sl_uniq (Nat.lt_of_lt_of_le h1 (pow32_le hk)) h1 ?_
  rcases hd with rfl | hd
  · exact Or.inl rfl
  · by_cases e : k = 0
    · exact Or.inl e
    · refine Or.inr (Nat.le_of_not_lt fun hlt => hd ?_)
      have h2 : sd (N % 32 ^ k) (k - 1) = sd N (k - 1) := sd_mod (by omega)
      rw [← h2]
      unfold sd
      rw [Nat.div_eq_of_lt hlt]
/-- a letter behind -/
theorem sd_add_lt {N k c i : Nat} (hi : i < k) : sd (N + c * 32 ^ k) i = sd N i := by
  have e : (N + c * 32 ^ k) % 32 ^ k = N % 32 ^ k := by rw [Nat.mul_comm, Nat.add_mul_mod_self_left]
  rw [← sd_mod (N := N + c * 32 ^ k) hi, e, sd_mod hi]
theorem sd_add_eq {N k c : Nat} (h : N < 32 ^ k) (hc : c < 32) : sd (N + c * 32 ^ k) k = c := by
  unfold sd
  rw [Nat.mul_comm, Nat.add_mul_div_left _ _ (pow32_pos k), Nat.div_eq_of_lt h]
  simp
  omega
theorem sl_add {N k c : Nat} (h : N < 32 ^ k) (hk : k < 12) (hc : c < 32) (h0 : 0 < c) : sl (N + c * 32 ^ k) = k + 1 := by
  have h1 : N + c * 32 ^ k < 32 ^ (k + 1) := by
    rw [Nat.pow_succ]
    have := Nat.mul_le_mul_right (32 ^ k) (show c + 1 ≤ 32 by omega)
    rw [Nat.add_mul] at this
    omega
  refine sl_uniq (Nat.lt_of_lt_of_le h1 (pow32_le (by omega))) h1 (Or.inr ?_)
  have := Nat.mul_le_mul_right (32 ^ k) h0
  simp at this ⊢
  omega
/-- a, e, i, o, u -/
def sa (c : Nat) : Bool := c == 1 || c == 5 || c == 9 || c == 15 || c == 21
/-- is letter i a vowel -/
def sv (N : Nat) : Nat → Bool
  | 0 => sa (sd N 0)
  | k + 1 => sa (sd N (k + 1)) || (sd N (k + 1) == 25 && !sv N k)
theorem sv_congr {N K i : Nat} (h : ∀ j, j ≤ i → sd N j = sd K j) : sv N i = sv K i := by
  induction i with
  | zero => simp [sv, h 0 (Nat.le_refl _)]
  | succ k ih => simp [sv, h (k + 1) (Nat.le_refl _), ih (fun j hj => h j (by omega))]
theorem sv_mod {N k i : Nat} (h : i < k) : sv (N % 32 ^ k) i = sv N i := sv_congr (fun j hj => sd_mod (by omega))
theorem sv_add {N k c i : Nat} (h : i < k) : sv (N + c * 32 ^ k) i = sv N i := sv_congr (fun j hj => sd_add_lt (by omega))
/-- how often a vowel stands before a consonant, at places below k -/
def smc (N : Nat) : Nat → Nat
  | 0 => 0
  | k + 1 => smc N k + if sv N k && !sv N (k + 1) then 1 else 0
/-- the measure of the first e letters -/
def sm (N e : Nat) : Nat := smc N (e - 1)
theorem smc_le (N : Nat) : ∀ k, smc N k ≤ k
  | 0 => Nat.le_refl _
  | k + 1 => by
    have := smc_le N k
    unfold smc
    split <;> omega
/-- a vowel among the first e letters -/
def sh (N : Nat) : Nat → Bool
  | 0 => false
  | k + 1 => sh N k || sv N k
end
section
/-! the reference's methods on words: contracts -/
theorem w_sh5 : ∀ i, i < 13 → (((5 * nI i).toInt64 &&& 63).toBitVec.smod 64).toNat = 5 * i := by decide +kernel
theorem w_sh5u : ∀ i, i < 13 → ((5 * nI i).toInt64 &&& 63).toBitVec.smod 64 = BitVec.ofNat 64 (5 * i) := by decide +kernel
theorem w_p5 (i : Nat) : 2 ^ (5 * i) = 32 ^ i := by rw [Nat.pow_mul]
theorem w_shr {N i : Nat} (h : N < 2 ^ 62) (hi : i < 13) : lN N >>> ((5 * nI i).toInt64 &&& 63) = lN (N / 32 ^ i) := by
  rw [pf_shr (w_sh5 i hi) h, w_p5]
theorem w_letter {N i : Nat} (h : N < 2 ^ 62) (hi : i < 13) : ((lN N >>> ((5 * nI i).toInt64 &&& 63)) &&& 31).toInt32 = nI (sd N i) := by
  have h1 : N / 32 ^ i < 2 ^ 64 := Nat.lt_of_le_of_lt (Nat.div_le_self _ _) (Nat.lt_of_lt_of_le h (by decide))
  rw [w_shr h hi, show (31 : Int64) = lN (32 - 1) from by decide, g_mask (s := 5) rfl (by decide) h1, lN_i]
  rfl
theorem w_zero {N i : Nat} (h : N < 2 ^ 62) (hi : i < 13) : lg_cmp (lN N >>> ((5 * nI i).toInt64 &&& 63)) 0 = 0 ↔ N / 32 ^ i = 0 := by
  have h1 : N / 32 ^ i < 2 ^ 63 := Nat.lt_of_le_of_lt (Nat.div_le_self _ _) (Nat.lt_of_lt_of_le h (by decide))
  rw [lg_cmp_eq, w_shr h hi, show (0 : Int64) = lN 0 from rfl]
  exact pk_lEQ h1 (by decide)
theorem i_le {a b : Nat} (ha : a < 2 ^ 31) (hb : b < 2 ^ 31) : nI a ≤ nI b ↔ a ≤ b := nI_leI ha hb
def bI (b : Bool) : Int32 := if b then 1 else 0
theorem bI_nar (b : Bool) : narrow .boolean (.int (bI b)) = .int (bI b) := by cases b <;> rfl
theorem bI_1 {b : Bool} : bI b = 0 ↔ b = false := by cases b <;> decide
theorem sv_yes {N k : Nat} (h : sa (sd N k) = true) : sv N k = true := by cases k <;> simp [sv, h]
section MoWords
variable {l : Launch} {X : ev_X} {n : Nat} {F : ev_H}
theorem c_Mo_letter {N i : Nat} (h : N < 2 ^ 62) (hi : i < 13) : Cal l X M_Mo_letter 0 0 [.long (lN N), .int (nI i)] n F (ev_pure (.int (nI (sd N i))) n F) :=
  Cal.of (by decide) (Nat.le_of_ble_eq_true rfl) (s_Mo_letter_0 ⟨by rw [w_letter h hi], rfl, rfl⟩)
theorem l_Mo_length {N : Nat} (h : N < 32 ^ 12) : ∀ (k i : Nat), i + k = 12 → (i = 0 ∨ 32 ^ (i - 1) ≤ N) → Ev l X M_Mo_length 0 0 2 [(0, .long (lN N)), (2, .int (nI i))] [] n F (ev_mq X (ev_pure (.int (nI (sl N))) n F)) := by
  have h62 : N < 2 ^ 62 := Nat.lt_of_lt_of_le h (by decide)
  intro k
  induction k with
  | zero =>
    intro i hk hi
    have e : i = 12 := by omega
    subst e
    refine s_Mo_length_2 (fun c => ?_) (fun c d => ?_) (fun c d => ?_)
    · rw [sl_uniq h h hi]
      exact ⟨rfl, rfl, rfl⟩
    · exact absurd (show (12 : Int32) ≤ nI 12 from by decide) c
    · exact absurd (show (12 : Int32) ≤ nI 12 from by decide) c
  | succ k ih =>
    intro i hk hi
    refine s_Mo_length_2 (fun c => ?_) (fun c d => ?_) (fun c d => ?_)
    · have := (i_le (a := 12) (b := i) (by decide) (by omega)).mp c
      omega
    · have hz := (w_zero h62 (by omega)).mp d
      have hlt : N < 32 ^ i := by
        rcases Nat.lt_or_ge N (32 ^ i) with g | g
        · exact g
        · have := Nat.div_pos g (pow32_pos i)
          omega
      rw [sl_uniq h hlt hi]
      exact ⟨rfl, rfl, rfl⟩
    · have hz : ¬ N / 32 ^ i = 0 := fun z => d ((w_zero h62 (by omega)).mpr z)
      rw [nI_1]
      refine ih (i + 1) (by omega) (Or.inr ?_)
      show 32 ^ i ≤ N
      rcases Nat.lt_or_ge N (32 ^ i) with g | g
      · exact absurd (Nat.div_eq_of_lt g) hz
      · exact g
theorem c_Mo_length {N : Nat} (h : N < 32 ^ 12) : Cal l X M_Mo_length 0 0 [.long (lN N)] n F (ev_pure (.int (nI (sl N))) n F) :=
  Cal.of (by decide) (Nat.le_of_ble_eq_true rfl) (s_Mo_length_0 (l_Mo_length h 12 0 rfl (Or.inl rfl)))
theorem c_Mo_isVowel {N i : Nat} (h : N < 2 ^ 62) (hi : i < 12) : Cal l X M_Mo_isVowel 0 0 [.long (lN N), .int (nI i)] n F (ev_pure (.int (bI (sv N i))) n F) := by
  have key : ∀ (d k : Nat), k + d = i + 1 → Ev l X M_Mo_isVowel 0 0 5 [(0, .long (lN N)), (2, .int (nI i)), (3, .int (if k = 0 then 0 else bI (sv N (k - 1)))), (4, .int (nI k))] [] n F (ev_mq X (ev_pure (.int (bI (sv N i))) n F)) := by
    intro d
    induction d with
    | zero =>
      intro k hk
      have e : k = i + 1 := by omega
      subst e
      have hlt : nI i < nI (i + 1) := (nI_ltI (by omega) (by omega)).mpr (by omega)
      rw [if_neg (by omega)]
      refine s_Mo_isVowel_5 (v14 := 0) (fun _ => ⟨rfl, rfl, rfl⟩) (fun _ => bI_nar _) ?_ ?_ ?_ ?_ ?_ ?_ ?_ ?_ ?_ ?_
      all_goals exact fun c => absurd hlt c
    | succ d ih =>
      intro k hk
      have hd := sd_lt N k
      have e1 : ∀ c : Nat, c < 2 ^ 31 → (nI (sd N k) = nI c ↔ sd N k = c) := fun c hc => nI_eq (by omega) hc
      have hge : ¬ nI i < nI k := fun z => by
        have := (nI_ltI (by omega) (by omega)).mp z
        omega
      have st : ∀ b : Int32, b = bI (sv N k) → Ev l X M_Mo_isVowel 0 0 5 [(0, .long (lN N)), (2, .int (nI i)), (3, .int b), (4, .int (nI k + 1))] [] n F (ev_mq X (ev_pure (.int (bI (sv N i))) n F)) := by
        intro b hb
        have h2 := ih (k + 1) (by omega)
        rw [if_neg (by omega)] at h2
        rw [hb, nI_1]
        exact h2
      refine s_Mo_isVowel_5 (v14 := nI (sd N k)) (fun c => absurd c hge) (fun c => absurd c hge) (fun _ => c_Mo_letter h (by omega)) (fun _ a => st 1 ?_) (fun _ _ a => st 1 ?_) (fun _ _ _ a => st 1 ?_) (fun _ _ _ _ a => st 1 ?_) (fun _ _ _ _ _ a => st 1 ?_) (fun _ a1 a2 a3 a4 a5 a6 => st 0 ?_) (fun _ a1 a2 a3 a4 a5 a6 a7 => st 0 ?_) (fun _ a1 a2 a3 a4 a5 a6 a7 a8 => st 0 ?_) (fun _ a1 a2 a3 a4 a5 a6 a7 a8 => st 1 ?_)
      · rw [sv_yes ((e1 1 (by decide)).mp a ▸ rfl)]; rfl
      · rw [sv_yes ((e1 5 (by decide)).mp a ▸ rfl)]; rfl
      · rw [sv_yes ((e1 9 (by decide)).mp a ▸ rfl)]; rfl
      · rw [sv_yes ((e1 15 (by decide)).mp a ▸ rfl)]; rfl
      · rw [sv_yes ((e1 21 (by decide)).mp a ▸ rfl)]; rfl
      all_goals
        have b1 : ¬ sd N k = 1 := fun z => a1 ((e1 1 (by decide)).mpr z)
        have b2 : ¬ sd N k = 5 := fun z => a2 ((e1 5 (by decide)).mpr z)
        have b3 : ¬ sd N k = 9 := fun z => a3 ((e1 9 (by decide)).mpr z)
        have b4 : ¬ sd N k = 15 := fun z => a4 ((e1 15 (by decide)).mpr z)
        have b5 : ¬ sd N k = 21 := fun z => a5 ((e1 21 (by decide)).mpr z)
        have hsa : sa (sd N k) = false := by simp [sa, b1, b2, b3, b4, b5]
      · have b6 : ¬ sd N k = 25 := fun z => a6 ((e1 25 (by decide)).mpr z)
        cases k <;> simp [sv, hsa, b6, bI]
      · have hk0 : k = 0 := by
          have := (nI_leI (a := k) (b := 0) (by omega) (by decide)).mp a7
          omega
        subst hk0
        simp [sv, hsa, bI]
      · have b6 : sd N k = 25 := (e1 25 (by decide)).mp a6
        cases k with
        | zero => exact absurd (show nI 0 ≤ 0 from by decide) a7
        | succ k =>
          rw [if_neg (by omega)] at a8
          have hv : sv N k = true := by
            cases hs : sv N k with
            | true => rfl
            | false => exact absurd (by simp [hs, bI]) a8
          simp [sv, b6, hv, bI, sa]
      · have b6 : sd N k = 25 := (e1 25 (by decide)).mp a6
        cases k with
        | zero => exact absurd (show nI 0 ≤ 0 from by decide) a7
        | succ k =>
          rw [if_neg (by omega)] at a8
          have hv : sv N k = false := by
            cases hs : sv N k with
            | false => rfl
            | true => exact absurd a8 (by simp [hs, bI])
          simp [sv, b6, hv, bI, sa]
  exact Cal.of (by decide) (Nat.le_of_ble_eq_true rfl) (s_Mo_isVowel_0 (key (i + 1) 0 (by omega)))
end MoWords
end
section
/-! the reference's methods on words, more -/
theorem w_first {N i : Nat} (h : N < 2 ^ 62) (hi : i < 13) : lN N &&& (((1 : Int64) <<< ((5 * nI i).toInt64 &&& 63)) - 1) = lN (N % 32 ^ i) := by
  have e1 : (1 : Int64) <<< ((5 * nI i).toInt64 &&& 63) = lN (32 ^ i) := by
    rw [show (1 : Int64) = lN 1 from rfl, g_shl (w_sh5u i hi) (by omega) (w_p5 i) (by decide), Nat.one_mul]
  rw [e1, show (1 : Int64) = lN 1 from rfl, lN_sub (pow32_pos i), g_mask (s := 5 * i) (w_p5 i) (by omega) (Nat.lt_of_lt_of_le h (by decide))]
/-- the word ends so -/
def en (N E : Nat) : Bool := decide (sl E ≤ sl N ∧ N / 32 ^ (sl N - sl E) = E)
/-- a word: its letters are 1 to 26 -/
def gw (N : Nat) : Prop := 0 < N ∧ N < 32 ^ 12 ∧ ∀ i, i < sl N → 1 ≤ sd N i ∧ sd N i ≤ 26
section MoWords
variable {l : Launch} {X : ev_X} {n : Nat} {F : ev_H}
theorem c_Mo_first {N i : Nat} (h : N < 2 ^ 62) (hi : i < 13) : Cal l X M_Mo_first 0 0 [.long (lN N), .int (nI i)] n F (ev_pure (.long (lN (N % 32 ^ i))) n F) :=
  Cal.of (by decide) (Nat.le_of_ble_eq_true rfl) (s_Mo_first_0 ⟨by rw [w_first h hi], rfl, rfl⟩)
theorem c_Mo_text {a b c d : Int32} {v : Int64} (hv : ((a.toInt64 ||| (b.toInt64 <<< ((5 : Int32).toInt64 &&& 63))) ||| (c.toInt64 <<< ((10 : Int32).toInt64 &&& 63))) ||| (d.toInt64 <<< ((15 : Int32).toInt64 &&& 63)) = v) : Cal l X M_Mo_text 0 0 [.int a, .int b, .int c, .int d] n F (ev_pure (.long v) n F) :=
  Cal.of (by decide) (Nat.le_of_ble_eq_true rfl) (s_Mo_text_0 ⟨by rw [hv], rfl, rfl⟩)
theorem c_Mo_without {N k : Nat} (h : N < 32 ^ 12) (hk : k ≤ sl N) : Cal l X M_Mo_without 0 0 [.long (lN N), .int (nI k)] n F (ev_pure (.long (lN (N % 32 ^ (sl N - k)))) n F) := by
  have h62 : N < 2 ^ 62 := Nat.lt_of_lt_of_le h (by decide)
  have hl := sl_le N
  refine Cal.of (by decide) (Nat.le_of_ble_eq_true rfl) (s_Mo_without_0 (v2 := nI (sl N)) (v7 := lN (N % 32 ^ (sl N - k))) (c_Mo_length h) ?_ ⟨rfl, rfl, rfl⟩)
  rw [pk_sub hk]
  exact c_Mo_first h62 (by omega)
theorem c_Mo_ends {N E : Nat} (h : N < 32 ^ 12) (hE : E < 32 ^ 12) : Cal l X M_Mo_ends 0 0 [.long (lN N), .long (lN E)] n F (ev_pure (.int (bI (en N E))) n F) := by
  have h62 : N < 2 ^ 62 := Nat.lt_of_lt_of_le h (by decide)
  have hl := sl_le N
  have hl2 := sl_le E
  refine Cal.of (by decide) (Nat.le_of_ble_eq_true rfl) (s_Mo_ends_0 (v1 := nI (sl N)) (v5 := nI (sl E)) (c_Mo_length h) (c_Mo_length hE) (fun c => ?_) (fun c d => ?_) (fun c d => ?_))
  · have : ¬ sl E ≤ sl N := fun z => by
      rw [pk_sub z] at c
      exact absurd c (nI_pos (by omega))
    refine ⟨?_, rfl, rfl⟩
    simp [en, this, bI]
  · have hle : sl E ≤ sl N := Nat.le_of_not_lt fun z => c (pk_sneg (by omega) z)
    rw [pk_sub hle, w_shr h62 (by omega), lg_cmp_eq] at d
    have : ¬ N / 32 ^ (sl N - sl E) = E := fun z => d (by rw [z])
    refine ⟨?_, rfl, rfl⟩
    simp [en, this, bI]
  · have hle : sl E ≤ sl N := Nat.le_of_not_lt fun z => c (pk_sneg (by omega) z)
    rw [pk_sub hle, w_shr h62 (by omega), lg_cmp_eq] at d
    have h1 : N / 32 ^ (sl N - sl E) < 2 ^ 63 := Nat.lt_of_le_of_lt (Nat.div_le_self _ _) (Nat.lt_of_lt_of_le h62 (by decide))
    have := (pk_lEQ h1 (Nat.lt_of_lt_of_le hE (by decide))).mp d
    refine ⟨?_, rfl, rfl⟩
    simp [en, hle, this, bI]
theorem c_Mo_measure {N e : Nat} (h : N < 2 ^ 62) (he : e ≤ 12) : Cal l X M_Mo_measure 0 0 [.long (lN N), .int (nI e)] n F (ev_pure (.int (nI (sm N e))) n F) := by
  have key : ∀ (d k : Nat), k + d = e - 1 → Ev l X M_Mo_measure 0 0 5 [(0, .long (lN N)), (2, .int (nI e)), (3, .int (nI (smc N k))), (4, .int (nI k))] [] n F (ev_mq X (ev_pure (.int (nI (sm N e))) n F)) := by
    intro d
    induction d with
    | zero =>
      intro k hk
      have hle : nI e ≤ nI k + 1 := by
        rw [nI_1]
        exact (nI_leI (by omega) (by omega)).mpr (by omega)
      refine s_Mo_measure_5 (v16 := 0) (v27 := 0) (fun _ => ?_) ?_ ?_ ?_ ?_ ?_
      · have e1 : k = e - 1 := by omega
        rw [e1]
        exact ⟨rfl, rfl, rfl⟩
      all_goals exact fun c => absurd hle c
    | succ d ih =>
      intro k hk
      have hgt : ¬ nI e ≤ nI k + 1 := fun z => by
        rw [nI_1] at z
        have := (nI_leI (by omega) (by omega)).mp z
        omega
      have hs : smc N (k + 1) = smc N k + if sv N k && !sv N (k + 1) then 1 else 0 := rfl
      have st : ∀ b : Int32, b = nI (smc N (k + 1)) → Ev l X M_Mo_measure 0 0 5 [(0, .long (lN N)), (2, .int (nI e)), (3, .int b), (4, .int (nI k + 1))] [] n F (ev_mq X (ev_pure (.int (nI (sm N e))) n F)) := by
        intro b hb
        rw [hb, nI_1]
        exact ih (k + 1) (by omega)
      refine s_Mo_measure_5 (v16 := bI (sv N k)) (v27 := bI (sv N (k + 1))) (fun c => absurd c hgt) (fun _ => c_Mo_isVowel h (by omega)) (fun _ a => st _ ?_) (fun _ _ => ?_) (fun _ a b => st _ ?_) (fun _ a b => st _ ?_)
      · rw [hs, bI_1.mp a]
        simp
      · rw [nI_1]
        exact c_Mo_isVowel h (by omega)
      · have hb : sv N (k + 1) = true := by
          cases hv : sv N (k + 1) with
          | true => rfl
          | false => exact absurd (bI_1.mpr hv) b
        rw [hs, hb]
        simp
      · have ha : sv N k = true := by
          cases hv : sv N k with
          | true => rfl
          | false => exact absurd (bI_1.mpr hv) a
        rw [hs, ha, bI_1.mp b, nI_1]
        simp
  exact Cal.of (by decide) (Nat.le_of_ble_eq_true rfl) (s_Mo_measure_0 (key (e - 1) 0 (by omega)))
theorem c_Mo_someVowel {N e : Nat} (h : N < 2 ^ 62) (he : e ≤ 12) : Cal l X M_Mo_someVowel 0 0 [.long (lN N), .int (nI e)] n F (ev_pure (.int (bI (sh N e))) n F) := by
  have key : ∀ (d k : Nat), k + d = e → Ev l X M_Mo_someVowel 0 0 5 [(0, .long (lN N)), (2, .int (nI e)), (3, .int (bI (sh N k))), (4, .int (nI k))] [] n F (ev_mq X (ev_pure (.int (bI (sh N e))) n F)) := by
    intro d
    induction d with
    | zero =>
      intro k hk
      have e1 : k = e := by omega
      subst e1
      have hle : nI k ≤ nI k := (nI_leI (by omega) (by omega)).mpr (by omega)
      refine s_Mo_someVowel_5 (v18 := 0) (fun _ => ⟨rfl, rfl, rfl⟩) (fun _ => bI_nar _) ?_ ?_ ?_ ?_
      all_goals exact fun c => absurd hle c
    | succ d ih =>
      intro k hk
      have hgt : ¬ nI e ≤ nI k := fun z => by
        have := (nI_leI (by omega) (by omega)).mp z
        omega
      have st : ∀ b : Int32, b = bI (sh N (k + 1)) → Ev l X M_Mo_someVowel 0 0 5 [(0, .long (lN N)), (2, .int (nI e)), (3, .int b), (4, .int (nI k + 1))] [] n F (ev_mq X (ev_pure (.int (bI (sh N e))) n F)) := by
        intro b hb
        rw [hb, nI_1]
        exact ih (k + 1) (by omega)
      have nz : ∀ {b : Bool}, ¬ bI b = 0 → b = true := fun {b} hb => by
        cases b with
        | true => rfl
        | false => exact absurd (bI_1.mpr rfl) hb
      refine s_Mo_someVowel_5 (v18 := bI (sv N k)) (fun c => absurd c hgt) (fun c => absurd c hgt) (fun _ a => st _ ?_) (fun _ _ => c_Mo_isVowel h (by omega)) (fun _ a b => st _ ?_) (fun _ a b => st _ ?_)
      · simp [sh, nz a, bI]
      · simp [sh, bI_1.mp a, bI_1.mp b, bI]
      · simp [sh, bI_1.mp a, nz b, bI]
  exact Cal.of (by decide) (Nat.le_of_ble_eq_true rfl) (s_Mo_someVowel_0 (key e 0 (by omega)))
end MoWords
end
section
/-! stems as numbers: the functions, and that they keep words words; pure -/
def T4 (a b c d : Nat) : Nat := a + 32 * b + 1024 * c + 32768 * d
def st_plural (N : Nat) : Nat := if en N (T4 19 19 5 19) || en N (T4 9 5 19 0) then N % 32 ^ (sl N - 2) else if en N (T4 19 0 0 0) && !en N (T4 19 19 0 0) then N % 32 ^ (sl N - 1) else N
def st_short (N : Nat) : Bool := decide (3 ≤ sl N) && (!sv N (sl N - 3) && (sv N (sl N - 2) && (!sv N (sl N - 1) && (decide (sd N (sl N - 1) < 23) || sd N (sl N - 1) == 26))))
def st_twice (N : Nat) : Bool := decide (1 < sl N) && (sd N (sl N - 1) == sd N (sl N - 2) && (!sv N (sl N - 1) && !sv N (sl N - 2)))
def st_lsz (c : Nat) : Bool := c == 12 || (c == 19 || c == 26)
def st_mend (N : Nat) : Nat := if en N (T4 1 20 0 0) || (en N (T4 2 12 0 0) || en N (T4 9 26 0 0)) then N + 5 * 32 ^ sl N else if st_twice N && !st_lsz (sd N (sl N - 1)) then N % 32 ^ (sl N - 1) else if sm N (sl N) == 1 && st_short N then N + 5 * 32 ^ sl N else N
def st_past (N : Nat) : Nat := if en N (T4 5 5 4 0) then (if 0 < sm N (sl N - 3) then N % 32 ^ (sl N - 1) else N) else if en N (T4 5 4 0 0) && sh N (sl N - 2) then st_mend (N % 32 ^ (sl N - 2)) else if en N (T4 9 14 7 0) && sh N (sl N - 3) then st_mend (N % 32 ^ (sl N - 3)) else N
def st_fin (N : Nat) : Nat := if sd N (sl N - 1) == 25 && sh N (sl N - 1) then N % 32 ^ (sl N - 1) + 9 * 32 ^ (sl N - 1) else N
def st_stem (N : Nat) : Nat := if sl N < 3 then N else st_fin (st_past (st_plural N))
/-- a number whose digits aren't 0 -/
def gd (N : Nat) : Prop := 0 < N ∧ N < 32 ^ 12 ∧ ∀ i, i < sl N → sd N i ≠ 0
theorem gw.gd {N : Nat} (h : gw N) : gd N := ⟨h.1, h.2.1, fun i hi => by have := (h.2.2 i hi).1; omega⟩
theorem gd_cut {N k : Nat} (h : gd N) (h1 : 1 ≤ k) (hk : k ≤ sl N) : gd (N % 32 ^ k) ∧ sl (N % 32 ^ k) = k := by
  have hl := sl_le N
  have e : sl (N % 32 ^ k) = k := sl_mod h.2.1 (by omega) (Or.inr (h.2.2 (k - 1) (by omega)))
  refine ⟨⟨?_, Nat.lt_of_le_of_lt (Nat.mod_le _ _) h.2.1, ?_⟩, e⟩
  · rcases Nat.eq_zero_or_pos (N % 32 ^ k) with z | z
    · rw [z] at e
      have : sl 0 = 0 := rfl
      omega
    · exact z
  · intro i hi
    rw [e] at hi
    rw [sd_mod hi]
    exact h.2.2 i (by omega)
theorem gd_add {N c : Nat} (h : gd N) (hl : sl N < 12) (hc : c < 32) (h0 : 0 < c) : gd (N + c * 32 ^ sl N) ∧ sl (N + c * 32 ^ sl N) = sl N + 1 := by
  have h1 := sl_lt h.2.1
  have e : sl (N + c * 32 ^ sl N) = sl N + 1 := sl_add h1 hl hc h0
  have hlt : N + c * 32 ^ sl N < 32 ^ (sl N + 1) := by
    rw [Nat.pow_succ]
    have := Nat.mul_le_mul_right (32 ^ sl N) (show c + 1 ≤ 32 by omega)
    rw [Nat.add_mul] at this
    omega
  refine ⟨⟨by have := h.1; omega, Nat.lt_of_lt_of_le hlt (pow32_le (by omega)), ?_⟩, e⟩
  intro i hi
  rw [e] at hi
  by_cases g : i < sl N
  · rw [sd_add_lt g]
    exact h.2.2 i g
  · rw [show i = sl N by omega, sd_add_eq h1 hc]
    omega
theorem gd_pos {N : Nat} (h : gd N) : 0 < sl N := sl_pos (by have := h.1; omega)
theorem en_le {N E : Nat} (h : en N E = true) : sl E ≤ sl N := (of_decide_eq_true h).1
theorem sh_0 {N k : Nat} (h : sh N k = true) : 0 < k := by
  cases k with
  | zero => simp [sh] at h
  | succ k => omega
theorem gd_plural {N : Nat} (h : gd N) (h3 : 3 ≤ sl N) : gd (st_plural N) := by
  unfold st_plural
  split
  · exact (gd_cut h (by omega) (by omega)).1
  · split
    · exact (gd_cut h (by omega) (by omega)).1
    · exact h
theorem gd_mend {N : Nat} (h : gd N) (hl : sl N < 12) : gd (st_mend N) := by
  unfold st_mend
  split
  · exact (gd_add h hl (by decide) (by decide)).1
  · split
    · rename_i hc
      have h1 : st_twice N = true := by
        cases hx : st_twice N with
        | true => rfl
        | false => rw [hx] at hc; simp at hc
      have : 1 < sl N := by
        unfold st_twice at h1
        simp only [Bool.and_eq_true, decide_eq_true_eq] at h1
        exact h1.1
      exact (gd_cut h (by omega) (by omega)).1
    · split
      · exact (gd_add h hl (by decide) (by decide)).1
      · exact h
theorem gd_past {N : Nat} (h : gd N) : gd (st_past N) := by
  have hl := sl_le N
  unfold st_past
  split
  · rename_i hc
    have := en_le hc
    have e3 : sl (T4 5 5 4 0) = 3 := by decide +kernel
    split
    · exact (gd_cut h (by omega) (by omega)).1
    · exact h
  · split
    · rename_i hc
      simp only [Bool.and_eq_true] at hc
      have := sh_0 hc.2
      obtain ⟨a, b⟩ := gd_cut h (k := sl N - 2) (by omega) (by omega)
      exact gd_mend a (by omega)
    · split
      · rename_i hc
        simp only [Bool.and_eq_true] at hc
        have := sh_0 hc.2
        obtain ⟨a, b⟩ := gd_cut h (k := sl N - 3) (by omega) (by omega)
        exact gd_mend a (by omega)
      · exact h
end
section
/-! the reference's stems: contracts -/
theorem w_put {N m c : Nat} (h : N < 32 ^ m) (hm : m < 12) (hc : c < 32) : lN N ||| (lN c <<< ((5 * nI m).toInt64 &&& 63)) = lN (N + c * 32 ^ m) := by
  have h1 : N + c * 32 ^ m < 2 ^ 64 := by
    have a := Nat.mul_le_mul_right (32 ^ m) (show c + 1 ≤ 32 by omega)
    rw [Nat.add_mul] at a
    have b := pow32_le (show m + 1 ≤ 12 by omega)
    rw [Nat.pow_succ] at b
    have d : (32 : Nat) ^ 12 < 2 ^ 64 := by decide
    omega
  rw [g_shl (w_sh5u m (by omega)) (by omega) (w_p5 m) (by omega), g_or' (w_p5 m) h h1]
theorem bI_n0 {b : Bool} (h : ¬ bI b = 0) : b = true := by
  cases b with
  | true => rfl
  | false => exact absurd (bI_1.mpr rfl) h
section MoWords
variable {l : Launch} {X : ev_X} {n : Nat} {F : ev_H}
theorem c_Mo_plural {N : Nat} (h : N < 32 ^ 12) : Cal l X M_Mo_plural 0 0 [.long (lN N)] n F (ev_pure (.long (lN (st_plural N))) n F) := by
  have two : ∀ E, en N E = true → 2 ≤ sl E → Cal l X M_Mo_without 0 0 [.long (lN N), .int 2] n F (ev_pure (.long (lN (N % 32 ^ (sl N - 2)))) n F) := fun E h1 h2 => c_Mo_without (k := 2) h (Nat.le_trans h2 (en_le h1))
  refine Cal.of (by decide) (Nat.le_of_ble_eq_true rfl) (s_Mo_plural_0 (v8 := lN (T4 19 19 5 19)) (v11 := bI (en N (T4 19 19 5 19))) (v35 := lN (N % 32 ^ (sl N - 2))) (v24 := lN (T4 9 5 19 0)) (v27 := bI (en N (T4 9 5 19 0))) (v45 := lN (T4 19 0 0 0)) (v48 := bI (en N (T4 19 0 0 0))) (v61 := lN (T4 19 19 0 0)) (v64 := bI (en N (T4 19 19 0 0))) (v72 := lN (N % 32 ^ (sl N - 1))) (v35_2 := lN (N % 32 ^ (sl N - 2)))
    (c_Mo_text (by decide +kernel)) (c_Mo_ends h (by decide +kernel)) (fun a => two _ (bI_n0 a) (by decide +kernel)) (fun a => ⟨?_, rfl, rfl⟩) (fun _ => c_Mo_text (by decide +kernel)) (fun _ => c_Mo_ends h (by decide +kernel)) (fun _ _ => c_Mo_text (by decide +kernel)) (fun _ _ => c_Mo_ends h (by decide +kernel)) (fun a b c => ⟨?_, rfl, rfl⟩) (fun _ _ _ => c_Mo_text (by decide +kernel)) (fun _ _ _ => c_Mo_ends h (by decide +kernel)) (fun a b c d => ⟨?_, rfl, rfl⟩) (fun a b c d => c_Mo_without (k := 1) h ?_) (fun a b c d => ⟨?_, rfl, rfl⟩) (fun _ b => two _ (bI_n0 b) (by decide +kernel)) (fun a b => ⟨?_, rfl, rfl⟩))
  · simp [st_plural, bI_n0 a]
  · simp [st_plural, bI_1.mp a, bI_1.mp b, bI_1.mp c]
  · simp [st_plural, bI_1.mp a, bI_1.mp b, bI_n0 d]
  · exact Nat.le_trans (show 1 ≤ sl (T4 19 0 0 0) from by decide +kernel) (en_le (bI_n0 c))
  · simp [st_plural, bI_1.mp a, bI_1.mp b, bI_n0 c, bI_1.mp d]
  · simp [st_plural, bI_1.mp a, bI_n0 b]
theorem c_Mo_shortEnd {N : Nat} (h : N < 32 ^ 12) : Cal l X M_Mo_shortEnd 0 0 [.long (lN N)] n F (ev_pure (.int (bI (st_short N))) n F) := by
  have h62 : N < 2 ^ 62 := Nat.lt_of_lt_of_le h (by decide)
  have hl := sl_le N
  have ge3 : ¬ nI (sl N) < 3 → 3 ≤ sl N := fun c => Nat.le_of_not_lt fun z => c ((nI_ltI (b := 3) (by omega) (by decide)).mpr z)
  have sub : ∀ k, k ≤ 3 → 3 ≤ sl N → nI (sl N) - nI k = nI (sl N - k) := fun k hk h3 => pk_sub (by omega)
  have hdl := sd_lt N (sl N - 1)
  refine Cal.of (by decide) (Nat.le_of_ble_eq_true rfl) (s_Mo_shortEnd_0 (v1 := nI (sl N)) (v14 := bI (sv N (sl N - 3))) (v24 := bI (sv N (sl N - 2))) (v34 := bI (sv N (sl N - 1))) (v46 := nI (sd N (sl N - 1))) (v58 := nI (sd N (sl N - 1))) (c_Mo_length h) (fun c => ⟨?_, rfl, rfl⟩) (fun c => ?_) (fun c a => ⟨?_, rfl, rfl⟩) (fun c a => ?_) (fun c a b => ⟨?_, rfl, rfl⟩) (fun c a b => ?_) (fun c a b d => ?_) (fun c a b d f => ⟨?_, rfl, rfl⟩) (fun c a b d f => ?_) (fun c a b d f g => ⟨?_, rfl, rfl⟩) (fun c a b d f g => ⟨?_, rfl, rfl⟩) (fun c a b d => ⟨?_, rfl, rfl⟩))
  · have : ¬ 3 ≤ sl N := by
      have := (nI_ltI (b := 3) (by omega) (by decide)).mp c
      omega
    simp [st_short, this, bI]
  · rw [show (3 : Int32) = nI 3 from rfl, sub 3 (by omega) (ge3 c)]
    exact c_Mo_isVowel h62 (by omega)
  · simp [st_short, bI_n0 a, bI]
  · have := ge3 c
    rw [show (2 : Int32) = nI 2 from rfl, sub 2 (by omega) (ge3 c)]
    exact c_Mo_isVowel h62 (by omega)
  · simp [st_short, bI_1.mp b, bI]
  · have := ge3 c
    rw [show (1 : Int32) = nI 1 from rfl, sub 1 (by omega) (ge3 c)]
    exact c_Mo_isVowel h62 (by omega)
  · have := ge3 c
    rw [show (1 : Int32) = nI 1 from rfl, sub 1 (by omega) (ge3 c)]
    exact c_Mo_letter h62 (by omega)
  · have g1 : sd N (sl N - 1) < 23 := (nI_ltI (b := 23) (by omega) (by decide)).mp f
    simp [st_short, ge3 c, bI_1.mp a, bI_n0 b, bI_1.mp d, g1, bI]
  · have := ge3 c
    rw [show (1 : Int32) = nI 1 from rfl, sub 1 (by omega) (ge3 c)]
    exact c_Mo_letter h62 (by omega)
  · have g1 : ¬ sd N (sl N - 1) < 23 := fun z => f ((nI_ltI (b := 23) (by omega) (by decide)).mpr z)
    have g2 : ¬ sd N (sl N - 1) = 26 := fun z => g ((nI_eq (b := 26) (by omega) (by decide)).mpr z)
    simp [st_short, g1, g2, bI]
  · have g2 : sd N (sl N - 1) = 26 := (nI_eq (b := 26) (by omega) (by decide)).mp g
    simp [st_short, ge3 c, bI_1.mp a, bI_n0 b, bI_1.mp d, g2, bI]
  · simp [st_short, bI_n0 d, bI]
theorem c_Mo_mended {N : Nat} (h : N < 32 ^ 12) (h1 : 1 ≤ sl N) (h11 : sl N < 12) : Cal l X M_Mo_mended 0 0 [.long (lN N)] n F (ev_pure (.long (lN (st_mend N))) n F) := by
  have h62 : N < 2 ^ 62 := Nat.lt_of_lt_of_le h (by decide)
  have hdl := sd_lt N (sl N - 1)
  have hdl2 := sd_lt N (sl N - 2)
  have sub : ∀ k, k ≤ sl N → nI (sl N) - nI k = nI (sl N - k) := fun k hk => pk_sub hk
  have put : lN N ||| ((5 : Int64) <<< ((5 * nI (sl N)).toInt64 &&& 63)) = lN (N + 5 * 32 ^ sl N) := w_put (c := 5) (sl_lt h) h11 (by decide)
  have w61 : (en N (T4 1 20 0 0) || (en N (T4 2 12 0 0) || en N (T4 9 26 0 0))) = true → Ev l X M_Mo_mended 0 0 61 [(0, .long (lN N)), (2, .int (nI (sl N))), (3, .long (lN N ||| ((5 : Int64) <<< ((5 * nI (sl N)).toInt64 &&& 63))))] [] n F (ev_mq X (ev_pure (.long (lN (st_mend N))) n F)) := by
    intro hA
    refine s_Mo_mended_61 ⟨?_, rfl, rfl⟩
    rw [put]
    simp only [st_mend, hA, if_true]
  have w148 : ∀ b6 : Int32, (en N (T4 1 20 0 0) || (en N (T4 2 12 0 0) || en N (T4 9 26 0 0))) = false → (st_twice N && !st_lsz (sd N (sl N - 1))) = false → Ev l X M_Mo_mended 0 0 148 [(0, .long (lN N)), (2, .int (nI (sl N))), (3, .long (lN N ||| ((5 : Int64) <<< ((5 * nI (sl N)).toInt64 &&& 63)))), (5, .int (nI (sd N (sl N - 1)))), (6, .int b6)] [] n F (ev_mq X (ev_pure (.long (lN (st_mend N))) n F)) := by
    intro b6 hA hB
    have hm := smc_le N (sl N - 1)
    have hme : sm N (sl N) < 2 ^ 31 := by
      show smc N (sl N - 1) < 2 ^ 31
      omega
    refine s_Mo_mended_148 (v150 := nI (sm N (sl N))) (v158 := bI (st_short N)) (c_Mo_measure h62 (by omega)) (fun c => ⟨?_, rfl, rfl⟩) (fun _ => c_Mo_shortEnd h) (fun c d => ⟨?_, rfl, rfl⟩) (fun c d => ⟨?_, rfl, rfl⟩)
    · have : ¬ sm N (sl N) = 1 := fun z => c ((nI_eq (b := 1) hme (by decide)).mpr z)
      simp [st_mend, hA, hB, this]
    · simp [st_mend, hA, hB, bI_1.mp d]
    · have : sm N (sl N) = 1 := (nI_eq (b := 1) hme (by decide)).mp c
      rw [put]
      simp [st_mend, hA, hB, this, bI_n0 d]
  have w114 : ∀ tw : Bool, tw = st_twice N → (en N (T4 1 20 0 0) || (en N (T4 2 12 0 0) || en N (T4 9 26 0 0))) = false → Ev l X M_Mo_mended 0 0 114 [(0, .long (lN N)), (2, .int (nI (sl N))), (3, .long (lN N ||| ((5 : Int64) <<< ((5 * nI (sl N)).toInt64 &&& 63)))), (5, .int (nI (sd N (sl N - 1))))] [.int (bI tw)] n F (ev_mq X (ev_pure (.long (lN (st_mend N))) n F)) := by
    intro tw htw hA
    have e1 : ∀ c : Nat, c < 2 ^ 31 → (nI (sd N (sl N - 1)) = nI c ↔ sd N (sl N - 1) = c) := fun c hc => nI_eq (by omega) hc
    refine s_Mo_mended_114 (v144 := lN (N % 32 ^ (sl N - 1))) (fun c => w148 _ hA ?_) (fun _ c => w148 _ hA ?_) (fun _ _ c => w148 _ hA ?_) (fun _ _ _ c => w148 _ hA ?_) (fun _ _ _ _ => c_Mo_without (k := 1) h h1) (fun a b c d => ⟨?_, rfl, rfl⟩)
    · rw [← htw, bI_1.mp c]; rfl
    · have := (e1 12 (by decide)).mp c
      simp [this, st_lsz]
    · have := (e1 19 (by decide)).mp c
      simp [this, st_lsz]
    · have := (e1 26 (by decide)).mp c
      simp [this, st_lsz]
    · have b1 : ¬ sd N (sl N - 1) = 12 := fun z => b ((e1 12 (by decide)).mpr z)
      have b2 : ¬ sd N (sl N - 1) = 19 := fun z => c ((e1 19 (by decide)).mpr z)
      have b3 : ¬ sd N (sl N - 1) = 26 := fun z => d ((e1 26 (by decide)).mpr z)
      have b4 : st_twice N = true := by rw [← htw]; exact bI_n0 a
      simp [st_mend, hA, b4, st_lsz, b1, b2, b3]
  have gt1 : ¬ nI (sl N) ≤ 1 → 2 ≤ sl N := fun c => Nat.le_of_not_lt fun z => c ((nI_leI (b := 1) (by omega) (by decide)).mpr (by omega))
  have eqd : nI (sd N (sl N - 1)) = nI (sd N (sl N - 2)) ↔ sd N (sl N - 1) = sd N (sl N - 2) := nI_eq (by omega) (by omega)
  have s1 : nI (sl N) - 1 = nI (sl N - 1) := sub 1 h1
  have s2 : 2 ≤ sl N → nI (sl N) - 2 = nI (sl N - 2) := fun z => sub 2 z
  refine Cal.of (by decide) (Nat.le_of_ble_eq_true rfl) (s_Mo_mended_0 (v1 := nI (sl N)) (v21 := lN (T4 1 20 0 0)) (v24 := bI (en N (T4 1 20 0 0))) (v36 := lN (T4 2 12 0 0)) (v39 := bI (en N (T4 2 12 0 0))) (v52 := lN (T4 9 26 0 0)) (v55 := bI (en N (T4 9 26 0 0))) (v67 := nI (sd N (sl N - 1))) (v83 := nI (sd N (sl N - 2))) (v93 := bI (sv N (sl N - 1))) (v103 := bI (sv N (sl N - 2)))
    (c_Mo_length h) (c_Mo_text (by decide +kernel)) (c_Mo_ends h (by decide +kernel)) (fun a => w61 ?_) (fun _ => c_Mo_text (by decide +kernel)) (fun _ => c_Mo_ends h (by decide +kernel)) (fun a b => w61 ?_) (fun _ _ => c_Mo_text (by decide +kernel)) (fun _ _ => c_Mo_ends h (by decide +kernel)) (fun _ _ _ => ?_) (fun a b c d => s_Mo_mended_113 (w114 false ?_ ?_)) (fun _ _ _ d => ?_) (fun a b c d f => s_Mo_mended_113 (w114 false ?_ ?_)) (fun _ _ _ d f => ?_) (fun a b c d f g => s_Mo_mended_113 (w114 false ?_ ?_)) (fun _ _ _ d f g => ?_) (fun a b c d f g k => s_Mo_mended_113 (w114 false ?_ ?_)) (fun a b c d f g k => w114 true ?_ ?_) (fun a b c => w61 ?_))
  · simp [bI_n0 a]
  · simp [bI_n0 b]
  · rw [s1]; exact c_Mo_letter h62 (by omega)
  · have : ¬ 1 < sl N := by
      have := (nI_leI (b := 1) (by omega) (by decide)).mp d
      omega
    simp [st_twice, this]
  · simp [bI_1.mp a, bI_1.mp b, bI_1.mp c]
  · rw [s2 (gt1 d)]; exact c_Mo_letter h62 (by omega)
  · have : ¬ sd N (sl N - 1) = sd N (sl N - 2) := fun z => f (eqd.mpr z)
    simp [st_twice, this]
  · simp [bI_1.mp a, bI_1.mp b, bI_1.mp c]
  · rw [s1]; exact c_Mo_isVowel h62 (by omega)
  · simp [st_twice, bI_n0 g]
  · simp [bI_1.mp a, bI_1.mp b, bI_1.mp c]
  · rw [s2 (gt1 d)]; exact c_Mo_isVowel h62 (by omega)
  · simp [st_twice, bI_n0 k]
  · simp [bI_1.mp a, bI_1.mp b, bI_1.mp c]
  · have h2 := gt1 d
    have h3 := eqd.mp f
    simp [st_twice, h3, bI_1.mp k, show 1 < sl N by omega]
    rw [bI_1.mp g]
  · simp [bI_1.mp a, bI_1.mp b, bI_1.mp c]
  · simp [bI_n0 c]
end MoWords
end
section
/-! the reference's stems and words: contracts, the rest -/
/-- the stop words: a, an, and, in, of, or, the, to -/
def st_stop (N : Nat) : Bool := N == 1 || (N == 449 || (N == 457 || (N == 207 || (N == 591 || (N == 500 || (N == 4545 || N == 5396))))))
/-- the term of a word -/
def st_term (N : Nat) : Nat := if st_stop N then 0 else st_stem N
theorem lc_eq {a b : Nat} (ha : a < 2 ^ 63) (hb : b < 2 ^ 63) : lg_cmp (lN a) (lN b) = 0 ↔ a = b := by
  rw [lg_cmp_eq]
  exact pk_lEQ ha hb
theorem w_60 {N : Nat} (h : N < 2 ^ 62) : lN N >>> ((60 : Int32).toInt64 &&& 63) = lN (N / 32 ^ 12) := w_shr (i := 12) h (by decide)
section MoWords
variable {l : Launch} {X : ev_X} {n : Nat} {F : ev_H}
theorem c_Mo_past {N : Nat} (hg : gd N) : Cal l X M_Mo_past 0 0 [.long (lN N)] n F (ev_pure (.long (lN (st_past N))) n F) := by
  have h := hg.2.1
  have h62 : N < 2 ^ 62 := Nat.lt_of_lt_of_le h (by decide)
  have hl := sl_le N
  have e3 : sl (T4 5 5 4 0) = 3 := by decide +kernel
  have e2 : sl (T4 5 4 0 0) = 2 := by decide +kernel
  have e3' : sl (T4 9 14 7 0) = 3 := by decide +kernel
  have sub3 : 3 ≤ sl N → nI (sl N) - 3 = nI (sl N - 3) := fun z => pk_sub (b := 3) z
  have sub2 : 2 ≤ sl N → nI (sl N) - 2 = nI (sl N - 2) := fun z => pk_sub (b := 2) z
  have g3 : ∀ {b : Bool}, b = en N (T4 5 5 4 0) → ¬ bI b = 0 → 3 ≤ sl N := fun hb z => by
    have := en_le (hb ▸ bI_n0 z)
    omega
  have gi : ¬ bI (en N (T4 9 14 7 0)) = 0 → 3 ≤ sl N := fun z => by
    have := en_le (bI_n0 z)
    omega
  have ge : ¬ bI (en N (T4 5 4 0 0)) = 0 → 2 ≤ sl N := fun z => by
    have := en_le (bI_n0 z)
    omega
  have cut : ∀ k, ¬ bI (sh N (sl N - k)) = 0 → k ≤ sl N → (N % 32 ^ (sl N - k)) < 32 ^ 12 ∧ 1 ≤ sl (N % 32 ^ (sl N - k)) ∧ (0 < k → sl (N % 32 ^ (sl N - k)) < 12) := fun k z hk => by
    have h0 := sh_0 (bI_n0 z)
    obtain ⟨a, b⟩ := gd_cut hg (k := sl N - k) (by omega) (by omega)
    exact ⟨a.2.1, by omega, fun _ => by omega⟩
  have hme : sm N (sl N - 3) < 2 ^ 31 := by
    show smc N (sl N - 3 - 1) < 2 ^ 31
    have := smc_le N (sl N - 3 - 1)
    omega
  refine Cal.of (by decide) (Nat.le_of_ble_eq_true rfl) (s_Mo_past_0 (v1 := nI (sl N)) (v10 := lN (T4 5 5 4 0)) (v13 := bI (en N (T4 5 5 4 0))) (v44 := lN (T4 5 4 0 0)) (v47 := bI (en N (T4 5 4 0 0))) (v82 := lN (T4 9 14 7 0)) (v85 := bI (en N (T4 9 14 7 0))) (v95 := bI (sh N (sl N - 3))) (v105 := lN (N % 32 ^ (sl N - 3))) (v108 := lN (st_mend (N % 32 ^ (sl N - 3)))) (v57 := bI (sh N (sl N - 2))) (v82_2 := lN (T4 9 14 7 0)) (v85_2 := bI (en N (T4 9 14 7 0))) (v95_2 := bI (sh N (sl N - 3))) (v105_2 := lN (N % 32 ^ (sl N - 3))) (v108_2 := lN (st_mend (N % 32 ^ (sl N - 3)))) (v67 := lN (N % 32 ^ (sl N - 2))) (v70 := lN (st_mend (N % 32 ^ (sl N - 2)))) (v23 := nI (sm N (sl N - 3))) (v31 := lN (N % 32 ^ (sl N - 1)))
    (c_Mo_length h) (c_Mo_text (by decide +kernel)) (c_Mo_ends h (by decide +kernel)) (fun _ => c_Mo_text (by decide +kernel)) (fun _ => c_Mo_ends h (by decide +kernel)) (fun _ _ => c_Mo_text (by decide +kernel)) (fun _ _ => c_Mo_ends h (by decide +kernel))
    (fun a b c => ⟨?_, rfl, rfl⟩) (fun _ _ c => ?_) (fun a b c d => ⟨?_, rfl, rfl⟩) (fun _ _ c d => ?_) (fun _ _ c d => ?_) (fun a b c d => ⟨?_, rfl, rfl⟩) (fun _ b => ?_)
    (fun _ _ _ => c_Mo_text (by decide +kernel)) (fun _ _ _ => c_Mo_ends h (by decide +kernel)) (fun a b c d => ⟨?_, rfl, rfl⟩) (fun _ _ _ d => ?_) (fun a b c d f => ⟨?_, rfl, rfl⟩) (fun _ _ _ d f => ?_) (fun _ _ _ d f => ?_) (fun a b c d f => ⟨?_, rfl, rfl⟩)
    (fun _ b c => ?_) (fun _ b c => ?_) (fun a b c => ⟨?_, rfl, rfl⟩) (fun a => ?_) (fun a b => ⟨?_, rfl, rfl⟩) (fun a b => ?_) (fun a b => ⟨?_, rfl, rfl⟩))
  · simp [st_past, bI_1.mp a, bI_1.mp b, bI_1.mp c]
  · rw [sub3 (gi c)]; exact c_Mo_someVowel h62 (by omega)
  · simp [st_past, bI_1.mp a, bI_1.mp b, bI_n0 c, bI_1.mp d]
  · rw [sub3 (gi c)]; exact c_Mo_first h62 (by omega)
  · obtain ⟨p1, p2, p3⟩ := cut 3 d (gi c)
    exact c_Mo_mended p1 p2 (p3 (by decide))
  · simp [st_past, bI_1.mp a, bI_1.mp b, bI_n0 c, bI_n0 d]
  · rw [sub2 (ge b)]; exact c_Mo_someVowel h62 (by omega)
  · simp [st_past, bI_1.mp a, bI_1.mp c, bI_1.mp d]
  · rw [sub3 (gi d)]; exact c_Mo_someVowel h62 (by omega)
  · simp [st_past, bI_1.mp a, bI_1.mp c, bI_n0 d, bI_1.mp f]
  · rw [sub3 (gi d)]; exact c_Mo_first h62 (by omega)
  · obtain ⟨p1, p2, p3⟩ := cut 3 f (gi d)
    exact c_Mo_mended p1 p2 (p3 (by decide))
  · simp [st_past, bI_1.mp a, bI_1.mp c, bI_n0 d, bI_n0 f]
  · rw [sub2 (ge b)]; exact c_Mo_first h62 (by omega)
  · obtain ⟨p1, p2, p3⟩ := cut 2 c (ge b)
    exact c_Mo_mended p1 p2 (p3 (by decide))
  · simp [st_past, bI_1.mp a, bI_n0 b, bI_n0 c]
  · rw [sub3 (g3 rfl a)]; exact c_Mo_measure h62 (by omega)
  · have : ¬ 0 < sm N (sl N - 3) := by
      have := (nI_leI (b := 0) hme (by decide)).mp b
      omega
    simp [st_past, bI_n0 a, this]
  · have := g3 rfl a
    exact c_Mo_without (k := 1) h (by omega)
  · have : 0 < sm N (sl N - 3) := Nat.pos_of_ne_zero fun z => b ((nI_leI (b := 0) hme (by decide)).mpr (by omega))
    simp [st_past, bI_n0 a, this]
theorem c_Mo_stemOf {N : Nat} (hg : gd N) : Cal l X M_Mo_stemOf 0 0 [.long (lN N)] n F (ev_pure (.long (lN (st_stem N))) n F) := by
  have hl := sl_le N
  have ge3 : (3 : Int32) ≤ nI (sl N) → 3 ≤ sl N := fun c => (nI_leI (a := 3) (by decide) (by omega)).mp c
  have gp : 3 ≤ sl N → gd (st_past (st_plural N)) := fun z => gd_past (gd_plural hg z)
  have hW : ∀ W, W = st_past (st_plural N) → True := fun _ _ => trivial
  have hd := sd_lt (st_past (st_plural N)) (sl (st_past (st_plural N)) - 1)
  have hlw := sl_le (st_past (st_plural N))
  have e25 : nI (sd (st_past (st_plural N)) (sl (st_past (st_plural N)) - 1)) = 25 ↔ sd (st_past (st_plural N)) (sl (st_past (st_plural N)) - 1) = 25 := nI_eq (b := 25) (by omega) (by decide)
  have sub1 : 3 ≤ sl N → nI (sl (st_past (st_plural N))) - 1 = nI (sl (st_past (st_plural N)) - 1) := fun z => pk_sub (b := 1) (gd_pos (gp z))
  have lt62 : 3 ≤ sl N → st_past (st_plural N) < 2 ^ 62 := fun z => Nat.lt_of_lt_of_le (gp z).2.1 (by decide)
  have hs : 3 ≤ sl N → st_stem N = st_fin (st_past (st_plural N)) := fun z => by
    unfold st_stem
    rw [if_neg (by omega)]
  refine Cal.of (by decide) (Nat.le_of_ble_eq_true rfl) (s_Mo_stemOf_0 (v1 := nI (sl N)) (v11 := lN (st_plural N)) (v14 := lN (st_past (st_plural N))) (v19 := nI (sl (st_past (st_plural N)))) (v29 := nI (sd (st_past (st_plural N)) (sl (st_past (st_plural N)) - 1))) (v42 := bI (sh (st_past (st_plural N)) (sl (st_past (st_plural N)) - 1))) (v65 := lN (st_past (st_plural N) % 32 ^ (sl (st_past (st_plural N)) - 1)))
    (c_Mo_length hg.2.1) (fun _ => c_Mo_plural hg.2.1) (fun c => c_Mo_past (gd_plural hg (ge3 c))) (fun c => c_Mo_length (gp (ge3 c)).2.1) (fun c => ?_) (fun c d => ⟨?_, rfl, rfl⟩) (fun c _ => ?_) (fun c d f => ⟨?_, rfl, rfl⟩) (fun c _ _ => ?_) (fun c d f => ⟨?_, rfl, rfl⟩) (fun c => ⟨?_, rfl, rfl⟩))
  · rw [sub1 (ge3 c)]; exact c_Mo_letter (lt62 (ge3 c)) (by omega)
  · have : ¬ sd (st_past (st_plural N)) (sl (st_past (st_plural N)) - 1) = 25 := fun z => d (e25.mpr z)
    rw [hs (ge3 c)]
    simp [st_fin, this]
  · rw [sub1 (ge3 c)]; exact c_Mo_someVowel (lt62 (ge3 c)) (by omega)
  · rw [hs (ge3 c)]
    simp [st_fin, bI_1.mp f]
  · rw [sub1 (ge3 c)]; exact c_Mo_first (lt62 (ge3 c)) (by omega)
  · have h25 := e25.mp d
    have hp := gd_pos (gp (ge3 c))
    rw [sub1 (ge3 c), show (9 : Int64) = lN 9 from rfl, w_put (Nat.mod_lt _ (pow32_pos _)) (by omega) (by decide), hs (ge3 c)]
    simp [st_fin, h25, bI_n0 f]
  · have : sl N < 3 := Nat.lt_of_not_le fun z => c ((nI_leI (a := 3) (by decide) (by omega)).mpr z)
    unfold st_stem
    rw [if_pos this]
theorem c_Mo_isStop {N : Nat} (h : N < 32 ^ 12) : Cal l X M_Mo_isStop 0 0 [.long (lN N)] n F (ev_pure (.int (bI (st_stop N))) n F) := by
  have h63 : N < 2 ^ 63 := Nat.lt_of_lt_of_le h (by decide)
  have k : ∀ c, c < 2 ^ 63 → (lg_cmp (lN N) (lN c) = 0 ↔ N = c) := fun c hc => lc_eq h63 hc
  have w117 : ∀ (b : Int32) (r : Bool), r = st_stop N → Ev l X M_Mo_isStop 0 0 117 [(0, .long (lN N)), (2, .int b)] [.int (bI r)] n F (ev_mq X (ev_pure (.int (bI (st_stop N))) n F)) := fun b r hr => s_Mo_isStop_117 (by rw [hr]; exact ⟨rfl, rfl, rfl⟩) (bI_nar _)
  have w74 : ∀ r : Bool, r = (N == 449 || (N == 457 || (N == 207 || (N == 591 || N == 500)))) → Ev l X M_Mo_isStop 0 0 74 [(0, .long (lN N))] [.int (bI r)] n F (ev_mq X (ev_pure (.int (bI (st_stop N))) n F)) := by
    intro r hr
    refine s_Mo_isStop_74 (v91 := lN 4545) (v105 := lN 5396) (fun a => s_Mo_isStop_112 (w117 _ true ?_)) (fun a b => s_Mo_isStop_112 (w117 _ true ?_)) (fun _ _ => c_Mo_text (by decide +kernel)) (fun a b c => s_Mo_isStop_112 (w117 _ true ?_)) (fun _ _ _ => c_Mo_text (by decide +kernel)) (fun a b c d => w117 _ false ?_) (fun a b c d => s_Mo_isStop_112 (w117 _ true ?_))
    · have := (k 1 (by decide)).mp a
      subst this; rfl
    · have := bI_n0 b
      rw [hr] at this
      unfold st_stop
      simp only [Bool.or_eq_true, beq_iff_eq] at this ⊢
      symm
      simp only [Bool.or_eq_true, beq_iff_eq]
      omega
    · have := (k 4545 (by decide)).mp c
      subst this; rfl
    · have a1 : ¬ N = 1 := fun z => a ((k 1 (by decide)).mpr z)
      have a2 : ¬ N = 4545 := fun z => c ((k 4545 (by decide)).mpr z)
      have a3 : ¬ N = 5396 := fun z => d ((k 5396 (by decide)).mpr z)
      have a4 := bI_1.mp b
      rw [hr] at a4
      simp only [Bool.or_eq_false_iff, beq_eq_false_iff_ne] at a4
      simp [st_stop, a1, a2, a3, a4.1, a4.2.1, a4.2.2.1, a4.2.2.2.1, a4.2.2.2.2]
    · have := (k 5396 (by decide)).mp d
      subst this; rfl
  refine Cal.of (by decide) (Nat.le_of_ble_eq_true rfl) (s_Mo_isStop_0 (v6 := lN 449) (v20 := lN 457) (v34 := lN 207) (v48 := lN 591) (v62 := lN 500) (c_Mo_text (by decide +kernel)) (fun a => s_Mo_isStop_69 (w74 true ?_)) (fun _ => c_Mo_text (by decide +kernel)) (fun _ a => s_Mo_isStop_69 (w74 true ?_)) (fun _ _ => c_Mo_text (by decide +kernel)) (fun _ _ a => s_Mo_isStop_69 (w74 true ?_)) (fun _ _ _ => c_Mo_text (by decide +kernel)) (fun _ _ _ a => s_Mo_isStop_69 (w74 true ?_)) (fun _ _ _ _ => c_Mo_text (by decide +kernel)) (fun a b c d f => w74 false ?_) (fun _ _ _ _ a => s_Mo_isStop_69 (w74 true ?_)))
  · have := (k 449 (by decide)).mp a
    subst this; rfl
  · have := (k 457 (by decide)).mp a
    subst this; rfl
  · have := (k 207 (by decide)).mp a
    subst this; rfl
  · have := (k 591 (by decide)).mp a
    subst this; rfl
  · have a1 : ¬ N = 449 := fun z => a ((k 449 (by decide)).mpr z)
    have a2 : ¬ N = 457 := fun z => b ((k 457 (by decide)).mpr z)
    have a3 : ¬ N = 207 := fun z => c ((k 207 (by decide)).mpr z)
    have a4 : ¬ N = 591 := fun z => d ((k 591 (by decide)).mpr z)
    have a5 : ¬ N = 500 := fun z => f ((k 500 (by decide)).mpr z)
    simp [a1, a2, a3, a4, a5]
  · have := (k 500 (by decide)).mp a
    subst this; rfl
theorem c_Mo_termOf {N : Nat} (hg : gd N) : Cal l X M_Mo_termOf 0 0 [.long (lN N)] n F (ev_pure (.long (lN (st_term N))) n F) := by
  refine Cal.of (by decide) (Nat.le_of_ble_eq_true rfl) (s_Mo_termOf_0 (v1 := bI (st_stop N)) (v12 := lN (st_stem N)) (c_Mo_isStop hg.2.1) (fun _ => c_Mo_stemOf hg) (fun a => ⟨?_, rfl, rfl⟩) (fun a => ⟨?_, rfl, rfl⟩))
  · simp [st_term, bI_1.mp a]
  · simp [st_term, bI_n0 a]
    rfl
end MoWords
end
section
/-! what is a word: one function for class and reference -/
theorem pf_shr3 {a d : Nat} {D : Int64} (hD : (D.toBitVec.smod 64).toNat = d) (h : a < 2 ^ 63) : lN a >>> D = lN (a / 2 ^ d) := by
  have hd : a / 2 ^ d ≤ a := Nat.div_le_self _ _
  apply Int64.toInt_inj.mp
  have e : (lN a >>> D).toInt = (lN a).toInt >>> d := by
    rw [← hD]
    exact BitVec.toInt_sshiftRight ..
  rw [e, Int.shiftRight_eq_div_pow, pf_lI h, pf_lI (by omega)]
  rfl
/-- the digits below k are letters -/
def okd (N : Nat) : Nat → Bool
  | 0 => true
  | k + 1 => okd N k && (decide (1 ≤ sd N k) && decide (sd N k ≤ 26))
theorem okd_iff {N : Nat} : ∀ {k : Nat}, okd N k = true ↔ ∀ i, i < k → 1 ≤ sd N i ∧ sd N i ≤ 26
  | 0 => by simp [okd]
  | k + 1 => by
    unfold okd
    simp only [Bool.and_eq_true, decide_eq_true_eq, okd_iff (k := k)]
    constructor
    · intro h i hi
      by_cases e : i = k
      · subst e; exact h.2
      · exact h.1 i (by omega)
    · intro h
      exact ⟨fun i hi => h i (by omega), h k (by omega)⟩
def isw (w : Int64) : Bool := decide (0 < w) && (decide (w.toBitVec.toNat < 32 ^ 12) && okd w.toBitVec.toNat (sl w.toBitVec.toNat))
theorem isw_of {w : Int64} (h : isw w = true) : ∃ N, w = lN N ∧ gw N := by
  unfold isw at h
  simp only [Bool.and_eq_true, decide_eq_true_eq] at h
  obtain ⟨h1, h2, h3⟩ := h
  have h0 : ¬ w < 0 := fun z => by
    have := Int64.lt_iff_toInt_lt.mp h1
    have := Int64.lt_iff_toInt_lt.mp z
    omega
  obtain ⟨N, hN, rfl⟩ := pk_lOf h0
  have e : (lN N).toBitVec.toNat = N := wb_tn (by omega)
  rw [e] at h2 h3
  have hp : 0 < N := (pk_lLT (a := 0) (by decide) hN).mp h1
  exact ⟨N, rfl, hp, h2, okd_iff.mp h3⟩
theorem isw_N {N : Nat} (h0 : 0 < N) (h : N < 2 ^ 63) : isw (lN N) = (decide (N < 32 ^ 12) && okd N (sl N)) := by
  have e : (lN N).toBitVec.toNat = N := wb_tn (by omega)
  have h1 : (0 : Int64) < lN N := (pk_lLT (a := 0) (by decide) h).mpr h0
  unfold isw
  rw [e]
  simp [h1]
theorem isw_le {w : Int64} (h : ¬ 0 < w) : isw w = false := by
  unfold isw
  simp [h]
section MoWords
variable {l : Launch} {X : ev_X} {n : Nat} {F : ev_H}
theorem c_Mo_isWord (w : Int64) : Cal l X M_Mo_isWord 0 0 [.long w] n F (ev_pure (.int (bI (isw w))) n F) := by
  refine Cal.of (by decide) (Nat.le_of_ble_eq_true rfl) (s_Mo_isWord_0 (fun a => ⟨?_, rfl, rfl⟩) (fun a b => ?_) (fun a b => ⟨?_, rfl, rfl⟩))
  · have : ¬ 0 < w := fun z => by
      have h1 := Int64.le_iff_toInt_le.mp ((lg_cmp_le w 0).mp a)
      have h2 := Int64.lt_iff_toInt_lt.mp z
      omega
    rw [isw_le this]
    rfl
  · have hw : ¬ w ≤ 0 := fun z => a ((lg_cmp_le w 0).mpr z)
    have h0 : ¬ w < 0 := fun z => hw (Int64.le_of_lt z)
    obtain ⟨N, hN, rfl⟩ := pk_lOf h0
    have hp : 0 < N := Nat.pos_of_ne_zero fun z => hw (by rw [z]; decide)
    rw [lg_cmp_eq, pf_shr3 (d := 60) (by decide) hN, show (0 : Int64) = lN 0 from rfl, pk_lEQ (Nat.lt_of_le_of_lt (Nat.div_le_self _ _) hN) (by decide)] at b
    have hlt : N < 32 ^ 12 := by
      have e : (2 : Nat) ^ 60 = 32 ^ 12 := by decide
      rw [e] at b
      rcases Nat.lt_or_ge N (32 ^ 12) with g | g
      · exact g
      · have := Nat.div_pos g (pow32_pos 12)
        omega
    have h62 : N < 2 ^ 62 := Nat.lt_of_lt_of_le hlt (by decide)
    have hsl := sl_le N
    have hr : isw (lN N) = okd N (sl N) := by
      rw [isw_N hp hN]
      simp [hlt]
    rw [hr]
    have key : ∀ (d k : Nat), k + d = sl N → Ev l X M_Mo_isWord 0 0 21 [(0, .long (lN N)), (2, .int (bI (okd N k))), (3, .int (nI k))] [] n F (ev_mq X (ev_pure (.int (bI (okd N (sl N)))) n F)) := by
      intro d
      induction d with
      | zero =>
        intro k hk
        have e1 : k = sl N := by omega
        have hle : nI (sl N) ≤ nI k := (nI_leI (by omega) (by omega)).mpr (by omega)
        refine s_Mo_isWord_21 (v23 := nI (sl N)) (v35 := 0) (v44 := 0) (c_Mo_length hlt) (fun _ => ?_) (fun _ => bI_nar _) ?_ ?_ ?_ ?_ ?_ ?_
        · rw [e1]; exact ⟨rfl, rfl, rfl⟩
        all_goals exact fun c => absurd hle c
      | succ d ih =>
        intro k hk
        have hgt : ¬ nI (sl N) ≤ nI k := fun z => by
          have := (nI_leI (by omega) (by omega)).mp z
          omega
        have hd := sd_lt N k
        have st : ∀ b : Int32, b = bI (okd N (k + 1)) → Ev l X M_Mo_isWord 0 0 21 [(0, .long (lN N)), (2, .int b), (3, .int (nI k + 1))] [] n F (ev_mq X (ev_pure (.int (bI (okd N (sl N)))) n F)) := by
          intro b hb
          rw [hb, nI_1]
          exact ih (k + 1) (by omega)
        refine s_Mo_isWord_21 (v23 := nI (sl N)) (v35 := nI (sd N k)) (v44 := nI (sd N k)) (c_Mo_length hlt) (fun c => absurd c hgt) (fun c => absurd c hgt) (fun _ a => st _ ?_) (fun _ _ => c_Mo_letter h62 (by omega)) (fun _ _ a => st _ ?_) (fun _ _ _ => c_Mo_letter h62 (by omega)) (fun _ _ _ a => st _ ?_) (fun _ a b c => st _ ?_)
        · simp [okd, bI_1.mp a, bI]
        · have : ¬ 1 ≤ sd N k := by
            have := (nI_ltI (b := 1) (by omega) (by decide)).mp a
            omega
          simp [okd, this, bI]
        · have : ¬ sd N k ≤ 26 := by
            have := (nI_ltI (a := 26) (by decide) (by omega)).mp a
            omega
          simp [okd, this, bI]
        · have h1 : 1 ≤ sd N k := Nat.le_of_not_lt fun z => b ((nI_ltI (b := 1) (by omega) (by decide)).mpr z)
          have h2 : sd N k ≤ 26 := Nat.le_of_not_lt fun z => c ((nI_ltI (a := 26) (by decide) (by omega)).mpr z)
          simp [okd, bI_n0 a, h1, h2, bI]
    exact key (sl N) 0 (by omega)
  · have hw : ¬ w ≤ 0 := fun z => a ((lg_cmp_le w 0).mpr z)
    have h0 : ¬ w < 0 := fun z => hw (Int64.le_of_lt z)
    obtain ⟨N, hN, rfl⟩ := pk_lOf h0
    have hp : 0 < N := Nat.pos_of_ne_zero fun z => hw (by rw [z]; decide)
    rw [lg_cmp_eq, pf_shr3 (d := 60) (by decide) hN, show (0 : Int64) = lN 0 from rfl, pk_lEQ (Nat.lt_of_le_of_lt (Nat.div_le_self _ _) hN) (by decide)] at b
    have hge : ¬ N < 32 ^ 12 := fun z => b (Nat.div_eq_of_lt (by rw [show (2 : Nat) ^ 60 = 32 ^ 12 from by decide]; exact z))
    rw [isw_N hp hN]
    simp [hge, bI]
end MoWords
theorem zz_test : bI true = 0 := rfl
end
