/-! types and tables of our own judgement -/
/-- a cell: an array (the number of its type in the table, its contents), or an object (the number of its class, its fields) -/
abbrev ev_C : Type := (Nat × vp_A) ⊕ (Nat × List Value)
abbrev ev_H : Type := Nat → Option ev_C
/-- what a launch fixes: the classes' ids and slots, the array classes, the first address that is ours, addresses of what stood there before, the script's length and ints -/
abbrev ev_X : Type := va_G × List (ClassId × FieldType) × Nat × (Nat → Nat) × Nat × (Nat → Int32)
/-- a method: name, code, number of locals, type of the answer, frames and words that it may nest -/
abbrev ev_M : Type := MethodName × ByteArray × Nat × Option FieldType × Nat × Nat
def ev_A (X : ev_X) : Nat → Prop := fun q => X.2.2.1 ≤ q
/-- words of the tables that stay as the machine runs -/
def ev_good (w : Cond) : Bool := match w with
  | .arrayClass _ => true
  | .arrayOver (.object _) => true
  | .arrayOver (.array _) => true
  | .fieldLinkNest .. => true
  | .methodLinkNest .. => true
  | .castable .. => true
  | .declares .. => true
  | w => w.onTables && w.keeps
theorem ev_use {w : Cond} (hg : ev_good w = true) {A A' : Array Value} {u U : State} (hv : u.vm = U.vm) (h : w.before A u = true) : w.before A' U = true := by
  have hu : u.setVm U.vm = u := by rw [← hv]; rfl
  unfold ev_good at hg
  split at hg
  · rw [← hu] at h; exact h
  · rw [← hu] at h; exact h
  · rw [← hu] at h; exact h
  · exact va_tabs rfl hv h
  · exact va_tabs rfl hv h
  · exact va_tabs rfl hv h
  · exact va_tabs rfl hv h
  · simp only [Bool.and_eq_true] at hg
    exact va_tabs hg.1 hv h
theorem ev_AOA_moved {t : FieldType} {u U : State} (hvm : u.vm.Alike U.vm) (h : (Cond.arrayOver (.array t)).before #[] u = true) : (Cond.arrayOver (.array t)).before #[] U = true := by
  obtain ⟨comp, c, k, h1, h2, h3, h4, h5⟩ := arrayOverA_spec h
  obtain ⟨k', hk', he⟩ := hvm.2.2 _ _ h3
  have hi : (U.vm.classes.findIdx? fun (x : Class) => match x.kind with | .array component _ => component == comp | _ => false) = some c := by
    rw [hvm.findIdx?_eq _ (fun _ => rfl)]
    exact h2
  have hkind : k'.kind = .array comp (.array t) := by rw [he]; exact h4
  have f1 : U.vm.findClass (FieldType.array t).toString = some comp := by rw [hvm.findClass]; exact h1
  have f2 : U.vm.findClass ("[" ++ (FieldType.array t).toString) = some c := by rw [hvm.findClass]; exact h5
  unfold Cond.before Cond.holds
  simp only [Cond.value]
  rw [f1, Option.bind_some]
  refine (congrArg (fun o : Option Nat => (o.bind (fun c => (U.vm.classes[c]?).map fun (k : Class) => match k.kind with | .array _ ty => decide (ty = FieldType.array t) && decide (U.vm.findClass ("[" ++ (FieldType.array t).toString) = some c) | _ => false) == some true)) hi).trans ?_
  simp [hk', hkind, f2]
theorem ev_Nw_warm {w : Cond} (hg : ev_good w = true) {s U : State} (hW : s.WarmedH U.vm) (h : va_Nw w s) : va_Nw w U := by
  unfold ev_good at hg
  split at hg
  · exact word_at hW (Or.inr ⟨_, rfl⟩) h
  · exact va_AO.moved hW.alike h
  · exact ev_AOA_moved hW.alike h
  · exact va_Nw.warmF hW h
  · exact va_Nw.warmM hW h
  · exact va_Nw.warmC hW h
  · exact va_Nw.warmD hW h
  · exact word_at hW (Or.inl hg) h
/-! names: the array types, the classes whose objects we make, the methods: out of claim/Statement.lean, by program (wip/whole/names.py) -/
def ev_tyl : List FieldType := [.int, .long, .boolean, .char, .byte, .object "java/lang/Object", .array .int]
def R0_ : String := "PostingShelf"
def T0_ : u_T := fun k => match k with
  | 0 => ("PostingShelf", "stemmer", "LPostingShelf$Stemmer;", true)
  | 1 => ("PostingShelf", "draft", "[J", true)
  | 2 => ("PostingShelf", "draftWords", "I", false)
  | 3 => ("PostingShelf", "pending", "LPostingShelf$Pending;", true)
  | 4 => ("PostingShelf", "shelf", "LPostingShelf$Shelf;", true)
  | 5 => ("PostingShelf", "machine", "LPostingShelf$Machine;", true)
  | 6 => ("PostingShelf", "stack", "LPostingShelf$QueryStack;", true)
  | 7 => ("PostingShelf", "ranking", "LPostingShelf$Ranking;", true)
  | _ => ("PostingShelf", "results", "LPostingShelf$Results;", true)
abbrev rC0 : vw_C := ("PostingShelf", T0_, 9)
def R1_ : String := "PostingShelf$Stemmer"
def T1_ : u_T := fun k => match k with
  | 0 => ("PostingShelf$Stemmer", "letters", "[C", true)
  | 1 => ("PostingShelf$Stemmer", "vowels", "[Z", true)
  | _ => ("PostingShelf$Stemmer", "length", "I", false)
abbrev rC1 : vw_C := ("PostingShelf$Stemmer", T1_, 3)
def R2_ : String := "PostingShelf$Pending"
def T2_ : u_T := fun k => match k with
  | 0 => ("PostingShelf$Pending", "documents", "Ljava/util/ArrayList;", true)
  | _ => ("PostingShelf$Pending", "ids", "I", false)
abbrev rC2 : vw_C := ("PostingShelf$Pending", T2_, 2)
def R3_ : String := "PostingShelf$Shelf"
def T3_ : u_T := fun k => match k with
  | 0 => ("PostingShelf$Shelf", "segments", "Ljava/util/ArrayList;", true)
  | _ => ("PostingShelf$Shelf", "live", "Ljava/util/ArrayList;", true)
abbrev rC3 : vw_C := ("PostingShelf$Shelf", T3_, 2)
def R4_ : String := "PostingShelf$Machine"
def T4_ : u_T := fun k => match k with
  | 0 => ("PostingShelf$Machine", "blocksWritten", "I", false)
  | 1 => ("PostingShelf$Machine", "blocksToStop", "I", false)
  | _ => ("PostingShelf$Machine", "stopped", "Z", false)
abbrev rC4 : vw_C := ("PostingShelf$Machine", T4_, 3)
def R5_ : String := "PostingShelf$QueryStack"
def T5_ : u_T := fun k => match k with
  | 0 => ("PostingShelf$QueryStack", "steps", "Ljava/util/ArrayList;", true)
  | 1 => ("PostingShelf$QueryStack", "depths", "[I", true)
  | _ => ("PostingShelf$QueryStack", "height", "I", false)
abbrev rC5 : vw_C := ("PostingShelf$QueryStack", T5_, 3)
def R6_ : String := "PostingShelf$Ranking"
def T6_ : u_T := fun k => match k with
  | 0 => ("PostingShelf$Ranking", "weights", "[[I", true)
  | 1 => ("PostingShelf$Ranking", "bounds", "[I", true)
  | 2 => ("PostingShelf$Ranking", "termCount", "I", false)
  | _ => ("PostingShelf$Ranking", "weighedCount", "I", false)
abbrev rC6 : vw_C := ("PostingShelf$Ranking", T6_, 4)
def R7_ : String := "PostingShelf$Results"
def T7_ : u_T := fun k => match k with
  | 0 => ("PostingShelf$Results", "ids", "[I", true)
  | 1 => ("PostingShelf$Results", "weights", "[I", true)
  | _ => ("PostingShelf$Results", "count", "I", false)
abbrev rC7 : vw_C := ("PostingShelf$Results", T7_, 3)
def R8_ : String := "PostingShelf$Document"
def T8_ : u_T := fun k => match k with
  | 0 => ("PostingShelf$Document", "id", "I", true)
  | _ => ("PostingShelf$Document", "terms", "[J", true)
abbrev rC8 : vw_C := ("PostingShelf$Document", T8_, 2)
def R9_ : String := "PostingShelf$Segment"
def T9_ : u_T := fun k => match k with
  | 0 => ("PostingShelf$Segment", "documents", "Ljava/util/ArrayList;", true)
  | _ => ("PostingShelf$Segment", "deletedIds", "I", false)
abbrev rC9 : vw_C := ("PostingShelf$Segment", T9_, 2)
def R10_ : String := "PostingShelf$Step"
def T10_ : u_T := fun k => match k with
  | 0 => ("PostingShelf$Step", "kind", "I", true)
  | _ => ("PostingShelf$Step", "terms", "[J", true)
abbrev rC10 : vw_C := ("PostingShelf$Step", T10_, 2)
def R11_ : String := "PostingShelfModel"
def T11_ : u_T := fun k => match k with
  | 0 => ("PostingShelfModel", "draft", "[J", true)
  | 1 => ("PostingShelfModel", "drafted", "I", false)
  | 2 => ("PostingShelfModel", "pending", "[I", true)
  | 3 => ("PostingShelfModel", "pendingSize", "[I", true)
  | 4 => ("PostingShelfModel", "pendingTerm", "[J", true)
  | 5 => ("PostingShelfModel", "rows", "I", false)
  | 6 => ("PostingShelfModel", "rowId", "[I", true)
  | 7 => ("PostingShelfModel", "rowSegment", "[I", true)
  | 8 => ("PostingShelfModel", "rowDead", "[Z", true)
  | 9 => ("PostingShelfModel", "rowSize", "[I", true)
  | 10 => ("PostingShelfModel", "rowTerm", "[J", true)
  | 11 => ("PostingShelfModel", "segments", "I", false)
  | 12 => ("PostingShelfModel", "stopped", "Z", false)
  | 13 => ("PostingShelfModel", "fuse", "I", false)
  | 14 => ("PostingShelfModel", "written", "I", false)
  | 15 => ("PostingShelfModel", "tokens", "I", false)
  | 16 => ("PostingShelfModel", "token", "[I", true)
  | 17 => ("PostingShelfModel", "tokenTerm", "[J", true)
  | 18 => ("PostingShelfModel", "height", "I", false)
  | 19 => ("PostingShelfModel", "isTerm", "[Z", true)
  | 20 => ("PostingShelfModel", "deep", "[I", true)
  | 21 => ("PostingShelfModel", "truth", "[Z", true)
  | 22 => ("PostingShelfModel", "results", "I", false)
  | 23 => ("PostingShelfModel", "resultId", "[I", true)
  | 24 => ("PostingShelfModel", "resultWeight", "[J", true)
  | 25 => ("PostingShelfModel", "weighed", "I", false)
  | 26 => ("PostingShelfModel", "rowOf", "[I", true)
  | 27 => ("PostingShelfModel", "weights", "[J", true)
  | _ => ("PostingShelfModel", "taken", "[Z", true)
abbrev rC11 : vw_C := ("PostingShelfModel", T11_, 29)
def R12_ : String := "java/util/ArrayList"
def T12_ : u_T := fun k => match k with
  | 0 => ("java/util/ArrayList", "elementData", "[Ljava/lang/Object;", false)
  | 1 => ("java/util/ArrayList", "size", "I", false)
  | _ => ("java/util/AbstractList", "modCount", "I", false)
abbrev rC12 : vw_C := ("java/util/ArrayList", T12_, 3)
def ev_cl : List vw_C := [rC0, rC1, rC2, rC3, rC4, rC5, rC6, rC7, rC8, rC9, rC10, rC11, rC12]
abbrev M_P_init : ev_M := (⟨"PostingShelf", "<init>", "()V"⟩, prog_1_method_1_code, 1, none, 5, 100)
abbrev M_Obj_init : ev_M := (⟨"java/lang/Object", "<init>", "()V"⟩, object_method_1_code, 1, none, 0, 0)
abbrev M_St_init : ev_M := (⟨"PostingShelf$Stemmer", "<init>", "()V"⟩, prog_10_method_1_code, 1, none, 1, 20)
abbrev M_Pe_init : ev_M := (⟨"PostingShelf$Pending", "<init>", "()V"⟩, prog_4_method_1_code, 1, none, 4, 80)
abbrev M_AL_init : ev_M := (⟨"java/util/ArrayList", "<init>", "()V"⟩, prog_26_method_2_code, 1, none, 3, 60)
abbrev M_AbL_init : ev_M := (⟨"java/util/AbstractList", "<init>", "()V"⟩, prog_25_method_1_code, 1, none, 2, 40)
abbrev M_AbC_init : ev_M := (⟨"java/util/AbstractCollection", "<init>", "()V"⟩, prog_24_method_1_code, 1, none, 1, 20)
abbrev M_Sh_init : ev_M := (⟨"PostingShelf$Shelf", "<init>", "()V"⟩, prog_9_method_1_code, 1, none, 4, 80)
abbrev M_Ma_init : ev_M := (⟨"PostingShelf$Machine", "<init>", "()V"⟩, prog_3_method_1_code, 1, none, 1, 20)
abbrev M_Qs_init : ev_M := (⟨"PostingShelf$QueryStack", "<init>", "()V"⟩, prog_5_method_1_code, 1, none, 4, 80)
abbrev M_Ra_init : ev_M := (⟨"PostingShelf$Ranking", "<init>", "()V"⟩, prog_6_method_1_code, 1, none, 1, 20)
abbrev M_Re_init : ev_M := (⟨"PostingShelf$Results", "<init>", "()V"⟩, prog_7_method_1_code, 1, none, 1, 20)
abbrev M_P_stem : ev_M := (⟨"PostingShelf", "stem", "(J)J"⟩, prog_1_method_2_code, 3, (Option.some Jvm.ClassFile.FieldType.long), 11, 244)
abbrev M_St_isWord : ev_M := (⟨"PostingShelf$Stemmer", "isWord", "(J)Z"⟩, prog_10_method_2_code, 7, (Option.some Jvm.ClassFile.FieldType.boolean), 0, 0)
abbrev M_St_stemOf : ev_M := (⟨"PostingShelf$Stemmer", "stemOf", "(J)J"⟩, prog_10_method_5_code, 3, (Option.some Jvm.ClassFile.FieldType.long), 10, 222)
abbrev M_St_unpack : ev_M := (⟨"PostingShelf$Stemmer", "unpack", "(J)V"⟩, prog_10_method_6_code, 6, none, 8, 181)
abbrev M_St_append : ev_M := (⟨"PostingShelf$Stemmer", "append", "(C)V"⟩, prog_10_method_8_code, 3, none, 7, 159)
abbrev M_Str_indexOf : ev_M := (⟨"java/lang/String", "indexOf", "(I)I"⟩, prog_20_method_79_code, 2, (Option.some Jvm.ClassFile.FieldType.int), 6, 138)
abbrev M_Str_indexOf2 : ev_M := (⟨"java/lang/String", "indexOf", "(II)I"⟩, prog_20_method_80_code, 3, (Option.some Jvm.ClassFile.FieldType.int), 5, 116)
abbrev M_Str_isLatin1 : ev_M := (⟨"java/lang/String", "isLatin1", "()Z"⟩, prog_20_method_154_code, 1, (Option.some Jvm.ClassFile.FieldType.boolean), 0, 0)
abbrev M_Str_length : ev_M := (⟨"java/lang/String", "length", "()I"⟩, prog_20_method_54_code, 1, (Option.some Jvm.ClassFile.FieldType.int), 1, 20)
abbrev M_Str_coder : ev_M := (⟨"java/lang/String", "coder", "()B"⟩, prog_20_method_152_code, 1, (Option.some Jvm.ClassFile.FieldType.byte), 0, 0)
abbrev M_Lat_indexOf : ev_M := (⟨"java/lang/StringLatin1", "indexOf", "([BIII)I"⟩, prog_21_method_22_code, 4, (Option.some Jvm.ClassFile.FieldType.int), 1, 25)
abbrev M_Lat_canEncode : ev_M := (⟨"java/lang/StringLatin1", "canEncode", "(I)Z"⟩, prog_21_method_4_code, 1, (Option.some Jvm.ClassFile.FieldType.boolean), 0, 0)
abbrev M_Mth_max : ev_M := (⟨"java/lang/Math", "max", "(II)I"⟩, prog_19_method_65_code, 2, (Option.some Jvm.ClassFile.FieldType.int), 0, 0)
abbrev M_Mth_min : ev_M := (⟨"java/lang/Math", "min", "(II)I"⟩, prog_19_method_69_code, 2, (Option.some Jvm.ClassFile.FieldType.int), 0, 0)
abbrev M_Lat_indexOfChar : ev_M := (⟨"java/lang/StringLatin1", "indexOfChar", "([BIII)I"⟩, prog_21_method_23_code, 6, (Option.some Jvm.ClassFile.FieldType.int), 0, 0)
abbrev M_Utf_indexOf : ev_M := (⟨"java/lang/StringUTF16", "indexOf", "([BIII)I"⟩, prog_22_method_40_code, 4, (Option.some Jvm.ClassFile.FieldType.int), 4, 93)
abbrev M_Utf_indexOfChar : ev_M := (⟨"java/lang/StringUTF16", "indexOfChar", "([BIII)I"⟩, prog_22_method_47_code, 4, (Option.some Jvm.ClassFile.FieldType.int), 3, 67)
abbrev M_Utf_checkBoundsBeginEnd : ev_M := (⟨"java/lang/StringUTF16", "checkBoundsBeginEnd", "(II[B)V"⟩, prog_22_method_93_code, 3, none, 2, 45)
abbrev M_Utf_length : ev_M := (⟨"java/lang/StringUTF16", "length", "([B)I"⟩, prog_22_method_6_code, 1, (Option.some Jvm.ClassFile.FieldType.int), 0, 0)
abbrev M_Str_checkBoundsBeginEnd : ev_M := (⟨"java/lang/String", "checkBoundsBeginEnd", "(III)V"⟩, prog_20_method_158_code, 3, none, 1, 23)
abbrev M_Pre_checkFromToIndex : ev_M := (⟨"jdk/internal/util/Preconditions", "checkFromToIndex", "(IIILjava/util/function/BiFunction;)I"⟩, prog_34_method_12_code, 4, (Option.some Jvm.ClassFile.FieldType.int), 0, 0)
abbrev M_Utf_indexOfCharUnsafe : ev_M := (⟨"java/lang/StringUTF16", "indexOfCharUnsafe", "([BIII)I"⟩, prog_22_method_48_code, 5, (Option.some Jvm.ClassFile.FieldType.int), 2, 41)
abbrev M_Utf_getChar : ev_M := (⟨"java/lang/StringUTF16", "getChar", "([BI)C"⟩, prog_22_method_5_code, 2, (Option.some Jvm.ClassFile.FieldType.char), 1, 20)
abbrev M_Utf_indexOfSupplementary : ev_M := (⟨"java/lang/StringUTF16", "indexOfSupplementary", "([BIII)I"⟩, prog_22_method_49_code, 7, (Option.some Jvm.ClassFile.FieldType.int), 3, 67)
abbrev M_Chr_isValidCodePoint : ev_M := (⟨"java/lang/Character", "isValidCodePoint", "(I)Z"⟩, prog_15_method_11_code, 2, (Option.some Jvm.ClassFile.FieldType.boolean), 0, 0)
abbrev M_Chr_highSurrogate : ev_M := (⟨"java/lang/Character", "highSurrogate", "(I)C"⟩, prog_15_method_28_code, 1, (Option.some Jvm.ClassFile.FieldType.char), 0, 0)
abbrev M_Chr_lowSurrogate : ev_M := (⟨"java/lang/Character", "lowSurrogate", "(I)C"⟩, prog_15_method_29_code, 1, (Option.some Jvm.ClassFile.FieldType.char), 0, 0)
abbrev M_St_dropPlural : ev_M := (⟨"PostingShelf$Stemmer", "dropPlural", "()V"⟩, prog_10_method_9_code, 1, none, 6, 129)
abbrev M_St_endsIn : ev_M := (⟨"PostingShelf$Stemmer", "endsIn", "(Ljava/lang/String;)Z"⟩, prog_10_method_13_code, 4, (Option.some Jvm.ClassFile.FieldType.boolean), 5, 106)
abbrev M_Str_charAt : ev_M := (⟨"java/lang/String", "charAt", "(I)C"⟩, prog_20_method_56_code, 2, (Option.some Jvm.ClassFile.FieldType.char), 4, 85)
abbrev M_Lat_charAt : ev_M := (⟨"java/lang/StringLatin1", "charAt", "([BI)C"⟩, prog_21_method_2_code, 2, (Option.some Jvm.ClassFile.FieldType.char), 2, 43)
abbrev M_Str_checkIndex : ev_M := (⟨"java/lang/String", "checkIndex", "(II)V"⟩, prog_20_method_155_code, 2, none, 1, 22)
abbrev M_Pre_checkIndex : ev_M := (⟨"jdk/internal/util/Preconditions", "checkIndex", "(IILjava/util/function/BiFunction;)I"⟩, prog_34_method_11_code, 3, (Option.some Jvm.ClassFile.FieldType.int), 0, 0)
abbrev M_Utf_charAt : ev_M := (⟨"java/lang/StringUTF16", "charAt", "([BI)C"⟩, prog_22_method_83_code, 2, (Option.some Jvm.ClassFile.FieldType.char), 3, 64)
abbrev M_Utf_checkIndex : ev_M := (⟨"java/lang/StringUTF16", "checkIndex", "(I[B)V"⟩, prog_22_method_91_code, 2, none, 2, 43)
abbrev M_St_dropPastOrGerund : ev_M := (⟨"PostingShelf$Stemmer", "dropPastOrGerund", "()V"⟩, prog_10_method_10_code, 2, none, 9, 201)
abbrev M_St_measure : ev_M := (⟨"PostingShelf$Stemmer", "measure", "(I)I"⟩, prog_10_method_16_code, 4, (Option.some Jvm.ClassFile.FieldType.int), 0, 0)
abbrev M_St_hasVowel : ev_M := (⟨"PostingShelf$Stemmer", "hasVowel", "(I)Z"⟩, prog_10_method_17_code, 3, (Option.some Jvm.ClassFile.FieldType.boolean), 0, 0)
abbrev M_St_mendEnd : ev_M := (⟨"PostingShelf$Stemmer", "mendEnd", "()V"⟩, prog_10_method_11_code, 1, none, 8, 181)
abbrev M_St_endsInDouble : ev_M := (⟨"PostingShelf$Stemmer", "endsInDouble", "()Z"⟩, prog_10_method_14_code, 2, (Option.some Jvm.ClassFile.FieldType.boolean), 7, 159)
abbrev M_St_endsShort : ev_M := (⟨"PostingShelf$Stemmer", "endsShort", "()Z"⟩, prog_10_method_15_code, 1, (Option.some Jvm.ClassFile.FieldType.boolean), 7, 159)
abbrev M_St_turnFinalY : ev_M := (⟨"PostingShelf$Stemmer", "turnFinalY", "()V"⟩, prog_10_method_12_code, 1, none, 8, 181)
abbrev M_St_packed : ev_M := (⟨"PostingShelf$Stemmer", "packed", "()J"⟩, prog_10_method_7_code, 4, (Option.some Jvm.ClassFile.FieldType.long), 0, 0)
abbrev M_P_feed : ev_M := (⟨"PostingShelf", "feed", "(J)I"⟩, prog_1_method_3_code, 3, (Option.some Jvm.ClassFile.FieldType.int), 12, 266)
abbrev M_St_termOf : ev_M := (⟨"PostingShelf$Stemmer", "termOf", "(J)J"⟩, prog_10_method_4_code, 3, (Option.some Jvm.ClassFile.FieldType.long), 11, 244)
abbrev M_St_isStopWord : ev_M := (⟨"PostingShelf$Stemmer", "isStopWord", "(J)Z"⟩, prog_10_method_3_code, 3, (Option.some Jvm.ClassFile.FieldType.boolean), 0, 0)
abbrev M_P_add : ev_M := (⟨"PostingShelf", "add", "(I)I"⟩, prog_1_method_4_code, 2, (Option.some Jvm.ClassFile.FieldType.int), 8, 212)
abbrev M_P_isId : ev_M := (⟨"PostingShelf", "isId", "(I)Z"⟩, prog_1_method_19_code, 1, (Option.some Jvm.ClassFile.FieldType.boolean), 0, 0)
abbrev M_Arr_copyOf : ev_M := (⟨"java/util/Arrays", "copyOf", "([JI)[J"⟩, prog_27_method_124_code, 3, (Option.some (Jvm.ClassFile.FieldType.array Jvm.ClassFile.FieldType.long)), 1, 60)
abbrev M_D_init : ev_M := (⟨"PostingShelf$Document", "<init>", "(I[J)V"⟩, prog_2_method_1_code, 3, none, 1, 20)
abbrev M_Pe_putDocument : ev_M := (⟨"PostingShelf$Pending", "putDocument", "(LPostingShelf$Document;)V"⟩, prog_4_method_3_code, 2, none, 7, 191)
abbrev M_Pe_dropDocument : ev_M := (⟨"PostingShelf$Pending", "dropDocument", "(I)V"⟩, prog_4_method_5_code, 3, none, 3, 106)
abbrev M_AL_size : ev_M := (⟨"java/util/ArrayList", "size", "()I"⟩, prog_26_method_8_code, 1, (Option.some Jvm.ClassFile.FieldType.int), 0, 0)
abbrev M_AL_get : ev_M := (⟨"java/util/ArrayList", "get", "(I)Ljava/lang/Object;"⟩, prog_26_method_20_code, 2, (Option.some (Jvm.ClassFile.FieldType.object "java/lang/Object")), 2, 43)
abbrev M_Obs_checkIndex : ev_M := (⟨"java/util/Objects", "checkIndex", "(II)I"⟩, prog_30_method_17_code, 2, (Option.some Jvm.ClassFile.FieldType.int), 1, 22)
abbrev M_AL_elementData : ev_M := (⟨"java/util/ArrayList", "elementData", "(I)Ljava/lang/Object;"⟩, prog_26_method_18_code, 2, (Option.some (Jvm.ClassFile.FieldType.object "java/lang/Object")), 0, 0)
abbrev M_AL_remove : ev_M := (⟨"java/util/ArrayList", "remove", "(I)Ljava/lang/Object;"⟩, prog_26_method_29_code, 4, (Option.some (Jvm.ClassFile.FieldType.object "java/lang/Object")), 2, 83)
abbrev M_AL_fastRemove : ev_M := (⟨"java/util/ArrayList", "fastRemove", "([Ljava/lang/Object;I)V"⟩, prog_26_method_39_code, 4, none, 1, 60)
abbrev M_AL_add : ev_M := (⟨"java/util/ArrayList", "add", "(Ljava/lang/Object;)Z"⟩, prog_26_method_25_code, 2, (Option.some Jvm.ClassFile.FieldType.boolean), 6, 170)
abbrev M_AL_add2 : ev_M := (⟨"java/util/ArrayList", "add", "(Ljava/lang/Object;[Ljava/lang/Object;I)V"⟩, prog_26_method_24_code, 4, none, 5, 147)
abbrev M_AL_grow : ev_M := (⟨"java/util/ArrayList", "grow", "()[Ljava/lang/Object;"⟩, prog_26_method_7_code, 1, (Option.some (Jvm.ClassFile.FieldType.array (Jvm.ClassFile.FieldType.object "java/lang/Object"))), 4, 127)
abbrev M_AL_grow2 : ev_M := (⟨"java/util/ArrayList", "grow", "(I)[Ljava/lang/Object;"⟩, prog_26_method_6_code, 4, (Option.some (Jvm.ClassFile.FieldType.array (Jvm.ClassFile.FieldType.object "java/lang/Object"))), 3, 104)
abbrev M_ASup_newLength : ev_M := (⟨"jdk/internal/util/ArraysSupport", "newLength", "(III)I"⟩, prog_33_method_27_code, 4, (Option.some Jvm.ClassFile.FieldType.int), 1, 22)
abbrev M_ASup_hugeLength : ev_M := (⟨"jdk/internal/util/ArraysSupport", "hugeLength", "(II)I"⟩, prog_33_method_28_code, 3, (Option.some Jvm.ClassFile.FieldType.int), 0, 0)
abbrev M_Arr_copyOf2 : ev_M := (⟨"java/util/Arrays", "copyOf", "([Ljava/lang/Object;I)[Ljava/lang/Object;"⟩, prog_27_method_119_code, 2, (Option.some (Jvm.ClassFile.FieldType.array (Jvm.ClassFile.FieldType.object "java/lang/Object"))), 2, 83)
abbrev M_Arr_copyOf3 : ev_M := (⟨"java/util/Arrays", "copyOf", "([Ljava/lang/Object;ILjava/lang/Class;)[Ljava/lang/Object;"⟩, prog_27_method_120_code, 4, (Option.some (Jvm.ClassFile.FieldType.array (Jvm.ClassFile.FieldType.object "java/lang/Object"))), 1, 60)
abbrev M_Pe_idCount : ev_M := (⟨"PostingShelf$Pending", "idCount", "()I"⟩, prog_4_method_2_code, 1, (Option.some Jvm.ClassFile.FieldType.int), 1, 20)
abbrev M_Int_bitCount : ev_M := (⟨"java/lang/Integer", "bitCount", "(I)I"⟩, prog_17_method_49_code, 1, (Option.some Jvm.ClassFile.FieldType.int), 0, 0)
abbrev M_P_delete : ev_M := (⟨"PostingShelf", "delete", "(I)I"⟩, prog_1_method_5_code, 2, (Option.some Jvm.ClassFile.FieldType.int), 5, 149)
abbrev M_Pe_putDeletion : ev_M := (⟨"PostingShelf$Pending", "putDeletion", "(I)V"⟩, prog_4_method_4_code, 2, none, 4, 128)
abbrev M_P_commit : ev_M := (⟨"PostingShelf", "commit", "()I"⟩, prog_1_method_6_code, 2, (Option.some Jvm.ClassFile.FieldType.int), 9, 237)
abbrev M_AL_isEmpty : ev_M := (⟨"java/util/ArrayList", "isEmpty", "()Z"⟩, prog_26_method_9_code, 1, (Option.some Jvm.ClassFile.FieldType.boolean), 0, 0)
abbrev M_Sh_hasLiveAmong : ev_M := (⟨"PostingShelf$Shelf", "hasLiveAmong", "(I)Z"⟩, prog_9_method_2_code, 3, (Option.some Jvm.ClassFile.FieldType.boolean), 3, 64)
abbrev M_P_isAmong : ev_M := (⟨"PostingShelf", "isAmong", "(II)Z"⟩, prog_1_method_20_code, 2, (Option.some Jvm.ClassFile.FieldType.boolean), 0, 0)
abbrev M_Ma_writeBlocks : ev_M := (⟨"PostingShelf$Machine", "writeBlocks", "(I)Z"⟩, prog_3_method_2_code, 3, (Option.some Jvm.ClassFile.FieldType.boolean), 1, 20)
abbrev M_Ma_writeBlock : ev_M := (⟨"PostingShelf$Machine", "writeBlock", "()V"⟩, prog_3_method_3_code, 1, none, 0, 0)
abbrev M_Sh_takeIn : ev_M := (⟨"PostingShelf$Shelf", "takeIn", "(LPostingShelf$Pending;)V"⟩, prog_9_method_3_code, 2, none, 8, 216)
abbrev M_Sh_markDeleted : ev_M := (⟨"PostingShelf$Shelf", "markDeleted", "(I)V"⟩, prog_9_method_4_code, 3, none, 3, 106)
abbrev M_Sh_appendSegment : ev_M := (⟨"PostingShelf$Shelf", "appendSegment", "(Ljava/util/ArrayList;)V"⟩, prog_9_method_5_code, 4, none, 7, 193)
abbrev M_Sg_init : ev_M := (⟨"PostingShelf$Segment", "<init>", "()V"⟩, prog_8_method_1_code, 1, none, 4, 80)
abbrev M_Sh_insertLive : ev_M := (⟨"PostingShelf$Shelf", "insertLive", "(LPostingShelf$Document;)V"⟩, prog_9_method_6_code, 3, none, 6, 171)
abbrev M_AL_add3 : ev_M := (⟨"java/util/ArrayList", "add", "(ILjava/lang/Object;)V"⟩, prog_26_method_26_code, 5, none, 5, 147)
abbrev M_AL_rangeCheckForAdd : ev_M := (⟨"java/util/ArrayList", "rangeCheckForAdd", "(I)V"⟩, prog_26_method_45_code, 2, none, 0, 0)
abbrev M_Pe_clear : ev_M := (⟨"PostingShelf$Pending", "clear", "()V"⟩, prog_4_method_6_code, 1, none, 1, 23)
abbrev M_AL_clear : ev_M := (⟨"java/util/ArrayList", "clear", "()V"⟩, prog_26_method_40_code, 4, none, 0, 0)
abbrev M_P_goDown : ev_M := (⟨"PostingShelf", "goDown", "()I"⟩, prog_1_method_22_code, 1, (Option.some Jvm.ClassFile.FieldType.int), 2, 43)
abbrev M_Qs_clear : ev_M := (⟨"PostingShelf$QueryStack", "clear", "()V"⟩, prog_5_method_2_code, 1, none, 1, 23)
abbrev M_P_merge : ev_M := (⟨"PostingShelf", "merge", "(I)I"⟩, prog_1_method_7_code, 3, (Option.some Jvm.ClassFile.FieldType.int), 9, 236)
abbrev M_Sh_joinedFrom : ev_M := (⟨"PostingShelf$Shelf", "joinedFrom", "(I)LPostingShelf$Segment;"⟩, prog_9_method_7_code, 4, (Option.some (Jvm.ClassFile.FieldType.object "PostingShelf$Segment")), 8, 213)
abbrev M_Sg_copyLive : ev_M := (⟨"PostingShelf$Segment", "copyLive", "(Ljava/util/ArrayList;)V"⟩, prog_8_method_3_code, 3, none, 7, 191)
abbrev M_Sg_isLive : ev_M := (⟨"PostingShelf$Segment", "isLive", "(I)Z"⟩, prog_8_method_2_code, 2, (Option.some Jvm.ClassFile.FieldType.boolean), 3, 64)
abbrev M_Sh_replaceTwo : ev_M := (⟨"PostingShelf$Shelf", "replaceTwo", "(ILPostingShelf$Segment;)V"⟩, prog_9_method_8_code, 3, none, 3, 106)
abbrev M_AL_set : ev_M := (⟨"java/util/ArrayList", "set", "(ILjava/lang/Object;)Ljava/lang/Object;"⟩, prog_26_method_23_code, 4, (Option.some (Jvm.ClassFile.FieldType.object "java/lang/Object")), 2, 43)
abbrev M_P_fuse : ev_M := (⟨"PostingShelf", "fuse", "(I)Z"⟩, prog_1_method_8_code, 2, (Option.some Jvm.ClassFile.FieldType.boolean), 0, 0)
abbrev M_P_restart : ev_M := (⟨"PostingShelf", "restart", "()Z"⟩, prog_1_method_9_code, 2, (Option.some Jvm.ClassFile.FieldType.boolean), 0, 0)
abbrev M_P_term : ev_M := (⟨"PostingShelf", "term", "(J)I"⟩, prog_1_method_10_code, 3, (Option.some Jvm.ClassFile.FieldType.int), 12, 266)
abbrev M_Qs_pushTerm : ev_M := (⟨"PostingShelf$QueryStack", "pushTerm", "(J)I"⟩, prog_5_method_7_code, 4, (Option.some Jvm.ClassFile.FieldType.int), 8, 215)
abbrev M_Sp_init : ev_M := (⟨"PostingShelf$Step", "<init>", "(I[J)V"⟩, prog_11_method_1_code, 3, none, 1, 20)
abbrev M_Qs_push : ev_M := (⟨"PostingShelf$QueryStack", "push", "(LPostingShelf$Step;II)I"⟩, prog_5_method_10_code, 5, (Option.some Jvm.ClassFile.FieldType.int), 7, 191)
abbrev M_P_phrase : ev_M := (⟨"PostingShelf", "phrase", "(I)I"⟩, prog_1_method_11_code, 2, (Option.some Jvm.ClassFile.FieldType.int), 9, 238)
abbrev M_Qs_areTerms : ev_M := (⟨"PostingShelf$QueryStack", "areTerms", "(I)Z"⟩, prog_5_method_3_code, 2, (Option.some Jvm.ClassFile.FieldType.boolean), 2, 44)
abbrev M_Qs_deepest : ev_M := (⟨"PostingShelf$QueryStack", "deepest", "(I)I"⟩, prog_5_method_4_code, 4, (Option.some Jvm.ClassFile.FieldType.int), 1, 21)
abbrev M_Qs_makePhrase : ev_M := (⟨"PostingShelf$QueryStack", "makePhrase", "(I)I"⟩, prog_5_method_8_code, 4, (Option.some Jvm.ClassFile.FieldType.int), 8, 215)
abbrev M_Qs_firstTerm : ev_M := (⟨"PostingShelf$QueryStack", "firstTerm", "(LPostingShelf$Step;)J"⟩, prog_5_method_6_code, 2, (Option.some Jvm.ClassFile.FieldType.long), 0, 0)
abbrev M_P_join : ev_M := (⟨"PostingShelf", "join", "(I)I"⟩, prog_1_method_12_code, 3, (Option.some Jvm.ClassFile.FieldType.int), 9, 237)
abbrev M_Qs_makeJoin : ev_M := (⟨"PostingShelf$QueryStack", "makeJoin", "(II)I"⟩, prog_5_method_9_code, 3, (Option.some Jvm.ClassFile.FieldType.int), 8, 215)
abbrev M_P_find : ev_M := (⟨"PostingShelf", "find", "()I"⟩, prog_1_method_13_code, 2, (Option.some Jvm.ClassFile.FieldType.int), 5, 112)
abbrev M_Re_clear : ev_M := (⟨"PostingShelf$Results", "clear", "()V"⟩, prog_7_method_2_code, 1, none, 0, 0)
abbrev M_P_collectMatches : ev_M := (⟨"PostingShelf", "collectMatches", "()V"⟩, prog_1_method_23_code, 3, none, 4, 90)
abbrev M_Qs_matches : ev_M := (⟨"PostingShelf$QueryStack", "matches", "(LPostingShelf$Document;)Z"⟩, prog_5_method_11_code, 4, (Option.some Jvm.ClassFile.FieldType.boolean), 3, 67)
abbrev M_Qs_answersBehind : ev_M := (⟨"PostingShelf$QueryStack", "answersBehind", "(LPostingShelf$Step;ILPostingShelf$Document;)I"⟩, prog_5_method_12_code, 3, (Option.some Jvm.ClassFile.FieldType.int), 2, 45)
abbrev M_D_hasRow : ev_M := (⟨"PostingShelf$Document", "hasRow", "([J)Z"⟩, prog_2_method_6_code, 3, (Option.some Jvm.ClassFile.FieldType.boolean), 1, 23)
abbrev M_D_hasRowAt : ev_M := (⟨"PostingShelf$Document", "hasRowAt", "(I[J)Z"⟩, prog_2_method_7_code, 4, (Option.some Jvm.ClassFile.FieldType.boolean), 0, 0)
abbrev M_Re_insert : ev_M := (⟨"PostingShelf$Results", "insert", "(III)V"⟩, prog_7_method_5_code, 6, none, 1, 21)
abbrev M_P_rank : ev_M := (⟨"PostingShelf", "rank", "(I)I"⟩, prog_1_method_14_code, 3, (Option.some Jvm.ClassFile.FieldType.int), 6, 142)
abbrev M_Ra_clear : ev_M := (⟨"PostingShelf$Ranking", "clear", "()V"⟩, prog_6_method_2_code, 1, none, 0, 0)
abbrev M_Ra_weighBag : ev_M := (⟨"PostingShelf$Ranking", "weighBag", "(LPostingShelf$QueryStack;Ljava/util/ArrayList;)V"⟩, prog_6_method_3_code, 5, none, 5, 118)
abbrev M_P_totalLength : ev_M := (⟨"PostingShelf", "totalLength", "(Ljava/util/ArrayList;)I"⟩, prog_1_method_21_code, 3, (Option.some Jvm.ClassFile.FieldType.int), 3, 64)
abbrev M_D_length : ev_M := (⟨"PostingShelf$Document", "length", "()I"⟩, prog_2_method_2_code, 3, (Option.some Jvm.ClassFile.FieldType.int), 0, 0)
abbrev M_Qs_termAt : ev_M := (⟨"PostingShelf$QueryStack", "termAt", "(I)J"⟩, prog_5_method_5_code, 2, (Option.some Jvm.ClassFile.FieldType.long), 3, 64)
abbrev M_Ra_weighTerm : ev_M := (⟨"PostingShelf$Ranking", "weighTerm", "(IJLjava/util/ArrayList;I)V"⟩, prog_6_method_4_code, 11, none, 4, 88)
abbrev M_Ra_holders : ev_M := (⟨"PostingShelf$Ranking", "holders", "(JLjava/util/ArrayList;)I"⟩, prog_6_method_5_code, 5, (Option.some Jvm.ClassFile.FieldType.int), 3, 64)
abbrev M_D_timesOf : ev_M := (⟨"PostingShelf$Document", "timesOf", "(J)I"⟩, prog_2_method_3_code, 5, (Option.some Jvm.ClassFile.FieldType.int), 0, 0)
abbrev M_Ra_rarity : ev_M := (⟨"PostingShelf$Ranking", "rarity", "(II)I"⟩, prog_6_method_6_code, 4, (Option.some Jvm.ClassFile.FieldType.int), 0, 0)
abbrev M_Ra_chooseBest : ev_M := (⟨"PostingShelf$Ranking", "chooseBest", "(ILjava/util/ArrayList;LPostingShelf$Results;)V"⟩, prog_6_method_7_code, 5, none, 3, 64)
abbrev M_Ra_hasTermOfBag : ev_M := (⟨"PostingShelf$Ranking", "hasTermOfBag", "(I)Z"⟩, prog_6_method_8_code, 3, (Option.some Jvm.ClassFile.FieldType.boolean), 0, 0)
abbrev M_Ra_boundOf : ev_M := (⟨"PostingShelf$Ranking", "boundOf", "(I)I"⟩, prog_6_method_10_code, 4, (Option.some Jvm.ClassFile.FieldType.int), 0, 0)
abbrev M_Re_leastWeight : ev_M := (⟨"PostingShelf$Results", "leastWeight", "()I"⟩, prog_7_method_4_code, 1, (Option.some Jvm.ClassFile.FieldType.int), 0, 0)
abbrev M_Ra_weightOf : ev_M := (⟨"PostingShelf$Ranking", "weightOf", "(I)I"⟩, prog_6_method_9_code, 4, (Option.some Jvm.ClassFile.FieldType.int), 1, 21)
abbrev M_P_result : ev_M := (⟨"PostingShelf", "result", "(I)I"⟩, prog_1_method_15_code, 2, (Option.some Jvm.ClassFile.FieldType.int), 1, 21)
abbrev M_Re_has : ev_M := (⟨"PostingShelf$Results", "has", "(I)Z"⟩, prog_7_method_3_code, 2, (Option.some Jvm.ClassFile.FieldType.boolean), 0, 0)
abbrev M_P_weight : ev_M := (⟨"PostingShelf", "weight", "(I)I"⟩, prog_1_method_16_code, 2, (Option.some Jvm.ClassFile.FieldType.int), 1, 21)
abbrev M_P_weighed : ev_M := (⟨"PostingShelf", "weighed", "()I"⟩, prog_1_method_17_code, 1, (Option.some Jvm.ClassFile.FieldType.int), 0, 0)
abbrev M_P_size : ev_M := (⟨"PostingShelf", "size", "(I)I"⟩, prog_1_method_18_code, 2, (Option.some Jvm.ClassFile.FieldType.int), 5, 108)
abbrev M_Sh_documentCount : ev_M := (⟨"PostingShelf$Shelf", "documentCount", "()I"⟩, prog_9_method_9_code, 3, (Option.some Jvm.ClassFile.FieldType.int), 3, 64)
abbrev M_Sh_entryCount : ev_M := (⟨"PostingShelf$Shelf", "entryCount", "()I"⟩, prog_9_method_10_code, 3, (Option.some Jvm.ClassFile.FieldType.int), 4, 86)
abbrev M_Sg_entryCount : ev_M := (⟨"PostingShelf$Segment", "entryCount", "()I"⟩, prog_8_method_4_code, 3, (Option.some Jvm.ClassFile.FieldType.int), 3, 64)
abbrev M_D_differentTerms : ev_M := (⟨"PostingShelf$Document", "differentTerms", "()I"⟩, prog_2_method_4_code, 3, (Option.some Jvm.ClassFile.FieldType.int), 1, 22)
abbrev M_D_isFirst : ev_M := (⟨"PostingShelf$Document", "isFirst", "(I)Z"⟩, prog_2_method_5_code, 3, (Option.some Jvm.ClassFile.FieldType.boolean), 0, 0)
abbrev M_Mo_init : ev_M := (⟨"PostingShelfModel", "<init>", "()V"⟩, prog_13_method_1_code, 1, none, 1, 20)
abbrev M_Mo_stem : ev_M := (⟨"PostingShelfModel", "stem", "(J)J"⟩, prog_13_method_18_code, 3, (Option.some Jvm.ClassFile.FieldType.long), 6, 144)
abbrev M_Mo_isWord : ev_M := (⟨"PostingShelfModel", "isWord", "(J)Z"⟩, prog_13_method_4_code, 4, (Option.some Jvm.ClassFile.FieldType.boolean), 1, 22)
abbrev M_Mo_length : ev_M := (⟨"PostingShelfModel", "length", "(J)I"⟩, prog_13_method_3_code, 3, (Option.some Jvm.ClassFile.FieldType.int), 0, 0)
abbrev M_Mo_letter : ev_M := (⟨"PostingShelfModel", "letter", "(JI)I"⟩, prog_13_method_2_code, 3, (Option.some Jvm.ClassFile.FieldType.int), 0, 0)
abbrev M_Mo_stemOf : ev_M := (⟨"PostingShelfModel", "stemOf", "(J)J"⟩, prog_13_method_17_code, 6, (Option.some Jvm.ClassFile.FieldType.long), 5, 119)
abbrev M_Mo_plural : ev_M := (⟨"PostingShelfModel", "plural", "(J)J"⟩, prog_13_method_13_code, 2, (Option.some Jvm.ClassFile.FieldType.long), 2, 46)
abbrev M_Mo_text : ev_M := (⟨"PostingShelfModel", "text", "(IIII)J"⟩, prog_13_method_9_code, 4, (Option.some Jvm.ClassFile.FieldType.long), 0, 0)
abbrev M_Mo_ends : ev_M := (⟨"PostingShelfModel", "ends", "(JJ)Z"⟩, prog_13_method_10_code, 5, (Option.some Jvm.ClassFile.FieldType.boolean), 1, 22)
abbrev M_Mo_without : ev_M := (⟨"PostingShelfModel", "without", "(JI)J"⟩, prog_13_method_11_code, 3, (Option.some Jvm.ClassFile.FieldType.long), 1, 22)
abbrev M_Mo_first : ev_M := (⟨"PostingShelfModel", "first", "(JI)J"⟩, prog_13_method_6_code, 3, (Option.some Jvm.ClassFile.FieldType.long), 0, 0)
abbrev M_Mo_past : ev_M := (⟨"PostingShelfModel", "past", "(J)J"⟩, prog_13_method_16_code, 3, (Option.some Jvm.ClassFile.FieldType.long), 4, 97)
abbrev M_Mo_measure : ev_M := (⟨"PostingShelfModel", "measure", "(JI)I"⟩, prog_13_method_7_code, 5, (Option.some Jvm.ClassFile.FieldType.int), 2, 47)
abbrev M_Mo_isVowel : ev_M := (⟨"PostingShelfModel", "isVowel", "(JI)Z"⟩, prog_13_method_5_code, 6, (Option.some Jvm.ClassFile.FieldType.boolean), 1, 22)
abbrev M_Mo_someVowel : ev_M := (⟨"PostingShelfModel", "someVowel", "(JI)Z"⟩, prog_13_method_8_code, 5, (Option.some Jvm.ClassFile.FieldType.boolean), 2, 47)
abbrev M_Mo_mended : ev_M := (⟨"PostingShelfModel", "mended", "(J)J"⟩, prog_13_method_15_code, 7, (Option.some Jvm.ClassFile.FieldType.long), 3, 71)
abbrev M_Mo_shortEnd : ev_M := (⟨"PostingShelfModel", "shortEnd", "(J)Z"⟩, prog_13_method_14_code, 3, (Option.some Jvm.ClassFile.FieldType.boolean), 2, 47)
abbrev M_Mo_feed : ev_M := (⟨"PostingShelfModel", "feed", "(J)I"⟩, prog_13_method_20_code, 3, (Option.some Jvm.ClassFile.FieldType.int), 7, 165)
abbrev M_Mo_termOf : ev_M := (⟨"PostingShelfModel", "termOf", "(J)J"⟩, prog_13_method_19_code, 2, (Option.some Jvm.ClassFile.FieldType.long), 6, 144)
abbrev M_Mo_isStop : ev_M := (⟨"PostingShelfModel", "isStop", "(J)Z"⟩, prog_13_method_12_code, 3, (Option.some Jvm.ClassFile.FieldType.boolean), 1, 23)
abbrev M_Mo_add : ev_M := (⟨"PostingShelfModel", "add", "(I)I"⟩, prog_13_method_23_code, 3, (Option.some Jvm.ClassFile.FieldType.int), 1, 22)
abbrev M_Mo_idle : ev_M := (⟨"PostingShelfModel", "idle", "()I"⟩, prog_13_method_22_code, 3, (Option.some Jvm.ClassFile.FieldType.int), 0, 0)
abbrev M_Mo_delete : ev_M := (⟨"PostingShelfModel", "delete", "(I)I"⟩, prog_13_method_24_code, 2, (Option.some Jvm.ClassFile.FieldType.int), 1, 22)
abbrev M_Mo_commit : ev_M := (⟨"PostingShelfModel", "commit", "()I"⟩, prog_13_method_30_code, 5, (Option.some Jvm.ClassFile.FieldType.int), 1, 23)
abbrev M_Mo_documents : ev_M := (⟨"PostingShelfModel", "documents", "()I"⟩, prog_13_method_21_code, 3, (Option.some Jvm.ClassFile.FieldType.int), 0, 0)
abbrev M_Mo_write : ev_M := (⟨"PostingShelfModel", "write", "(I)I"⟩, prog_13_method_26_code, 3, (Option.some Jvm.ClassFile.FieldType.int), 0, 0)
abbrev M_Mo_happen : ev_M := (⟨"PostingShelfModel", "happen", "()V"⟩, prog_13_method_29_code, 4, none, 0, 0)
abbrev M_Mo_stop : ev_M := (⟨"PostingShelfModel", "stop", "()V"⟩, prog_13_method_25_code, 2, none, 0, 0)
abbrev M_Mo_live : ev_M := (⟨"PostingShelfModel", "live", "()I"⟩, prog_13_method_28_code, 3, (Option.some Jvm.ClassFile.FieldType.int), 0, 0)
abbrev M_Mo_merge : ev_M := (⟨"PostingShelfModel", "merge", "(I)I"⟩, prog_13_method_32_code, 5, (Option.some Jvm.ClassFile.FieldType.int), 2, 48)
abbrev M_Mo_join2 : ev_M := (⟨"PostingShelfModel", "join2", "(I)V"⟩, prog_13_method_31_code, 6, none, 1, 23)
abbrev M_Mo_copyRow : ev_M := (⟨"PostingShelfModel", "copyRow", "(II)V"⟩, prog_13_method_27_code, 4, none, 0, 0)
abbrev M_Mo_fuse : ev_M := (⟨"PostingShelfModel", "fuse", "(I)Z"⟩, prog_13_method_33_code, 2, (Option.some Jvm.ClassFile.FieldType.boolean), 0, 0)
abbrev M_Mo_restart : ev_M := (⟨"PostingShelfModel", "restart", "()Z"⟩, prog_13_method_34_code, 2, (Option.some Jvm.ClassFile.FieldType.boolean), 0, 0)
abbrev M_Mo_term : ev_M := (⟨"PostingShelfModel", "term", "(J)I"⟩, prog_13_method_36_code, 3, (Option.some Jvm.ClassFile.FieldType.int), 7, 165)
abbrev M_Mo_push : ev_M := (⟨"PostingShelfModel", "push", "(IJZ)V"⟩, prog_13_method_35_code, 5, none, 0, 0)
abbrev M_Mo_phrase : ev_M := (⟨"PostingShelfModel", "phrase", "(I)I"⟩, prog_13_method_37_code, 3, (Option.some Jvm.ClassFile.FieldType.int), 1, 24)
abbrev M_Mo_join : ev_M := (⟨"PostingShelfModel", "join", "(I)I"⟩, prog_13_method_38_code, 3, (Option.some Jvm.ClassFile.FieldType.int), 1, 24)
abbrev M_Mo_find : ev_M := (⟨"PostingShelfModel", "find", "()I"⟩, prog_13_method_43_code, 3, (Option.some Jvm.ClassFile.FieldType.int), 2, 52)
abbrev M_Mo_lookUp : ev_M := (⟨"PostingShelfModel", "lookUp", "()V"⟩, prog_13_method_42_code, 2, none, 0, 0)
abbrev M_Mo_matches : ev_M := (⟨"PostingShelfModel", "matches", "(I)Z"⟩, prog_13_method_41_code, 5, (Option.some Jvm.ClassFile.FieldType.boolean), 1, 28)
abbrev M_Mo_times : ev_M := (⟨"PostingShelfModel", "times", "(IJ)I"⟩, prog_13_method_39_code, 6, (Option.some Jvm.ClassFile.FieldType.int), 0, 0)
abbrev M_Mo_phraseIn : ev_M := (⟨"PostingShelfModel", "phraseIn", "(III)Z"⟩, prog_13_method_40_code, 9, (Option.some Jvm.ClassFile.FieldType.boolean), 0, 0)
abbrev M_Mo_rank : ev_M := (⟨"PostingShelfModel", "rank", "(I)I"⟩, prog_13_method_52_code, 4, (Option.some Jvm.ClassFile.FieldType.int), 6, 158)
abbrev M_Mo_weighAll : ev_M := (⟨"PostingShelfModel", "weighAll", "(I)V"⟩, prog_13_method_50_code, 5, none, 5, 134)
abbrev M_Mo_sum : ev_M := (⟨"PostingShelfModel", "sum", "(IZ)J"⟩, prog_13_method_48_code, 7, (Option.some Jvm.ClassFile.FieldType.long), 4, 108)
abbrev M_Mo_bound : ev_M := (⟨"PostingShelfModel", "bound", "(J)J"⟩, prog_13_method_47_code, 8, (Option.some Jvm.ClassFile.FieldType.long), 3, 81)
abbrev M_Mo_weightOf : ev_M := (⟨"PostingShelfModel", "weightOf", "(IJ)J"⟩, prog_13_method_46_code, 17, (Option.some Jvm.ClassFile.FieldType.long), 2, 45)
abbrev M_Mo_lengths : ev_M := (⟨"PostingShelfModel", "lengths", "()I"⟩, prog_13_method_45_code, 3, (Option.some Jvm.ClassFile.FieldType.int), 1, 23)
abbrev M_Mo_lengthOf : ev_M := (⟨"PostingShelfModel", "lengthOf", "(I)I"⟩, prog_13_method_44_code, 4, (Option.some Jvm.ClassFile.FieldType.int), 0, 0)
abbrev M_Mo_least : ev_M := (⟨"PostingShelfModel", "least", "(I)J"⟩, prog_13_method_49_code, 8, (Option.some Jvm.ClassFile.FieldType.long), 0, 0)
abbrev M_Mo_best : ev_M := (⟨"PostingShelfModel", "best", "(I)V"⟩, prog_13_method_51_code, 5, none, 5, 134)
abbrev M_Mo_result : ev_M := (⟨"PostingShelfModel", "result", "(I)I"⟩, prog_13_method_53_code, 2, (Option.some Jvm.ClassFile.FieldType.int), 0, 0)
abbrev M_Mo_weight : ev_M := (⟨"PostingShelfModel", "weight", "(I)I"⟩, prog_13_method_54_code, 2, (Option.some Jvm.ClassFile.FieldType.int), 0, 0)
abbrev M_Mo_weighed : ev_M := (⟨"PostingShelfModel", "weighed", "()I"⟩, prog_13_method_55_code, 1, (Option.some Jvm.ClassFile.FieldType.int), 0, 0)
abbrev M_Mo_size : ev_M := (⟨"PostingShelfModel", "size", "(I)I"⟩, prog_13_method_57_code, 4, (Option.some Jvm.ClassFile.FieldType.int), 2, 45)
abbrev M_Mo_different : ev_M := (⟨"PostingShelfModel", "different", "(I)I"⟩, prog_13_method_56_code, 8, (Option.some Jvm.ClassFile.FieldType.int), 0, 0)
abbrev M_La_law : ev_M := (⟨"PostingShelfLaw", "law", "([I)Z"⟩, code, 4, ret, 13, 288)
def ev_gw : List Cond := lw_tbl.filter ev_good
theorem ev_gw_good : ∀ w ∈ ev_gw, ev_good w = true := fun w h => (List.mem_filter.mp h).2
theorem ev_mt {w : Cond} (h : w ∈ tables_1) (hg : ev_good w = true) : w ∈ ev_gw := List.mem_filter.mpr ⟨List.mem_append_right _ h, hg⟩
theorem ev_ms {w : Cond} (h : w ∈ k2_sels lw_privs) (hg : ev_good w = true) : w ∈ ev_gw := List.mem_filter.mpr ⟨List.mem_append_left _ h, hg⟩
theorem ev_m1 {w : Cond} (h : w ∈ tables_1_1) (hg : ev_good w = true) : w ∈ ev_gw := ev_mt (List.mem_append_left _ h) hg
theorem ev_m2 {w : Cond} (h : w ∈ tables_1_2) (hg : ev_good w = true) : w ∈ ev_gw := ev_mt (List.mem_append_right _ (List.mem_append_left _ h)) hg
theorem ev_m3 {w : Cond} (h : w ∈ tables_1_3) (hg : ev_good w = true) : w ∈ ev_gw := ev_mt (List.mem_append_right _ (List.mem_append_right _ (List.mem_append_left _ h))) hg
theorem ev_m4 {w : Cond} (h : w ∈ tables_1_4) (hg : ev_good w = true) : w ∈ ev_gw := ev_mt (List.mem_append_right _ (List.mem_append_right _ (List.mem_append_right _ (List.mem_append_left _ h)))) hg
theorem ev_m5 {w : Cond} (h : w ∈ tables_1_5) (hg : ev_good w = true) : w ∈ ev_gw := ev_mt (List.mem_append_right _ (List.mem_append_right _ (List.mem_append_right _ (List.mem_append_right _ (List.mem_append_left _ h))))) hg
theorem ev_m6 {w : Cond} (h : w ∈ tables_1_6) (hg : ev_good w = true) : w ∈ ev_gw := ev_mt (List.mem_append_right _ (List.mem_append_right _ (List.mem_append_right _ (List.mem_append_right _ (List.mem_append_right _ (h)))))) hg
/-- the string constants: their places in the pool, texts, lengths, bytes -/
def ev_skey : List Nat := [62, 70, 76, 78, 80, 82, 87, 89, 98, 100, 102, 120, 122, 111]
def ev_stx : List String := ["aeiou", "sses", "ies", "s", "ss", "eed", "ed", "ing", "at", "bl", "iz", "lsz", "wxy", "y"]
def ev_sln : List Nat := [5, 4, 3, 1, 2, 3, 2, 3, 2, 2, 2, 3, 3, 1]
def ev_sby : List (List Int32) := [[97, 101, 105, 111, 117], [115, 115, 101, 115], [105, 101, 115], [115], [115, 115], [101, 101, 100], [101, 100], [105, 110, 103], [97, 116], [98, 108], [105, 122], [108, 115, 122], [119, 120, 121], [121]]
def ev_stop : List Int64 := [1, 449, 4545, 457, 207, 591, 5396, 500]
/-- what stood there before: the script (0), ArrayList's empty row (1), the row of stop words (2), the string constants (10 and on) and their bytes (40 and on), a Class object (3) -/
def ev_S (X : ev_X) (U : State) : Prop := (X.2.2.1 ≤ U.heap.size ∧ X.2.2.2.1 0 < X.2.2.1 ∧ va_X (X.2.2.2.1 0) X.2.2.2.2.1 X.2.2.2.2.2 U U.heap) ∧
  (va_Z "java/lang/String" "COMPACT_STRINGS" "Z" (.int 1) (ev_A X) U U.heap ∧ va_Zq "jdk/internal/util/Preconditions" "SIOOBE_FORMATTER" "Ljava/util/function/BiFunction;" (ev_A X) U U.heap) ∧
  (va_Z "java/util/ArrayList" "DEFAULTCAPACITY_EMPTY_ELEMENTDATA" "[Ljava/lang/Object;" (.ref (X.2.2.2.1 1)) (ev_A X) U U.heap ∧ va_T (.object "java/lang/Object") (X.2.2.2.1 1) 0 (fun _ => .null) (ev_A X) U U.heap ∧ va_O "[Ljava/lang/Object;" (X.2.2.2.1 1) (ev_A X) U U.heap) ∧
  (va_Z "PostingShelf" "STOP_WORDS" "[J" (.ref (X.2.2.2.1 2)) (ev_A X) U U.heap ∧ va_T .long (X.2.2.2.1 2) 8 (fun j => .long (ev_stop.getD j 0)) (ev_A X) U U.heap) ∧
  (vk_S 14 ev_sln ev_sby (fun i => X.2.2.2.1 (10 + i)) (fun i => X.2.2.2.1 (40 + i)) (ev_A X) U U.heap ∧ ∀ i, i < 14 → vk_R "PostingShelf$Stemmer" (ev_skey.getD i 0) (ev_stx.getD i "") (X.2.2.2.1 (10 + i)) U) ∧
  va_Mi "[Ljava/lang/Object;" (X.2.2.2.1 3) U
theorem ev_S.go {X : ev_X} {u U : State} (hvm : u.vm.Alike U.vm) (hsz : u.heap.size ≤ U.heap.size) (hq : ∀ q : Nat, q < u.heap.size → ¬ ev_A X q → U.heap[q]? = u.heap[q]?) (hr : ∀ own k tx a, vk_R own k tx a u → vk_R own k tx a U) (h : ev_S X u) : ev_S X U := by
  obtain ⟨⟨a1, a2, a3⟩, ⟨b1, b2⟩, ⟨c1, c2, c3⟩, ⟨d1, d2⟩, ⟨e1, e2⟩, f1⟩ := h
  refine ⟨⟨Nat.le_trans a1 hsz, a2, ?_⟩, ⟨(va_Z.moved hvm b1).kept hq, (va_Zq.moved hvm b2).kept hq⟩, ⟨(va_Z.moved hvm c1).kept hq, (va_T.moved hvm c2).kept hq, (va_O.moved hvm c3).kept hq⟩, ⟨(va_Z.moved hvm d1).kept hq, (va_T.moved hvm d2).kept hq⟩, ⟨(vk_S.moved hvm e1).kept hq, fun i hi => hr _ _ _ _ (e2 i hi)⟩, va_Mi.moved hvm f1⟩
  exact (va_X.moved hvm a3).kept (hq _ (Nat.lt_of_lt_of_le a2 a1) (fun z => Nat.lt_irrefl _ (Nat.lt_of_lt_of_le a2 z)))
theorem ev_S.same {X : ev_X} {u U : State} (hv : U.vm = u.vm) (hh : U.heap = u.heap) (h : ev_S X u) : ev_S X U := ev_S.go (by rw [hv]; exact Vm.Alike.refl _) (by rw [hh]; exact Nat.le_refl _) (fun q _ _ => by rw [hh]) (fun _ _ _ _ h => vk_R.same hv h) h
theorem ev_S.warm {X : ev_X} {s U : State} (hW : s.WarmedH U.vm) (hsz : s.heap.size ≤ U.heap.size) (hq : ∀ q : Nat, q < s.heap.size → ¬ ev_A X q → U.heap[q]? = s.heap[q]?) (h : ev_S X s) : ev_S X U := ev_S.go hW.alike hsz hq (fun _ _ _ _ h => vk_R.warm hW h) h
