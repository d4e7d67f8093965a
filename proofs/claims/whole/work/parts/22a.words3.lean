theorem wd_433 : (Jvm.Cond.methodLink "java/util/Arrays" (319 : Nat) ({ cls := "[J", name := "clone", desc := "()Ljava/lang/Object;" } : Jvm.MethodName)) ∈ ev_gw := ev_m2 (List.mem_of_getElem? (i := 193) rfl) rfl
theorem wd_434 : (Jvm.Cond.sameMethod "[J" "java/lang/Object" "clone" "()Ljava/lang/Object;") ∈ ev_gw := ev_m2 (List.mem_of_getElem? (i := 194) rfl) rfl
theorem wd_436 : (Jvm.Cond.instanceMethod ({ cls := "java/lang/Object", name := "clone", desc := "()Ljava/lang/Object;" } : Jvm.MethodName)) ∈ ev_gw := ev_m2 (List.mem_of_getElem? (i := 196) rfl) rfl
theorem wd_437 : (Jvm.Cond.selects "[J" ({ cls := "[J", name := "clone", desc := "()Ljava/lang/Object;" } : Jvm.MethodName) ({ cls := "java/lang/Object", name := "clone", desc := "()Ljava/lang/Object;" } : Jvm.MethodName)) ∈ ev_gw := ev_m2 (List.mem_of_getElem? (i := 197) rfl) rfl
theorem wd_438 : (Jvm.Cond.castable "[J" "java/lang/Cloneable") ∈ ev_gw := ev_m2 (List.mem_of_getElem? (i := 198) rfl) rfl
theorem wd_522 : (Jvm.Cond.instanceMethod ({ cls := "java/lang/Object", name := "getClass", desc := "()Ljava/lang/Class;" } : Jvm.MethodName)) ∈ ev_gw := ev_m3 (List.mem_of_getElem? (i := 42) rfl) rfl
theorem wd_1206 : (Jvm.Cond.sameMethod "[Ljava/lang/Object;" "java/lang/Object" "getClass" "()Ljava/lang/Class;") ∈ ev_gw := ev_m6 (List.mem_of_getElem? (i := 6) rfl) rfl
theorem wd_1207 : (Jvm.Cond.selects "[Ljava/lang/Object;" ({ cls := "java/lang/Object", name := "getClass", desc := "()Ljava/lang/Class;" } : Jvm.MethodName) ({ cls := "java/lang/Object", name := "getClass", desc := "()Ljava/lang/Class;" } : Jvm.MethodName)) ∈ ev_gw := ev_m6 (List.mem_of_getElem? (i := 7) rfl) rfl
theorem wd_1208 : (Jvm.Cond.declares ({ cls := "java/lang/Object", name := "getClass", desc := "()Ljava/lang/Class;" } : Jvm.MethodName)) ∈ ev_gw := ev_m6 (List.mem_of_getElem? (i := 8) rfl) rfl
theorem wd_553 : (Jvm.Cond.constant "java/lang/Integer" (265 : Nat) (1431655765 : Int32)) ∈ ev_gw := ev_m3 (List.mem_of_getElem? (i := 73) rfl) rfl
theorem wd_554 : (Jvm.Cond.constant "java/lang/Integer" (266 : Nat) (858993459 : Int32)) ∈ ev_gw := ev_m3 (List.mem_of_getElem? (i := 74) rfl) rfl
theorem wd_555 : (Jvm.Cond.constant "java/lang/Integer" (267 : Nat) (252645135 : Int32)) ∈ ev_gw := ev_m3 (List.mem_of_getElem? (i := 75) rfl) rfl
theorem wd_160 : (Jvm.Cond.classLink "PostingShelf$Ranking" (9 : Nat) "[[I") ∈ ev_gw := ev_m1 (List.mem_of_getElem? (i := 160) rfl) rfl
