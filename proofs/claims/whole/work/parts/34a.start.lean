/-! the law's entry: what the tables and the given start say, as our judgement wants it -/
def R_law : String := "PostingShelfLaw"
def lw_P (b : Addr) (xs : List Int32) (args : Array Value) (s : State) : Prop := args = #[.ref b] ∧ s.IntsAt b xs ∧ xs.length ≤ 1536 ∧ (Jvm.Cond.and given_1 narrow_1).before args s = true
def lw_Q (_ : Array Value) (s : State) (o : Outcome) (t : State) : Prop := o = .returned (some (.int 1)) ∧ Framed s o t [] 600000 7302249
def lw_Z (below : List Frame) (a : Array Value) (s : State) : State → Prop := fun t => ∃ o, t.status = .running ∧ Ended t below o ∧ lw_Q a s o t
/-- the law's own end, with 1 on the stack, nothing written that was there before, its room as the claim has it -/
theorem lw_ret {p : Program} {l : Launch} {e : Env} {s : State} {m : MethodId} {below : List Frame} {meth : Method} {c : Code} {b : Nat} (hx : p.tables.exec = Jvm.exec) (hb : c.code = code) (hr : meth.sig.returnType = ret) (hlocks : meth.locks = false) {pc : Nat} {H : Heap} {ls : Array Slot} (hdg : decode code pc = .ok (.ireturn, 1)) : W p l e room_1 s m #[Value.ref b] below meth c H [] 600000 7302249 (lw_Z below #[Value.ref b] s) (F0 m pc ls [.int 1]) := by
  intro T hT X
  obtain ⟨fs, hret, hrun, hended, hW, hframe⟩ := X.leave (v := some (.int 1)) (hlocks := hlocks) (fun h => by rw [hr] at h; cases h)
  have hmeth' : T.vm.method? m = some meth := X.method'
  refine ⟨T.setFrames fs, ?_, .returned (some (.int 1)), hrun, hended, rfl, ⟨_, rfl⟩, hW, hframe⟩
  jvm_step X.here [X.here.top, hx, hb, hdg, hmeth', hr, ret, narrow_b1]
  (try refine ⟨rfl, ?_⟩); (try refine ⟨rfl, ?_⟩)
  first | (intro acts; rw [hret _ acts rfl rfl rfl]) | rw [hret _ _ rfl rfl rfl]
  exact Steps.refl _
/-- what holds at the law's entry (with the method's name, for our judgement asks it): the machine, the code, the tables' words (any of lw_tbl by 'hts w (by decide +kernel)'), the script of L ints xs at the cell b, what the Statement gives of the start (any of its parts by flat_of_before) -/
def lw_At (p : Program) (s : State) (m : MethodId) (meth : Method) (c : Code) (b L : Nat) (xs : Nat → Int32) : Prop :=
  p.tables.exec = Jvm.exec ∧ c.code = code ∧ meth.sig.returnType = ret ∧ c.maxLocals = 4 ∧ s.vm.findClass R_law = some m.cls ∧ (∀ w ∈ lw_tbl, w.before #[Value.ref b] s = true) ∧ va_X b L xs s s.heap ∧ b < s.heap.size ∧ meth.locks = false ∧ (Jvm.Cond.and given_1 narrow_1).before #[Value.ref b] s = true ∧ meth.name = "law"
/-- the law's end, as our judgement has it: for the claim's own call alone -/
def lwZ (X : ev_X) : ev_Z := fun R s args below t => (s.heap.size ≤ X.2.2.1 ∧ R = room_1 ∧ ∃ b, args = #[Value.ref b]) → lw_Z below args s t
theorem lw_end {l : Launch} {X : ev_X} {L : List (Nat × Value)} : ∀ bc bs n F, Ev l X M_Lw bc bs 564 L [] n F (lwZ X) := by
  intro bc bs n F
  refine ev_iconst (pc := 564) 1 d_La_law_564 (by decide) ?_
  intro p e R s m args below meth c H locs cells slots ls h1 h2 h3 h4 h5 h6
  by_cases hc : s.heap.size ≤ X.2.2.1 ∧ R = room_1 ∧ ∃ b, args = #[Value.ref b]
  · obtain ⟨hs, rfl, b, rfl⟩ := hc
    have k : W p l e room_1 s m #[Value.ref b] below meth c H [] 600000 7302249 (lw_Z below #[Value.ref b] s) (F0 m 565 ls [.int 1]) := lw_ret h1.1 h1.2.1 h1.2.2.2.1 h1.2.2.2.2.1 d_La_law_565
    have hc : cells ≤ 600000 := Nat.le_trans (Nat.le_add_right _ _) h5
    have hs2 : slots ≤ 7302249 := Nat.le_trans (Nat.le_add_right _ _) h6
    have k2 := va_forget (locs := locs) (cells := cells) (slots := slots) (fun q hq => Nat.le_trans hs (h3.2.2 q hq)) (W.widen hc hs2 k)
    intro T hT Y
    obtain ⟨t, a, z⟩ := k2 T hT Y
    exact ⟨t, a, fun _ => z⟩
  · intro T hT Y
    exact ⟨_, Steps.refl _, fun q => absurd q hc⟩
theorem BI_0 {X : ev_X} {a : Nat} {G : ev_H} (h : psZ X G a) : BI X a (a + 28) 0 (a + 48) (moH G (a + 28) 0 0 0 0 0 0 0 0 0 0 (fun _ _ => 0) (fun _ _ => 0)) := by
  refine ⟨fun _ => 1, [], [], [], 0, [], [], 0, 0, false, [], 0, fun _ => 0, 0, [], fun _ _ => 0, fun _ _ => 0, [], [], ?_, mo_mo, ⟨by omega, by omega, fun _ _ => rfl, fun g hg => by simp at hg⟩, ⟨⟨List.Perm.refl _, List.Perm.refl _, List.Pairwise.nil, fun x hx => by simp at hx⟩, fun q x hx => by simp at hx⟩, ⟨fun _ => 0, fun _ => [], peR_0 _, pd_0 _ (fun _ _ => rfl)⟩, fun j hj => absurd hj (by simp), ⟨qR_0 _, fun j x hx => by simp at hx, fun i hi => by omega⟩, fun j x hx => by simp at hx, by omega, by omega, by simp⟩
  refine ps_kp (C := fun x => 1 < x ∧ (x < a + 28 ∨ a + 48 ≤ x)) h (fun x d hx hc => ?_) (fun _ _ => rfl) (fun _ _ _ => rfl) (fun i hi => by have := h.2.2.2.2.2.2.2.2.2.2.2.1; omega) (fun g hg => by simp at hg)
  rw [mo_out (by omega)]
  exact hx
theorem lw_main {l : Launch} {X : ev_X} {n : Nat} {F : ev_H} (hL : X.2.2.2.2.1 ≤ 1536) (hn : 1 < n) : Ev l X M_Lw 15408 514834 0 [(0, .ref (X.2.2.2.1 0))] [] n F (lwZ X) := by
  refine s_La_law_0 (rc0 := 15407) (rs0 := 514825) (bc4 := 27) (bs4 := 212) (rc4 := 15380) (rs4 := 514613) (by omega) (by omega) (by omega) (by omega) (c_P_init hn eu_y) ?_
  rintro _ _ G ⟨rfl, rfl, k1, z1⟩
  refine s_La_law_7 (rs0 := n) (rc8 := 15379) (rs8 := 514584) (bc12 := 19) (bs12 := 2584) (rc12 := 15360) (rs12 := 512000) (by omega) (by omega) (by omega) (by omega) (c_Mo_init eu_y) ?_
  rintro _ _ _ ⟨rfl, rfl, rfl⟩
  have e : moH (ev_up G (n + 1 + 27) (.inr (11, [.null, .int 0, .null, .null, .null, .int 0, .null, .null, .null, .null, .null, .int 0, .int 0, .int 0, .int 0, .int 0, .null, .null, .int 0, .null, .null, .null, .int 0, .null, .null, .int 0, .null, .null, .null]))) (n + 1 + 27) 0 0 0 0 0 0 0 0 0 0 (fun _ _ => 0) (fun _ _ => 0) = moH G (n + 28) 0 0 0 0 0 0 0 0 0 0 (fun _ _ => 0) (fun _ _ => 0) := by
    funext q
    by_cases g : q < n + 28 ∨ n + 28 + 20 ≤ q
    · rw [mo_out g, mo_out g, ev_up_n (by omega)]
    · exact mo_in (by omega) (by omega)
  rw [e]
  exact s_La_law_15 (lw_loop hL (fun bc bs n F i => lw_end bc bs n F) 512 0 (n + 48) _ (by omega) (BI_0 z1))
theorem wz_0 : (Jvm.Cond.laysStatic "java/util/ArrayList" "DEFAULTCAPACITY_EMPTY_ELEMENTDATA" "[Ljava/lang/Object;") ∈ lw_tbl := List.mem_append_right _ (List.mem_append_left _ (List.mem_of_getElem? (i := 72) rfl))
theorem wz_1 : (Jvm.Cond.laysStatic "java/lang/String" "COMPACT_STRINGS" "Z") ∈ lw_tbl := List.mem_append_right _ (List.mem_append_right _ (List.mem_append_left _ (List.mem_of_getElem? (i := 19) rfl)))
theorem wz_2 : (Jvm.Cond.laysStatic "jdk/internal/util/Preconditions" "SIOOBE_FORMATTER" "Ljava/util/function/BiFunction;") ∈ lw_tbl := List.mem_append_right _ (List.mem_append_right _ (List.mem_append_left _ (List.mem_of_getElem? (i := 62) rfl)))
theorem wz_3 : (Jvm.Cond.laysStatic "PostingShelf" "STOP_WORDS" "[J") ∈ lw_tbl := List.mem_append_right _ (List.mem_append_right _ (List.mem_append_left _ (List.mem_of_getElem? (i := 179) rfl)))
theorem wz_4 : (Jvm.Cond.stringRef "PostingShelf$Stemmer" (62 : Nat) "aeiou") ∈ lw_tbl := List.mem_append_right _ (List.mem_append_right _ (List.mem_append_left _ (List.mem_of_getElem? (i := 5) rfl)))
theorem wz_5 : (Jvm.Cond.stringRef "PostingShelf$Stemmer" (70 : Nat) "sses") ∈ lw_tbl := List.mem_append_right _ (List.mem_append_right _ (List.mem_append_left _ (List.mem_of_getElem? (i := 96) rfl)))
theorem wz_6 : (Jvm.Cond.stringRef "PostingShelf$Stemmer" (76 : Nat) "ies") ∈ lw_tbl := List.mem_append_right _ (List.mem_append_right _ (List.mem_append_left _ (List.mem_of_getElem? (i := 122) rfl)))
theorem wz_7 : (Jvm.Cond.stringRef "PostingShelf$Stemmer" (78 : Nat) "s") ∈ lw_tbl := List.mem_append_right _ (List.mem_append_right _ (List.mem_append_left _ (List.mem_of_getElem? (i := 123) rfl)))
theorem wz_8 : (Jvm.Cond.stringRef "PostingShelf$Stemmer" (80 : Nat) "ss") ∈ lw_tbl := List.mem_append_right _ (List.mem_append_right _ (List.mem_append_left _ (List.mem_of_getElem? (i := 124) rfl)))
theorem wz_9 : (Jvm.Cond.stringRef "PostingShelf$Stemmer" (82 : Nat) "eed") ∈ lw_tbl := List.mem_append_right _ (List.mem_append_right _ (List.mem_append_left _ (List.mem_of_getElem? (i := 129) rfl)))
theorem wz_10 : (Jvm.Cond.stringRef "PostingShelf$Stemmer" (87 : Nat) "ed") ∈ lw_tbl := List.mem_append_right _ (List.mem_append_right _ (List.mem_append_left _ (List.mem_of_getElem? (i := 134) rfl)))
theorem wz_11 : (Jvm.Cond.stringRef "PostingShelf$Stemmer" (89 : Nat) "ing") ∈ lw_tbl := List.mem_append_right _ (List.mem_append_right _ (List.mem_append_left _ (List.mem_of_getElem? (i := 135) rfl)))
theorem wz_12 : (Jvm.Cond.stringRef "PostingShelf$Stemmer" (98 : Nat) "at") ∈ lw_tbl := List.mem_append_right _ (List.mem_append_right _ (List.mem_append_left _ (List.mem_of_getElem? (i := 144) rfl)))
theorem wz_13 : (Jvm.Cond.stringRef "PostingShelf$Stemmer" (100 : Nat) "bl") ∈ lw_tbl := List.mem_append_right _ (List.mem_append_right _ (List.mem_append_left _ (List.mem_of_getElem? (i := 145) rfl)))
theorem wz_14 : (Jvm.Cond.stringRef "PostingShelf$Stemmer" (102 : Nat) "iz") ∈ lw_tbl := List.mem_append_right _ (List.mem_append_right _ (List.mem_append_left _ (List.mem_of_getElem? (i := 146) rfl)))
theorem wz_15 : (Jvm.Cond.stringRef "PostingShelf$Stemmer" (120 : Nat) "lsz") ∈ lw_tbl := List.mem_append_right _ (List.mem_append_right _ (List.mem_append_left _ (List.mem_of_getElem? (i := 151) rfl)))
theorem wz_16 : (Jvm.Cond.stringRef "PostingShelf$Stemmer" (122 : Nat) "wxy") ∈ lw_tbl := List.mem_append_right _ (List.mem_append_right _ (List.mem_append_left _ (List.mem_of_getElem? (i := 156) rfl)))
theorem wz_17 : (Jvm.Cond.stringRef "PostingShelf$Stemmer" (111 : Nat) "y") ∈ lw_tbl := List.mem_append_right _ (List.mem_append_right _ (List.mem_append_left _ (List.mem_of_getElem? (i := 161) rfl)))
section ST
variable {s : State} {args : Array Value}
theorem lw_kn {ci : Nat} {r : vw_C} (hts : ∀ w ∈ lw_tbl, w.before args s = true) (hck : ev_ck ci r) (hin : Cond.instantiable r.1 r.2.2 ∈ ev_gw) : ∃ d : ClassId × (Nat → Nat), ∀ q, ev_cl[ci]? = some q → u_Kn s q.1 q.2.1 q.2.2 d.1 d.2 := by
  obtain ⟨cC, iS, h⟩ := u_known (ws := lw_tbl) hts (fun w hw => (List.mem_filter.mp (hck.2.1 w hw)).1) (hts _ (List.mem_filter.mp hin).1)
  refine ⟨(cC, iS), fun q hq => ?_⟩
  rw [hck.1] at hq
  cases hq
  exact h
theorem lw_kns (hts : ∀ w ∈ lw_tbl, w.before args s = true) : ∀ ci : Nat, ∃ d : ClassId × (Nat → Nat), ∀ q, ev_cl[ci]? = some q → u_Kn s q.1 q.2.1 q.2.2 d.1 d.2
  | 0 => lw_kn hts ck_0 wd_28
  | 1 => lw_kn hts ck_1 wd_36
  | 2 => lw_kn hts ck_2 wd_54
  | 3 => lw_kn hts ck_3 wd_98
  | 4 => lw_kn hts ck_4 wd_115
  | 5 => lw_kn hts ck_5 wd_134
  | 6 => lw_kn hts ck_6 wd_155
  | 7 => lw_kn hts ck_7 wd_177
  | 8 => lw_kn hts ck_8 wd_429
  | 9 => lw_kn hts ck_9 wd_606
  | 10 => lw_kn hts ck_10 wd_699
  | 11 => lw_kn hts ck_11 wd_891
  | 12 => lw_kn hts ck_12 wd_60
  | k + 13 => ⟨(0, fun _ => 0), fun q hq => by
    rw [List.getElem?_eq_none (by show 13 ≤ k + 13; omega)] at hq
    cases hq⟩
theorem ar_p {ty : FieldType} (hRA : ∀ cA, s.vm.findClass ("[" ++ ty.toString) = some cA → va_RA s cA ty) (h : (Cond.arrayClass ty).before args s = true) : ∃ cA, ArrOfT s cA ty ∧ va_RA s cA ty := by
  obtain ⟨c, k, comp, h1, h2, h3⟩ := Cond.arrayClass_spec h
  exact ⟨c, fun N z => ⟨(fun q hq => by cases hq), k, h2, comp, h3⟩, hRA c h1⟩
theorem ar_o {C : String} (h : (Cond.arrayOver (.object C)).before args s = true) : ∃ cA, ArrOfT s cA (.object C) ∧ va_RA s cA (.object C) := by
  obtain ⟨comp, c, k, h1, h2, h3, h4, h5⟩ := Cond.arrayOver_spec h
  exact ⟨c, fun N z => ⟨(fun q hq => by cases hq), k, h3, comp, h4⟩, k, comp, h3, h4, h1, h5⟩
theorem ar_a {ty : FieldType} (h : (Cond.arrayOver (.array ty)).before args s = true) : ∃ cA, ArrOfT s cA (.array ty) ∧ va_RA s cA (.array ty) := by
  obtain ⟨comp, c, k, h1, h2, h3, h4, h5⟩ := arrayOverA_spec h
  exact ⟨c, fun N z => ⟨(fun q hq => by cases hq), k, h3, comp, h4⟩, h5⟩
theorem vk_c {N : Nat} {len : List Nat} {byt : List (List Int32)} {adK adV aK aV : Nat → Nat} {A : Nat → Prop} {U : State} {H : Heap} (h : vk_S N len byt adK adV A U H) (e1 : ∀ i, i < N → aK i = adK i) (e2 : ∀ i, i < N → aV i = adV i) : vk_S N len byt aK aV A U H := by
  refine ⟨fun i hi => ?_, fun i j hi hj e => ?_⟩
  · rw [e1 i hi, e2 i hi]
    exact h.1 i hi
  · rw [e1 i hi, e1 j hj] at e
    exact h.2 i j hi hj e
def lw_tm (i : Nat) : Term := .string "PostingShelf$Stemmer" (ev_skey.getD i 0)
abbrev lw_fl : List Cond := flatC (Jvm.Cond.and given_1 narrow_1)
theorem fl_1 : ∀ i, i < 14 → Cond.exactly (lw_tm i) "java/lang/String" ∈ lw_fl := by decide +kernel
theorem fl_2 : ∀ i, i < 14 → Cond.eq (.field (lw_tm i) "java/lang/String" "coder" "B") (.int 0) ∈ lw_fl := by decide +kernel
theorem fl_3 : ∀ i, i < 14 → Cond.arrayOf (.field (lw_tm i) "java/lang/String" "value" "[B") .byte ∈ lw_fl := by decide +kernel
theorem fl_4 : ∀ i, i < 14 → Cond.eq (.length (.field (lw_tm i) "java/lang/String" "value" "[B")) (.int (Int32.ofNat (ev_sln.getD i 0))) ∈ lw_fl := by decide +kernel
theorem fl_5 : ∀ i, i < 14 → ∀ j, j < ev_sln.getD i 0 → Cond.eq (.elem (.field (lw_tm i) "java/lang/String" "value" "[B") (.int (Int32.ofNat j))) (.int ((ev_sby.getD i []).getD j 0)) ∈ lw_fl := by decide +kernel
theorem fy_0_1 : Cond.not (Cond.eq (lw_tm 0) (lw_tm 1)) ∈ lw_fl := List.mem_of_getElem? (i := 42) (by decide +kernel)
theorem fy_0_2 : Cond.not (Cond.eq (lw_tm 0) (lw_tm 2)) ∈ lw_fl := List.mem_of_getElem? (i := 50) (by decide +kernel)
theorem fy_0_3 : Cond.not (Cond.eq (lw_tm 0) (lw_tm 3)) ∈ lw_fl := List.mem_of_getElem? (i := 57) (by decide +kernel)
theorem fy_0_4 : Cond.not (Cond.eq (lw_tm 0) (lw_tm 4)) ∈ lw_fl := List.mem_of_getElem? (i := 66) (by decide +kernel)
theorem fy_0_5 : Cond.not (Cond.eq (lw_tm 0) (lw_tm 5)) ∈ lw_fl := List.mem_of_getElem? (i := 77) (by decide +kernel)
theorem fy_0_6 : Cond.not (Cond.eq (lw_tm 0) (lw_tm 6)) ∈ lw_fl := List.mem_of_getElem? (i := 88) (by decide +kernel)
theorem fy_0_7 : Cond.not (Cond.eq (lw_tm 0) (lw_tm 7)) ∈ lw_fl := List.mem_of_getElem? (i := 101) (by decide +kernel)
theorem fy_0_8 : Cond.not (Cond.eq (lw_tm 0) (lw_tm 8)) ∈ lw_fl := List.mem_of_getElem? (i := 114) (by decide +kernel)
theorem fy_0_9 : Cond.not (Cond.eq (lw_tm 0) (lw_tm 9)) ∈ lw_fl := List.mem_of_getElem? (i := 128) (by decide +kernel)
theorem fy_0_10 : Cond.not (Cond.eq (lw_tm 0) (lw_tm 10)) ∈ lw_fl := List.mem_of_getElem? (i := 143) (by decide +kernel)
theorem fy_0_11 : Cond.not (Cond.eq (lw_tm 0) (lw_tm 11)) ∈ lw_fl := List.mem_of_getElem? (i := 160) (by decide +kernel)
theorem fy_0_12 : Cond.not (Cond.eq (lw_tm 0) (lw_tm 12)) ∈ lw_fl := List.mem_of_getElem? (i := 178) (by decide +kernel)
theorem fy_0_13 : Cond.not (Cond.eq (lw_tm 0) (lw_tm 13)) ∈ lw_fl := List.mem_of_getElem? (i := 195) (by decide +kernel)
theorem fy_1_2 : Cond.not (Cond.eq (lw_tm 1) (lw_tm 2)) ∈ lw_fl := List.mem_of_getElem? (i := 51) (by decide +kernel)
theorem fy_1_3 : Cond.not (Cond.eq (lw_tm 1) (lw_tm 3)) ∈ lw_fl := List.mem_of_getElem? (i := 58) (by decide +kernel)
theorem fy_1_4 : Cond.not (Cond.eq (lw_tm 1) (lw_tm 4)) ∈ lw_fl := List.mem_of_getElem? (i := 67) (by decide +kernel)
theorem fy_1_5 : Cond.not (Cond.eq (lw_tm 1) (lw_tm 5)) ∈ lw_fl := List.mem_of_getElem? (i := 78) (by decide +kernel)
theorem fy_1_6 : Cond.not (Cond.eq (lw_tm 1) (lw_tm 6)) ∈ lw_fl := List.mem_of_getElem? (i := 89) (by decide +kernel)
theorem fy_1_7 : Cond.not (Cond.eq (lw_tm 1) (lw_tm 7)) ∈ lw_fl := List.mem_of_getElem? (i := 102) (by decide +kernel)
theorem fy_1_8 : Cond.not (Cond.eq (lw_tm 1) (lw_tm 8)) ∈ lw_fl := List.mem_of_getElem? (i := 115) (by decide +kernel)
theorem fy_1_9 : Cond.not (Cond.eq (lw_tm 1) (lw_tm 9)) ∈ lw_fl := List.mem_of_getElem? (i := 129) (by decide +kernel)
theorem fy_1_10 : Cond.not (Cond.eq (lw_tm 1) (lw_tm 10)) ∈ lw_fl := List.mem_of_getElem? (i := 144) (by decide +kernel)
theorem fy_1_11 : Cond.not (Cond.eq (lw_tm 1) (lw_tm 11)) ∈ lw_fl := List.mem_of_getElem? (i := 161) (by decide +kernel)
theorem fy_1_12 : Cond.not (Cond.eq (lw_tm 1) (lw_tm 12)) ∈ lw_fl := List.mem_of_getElem? (i := 179) (by decide +kernel)
theorem fy_1_13 : Cond.not (Cond.eq (lw_tm 1) (lw_tm 13)) ∈ lw_fl := List.mem_of_getElem? (i := 196) (by decide +kernel)
theorem fy_2_3 : Cond.not (Cond.eq (lw_tm 2) (lw_tm 3)) ∈ lw_fl := List.mem_of_getElem? (i := 59) (by decide +kernel)
theorem fy_2_4 : Cond.not (Cond.eq (lw_tm 2) (lw_tm 4)) ∈ lw_fl := List.mem_of_getElem? (i := 68) (by decide +kernel)
theorem fy_2_5 : Cond.not (Cond.eq (lw_tm 2) (lw_tm 5)) ∈ lw_fl := List.mem_of_getElem? (i := 79) (by decide +kernel)
theorem fy_2_6 : Cond.not (Cond.eq (lw_tm 2) (lw_tm 6)) ∈ lw_fl := List.mem_of_getElem? (i := 90) (by decide +kernel)
theorem fy_2_7 : Cond.not (Cond.eq (lw_tm 2) (lw_tm 7)) ∈ lw_fl := List.mem_of_getElem? (i := 103) (by decide +kernel)
theorem fy_2_8 : Cond.not (Cond.eq (lw_tm 2) (lw_tm 8)) ∈ lw_fl := List.mem_of_getElem? (i := 116) (by decide +kernel)
theorem fy_2_9 : Cond.not (Cond.eq (lw_tm 2) (lw_tm 9)) ∈ lw_fl := List.mem_of_getElem? (i := 130) (by decide +kernel)
theorem fy_2_10 : Cond.not (Cond.eq (lw_tm 2) (lw_tm 10)) ∈ lw_fl := List.mem_of_getElem? (i := 145) (by decide +kernel)
theorem fy_2_11 : Cond.not (Cond.eq (lw_tm 2) (lw_tm 11)) ∈ lw_fl := List.mem_of_getElem? (i := 162) (by decide +kernel)
theorem fy_2_12 : Cond.not (Cond.eq (lw_tm 2) (lw_tm 12)) ∈ lw_fl := List.mem_of_getElem? (i := 180) (by decide +kernel)
theorem fy_2_13 : Cond.not (Cond.eq (lw_tm 2) (lw_tm 13)) ∈ lw_fl := List.mem_of_getElem? (i := 197) (by decide +kernel)
theorem fy_3_4 : Cond.not (Cond.eq (lw_tm 3) (lw_tm 4)) ∈ lw_fl := List.mem_of_getElem? (i := 69) (by decide +kernel)
theorem fy_3_5 : Cond.not (Cond.eq (lw_tm 3) (lw_tm 5)) ∈ lw_fl := List.mem_of_getElem? (i := 80) (by decide +kernel)
theorem fy_3_6 : Cond.not (Cond.eq (lw_tm 3) (lw_tm 6)) ∈ lw_fl := List.mem_of_getElem? (i := 91) (by decide +kernel)
theorem fy_3_7 : Cond.not (Cond.eq (lw_tm 3) (lw_tm 7)) ∈ lw_fl := List.mem_of_getElem? (i := 104) (by decide +kernel)
theorem fy_3_8 : Cond.not (Cond.eq (lw_tm 3) (lw_tm 8)) ∈ lw_fl := List.mem_of_getElem? (i := 117) (by decide +kernel)
theorem fy_3_9 : Cond.not (Cond.eq (lw_tm 3) (lw_tm 9)) ∈ lw_fl := List.mem_of_getElem? (i := 131) (by decide +kernel)
theorem fy_3_10 : Cond.not (Cond.eq (lw_tm 3) (lw_tm 10)) ∈ lw_fl := List.mem_of_getElem? (i := 146) (by decide +kernel)
theorem fy_3_11 : Cond.not (Cond.eq (lw_tm 3) (lw_tm 11)) ∈ lw_fl := List.mem_of_getElem? (i := 163) (by decide +kernel)
theorem fy_3_12 : Cond.not (Cond.eq (lw_tm 3) (lw_tm 12)) ∈ lw_fl := List.mem_of_getElem? (i := 181) (by decide +kernel)
theorem fy_3_13 : Cond.not (Cond.eq (lw_tm 3) (lw_tm 13)) ∈ lw_fl := List.mem_of_getElem? (i := 198) (by decide +kernel)
theorem fy_4_5 : Cond.not (Cond.eq (lw_tm 4) (lw_tm 5)) ∈ lw_fl := List.mem_of_getElem? (i := 81) (by decide +kernel)
theorem fy_4_6 : Cond.not (Cond.eq (lw_tm 4) (lw_tm 6)) ∈ lw_fl := List.mem_of_getElem? (i := 92) (by decide +kernel)
theorem fy_4_7 : Cond.not (Cond.eq (lw_tm 4) (lw_tm 7)) ∈ lw_fl := List.mem_of_getElem? (i := 105) (by decide +kernel)
theorem fy_4_8 : Cond.not (Cond.eq (lw_tm 4) (lw_tm 8)) ∈ lw_fl := List.mem_of_getElem? (i := 118) (by decide +kernel)
theorem fy_4_9 : Cond.not (Cond.eq (lw_tm 4) (lw_tm 9)) ∈ lw_fl := List.mem_of_getElem? (i := 132) (by decide +kernel)
theorem fy_4_10 : Cond.not (Cond.eq (lw_tm 4) (lw_tm 10)) ∈ lw_fl := List.mem_of_getElem? (i := 147) (by decide +kernel)
theorem fy_4_11 : Cond.not (Cond.eq (lw_tm 4) (lw_tm 11)) ∈ lw_fl := List.mem_of_getElem? (i := 164) (by decide +kernel)
theorem fy_4_12 : Cond.not (Cond.eq (lw_tm 4) (lw_tm 12)) ∈ lw_fl := List.mem_of_getElem? (i := 182) (by decide +kernel)
theorem fy_4_13 : Cond.not (Cond.eq (lw_tm 4) (lw_tm 13)) ∈ lw_fl := List.mem_of_getElem? (i := 199) (by decide +kernel)
theorem fy_5_6 : Cond.not (Cond.eq (lw_tm 5) (lw_tm 6)) ∈ lw_fl := List.mem_of_getElem? (i := 93) (by decide +kernel)
theorem fy_5_7 : Cond.not (Cond.eq (lw_tm 5) (lw_tm 7)) ∈ lw_fl := List.mem_of_getElem? (i := 106) (by decide +kernel)
theorem fy_5_8 : Cond.not (Cond.eq (lw_tm 5) (lw_tm 8)) ∈ lw_fl := List.mem_of_getElem? (i := 119) (by decide +kernel)
theorem fy_5_9 : Cond.not (Cond.eq (lw_tm 5) (lw_tm 9)) ∈ lw_fl := List.mem_of_getElem? (i := 133) (by decide +kernel)
theorem fy_5_10 : Cond.not (Cond.eq (lw_tm 5) (lw_tm 10)) ∈ lw_fl := List.mem_of_getElem? (i := 148) (by decide +kernel)
theorem fy_5_11 : Cond.not (Cond.eq (lw_tm 5) (lw_tm 11)) ∈ lw_fl := List.mem_of_getElem? (i := 165) (by decide +kernel)
theorem fy_5_12 : Cond.not (Cond.eq (lw_tm 5) (lw_tm 12)) ∈ lw_fl := List.mem_of_getElem? (i := 183) (by decide +kernel)
theorem fy_5_13 : Cond.not (Cond.eq (lw_tm 5) (lw_tm 13)) ∈ lw_fl := List.mem_of_getElem? (i := 200) (by decide +kernel)
theorem fy_6_7 : Cond.not (Cond.eq (lw_tm 6) (lw_tm 7)) ∈ lw_fl := List.mem_of_getElem? (i := 107) (by decide +kernel)
theorem fy_6_8 : Cond.not (Cond.eq (lw_tm 6) (lw_tm 8)) ∈ lw_fl := List.mem_of_getElem? (i := 120) (by decide +kernel)
theorem fy_6_9 : Cond.not (Cond.eq (lw_tm 6) (lw_tm 9)) ∈ lw_fl := List.mem_of_getElem? (i := 134) (by decide +kernel)
theorem fy_6_10 : Cond.not (Cond.eq (lw_tm 6) (lw_tm 10)) ∈ lw_fl := List.mem_of_getElem? (i := 149) (by decide +kernel)
theorem fy_6_11 : Cond.not (Cond.eq (lw_tm 6) (lw_tm 11)) ∈ lw_fl := List.mem_of_getElem? (i := 166) (by decide +kernel)
theorem fy_6_12 : Cond.not (Cond.eq (lw_tm 6) (lw_tm 12)) ∈ lw_fl := List.mem_of_getElem? (i := 184) (by decide +kernel)
theorem fy_6_13 : Cond.not (Cond.eq (lw_tm 6) (lw_tm 13)) ∈ lw_fl := List.mem_of_getElem? (i := 201) (by decide +kernel)
theorem fy_7_8 : Cond.not (Cond.eq (lw_tm 7) (lw_tm 8)) ∈ lw_fl := List.mem_of_getElem? (i := 121) (by decide +kernel)
theorem fy_7_9 : Cond.not (Cond.eq (lw_tm 7) (lw_tm 9)) ∈ lw_fl := List.mem_of_getElem? (i := 135) (by decide +kernel)
theorem fy_7_10 : Cond.not (Cond.eq (lw_tm 7) (lw_tm 10)) ∈ lw_fl := List.mem_of_getElem? (i := 150) (by decide +kernel)
theorem fy_7_11 : Cond.not (Cond.eq (lw_tm 7) (lw_tm 11)) ∈ lw_fl := List.mem_of_getElem? (i := 167) (by decide +kernel)
theorem fy_7_12 : Cond.not (Cond.eq (lw_tm 7) (lw_tm 12)) ∈ lw_fl := List.mem_of_getElem? (i := 185) (by decide +kernel)
theorem fy_7_13 : Cond.not (Cond.eq (lw_tm 7) (lw_tm 13)) ∈ lw_fl := List.mem_of_getElem? (i := 202) (by decide +kernel)
theorem fy_8_9 : Cond.not (Cond.eq (lw_tm 8) (lw_tm 9)) ∈ lw_fl := List.mem_of_getElem? (i := 136) (by decide +kernel)
theorem fy_8_10 : Cond.not (Cond.eq (lw_tm 8) (lw_tm 10)) ∈ lw_fl := List.mem_of_getElem? (i := 151) (by decide +kernel)
theorem fy_8_11 : Cond.not (Cond.eq (lw_tm 8) (lw_tm 11)) ∈ lw_fl := List.mem_of_getElem? (i := 168) (by decide +kernel)
theorem fy_8_12 : Cond.not (Cond.eq (lw_tm 8) (lw_tm 12)) ∈ lw_fl := List.mem_of_getElem? (i := 186) (by decide +kernel)
theorem fy_8_13 : Cond.not (Cond.eq (lw_tm 8) (lw_tm 13)) ∈ lw_fl := List.mem_of_getElem? (i := 203) (by decide +kernel)
theorem fy_9_10 : Cond.not (Cond.eq (lw_tm 9) (lw_tm 10)) ∈ lw_fl := List.mem_of_getElem? (i := 152) (by decide +kernel)
theorem fy_9_11 : Cond.not (Cond.eq (lw_tm 9) (lw_tm 11)) ∈ lw_fl := List.mem_of_getElem? (i := 169) (by decide +kernel)
theorem fy_9_12 : Cond.not (Cond.eq (lw_tm 9) (lw_tm 12)) ∈ lw_fl := List.mem_of_getElem? (i := 187) (by decide +kernel)
theorem fy_9_13 : Cond.not (Cond.eq (lw_tm 9) (lw_tm 13)) ∈ lw_fl := List.mem_of_getElem? (i := 204) (by decide +kernel)
theorem fy_10_11 : Cond.not (Cond.eq (lw_tm 10) (lw_tm 11)) ∈ lw_fl := List.mem_of_getElem? (i := 170) (by decide +kernel)
theorem fy_10_12 : Cond.not (Cond.eq (lw_tm 10) (lw_tm 12)) ∈ lw_fl := List.mem_of_getElem? (i := 188) (by decide +kernel)
theorem fy_10_13 : Cond.not (Cond.eq (lw_tm 10) (lw_tm 13)) ∈ lw_fl := List.mem_of_getElem? (i := 205) (by decide +kernel)
theorem fy_11_12 : Cond.not (Cond.eq (lw_tm 11) (lw_tm 12)) ∈ lw_fl := List.mem_of_getElem? (i := 189) (by decide +kernel)
theorem fy_11_13 : Cond.not (Cond.eq (lw_tm 11) (lw_tm 13)) ∈ lw_fl := List.mem_of_getElem? (i := 206) (by decide +kernel)
theorem fy_12_13 : Cond.not (Cond.eq (lw_tm 12) (lw_tm 13)) ∈ lw_fl := List.mem_of_getElem? (i := 207) (by decide +kernel)
theorem fl_6 : ∀ i, i < 14 → ∀ j, j < 14 → i ≠ j → Cond.not (Cond.eq (lw_tm i) (lw_tm j)) ∈ lw_fl ∨ Cond.not (Cond.eq (lw_tm j) (lw_tm i)) ∈ lw_fl
  | 0, _, 0, _, h => absurd rfl h
  | 0, _, 1, _, _ => Or.inl fy_0_1
  | 0, _, 2, _, _ => Or.inl fy_0_2
  | 0, _, 3, _, _ => Or.inl fy_0_3
  | 0, _, 4, _, _ => Or.inl fy_0_4
  | 0, _, 5, _, _ => Or.inl fy_0_5
  | 0, _, 6, _, _ => Or.inl fy_0_6
  | 0, _, 7, _, _ => Or.inl fy_0_7
  | 0, _, 8, _, _ => Or.inl fy_0_8
  | 0, _, 9, _, _ => Or.inl fy_0_9
  | 0, _, 10, _, _ => Or.inl fy_0_10
  | 0, _, 11, _, _ => Or.inl fy_0_11
  | 0, _, 12, _, _ => Or.inl fy_0_12
  | 0, _, 13, _, _ => Or.inl fy_0_13
  | 1, _, 0, _, _ => Or.inr fy_0_1
  | 1, _, 1, _, h => absurd rfl h
  | 1, _, 2, _, _ => Or.inl fy_1_2
  | 1, _, 3, _, _ => Or.inl fy_1_3
  | 1, _, 4, _, _ => Or.inl fy_1_4
  | 1, _, 5, _, _ => Or.inl fy_1_5
  | 1, _, 6, _, _ => Or.inl fy_1_6
  | 1, _, 7, _, _ => Or.inl fy_1_7
  | 1, _, 8, _, _ => Or.inl fy_1_8
  | 1, _, 9, _, _ => Or.inl fy_1_9
  | 1, _, 10, _, _ => Or.inl fy_1_10
  | 1, _, 11, _, _ => Or.inl fy_1_11
  | 1, _, 12, _, _ => Or.inl fy_1_12
  | 1, _, 13, _, _ => Or.inl fy_1_13
  | 2, _, 0, _, _ => Or.inr fy_0_2
  | 2, _, 1, _, _ => Or.inr fy_1_2
  | 2, _, 2, _, h => absurd rfl h
  | 2, _, 3, _, _ => Or.inl fy_2_3
  | 2, _, 4, _, _ => Or.inl fy_2_4
  | 2, _, 5, _, _ => Or.inl fy_2_5
  | 2, _, 6, _, _ => Or.inl fy_2_6
  | 2, _, 7, _, _ => Or.inl fy_2_7
  | 2, _, 8, _, _ => Or.inl fy_2_8
  | 2, _, 9, _, _ => Or.inl fy_2_9
  | 2, _, 10, _, _ => Or.inl fy_2_10
  | 2, _, 11, _, _ => Or.inl fy_2_11
  | 2, _, 12, _, _ => Or.inl fy_2_12
  | 2, _, 13, _, _ => Or.inl fy_2_13
  | 3, _, 0, _, _ => Or.inr fy_0_3
  | 3, _, 1, _, _ => Or.inr fy_1_3
  | 3, _, 2, _, _ => Or.inr fy_2_3
  | 3, _, 3, _, h => absurd rfl h
  | 3, _, 4, _, _ => Or.inl fy_3_4
  | 3, _, 5, _, _ => Or.inl fy_3_5
  | 3, _, 6, _, _ => Or.inl fy_3_6
  | 3, _, 7, _, _ => Or.inl fy_3_7
  | 3, _, 8, _, _ => Or.inl fy_3_8
  | 3, _, 9, _, _ => Or.inl fy_3_9
  | 3, _, 10, _, _ => Or.inl fy_3_10
  | 3, _, 11, _, _ => Or.inl fy_3_11
  | 3, _, 12, _, _ => Or.inl fy_3_12
  | 3, _, 13, _, _ => Or.inl fy_3_13
  | 4, _, 0, _, _ => Or.inr fy_0_4
  | 4, _, 1, _, _ => Or.inr fy_1_4
  | 4, _, 2, _, _ => Or.inr fy_2_4
  | 4, _, 3, _, _ => Or.inr fy_3_4
  | 4, _, 4, _, h => absurd rfl h
  | 4, _, 5, _, _ => Or.inl fy_4_5
  | 4, _, 6, _, _ => Or.inl fy_4_6
  | 4, _, 7, _, _ => Or.inl fy_4_7
  | 4, _, 8, _, _ => Or.inl fy_4_8
  | 4, _, 9, _, _ => Or.inl fy_4_9
  | 4, _, 10, _, _ => Or.inl fy_4_10
  | 4, _, 11, _, _ => Or.inl fy_4_11
  | 4, _, 12, _, _ => Or.inl fy_4_12
  | 4, _, 13, _, _ => Or.inl fy_4_13
  | 5, _, 0, _, _ => Or.inr fy_0_5
  | 5, _, 1, _, _ => Or.inr fy_1_5
  | 5, _, 2, _, _ => Or.inr fy_2_5
  | 5, _, 3, _, _ => Or.inr fy_3_5
  | 5, _, 4, _, _ => Or.inr fy_4_5
  | 5, _, 5, _, h => absurd rfl h
  | 5, _, 6, _, _ => Or.inl fy_5_6
  | 5, _, 7, _, _ => Or.inl fy_5_7
  | 5, _, 8, _, _ => Or.inl fy_5_8
  | 5, _, 9, _, _ => Or.inl fy_5_9
  | 5, _, 10, _, _ => Or.inl fy_5_10
  | 5, _, 11, _, _ => Or.inl fy_5_11
  | 5, _, 12, _, _ => Or.inl fy_5_12
  | 5, _, 13, _, _ => Or.inl fy_5_13
  | 6, _, 0, _, _ => Or.inr fy_0_6
  | 6, _, 1, _, _ => Or.inr fy_1_6
  | 6, _, 2, _, _ => Or.inr fy_2_6
  | 6, _, 3, _, _ => Or.inr fy_3_6
  | 6, _, 4, _, _ => Or.inr fy_4_6
  | 6, _, 5, _, _ => Or.inr fy_5_6
  | 6, _, 6, _, h => absurd rfl h
  | 6, _, 7, _, _ => Or.inl fy_6_7
  | 6, _, 8, _, _ => Or.inl fy_6_8
  | 6, _, 9, _, _ => Or.inl fy_6_9
  | 6, _, 10, _, _ => Or.inl fy_6_10
  | 6, _, 11, _, _ => Or.inl fy_6_11
  | 6, _, 12, _, _ => Or.inl fy_6_12
  | 6, _, 13, _, _ => Or.inl fy_6_13
  | 7, _, 0, _, _ => Or.inr fy_0_7
  | 7, _, 1, _, _ => Or.inr fy_1_7
  | 7, _, 2, _, _ => Or.inr fy_2_7
  | 7, _, 3, _, _ => Or.inr fy_3_7
  | 7, _, 4, _, _ => Or.inr fy_4_7
  | 7, _, 5, _, _ => Or.inr fy_5_7
  | 7, _, 6, _, _ => Or.inr fy_6_7
  | 7, _, 7, _, h => absurd rfl h
  | 7, _, 8, _, _ => Or.inl fy_7_8
  | 7, _, 9, _, _ => Or.inl fy_7_9
  | 7, _, 10, _, _ => Or.inl fy_7_10
  | 7, _, 11, _, _ => Or.inl fy_7_11
  | 7, _, 12, _, _ => Or.inl fy_7_12
  | 7, _, 13, _, _ => Or.inl fy_7_13
  | 8, _, 0, _, _ => Or.inr fy_0_8
  | 8, _, 1, _, _ => Or.inr fy_1_8
  | 8, _, 2, _, _ => Or.inr fy_2_8
  | 8, _, 3, _, _ => Or.inr fy_3_8
  | 8, _, 4, _, _ => Or.inr fy_4_8
  | 8, _, 5, _, _ => Or.inr fy_5_8
  | 8, _, 6, _, _ => Or.inr fy_6_8
  | 8, _, 7, _, _ => Or.inr fy_7_8
  | 8, _, 8, _, h => absurd rfl h
  | 8, _, 9, _, _ => Or.inl fy_8_9
  | 8, _, 10, _, _ => Or.inl fy_8_10
  | 8, _, 11, _, _ => Or.inl fy_8_11
  | 8, _, 12, _, _ => Or.inl fy_8_12
  | 8, _, 13, _, _ => Or.inl fy_8_13
  | 9, _, 0, _, _ => Or.inr fy_0_9
  | 9, _, 1, _, _ => Or.inr fy_1_9
  | 9, _, 2, _, _ => Or.inr fy_2_9
  | 9, _, 3, _, _ => Or.inr fy_3_9
  | 9, _, 4, _, _ => Or.inr fy_4_9
  | 9, _, 5, _, _ => Or.inr fy_5_9
  | 9, _, 6, _, _ => Or.inr fy_6_9
  | 9, _, 7, _, _ => Or.inr fy_7_9
  | 9, _, 8, _, _ => Or.inr fy_8_9
  | 9, _, 9, _, h => absurd rfl h
  | 9, _, 10, _, _ => Or.inl fy_9_10
  | 9, _, 11, _, _ => Or.inl fy_9_11
  | 9, _, 12, _, _ => Or.inl fy_9_12
  | 9, _, 13, _, _ => Or.inl fy_9_13
  | 10, _, 0, _, _ => Or.inr fy_0_10
  | 10, _, 1, _, _ => Or.inr fy_1_10
  | 10, _, 2, _, _ => Or.inr fy_2_10
  | 10, _, 3, _, _ => Or.inr fy_3_10
  | 10, _, 4, _, _ => Or.inr fy_4_10
  | 10, _, 5, _, _ => Or.inr fy_5_10
  | 10, _, 6, _, _ => Or.inr fy_6_10
  | 10, _, 7, _, _ => Or.inr fy_7_10
  | 10, _, 8, _, _ => Or.inr fy_8_10
  | 10, _, 9, _, _ => Or.inr fy_9_10
  | 10, _, 10, _, h => absurd rfl h
  | 10, _, 11, _, _ => Or.inl fy_10_11
  | 10, _, 12, _, _ => Or.inl fy_10_12
  | 10, _, 13, _, _ => Or.inl fy_10_13
  | 11, _, 0, _, _ => Or.inr fy_0_11
  | 11, _, 1, _, _ => Or.inr fy_1_11
  | 11, _, 2, _, _ => Or.inr fy_2_11
  | 11, _, 3, _, _ => Or.inr fy_3_11
  | 11, _, 4, _, _ => Or.inr fy_4_11
  | 11, _, 5, _, _ => Or.inr fy_5_11
  | 11, _, 6, _, _ => Or.inr fy_6_11
  | 11, _, 7, _, _ => Or.inr fy_7_11
  | 11, _, 8, _, _ => Or.inr fy_8_11
  | 11, _, 9, _, _ => Or.inr fy_9_11
  | 11, _, 10, _, _ => Or.inr fy_10_11
  | 11, _, 11, _, h => absurd rfl h
  | 11, _, 12, _, _ => Or.inl fy_11_12
  | 11, _, 13, _, _ => Or.inl fy_11_13
  | 12, _, 0, _, _ => Or.inr fy_0_12
  | 12, _, 1, _, _ => Or.inr fy_1_12
  | 12, _, 2, _, _ => Or.inr fy_2_12
  | 12, _, 3, _, _ => Or.inr fy_3_12
  | 12, _, 4, _, _ => Or.inr fy_4_12
  | 12, _, 5, _, _ => Or.inr fy_5_12
  | 12, _, 6, _, _ => Or.inr fy_6_12
  | 12, _, 7, _, _ => Or.inr fy_7_12
  | 12, _, 8, _, _ => Or.inr fy_8_12
  | 12, _, 9, _, _ => Or.inr fy_9_12
  | 12, _, 10, _, _ => Or.inr fy_10_12
  | 12, _, 11, _, _ => Or.inr fy_11_12
  | 12, _, 12, _, h => absurd rfl h
  | 12, _, 13, _, _ => Or.inl fy_12_13
  | 13, _, 0, _, _ => Or.inr fy_0_13
  | 13, _, 1, _, _ => Or.inr fy_1_13
  | 13, _, 2, _, _ => Or.inr fy_2_13
  | 13, _, 3, _, _ => Or.inr fy_3_13
  | 13, _, 4, _, _ => Or.inr fy_4_13
  | 13, _, 5, _, _ => Or.inr fy_5_13
  | 13, _, 6, _, _ => Or.inr fy_6_13
  | 13, _, 7, _, _ => Or.inr fy_7_13
  | 13, _, 8, _, _ => Or.inr fy_8_13
  | 13, _, 9, _, _ => Or.inr fy_9_13
  | 13, _, 10, _, _ => Or.inr fy_10_13
  | 13, _, 11, _, _ => Or.inr fy_11_13
  | 13, _, 12, _, _ => Or.inr fy_12_13
  | 13, _, 13, _, h => absurd rfl h
  | i + 14, h, _, _, _ => absurd h (by omega)
  | _, _, j + 14, h, _ => absurd h (by omega)
theorem fl_7 : ∀ j, j < 8 → Cond.eq (.elem (.static "PostingShelf" "STOP_WORDS" "[J") (.int (Int32.ofNat j))) (.long (ev_stop.getD j 0)) ∈ lw_fl := by decide +kernel
theorem sr_all (hts : ∀ w ∈ lw_tbl, w.before args s = true) : ∀ i, i < 14 → (Cond.stringRef "PostingShelf$Stemmer" (ev_skey.getD i 0) (ev_stx.getD i "")).before args s = true
  | 0, _ => hts _ wz_4
  | 1, _ => hts _ wz_5
  | 2, _ => hts _ wz_6
  | 3, _ => hts _ wz_7
  | 4, _ => hts _ wz_8
  | 5, _ => hts _ wz_9
  | 6, _ => hts _ wz_10
  | 7, _ => hts _ wz_11
  | 8, _ => hts _ wz_12
  | 9, _ => hts _ wz_13
  | 10, _ => hts _ wz_14
  | 11, _ => hts _ wz_15
  | 12, _ => hts _ wz_16
  | 13, _ => hts _ wz_17
  | k + 14, h => absurd h (by omega)
theorem lw_K {b L : Nat} {xs : Nat → Int32} (hts : ∀ w ∈ lw_tbl, w.before args s = true) (hX : va_X b L xs s s.heap) (hb : b < s.heap.size) (hg : (Jvm.Cond.and given_1 narrow_1).before args s = true) : ∃ X : ev_X, ev_K X s ∧ X.2.2.1 = s.heap.size ∧ X.2.2.2.1 0 = b ∧ X.2.2.2.2.1 = L ∧ 1 < s.heap.size := by
  have hs := flat_of_before _ hg
  have hA : ∀ a : Nat, a < s.heap.size → ¬ s.heap.size ≤ a := fun a h q => by omega
  have ht2 : ∀ w ∈ ev_gw, w.before args s = true := fun w hw => hts w (List.mem_filter.mp hw).1
  obtain ⟨D, hD⟩ := Classical.axiomOfChoice (lw_kns hts)
  obtain ⟨c0, p0⟩ := ar_p (ty := .int) (fun _ h => h) (ht2 _ wd_153)
  obtain ⟨c1, p1⟩ := ar_p (ty := .long) (fun _ h => h) (ht2 _ wd_85)
  obtain ⟨c2, p2⟩ := ar_p (ty := .boolean) (fun _ h => h) (ht2 _ wd_52)
  obtain ⟨c3, p3⟩ := ar_p (ty := .char) (fun _ h => h) (ht2 _ wd_51)
  obtain ⟨c4, p4⟩ := ar_p (ty := .byte) (fun _ h => h) (ht2 _ wd_406)
  obtain ⟨c5, p5⟩ := ar_o (ht2 _ wd_542)
  obtain ⟨c6, p6⟩ := ar_a (ht2 _ wd_161)
  obtain ⟨adK, adV, hS, hE⟩ := vk_Sof (args := args) (s := s) (N := 14) (tm := lw_tm) (len := ev_sln) (byt := ev_sby) (A := fun q => s.heap.size ≤ q) (by decide +kernel) (fun i hi => hs _ (fl_1 i hi)) (fun i hi => hs _ (fl_2 i hi)) (fun i hi => hs _ (fl_3 i hi)) (fun i hi => hs _ (fl_4 i hi)) (fun i hi j hj => hs _ (fl_5 i hi j hj)) (fun i j hi hj hn => (fl_6 i hi j hj hn).imp (hs _) (hs _)) hA
  obtain ⟨a1, t1, T1⟩ := va_Tof (args := args) (s := s) (tm := .static "java/util/ArrayList" "DEFAULTCAPACITY_EMPTY_ELEMENTDATA" "[Ljava/lang/Object;") (ty := .object "java/lang/Object") (N := 0) (f := fun _ => .null) (A := fun q => s.heap.size ≤ q) (by omega) (hs _ (by decide +kernel)) (va_eqt (hs _ (by decide +kernel))) (fun j hj => absurd hj (by omega)) hA
  have O1 := va_Oof (nm := "[Ljava/lang/Object;") (A := fun q => s.heap.size ≤ q) (hs _ (by decide +kernel)) t1 hA
  have Z1 := va_Zref (A := fun q => s.heap.size ≤ q) (hts _ wz_0) (ht2 _ wd_6) t1 hA
  obtain ⟨a2, t2, T2⟩ := va_Tof (args := args) (s := s) (tm := .static "PostingShelf" "STOP_WORDS" "[J") (ty := .long) (N := 8) (f := fun j => .long (ev_stop.getD j 0)) (A := fun q => s.heap.size ≤ q) (by omega) (hs _ (by decide +kernel)) (va_eqt (hs _ (by decide +kernel))) (fun j hj => va_eqtl (hs _ (fl_7 j hj))) hA
  have Z2 := va_Zref (A := fun q => s.heap.size ≤ q) (hts _ wz_3) (ht2 _ wd_1) t2 hA
  have Z3 := va_Zof (A := fun q => s.heap.size ≤ q) (hts _ wz_1) (ht2 _ wd_13) (va_eqi (z := 1) (hs _ (by decide +kernel))) hA
  have Z4 := va_Zqof (A := fun q => s.heap.size ≤ q) (hts _ wz_2) (ht2 _ wd_17) (hs _ (by decide +kernel)) hA
  obtain ⟨mi, M1⟩ := va_Mi.of (C := "[Ljava/lang/Object;") (hs _ (by decide +kernel))
  have e1 : ∀ i, i < 14 → (fun i => if i = 0 then b else if i = 1 then a1 else if i = 2 then a2 else if i = 3 then mi else if i < 40 then adK (i - 10) else adV (i - 40)) (10 + i) = adK i := fun i hi => by
    show (if 10 + i = 0 then b else if 10 + i = 1 then a1 else if 10 + i = 2 then a2 else if 10 + i = 3 then mi else if 10 + i < 40 then adK (10 + i - 10) else adV (10 + i - 40)) = adK i
    rw [if_neg (by omega), if_neg (by omega), if_neg (by omega), if_neg (by omega), if_pos (by omega), show 10 + i - 10 = i by omega]
  have e2 : ∀ i, i < 14 → (fun i => if i = 0 then b else if i = 1 then a1 else if i = 2 then a2 else if i = 3 then mi else if i < 40 then adK (i - 10) else adV (i - 40)) (40 + i) = adV i := fun i hi => by
    show (if 40 + i = 0 then b else if 40 + i = 1 then a1 else if 40 + i = 2 then a2 else if 40 + i = 3 then mi else if 40 + i < 40 then adK (40 + i - 10) else adV (40 + i - 40)) = adV i
    rw [if_neg (by omega), if_neg (by omega), if_neg (by omega), if_neg (by omega), if_neg (by omega), show 40 + i - 40 = i by omega]
  have h1 : 1 < s.heap.size := by
    obtain ⟨x0, -, -, -, y0⟩ := (hS.1 0 (by omega)).1
    obtain ⟨x1, -, -, -, y1⟩ := (hS.1 1 (by omega)).1
    have hne : ¬ adK 0 = adK 1 := fun e => by
      have := hS.2 0 1 (by omega) (by omega) e
      omega
    omega
  refine ⟨((fun c => (D c).1, fun c => (D c).2), [(c0, .int), (c1, .long), (c2, .boolean), (c3, .char), (c4, .byte), (c5, .object "java/lang/Object"), (c6, .array .int)], s.heap.size, (fun i => if i = 0 then b else if i = 1 then a1 else if i = 2 then a2 else if i = 3 then mi else if i < 40 then adK (i - 10) else adV (i - 40)), L, xs), ⟨⟨fun c q hq => hD c q hq, ?_⟩, fun w hw => ev_use (List.mem_filter.mp hw).2 rfl (ht2 w hw), ⟨⟨Nat.le_refl _, hb, hX⟩, ⟨Z3, Z4⟩, ⟨Z1, T1, O1⟩, ⟨Z2, T2⟩, ⟨vk_c hS e1 e2, fun i hi => ?_⟩, M1⟩, rfl⟩, rfl, rfl, rfl, h1⟩
  · intro k q hk
    match k, hk with
    | 0, hk => cases hk; exact p0
    | 1, hk => cases hk; exact p1
    | 2, hk => cases hk; exact p2
    | 3, hk => cases hk; exact p3
    | 4, hk => cases hk; exact p4
    | 5, hk => cases hk; exact p5
    | 6, hk => cases hk; exact p6
  · show vk_R _ _ _ ((fun i => if i = 0 then b else if i = 1 then a1 else if i = 2 then a2 else if i = 3 then mi else if i < 40 then adK (i - 10) else adV (i - 40)) (10 + i)) s
    rw [e1 i hi]
    exact vk_R.of (sr_all hts i hi) (hE i hi)
end ST
