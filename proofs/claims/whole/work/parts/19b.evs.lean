/-! rows for what stood there before: string constants, their bytes, the row of stop words -/
def ev_T (X : ev_X) (ty : FieldType) (a N : Nat) (f : Nat → Value) : Prop := ∀ U : State, ev_S X U → va_T ty a N f (ev_A X) U U.heap
def ev_isS (X : ev_X) (a i : Nat) : Prop := i < 14 ∧ a = X.2.2.2.1 (10 + i)
theorem evT_str {X : ev_X} {i : Nat} (hi : i < 14) : ev_T X .byte (X.2.2.2.1 (40 + i)) (ev_sln.getD i 0) (fun j => .int ((ev_sby.getD i []).getD j 0)) := fun U h => (h.2.2.2.2.1.1.1 i hi).2.2.2
theorem evT_stop {X : ev_X} : ev_T X .long (X.2.2.2.1 2) 8 (fun j => .long (ev_stop.getD j 0)) := fun U h => h.2.2.2.1.2
theorem evT_empty {X : ev_X} : ev_T X (.object "java/lang/Object") (X.2.2.2.1 1) 0 (fun _ => .null) := fun U h => h.2.2.1.2.1
section EvS
variable {l : Launch} {X : ev_X} {M : ev_M} {bc bs pc n : Nat} {L L' : List (Nat × Value)} {st : List Value} {F : ev_H} {Z : ev_Z} {Q : Option Value → Nat → ev_H → Prop}
theorem ev_talen {ty : FieldType} {a N : Nat} {f : Nat → Value} (hd : decode M.2.1 pc = .ok (.arraylength, 1)) (hT : ev_T X ty a N f) (k : Ev l X M bc bs (pc + 1) L (.int (nI N) :: st) n F Z) : Ev l X M bc bs pc L (.ref a :: st) n F Z :=
  fun p e R s m args below meth c H locs cells slots ls h1 h2 h3 h4 h5 h6 => va_tlen h1.1 h1.2.1 (hT s h1.2.2.2.2.2.2.2.1.2.2.1) h3 rfl hd (k p e R s m args below meth c H locs cells slots ls h1 h2 h3 h4 h5 h6)
theorem ev_tbaload {a N : Nat} {f : Nat → Value} {i v : Int32} (hd : decode M.2.1 pc = .ok (.baload, 1)) (hT : ev_T X .byte a N f) (hin : vp_in i N) (hv : f i.toNatClampNeg = .int v) (k : Ev l X M bc bs (pc + 1) L (.int v :: st) n F Z) : Ev l X M bc bs pc L (.int i :: .ref a :: st) n F Z :=
  fun p e R s m args below meth c H locs cells slots ls h1 h2 h3 h4 h5 h6 => va_tb h1.1 h1.2.1 (hT s h1.2.2.2.2.2.2.2.1.2.2.1) h3 hin hv hd (k p e R s m args below meth c H locs cells slots ls h1 h2 h3 h4 h5 h6)
theorem ev_tlaload {a N : Nat} {f : Nat → Value} {i : Int32} {v : Int64} (hd : decode M.2.1 pc = .ok (.laload, 1)) (hT : ev_T X .long a N f) (hin : vp_in i N) (hv : f i.toNatClampNeg = .long v) (k : Ev l X M bc bs (pc + 1) L (.long v :: st) n F Z) : Ev l X M bc bs pc L (.int i :: .ref a :: st) n F Z :=
  fun p e R s m args below meth c H locs cells slots ls h1 h2 h3 h4 h5 h6 => va_tl h1.1 h1.2.1 (hT s h1.2.2.2.2.2.2.2.1.2.2.1) h3 hin hv hd (k p e R s m args below meth c H locs cells slots ls h1 h2 h3 h4 h5 h6)
theorem ev_ldcS {idx : Nat} (i : Nat) (hd : decode M.2.1 pc = .ok (.ldc idx, 2)) (hi : i < 14) (hk : ev_skey.getD i 0 = idx) (hc : M.1.cls = "PostingShelf$Stemmer") (k : Ev l X M bc bs (pc + 2) L (.ref (X.2.2.2.1 (10 + i)) :: st) n F Z) : Ev l X M bc bs pc L st n F Z := by
  intro p e R s m args below meth c H locs cells slots ls h1 h2 h3 h4 h5 h6
  have hz := h1.2.2.2.2.2.2.2.1.2.2.1.2.2.2.2.1.2 i hi
  rw [hk, ← hc] at hz
  exact va_ldcS h1.1 h1.2.1 h1.2.2.2.2.2.2.1 hz hd (k p e R s m args below meth c H locs cells slots ls h1 h2 h3 h4 h5 h6)
theorem ev_getCoder {idx a i : Nat} (hd : decode M.2.1 pc = .ok (.getfield idx, 3)) (hs : ev_isS X a i) (hl : Cond.fieldLink M.1.cls idx "java/lang/String" "coder" "B" ∈ ev_gw) (k : Ev l X M bc bs (pc + 3) L (.int 0 :: st) n F Z) : Ev l X M bc bs pc L (.ref a :: st) n F Z := by
  intro p e R s m args below meth c H locs cells slots ls h1 h2 h3 h4 h5 h6
  obtain ⟨hi, rfl⟩ := hs
  exact vk_getf h1.1 h1.2.1 (h1.2.2.2.2.2.2.2.1.2.2.1.2.2.2.2.1.1.1 i hi).2.1 h3 h1.2.2.2.2.2.2.1 (h1.w hl) (fun _ h => h) hd (k p e R s m args below meth c H locs cells slots ls h1 h2 h3 h4 h5 h6)
theorem ev_getValue {idx a i : Nat} (hd : decode M.2.1 pc = .ok (.getfield idx, 3)) (hs : ev_isS X a i) (hl : Cond.fieldLink M.1.cls idx "java/lang/String" "value" "[B" ∈ ev_gw) (k : Ev l X M bc bs (pc + 3) L (.ref (X.2.2.2.1 (40 + i)) :: st) n F Z) : Ev l X M bc bs pc L (.ref a :: st) n F Z := by
  intro p e R s m args below meth c H locs cells slots ls h1 h2 h3 h4 h5 h6
  obtain ⟨hi, rfl⟩ := hs
  exact vk_getf h1.1 h1.2.1 (h1.2.2.2.2.2.2.2.1.2.2.1.2.2.2.2.1.1.1 i hi).2.2.1 h3 h1.2.2.2.2.2.2.1 (h1.w hl) (fun _ h => h) hd (k p e R s m args below meth c H locs cells slots ls h1 h2 h3 h4 h5 h6)
theorem ev_invokevirtualS {idx np b i : Nat} (M2 : ev_M) {As st0 : List Value} {bc1 bs1 bc2 bs2 : Nat} {Q2 : Option Value → Nat → ev_H → Prop} (hd : decode M.2.1 pc = .ok (.invokevirtual idx, 3)) (hlc : ev_lc M.1.cls idx M2 np) (hst : Cond.instanceMethod M2.1 ∈ ev_gw) (hsel : Cond.selects "java/lang/String" M2.1 M2.1 ∈ ev_gw) (hs : ev_isS X b i) (hn : As.length = np) (hstk : st0 = As.reverse ++ .ref b :: st) (hcat : (st.map fun v => v.category).sum ≤ 8) (hfr : M2.2.2.2.2.1 + 1 ≤ M.2.2.2.2.1) (hlo : 8 + (M2.2.2.1 + 11) + M2.2.2.2.2.2 ≤ M.2.2.2.2.2) (hb1 : bc2 + bc1 ≤ bc) (hb2 : bs2 + bs1 ≤ bs) (hM : Cal l X M2 bc1 bs1 (.ref b :: As) n F Q2)
    (k : ∀ v n2 F2, Q2 v n2 F2 → Ev l X M bc2 bs2 (pc + 3) L (v.toList ++ st) n2 F2 Z) : Ev l X M bc bs pc L st0 n F Z := by
  intro p e R s m args below meth c H locs cells slots ls h1 h2 h3 h4 h5 h6
  have hpre := ev_pre h1 h2 h3 (.ref b :: As)
  obtain ⟨hi, hbb⟩ := hs
  have hrc : ∃ cell : Cell, H[b]? = some cell ∧ cell.vm.isStatics = false ∧ s.vm.findClass "java/lang/String" = some cell.cls := by
    rw [hbb]
    exact vk_recv (adK := fun i => X.2.2.2.1 (10 + i)) (i := i) h1.2.2.2.2.2.2.2.1.2.2.1.2.2.2.2.1.1 hi h3
  refine ev_cont (mc := bc1) (ms := bs1) (rest := st) (Q2 := Q2) (a := (Value.ref b :: As).toArray) ?_ h3 (fun v n2 F2 H1 locs1 hq hR hS => k v n2 F2 hq p e R s m args below meth c H1 locs1 (cells + bc1) (slots + bs1) ls h1 hR hS h4 (by omega) (by omega))
  rcases hlc.1 with hl | ⟨host, hl⟩
  · exact va_runV (Ts := ev_gw) (n := np) (C := "java/lang/String") ⟨h1.1, h1.2.1, h1.2.2.1, h1.2.2.2.2.2.2.1, fun w hw => h1.w hw⟩ hM ⟨⟨rfl, rfl, by rw [h1.2.2.2.2.2.2.2.2.1]; exact hfr, by rw [h1.2.2.2.2.2.2.2.2.2]; exact hlo, hlc.ws h1, List.mem_cons_self, h1.w hlc.2.1, h1.w hlc.2.2.1, hlc.2.2.2.1, hlc.ps, h1.w hl⟩, h1.w hst, h1.w hsel⟩ ⟨hpre.1, hrc, hpre.2⟩ rfl hn h4.1 hstk (lv_room hcat) hd (by omega)
  · exact va_runVN (Ts := ev_gw) (n := np) (C := "java/lang/String") (host := host) ⟨h1.1, h1.2.1, h1.2.2.1, h1.2.2.2.2.2.2.1, fun w hw => h1.w hw⟩ hM ⟨⟨⟨rfl, rfl, by rw [h1.2.2.2.2.2.2.2.2.1]; exact hfr, by rw [h1.2.2.2.2.2.2.2.2.2]; exact hlo, hlc.ws h1, List.mem_cons_self⟩, h1.w hlc.2.1, h1.w hlc.2.2.1, hlc.2.2.2.1, hlc.ps, h1.w hl⟩, h1.w hst, h1.w hsel⟩ ⟨hpre.1, hrc, hpre.2⟩ rfl hn h4.1 hstk (lv_room hcat) hd (by omega)
end EvS
section EvQ
variable {l : Launch} {X : ev_X} {M : ev_M} {bc bs pc n : Nat} {L : List (Nat × Value)} {st : List Value} {F : ev_H} {Z : ev_Z}
theorem ev_getstaticQ {idx : Nat} {Cn nn dd : String} (hd : decode M.2.1 pc = .ok (.getstatic idx, 3)) (hZ : ∀ U : State, ev_S X U → va_Zq Cn nn dd (ev_A X) U U.heap) (hl : Cond.fieldLink M.1.cls idx Cn nn dd ∈ ev_gw ∨ ∃ host, Cond.fieldLinkNest M.1.cls idx Cn nn dd host ∈ ev_gw) (kn : Ev l X M bc bs (pc + 3) L (.null :: st) n F Z) (kr : ∀ t : Nat, Ev l X M bc bs (pc + 3) L (.ref t :: st) n F Z) : Ev l X M bc bs pc L st n F Z := by
  intro p e R s m args below meth c H locs cells slots ls h1 h2 h3 h4 h5 h6
  have hz := hZ s h1.2.2.2.2.2.2.2.1.2.2.1
  rcases hz with hz | ⟨t, hz⟩
  · rcases hl with hl | ⟨host, hl⟩
    · exact va_gets h1.1 h1.2.1 hz h3 h1.2.2.2.2.2.2.1 (h1.w hl) (fun _ h => h) hd (kn p e R s m args below meth c H locs cells slots ls h1 h2 h3 h4 h5 h6)
    · exact va_getsN h1.1 h1.2.1 hz h3 h1.2.2.2.2.2.2.1 (h1.w hl) (fun _ h => h) hd (kn p e R s m args below meth c H locs cells slots ls h1 h2 h3 h4 h5 h6)
  · rcases hl with hl | ⟨host, hl⟩
    · exact va_gets h1.1 h1.2.1 hz h3 h1.2.2.2.2.2.2.1 (h1.w hl) (fun _ h => h) hd (kr t p e R s m args below meth c H locs cells slots ls h1 h2 h3 h4 h5 h6)
    · exact va_getsN h1.1 h1.2.1 hz h3 h1.2.2.2.2.2.2.1 (h1.w hl) (fun _ h => h) hd (kr t p e R s m args below meth c H locs cells slots ls h1 h2 h3 h4 h5 h6)
end EvQ
