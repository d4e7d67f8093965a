/-! our own judgement over the kit's walk: a world is a map from addresses to cells; a method's frame is a pc, a list of known locals, a stack -/
def ev_at (X : ev_X) (q : Nat) (c : ev_C) (H : Heap) : Prop := match c with
  | .inl a => ∃ t, X.2.1[a.1]? = some t ∧ ev_tyl[a.1]? = some t.2 ∧ H[q]? = some (vp_cell t.1 a.2)
  | .inr o => va_at X.1 ev_cl (q, .inr o) H
def ev_R (X : ev_X) (n : Nat) (F : ev_H) (H : Heap) : Prop := H.size = n ∧ X.2.2.1 ≤ n ∧ ∀ q c, F q = some c → X.2.2.1 ≤ q ∧ ev_at X q c H
def ev_up (F : ev_H) (a : Nat) (c : ev_C) : ev_H := fun q => if q = a then some c else F q
theorem ev_up_s {F : ev_H} {a : Nat} {c : ev_C} : ev_up F a c a = some c := by simp [ev_up]
theorem ev_up_n {F : ev_H} {a b : Nat} {c : ev_C} (h : b ≠ a) : ev_up F a c b = F b := by simp [ev_up, h]
theorem ev_up_k {F : ev_H} {a b : Nat} {c d : ev_C} (h : b ≠ a) (hb : F b = some d) : ev_up F a c b = some d := by rw [ev_up_n h]; exact hb
def ev_tag (c : ev_C) : Bool × Nat := match c with
  | .inl a => (true, a.1)
  | .inr o => (false, o.1)
theorem ev_ne {F : ev_H} {a b : Nat} {c d : ev_C} (ha : F a = some c) (hb : F b = some d) (h : ev_tag c ≠ ev_tag d) : a ≠ b := fun e => h (by subst e; rw [ha] at hb; cases hb; rfl)
theorem ev_ne_oo {F : ev_H} {a b i j : Nat} {x y : List Value} (ha : F a = some (.inr (i, x))) (hb : F b = some (.inr (j, y))) (h : (i == j) = false) : a ≠ b := fun e => by
  subst e; rw [ha] at hb; cases hb; simp at h
theorem ev_ne_aa {F : ev_H} {a b i j : Nat} {x y : vp_A} (ha : F a = some (.inl (i, x))) (hb : F b = some (.inl (j, y))) (h : (i == j) = false) : a ≠ b := fun e => by
  subst e; rw [ha] at hb; cases hb; simp at h
theorem ev_ne_oa {F : ev_H} {a b i j : Nat} {x : List Value} {y : vp_A} (ha : F a = some (.inr (i, x))) (hb : F b = some (.inl (j, y))) : a ≠ b := fun e => by
  subst e; rw [ha] at hb; cases hb
theorem ev_ne_ao {F : ev_H} {a b i j : Nat} {x : vp_A} {y : List Value} (ha : F a = some (.inl (i, x))) (hb : F b = some (.inr (j, y))) : a ≠ b := fun e => by
  subst e; rw [ha] at hb; cases hb
theorem ev_at.kept {X : ev_X} {q : Nat} {c : ev_C} {H H1 : Heap} (h : ev_at X q c H) (hq : H1[q]? = H[q]?) : ev_at X q c H1 := by
  cases c with
  | inl a => obtain ⟨t, h1, h2, h3⟩ := h; exact ⟨t, h1, h2, by rw [hq]; exact h3⟩
  | inr o => exact va_at.kept (q := (q, .inr o)) (show va_at X.1 ev_cl (q, .inr o) H from h) hq
theorem ev_at.lt {X : ev_X} {q : Nat} {c : ev_C} {H : Heap} (h : ev_at X q c H) : q < H.size := by
  cases c with
  | inl a => obtain ⟨t, h1, h2, h3⟩ := h; exact (Array.getElem?_eq_some_iff.mp h3).1
  | inr o => exact va_at.lt (q := (q, .inr o)) h
/-- nothing lies at or above n -/
theorem ev_R.none {X : ev_X} {n : Nat} {F : ev_H} {H : Heap} (h : ev_R X n F H) {q : Nat} (hq : n ≤ q) : F q = none := by
  cases e : F q with
  | none => rfl
  | some c =>
    have h2 := (h.2.2 q c e).2.lt
    rw [h.1] at h2
    exact absurd h2 (by omega)
theorem ev_R.set {X : ev_X} {n a : Nat} {F : ev_H} {c0 c : ev_C} {H H1 : Heap} (h : ev_R X n F H) (ha : F a = some c0) (hc : ev_at X a c H1) (hz : H1.size = H.size) (oq : ∀ q : Nat, q ≠ a → H1[q]? = H[q]?) : ev_R X n (ev_up F a c) H1 := by
  refine ⟨hz.trans h.1, h.2.1, fun q d hq => ?_⟩
  by_cases e : q = a
  · subst e
    rw [ev_up_s] at hq
    cases hq
    exact ⟨(h.2.2 _ _ ha).1, hc⟩
  · rw [ev_up_n e] at hq
    exact ⟨(h.2.2 q d hq).1, (h.2.2 q d hq).2.kept (oq q e)⟩
theorem ev_R.push {X : ev_X} {n : Nat} {F : ev_H} {c : ev_C} {H H1 : Heap} (h : ev_R X n F H) (hc : ev_at X n c H1) (hz : H1.size = n + 1) (oq : ∀ q : Nat, q < n → H1[q]? = H[q]?) : ev_R X (n + 1) (ev_up F n c) H1 := by
  refine ⟨hz, Nat.le_succ_of_le h.2.1, fun q d hq => ?_⟩
  by_cases e : q = n
  · subst e
    rw [ev_up_s] at hq
    cases hq
    exact ⟨h.2.1, hc⟩
  · rw [ev_up_n e] at hq
    have hl := (h.2.2 q d hq).2.lt
    rw [h.1] at hl
    exact ⟨(h.2.2 q d hq).1, (h.2.2 q d hq).2.kept (oq q hl)⟩
/-- what is known of a state's tables and of what stood there before -/
def ev_K (X : ev_X) (U : State) : Prop := va_K X.1 ev_cl X.2.1 U ∧ (∀ w ∈ ev_gw, va_Nw w U) ∧ ev_S X U ∧ X.2.1.map Prod.snd = ev_tyl
theorem ev_tys {X : ev_X} {U : State} (h : ev_K X U) {t : Nat} {ty : FieldType} (ht : ev_tyl[t]? = some ty) : ∃ t2 : ClassId × FieldType, X.2.1[t]? = some t2 ∧ t2.2 = ty := by
  rw [← h.2.2.2, List.getElem?_map] at ht
  cases e : X.2.1[t]? with
  | none => rw [e] at ht; cases ht
  | some t2 => rw [e] at ht; exact ⟨t2, rfl, Option.some.inj ht⟩
theorem ev_K.same {X : ev_X} {u U : State} (hv : U.vm = u.vm) (hh : U.heap = u.heap) (h : ev_K X u) : ev_K X U :=
  ⟨va_K.moved (by rw [hv]; exact Vm.Alike.refl _) h.1, fun w hw => ev_use (ev_gw_good w hw) hv.symm (h.2.1 w hw), ev_S.same hv hh h.2.2.1, h.2.2.2⟩
theorem ev_K.warm {X : ev_X} {s U : State} {locs : List Loc} (hW : s.WarmedH U.vm) (hS : va_S (ev_A X) s.heap U.heap locs) (h : ev_K X s) : ev_K X U :=
  ⟨va_K.moved hW.alike h.1, fun w hw => ev_Nw_warm (ev_gw_good w hw) hW (h.2.1 w hw), ev_S.warm hW hS.1 (fun q h1 h2 => hS.2.1 q h1 h2) h.2.2.1, h.2.2.2⟩
/-- a method's end -/
def ev_Q (X : ev_X) (Q : Option Value → Nat → ev_H → Prop) : Array Value → State → Outcome → State → Prop := fun _ st oc t =>
  (∃ (v : Option Value) (n : Nat) (F : ev_H), oc = .returned v ∧ Q v n F ∧ ev_R X n F t.heap) ∧ va_F (ev_A X) st t
/-- a method's start -/
def ev_P (X : ev_X) (as : List Value) (n : Nat) (F : ev_H) : Array Value → State → Prop := fun v U => v = as.toArray ∧ ev_K X U ∧ ev_R X n F U.heap
theorem ev_P.blind {X : ev_X} {as : List Value} {n : Nat} {F : ev_H} : FrameBlind (ev_P X as n F) := fun a U g mk h => ⟨h.1, ev_K.same (u := U) (U := U.calling g mk a) rfl rfl h.2.1, h.2.2⟩
/-- a call of method M with arguments as in world F of n cells: it returns, with Q; at most bc cells of bs slots are new -/
def Cal (l : Launch) (X : ev_X) (M : ev_M) (bc bs : Nat) (as : List Value) (n : Nat) (F : ev_H) (Q : Option Value → Nat → ev_H → Prop) : Prop :=
  Met l M.1 [Cond.code M.1 M.2.1 M.2.2.1 M.2.2.2.1] { frames := M.2.2.2.2.1, cells := bc, slots := bs, locals := M.2.2.2.2.2 } (ev_P X as n F) (ev_Q X Q) bc bs (ev_A X)
/-- what doesn't change while a method runs -/
def ev_cs (X : ev_X) (M : ev_M) (p : Program) (R : Room) (s : State) (m : MethodId) (meth : Method) (c : Code) : Prop :=
  p.tables.exec = Jvm.exec ∧ c.code = M.2.1 ∧ c.maxLocals = M.2.2.1 ∧ meth.sig.returnType = M.2.2.2.1 ∧ meth.locks = false ∧ meth.name = M.1.name ∧ s.vm.findClass M.1.cls = some m.cls ∧ ev_K X s ∧ R.frames = M.2.2.2.2.1 ∧ R.locals = M.2.2.2.2.2
theorem ev_cs.w {X : ev_X} {M : ev_M} {p : Program} {R : Room} {s : State} {m : MethodId} {meth : Method} {c : Code} (h : ev_cs X M p R s m meth c) {args : Array Value} {w : Cond} (hw : w ∈ ev_gw) : w.before args s = true := ev_use (ev_gw_good w hw) rfl (h.2.2.2.2.2.2.2.1.2.1 w hw)
/-- what is to be reached at the end -/
abbrev ev_Z : Type := Room → State → Array Value → List Frame → State → Prop
def ev_mq (X : ev_X) (Q : Option Value → Nat → ev_H → Prop) : ev_Z := fun R s args below => MQ below (ev_Q X Q) args s R.cells R.slots (ev_A X)
/-- the machine in method M at pc, with known locals L, stack st, world F of n cells, room for bc more cells of bs slots: it comes to the end Z -/
def Ev (l : Launch) (X : ev_X) (M : ev_M) (bc bs pc : Nat) (L : List (Nat × Value)) (st : List Value) (n : Nat) (F : ev_H) (Z : ev_Z) : Prop :=
  ∀ (p : Program) (e : Env) (R : Room) (s : State) (m : MethodId) (args : Array Value) (below : List Frame) (meth : Method) (c : Code) (H : Heap) (locs : List Loc) (cells slots : Nat) (ls : Array Slot),
    ev_cs X M p R s m meth c → ev_R X n F H → va_S (ev_A X) s.heap H locs → lv_has ls M.2.2.1 L → cells + bc ≤ R.cells → slots + bs ≤ R.slots →
    W p l e R s m args below meth c H locs cells slots (Z R s args below) (F0 m pc ls st)
/-- any reason gives a reason: consequence -/
theorem Cal.mono {l : Launch} {X : ev_X} {M : ev_M} {bc bs : Nat} {as : List Value} {n : Nat} {F : ev_H} {Q Q' : Option Value → Nat → ev_H → Prop} (h : Cal l X M bc bs as n F Q) (hq : ∀ v n' F', Q v n' F' → Q' v n' F') : Cal l X M bc bs as n F Q' := by
  unfold Cal Met at h ⊢
  refine MetFree.mono h (fun _ _ h => h) (fun _ _ _ _ _ h => h) ?_
  rintro a st o t - ⟨⟨⟨v, n', F', h1, h2, h3⟩, h4⟩, h5⟩
  exact ⟨⟨⟨v, n', F', h1, hq _ _ _ h2, h3⟩, h4⟩, h5⟩

section EvRows
variable {l : Launch} {X : ev_X} {M : ev_M} {bc bs pc n : Nat} {L L' : List (Nat × Value)} {st : List Value} {F : ev_H} {Z : ev_Z} {Q : Option Value → Nat → ev_H → Prop}
def ev_lk (L : List (Nat × Value)) (i : Nat) : Option Value := match L with
  | [] => none
  | q :: r => if q.1 == i then some q.2 else ev_lk r i
theorem ev_lk_at {L : List (Nat × Value)} {i : Nat} {v : Value} (h : ev_lk L i = some v) {ls : Array Slot} {nL : Nat} (hl : lv_has ls nL L) : ls[i]? = some (.val v) := by
  have key : ∀ L : List (Nat × Value), ev_lk L i = some v → (i, v) ∈ L := by
    intro L
    induction L with
    | nil => intro h; simp [ev_lk] at h
    | cons q r ih =>
      intro h
      unfold ev_lk at h
      by_cases e : (q.1 == i) = true
      · rw [if_pos e] at h
        have e1 : q.1 = i := by simpa using e
        have e2 : q.2 = v := Option.some.inj h
        rw [← e1, ← e2]
        exact List.mem_cons_self
      · rw [if_neg e] at h
        exact List.mem_cons_of_mem _ (ih h)
  exact hl.2.2 (i, v) (key L h)
abbrev ev_s1 (L : List (Nat × Value)) (i : Nat) (v : Value) : List (Nat × Value) := (i, v) :: L.filter (fun q => !(q.1 == i) && !(q.1 + 1 == i && q.2.category == 2))
abbrev ev_s2 (L : List (Nat × Value)) (i : Nat) (v : Value) : List (Nat × Value) := (i, v) :: L.filter (fun q => !(q.1 == i) && (!(q.1 == i + 1) && !(q.1 + 1 == i && q.2.category == 2)))
theorem ev_iconst {i : Int} (v : Int32) (hd : decode M.2.1 pc = .ok (.iconst i, 1)) (hv : Int32.ofInt i = v) (k : Ev l X M bc bs (pc + 1) L (.int v :: st) n F Z) : Ev l X M bc bs (pc) L st n F Z :=
  fun p e R s m args below meth c H locs cells slots ls h1 h2 h3 h4 h5 h6 => lv_iconst h1.1 h1.2.1 hd hv (k p e R s m args below meth c H locs cells slots ls h1 h2 h3 h4 h5 h6)
theorem ev_bipush {i : Int} (v : Int32) (hd : decode M.2.1 pc = .ok (.bipush i, 2)) (hv : (Int8.ofInt i).toInt32 = v) (k : Ev l X M bc bs (pc + 2) L (.int v :: st) n F Z) : Ev l X M bc bs (pc) L st n F Z :=
  fun p e R s m args below meth c H locs cells slots ls h1 h2 h3 h4 h5 h6 => lv_bipush h1.1 h1.2.1 hd hv (k p e R s m args below meth c H locs cells slots ls h1 h2 h3 h4 h5 h6)
theorem ev_sipush {i : Int} (v : Int32) (hd : decode M.2.1 pc = .ok (.sipush i, 3)) (hv : (Int16.ofInt i).toInt32 = v) (k : Ev l X M bc bs (pc + 3) L (.int v :: st) n F Z) : Ev l X M bc bs (pc) L st n F Z :=
  fun p e R s m args below meth c H locs cells slots ls h1 h2 h3 h4 h5 h6 => lv_sipush h1.1 h1.2.1 hd hv (k p e R s m args below meth c H locs cells slots ls h1 h2 h3 h4 h5 h6)
theorem ev_lconst {i : Fin 2} (v : Int64) (hd : decode M.2.1 pc = .ok (.lconst i, 1)) (hv : Int64.ofNat (i : Nat) = v) (k : Ev l X M bc bs (pc + 1) L (.long v :: st) n F Z) : Ev l X M bc bs (pc) L st n F Z :=
  fun p e R s m args below meth c H locs cells slots ls h1 h2 h3 h4 h5 h6 => lv_lconst h1.1 h1.2.1 hd hv (k p e R s m args below meth c H locs cells slots ls h1 h2 h3 h4 h5 h6)
theorem ev_null  (hd : decode M.2.1 pc = .ok (.aconst_null, 1)) (k : Ev l X M bc bs (pc + 1) L (.null :: st) n F Z) : Ev l X M bc bs (pc) L st n F Z :=
  fun p e R s m args below meth c H locs cells slots ls h1 h2 h3 h4 h5 h6 => lv_null h1.1 h1.2.1 hd (k p e R s m args below meth c H locs cells slots ls h1 h2 h3 h4 h5 h6)
theorem ev_iload_n {i : Fin 4} {x : Int32} (hd : decode M.2.1 pc = .ok (.iload_n i, 1)) (hl : ev_lk L i = some (.int x)) (k : Ev l X M bc bs (pc + 1) L (.int x :: st) n F Z) : Ev l X M bc bs (pc) L st n F Z :=
  fun p e R s m args below meth c H locs cells slots ls h1 h2 h3 h4 h5 h6 => lv_iload_n h1.1 h1.2.1 hd rfl (ev_lk_at hl h4) (k p e R s m args below meth c H locs cells slots ls h1 h2 h3 h4 h5 h6)
theorem ev_iload {i : Nat} {x : Int32} (hd : decode M.2.1 pc = .ok (.iload i, 2)) (hl : ev_lk L i = some (.int x)) (k : Ev l X M bc bs (pc + 2) L (.int x :: st) n F Z) : Ev l X M bc bs (pc) L st n F Z :=
  fun p e R s m args below meth c H locs cells slots ls h1 h2 h3 h4 h5 h6 => lv_iload h1.1 h1.2.1 hd (ev_lk_at hl h4) (k p e R s m args below meth c H locs cells slots ls h1 h2 h3 h4 h5 h6)
theorem ev_lload_n {i : Fin 4} {x : Int64} (hd : decode M.2.1 pc = .ok (.lload_n i, 1)) (hl : ev_lk L i = some (.long x)) (k : Ev l X M bc bs (pc + 1) L (.long x :: st) n F Z) : Ev l X M bc bs (pc) L st n F Z :=
  fun p e R s m args below meth c H locs cells slots ls h1 h2 h3 h4 h5 h6 => lv_lload_n h1.1 h1.2.1 hd rfl (ev_lk_at hl h4) (k p e R s m args below meth c H locs cells slots ls h1 h2 h3 h4 h5 h6)
theorem ev_lload {i : Nat} {x : Int64} (hd : decode M.2.1 pc = .ok (.lload i, 2)) (hl : ev_lk L i = some (.long x)) (k : Ev l X M bc bs (pc + 2) L (.long x :: st) n F Z) : Ev l X M bc bs (pc) L st n F Z :=
  fun p e R s m args below meth c H locs cells slots ls h1 h2 h3 h4 h5 h6 => lv_lload h1.1 h1.2.1 hd (ev_lk_at hl h4) (k p e R s m args below meth c H locs cells slots ls h1 h2 h3 h4 h5 h6)
theorem ev_aload_n {i : Fin 4} {x : Nat} (hd : decode M.2.1 pc = .ok (.aload_n i, 1)) (hl : ev_lk L i = some (.ref x)) (k : Ev l X M bc bs (pc + 1) L (.ref x :: st) n F Z) : Ev l X M bc bs (pc) L st n F Z :=
  fun p e R s m args below meth c H locs cells slots ls h1 h2 h3 h4 h5 h6 => lv_aload_n h1.1 h1.2.1 hd rfl (ev_lk_at hl h4) (k p e R s m args below meth c H locs cells slots ls h1 h2 h3 h4 h5 h6)
theorem ev_aload {i : Nat} {x : Nat} (hd : decode M.2.1 pc = .ok (.aload i, 2)) (hl : ev_lk L i = some (.ref x)) (k : Ev l X M bc bs (pc + 2) L (.ref x :: st) n F Z) : Ev l X M bc bs (pc) L st n F Z :=
  fun p e R s m args below meth c H locs cells slots ls h1 h2 h3 h4 h5 h6 => lv_aload h1.1 h1.2.1 hd (ev_lk_at hl h4) (k p e R s m args below meth c H locs cells slots ls h1 h2 h3 h4 h5 h6)
theorem ev_aload_nN {i : Fin 4} (hd : decode M.2.1 pc = .ok (.aload_n i, 1)) (hl : ev_lk L i = some .null) (k : Ev l X M bc bs (pc + 1) L (.null :: st) n F Z) : Ev l X M bc bs (pc) L st n F Z :=
  fun p e R s m args below meth c H locs cells slots ls h1 h2 h3 h4 h5 h6 => lv_aload_nN h1.1 h1.2.1 hd rfl (ev_lk_at hl h4) (k p e R s m args below meth c H locs cells slots ls h1 h2 h3 h4 h5 h6)
theorem ev_aloadN {i : Nat} (hd : decode M.2.1 pc = .ok (.aload i, 2)) (hl : ev_lk L i = some .null) (k : Ev l X M bc bs (pc + 2) L (.null :: st) n F Z) : Ev l X M bc bs (pc) L st n F Z :=
  fun p e R s m args below meth c H locs cells slots ls h1 h2 h3 h4 h5 h6 => lv_aloadN h1.1 h1.2.1 hd (ev_lk_at hl h4) (k p e R s m args below meth c H locs cells slots ls h1 h2 h3 h4 h5 h6)
theorem ev_istore_n {i : Fin 4} {x : Int32} (hd : decode M.2.1 pc = .ok (.istore_n i, 1)) (hn : (i : Nat) < M.2.2.1) (ks : List Nat) (hs : lv_pick (ev_s1 L i (.int x)) ks = L') (k : Ev l X M bc bs (pc + 1) L' st n F Z) : Ev l X M bc bs (pc) L ((.int x) :: st) n F Z :=
  fun p e R s m args below meth c H locs cells slots ls h1 h2 h3 h4 h5 h6 => lv_istore_n h1.1 h1.2.1 hd rfl h4 hn rfl (fun ls2 hls => k p e R s m args below meth c H locs cells slots ls2 h1 h2 h3 (lv_sub hls ks hs) h5 h6)
theorem ev_istore {i : Nat} {x : Int32} (hd : decode M.2.1 pc = .ok (.istore i, 2)) (hn : i < M.2.2.1) (ks : List Nat) (hs : lv_pick (ev_s1 L i (.int x)) ks = L') (k : Ev l X M bc bs (pc + 2) L' st n F Z) : Ev l X M bc bs (pc) L ((.int x) :: st) n F Z :=
  fun p e R s m args below meth c H locs cells slots ls h1 h2 h3 h4 h5 h6 => lv_istore h1.1 h1.2.1 hd h4 hn rfl (fun ls2 hls => k p e R s m args below meth c H locs cells slots ls2 h1 h2 h3 (lv_sub hls ks hs) h5 h6)
theorem ev_lstore_n {i : Fin 4} {x : Int64} (hd : decode M.2.1 pc = .ok (.lstore_n i, 1)) (hn : (i : Nat) + 1 < M.2.2.1) (ks : List Nat) (hs : lv_pick (ev_s2 L i (.long x)) ks = L') (k : Ev l X M bc bs (pc + 1) L' st n F Z) : Ev l X M bc bs (pc) L ((.long x) :: st) n F Z :=
  fun p e R s m args below meth c H locs cells slots ls h1 h2 h3 h4 h5 h6 => lv_lstore_n h1.1 h1.2.1 hd rfl h4 hn rfl (fun ls2 hls => k p e R s m args below meth c H locs cells slots ls2 h1 h2 h3 (lv_sub hls ks hs) h5 h6)
theorem ev_lstore {i : Nat} {x : Int64} (hd : decode M.2.1 pc = .ok (.lstore i, 2)) (hn : i + 1 < M.2.2.1) (ks : List Nat) (hs : lv_pick (ev_s2 L i (.long x)) ks = L') (k : Ev l X M bc bs (pc + 2) L' st n F Z) : Ev l X M bc bs (pc) L ((.long x) :: st) n F Z :=
  fun p e R s m args below meth c H locs cells slots ls h1 h2 h3 h4 h5 h6 => lv_lstore h1.1 h1.2.1 hd h4 hn rfl (fun ls2 hls => k p e R s m args below meth c H locs cells slots ls2 h1 h2 h3 (lv_sub hls ks hs) h5 h6)
theorem ev_astore_n {i : Fin 4} {x : Nat} (hd : decode M.2.1 pc = .ok (.astore_n i, 1)) (hn : (i : Nat) < M.2.2.1) (ks : List Nat) (hs : lv_pick (ev_s1 L i (.ref x)) ks = L') (k : Ev l X M bc bs (pc + 1) L' st n F Z) : Ev l X M bc bs (pc) L ((.ref x) :: st) n F Z :=
  fun p e R s m args below meth c H locs cells slots ls h1 h2 h3 h4 h5 h6 => lv_astore_n h1.1 h1.2.1 hd rfl h4 hn rfl (fun ls2 hls => k p e R s m args below meth c H locs cells slots ls2 h1 h2 h3 (lv_sub hls ks hs) h5 h6)
theorem ev_astore {i : Nat} {x : Nat} (hd : decode M.2.1 pc = .ok (.astore i, 2)) (hn : i < M.2.2.1) (ks : List Nat) (hs : lv_pick (ev_s1 L i (.ref x)) ks = L') (k : Ev l X M bc bs (pc + 2) L' st n F Z) : Ev l X M bc bs (pc) L ((.ref x) :: st) n F Z :=
  fun p e R s m args below meth c H locs cells slots ls h1 h2 h3 h4 h5 h6 => lv_astore h1.1 h1.2.1 hd h4 hn rfl (fun ls2 hls => k p e R s m args below meth c H locs cells slots ls2 h1 h2 h3 (lv_sub hls ks hs) h5 h6)
theorem ev_astore_nN {i : Fin 4} (hd : decode M.2.1 pc = .ok (.astore_n i, 1)) (hn : (i : Nat) < M.2.2.1) (ks : List Nat) (hs : lv_pick (ev_s1 L i .null) ks = L') (k : Ev l X M bc bs (pc + 1) L' st n F Z) : Ev l X M bc bs (pc) L (.null :: st) n F Z :=
  fun p e R s m args below meth c H locs cells slots ls h1 h2 h3 h4 h5 h6 => lv_astore_nN h1.1 h1.2.1 hd rfl h4 hn rfl (fun ls2 hls => k p e R s m args below meth c H locs cells slots ls2 h1 h2 h3 (lv_sub hls ks hs) h5 h6)
theorem ev_astoreN {i : Nat} (hd : decode M.2.1 pc = .ok (.astore i, 2)) (hn : i < M.2.2.1) (ks : List Nat) (hs : lv_pick (ev_s1 L i .null) ks = L') (k : Ev l X M bc bs (pc + 2) L' st n F Z) : Ev l X M bc bs (pc) L (.null :: st) n F Z :=
  fun p e R s m args below meth c H locs cells slots ls h1 h2 h3 h4 h5 h6 => lv_astoreN h1.1 h1.2.1 hd h4 hn rfl (fun ls2 hls => k p e R s m args below meth c H locs cells slots ls2 h1 h2 h3 (lv_sub hls ks hs) h5 h6)
theorem ev_iinc {i : Nat} {d : Int} {x : Int32} (j : Nat) (v : Int32) (hd : decode M.2.1 pc = .ok (.iinc i d, 3)) (hj : L[j]? = some (i, .int x)) (hv : Int32.ofInt d = v) (hn : i < M.2.2.1) (ks : List Nat) (hs : lv_pick (ev_s1 L i (.int (x + v))) ks = L') (k : Ev l X M bc bs (pc + 3) L' st n F Z) : Ev l X M bc bs (pc) L st n F Z :=
  fun p e R s m args below meth c H locs cells slots ls h1 h2 h3 h4 h5 h6 => lv_iinc h1.1 h1.2.1 hd h4 hj (by rw [hv]) hn rfl (fun ls2 hls => k p e R s m args below meth c H locs cells slots ls2 h1 h2 h3 (lv_sub hls ks hs) h5 h6)
theorem ev_iadd {x y : Int32} (hd : decode M.2.1 pc = .ok (.iadd, 1)) (k : Ev l X M bc bs (pc + 1) L (.int (x + y) :: st) n F Z) : Ev l X M bc bs (pc) L (.int y :: .int x :: st) n F Z :=
  fun p e R s m args below meth c H locs cells slots ls h1 h2 h3 h4 h5 h6 => lv_iadd h1.1 h1.2.1 hd (k p e R s m args below meth c H locs cells slots ls h1 h2 h3 h4 h5 h6)
theorem ev_isub {x y : Int32} (hd : decode M.2.1 pc = .ok (.isub, 1)) (k : Ev l X M bc bs (pc + 1) L (.int (x - y) :: st) n F Z) : Ev l X M bc bs (pc) L (.int y :: .int x :: st) n F Z :=
  fun p e R s m args below meth c H locs cells slots ls h1 h2 h3 h4 h5 h6 => lv_isub h1.1 h1.2.1 hd (k p e R s m args below meth c H locs cells slots ls h1 h2 h3 h4 h5 h6)
theorem ev_imul {x y : Int32} (hd : decode M.2.1 pc = .ok (.imul, 1)) (k : Ev l X M bc bs (pc + 1) L (.int (x * y) :: st) n F Z) : Ev l X M bc bs (pc) L (.int y :: .int x :: st) n F Z :=
  fun p e R s m args below meth c H locs cells slots ls h1 h2 h3 h4 h5 h6 => lv_imul h1.1 h1.2.1 hd (k p e R s m args below meth c H locs cells slots ls h1 h2 h3 h4 h5 h6)
theorem ev_iand {x y : Int32} (hd : decode M.2.1 pc = .ok (.iand, 1)) (k : Ev l X M bc bs (pc + 1) L (.int (x &&& y) :: st) n F Z) : Ev l X M bc bs (pc) L (.int y :: .int x :: st) n F Z :=
  fun p e R s m args below meth c H locs cells slots ls h1 h2 h3 h4 h5 h6 => lv_iand h1.1 h1.2.1 hd (k p e R s m args below meth c H locs cells slots ls h1 h2 h3 h4 h5 h6)
theorem ev_ior {x y : Int32} (hd : decode M.2.1 pc = .ok (.ior, 1)) (k : Ev l X M bc bs (pc + 1) L (.int (x ||| y) :: st) n F Z) : Ev l X M bc bs (pc) L (.int y :: .int x :: st) n F Z :=
  fun p e R s m args below meth c H locs cells slots ls h1 h2 h3 h4 h5 h6 => lv_ior h1.1 h1.2.1 hd (k p e R s m args below meth c H locs cells slots ls h1 h2 h3 h4 h5 h6)
theorem ev_ixor {x y : Int32} (hd : decode M.2.1 pc = .ok (.ixor, 1)) (k : Ev l X M bc bs (pc + 1) L (.int (x ^^^ y) :: st) n F Z) : Ev l X M bc bs (pc) L (.int y :: .int x :: st) n F Z :=
  fun p e R s m args below meth c H locs cells slots ls h1 h2 h3 h4 h5 h6 => lv_ixor h1.1 h1.2.1 hd (k p e R s m args below meth c H locs cells slots ls h1 h2 h3 h4 h5 h6)
theorem ev_ishl {x y : Int32} (hd : decode M.2.1 pc = .ok (.ishl, 1)) (k : Ev l X M bc bs (pc + 1) L (.int (x <<< (y &&& 31)) :: st) n F Z) : Ev l X M bc bs (pc) L (.int y :: .int x :: st) n F Z :=
  fun p e R s m args below meth c H locs cells slots ls h1 h2 h3 h4 h5 h6 => lv_ishl h1.1 h1.2.1 hd (k p e R s m args below meth c H locs cells slots ls h1 h2 h3 h4 h5 h6)
theorem ev_ishr {x y : Int32} (hd : decode M.2.1 pc = .ok (.ishr, 1)) (k : Ev l X M bc bs (pc + 1) L (.int (x >>> (y &&& 31)) :: st) n F Z) : Ev l X M bc bs (pc) L (.int y :: .int x :: st) n F Z :=
  fun p e R s m args below meth c H locs cells slots ls h1 h2 h3 h4 h5 h6 => lv_ishr h1.1 h1.2.1 hd (k p e R s m args below meth c H locs cells slots ls h1 h2 h3 h4 h5 h6)
theorem ev_ineg {x : Int32} (hd : decode M.2.1 pc = .ok (.ineg, 1)) (k : Ev l X M bc bs (pc + 1) L (.int (-x) :: st) n F Z) : Ev l X M bc bs (pc) L (.int x :: st) n F Z :=
  fun p e R s m args below meth c H locs cells slots ls h1 h2 h3 h4 h5 h6 => lv_ineg h1.1 h1.2.1 hd (k p e R s m args below meth c H locs cells slots ls h1 h2 h3 h4 h5 h6)
theorem ev_idiv {x y : Int32} (hd : decode M.2.1 pc = .ok (.idiv, 1)) (hne : ¬ y = 0) (k : Ev l X M bc bs (pc + 1) L (.int (x / y) :: st) n F Z) : Ev l X M bc bs (pc) L (.int y :: .int x :: st) n F Z :=
  fun p e R s m args below meth c H locs cells slots ls h1 h2 h3 h4 h5 h6 => lv_idiv h1.1 h1.2.1 hd hne (k p e R s m args below meth c H locs cells slots ls h1 h2 h3 h4 h5 h6)
theorem ev_ladd {x y : Int64} (hd : decode M.2.1 pc = .ok (.ladd, 1)) (k : Ev l X M bc bs (pc + 1) L (.long (x + y) :: st) n F Z) : Ev l X M bc bs (pc) L (.long y :: .long x :: st) n F Z :=
  fun p e R s m args below meth c H locs cells slots ls h1 h2 h3 h4 h5 h6 => lv_ladd h1.1 h1.2.1 hd (k p e R s m args below meth c H locs cells slots ls h1 h2 h3 h4 h5 h6)
theorem ev_lsub {x y : Int64} (hd : decode M.2.1 pc = .ok (.lsub, 1)) (k : Ev l X M bc bs (pc + 1) L (.long (x - y) :: st) n F Z) : Ev l X M bc bs (pc) L (.long y :: .long x :: st) n F Z :=
  fun p e R s m args below meth c H locs cells slots ls h1 h2 h3 h4 h5 h6 => lv_lsub h1.1 h1.2.1 hd (k p e R s m args below meth c H locs cells slots ls h1 h2 h3 h4 h5 h6)
theorem ev_lmul {x y : Int64} (hd : decode M.2.1 pc = .ok (.lmul, 1)) (k : Ev l X M bc bs (pc + 1) L (.long (x * y) :: st) n F Z) : Ev l X M bc bs (pc) L (.long y :: .long x :: st) n F Z :=
  fun p e R s m args below meth c H locs cells slots ls h1 h2 h3 h4 h5 h6 => lv_lmul h1.1 h1.2.1 hd (k p e R s m args below meth c H locs cells slots ls h1 h2 h3 h4 h5 h6)
theorem ev_land {x y : Int64} (hd : decode M.2.1 pc = .ok (.land, 1)) (k : Ev l X M bc bs (pc + 1) L (.long (x &&& y) :: st) n F Z) : Ev l X M bc bs (pc) L (.long y :: .long x :: st) n F Z :=
  fun p e R s m args below meth c H locs cells slots ls h1 h2 h3 h4 h5 h6 => lv_land h1.1 h1.2.1 hd (k p e R s m args below meth c H locs cells slots ls h1 h2 h3 h4 h5 h6)
theorem ev_lor {x y : Int64} (hd : decode M.2.1 pc = .ok (.lor, 1)) (k : Ev l X M bc bs (pc + 1) L (.long (x ||| y) :: st) n F Z) : Ev l X M bc bs (pc) L (.long y :: .long x :: st) n F Z :=
  fun p e R s m args below meth c H locs cells slots ls h1 h2 h3 h4 h5 h6 => lv_lor h1.1 h1.2.1 hd (k p e R s m args below meth c H locs cells slots ls h1 h2 h3 h4 h5 h6)
theorem ev_lxor {x y : Int64} (hd : decode M.2.1 pc = .ok (.lxor, 1)) (k : Ev l X M bc bs (pc + 1) L (.long (x ^^^ y) :: st) n F Z) : Ev l X M bc bs (pc) L (.long y :: .long x :: st) n F Z :=
  fun p e R s m args below meth c H locs cells slots ls h1 h2 h3 h4 h5 h6 => lv_lxor h1.1 h1.2.1 hd (k p e R s m args below meth c H locs cells slots ls h1 h2 h3 h4 h5 h6)
theorem ev_ldiv {x y : Int64} (hd : decode M.2.1 pc = .ok (.ldiv, 1)) (hne : ¬ y = 0) (k : Ev l X M bc bs (pc + 1) L (.long (x / y) :: st) n F Z) : Ev l X M bc bs (pc) L (.long y :: .long x :: st) n F Z :=
  fun p e R s m args below meth c H locs cells slots ls h1 h2 h3 h4 h5 h6 => lv_ldiv h1.1 h1.2.1 hd hne (k p e R s m args below meth c H locs cells slots ls h1 h2 h3 h4 h5 h6)
theorem ev_iushr {x y : Int32} (hd : decode M.2.1 pc = .ok (.iushr, 1)) (k : Ev l X M bc bs (pc + 1) L (.int (x.toUInt32 >>> (y.toUInt32 &&& Int32.toUInt32 31)).toInt32 :: st) n F Z) : Ev l X M bc bs (pc) L (.int y :: .int x :: st) n F Z :=
  fun p e R s m args below meth c H locs cells slots ls h1 h2 h3 h4 h5 h6 => lv_iushr h1.1 h1.2.1 hd rfl (k p e R s m args below meth c H locs cells slots ls h1 h2 h3 h4 h5 h6)
theorem ev_lushr {x : Int64} {y : Int32} (hd : decode M.2.1 pc = .ok (.lushr, 1)) (k : Ev l X M bc bs (pc + 1) L (.long (x.toUInt64 >>> (y.toInt64.toUInt64 &&& Int64.toUInt64 63)).toInt64 :: st) n F Z) : Ev l X M bc bs (pc) L (.int y :: .long x :: st) n F Z :=
  fun p e R s m args below meth c H locs cells slots ls h1 h2 h3 h4 h5 h6 => lv_lushr h1.1 h1.2.1 hd rfl (k p e R s m args below meth c H locs cells slots ls h1 h2 h3 h4 h5 h6)
theorem ev_lshl {x : Int64} {y : Int32} (hd : decode M.2.1 pc = .ok (.lshl, 1)) (k : Ev l X M bc bs (pc + 1) L (.long (x <<< (y.toInt64 &&& 63)) :: st) n F Z) : Ev l X M bc bs (pc) L (.int y :: .long x :: st) n F Z :=
  fun p e R s m args below meth c H locs cells slots ls h1 h2 h3 h4 h5 h6 => lv_lshl h1.1 h1.2.1 hd rfl (k p e R s m args below meth c H locs cells slots ls h1 h2 h3 h4 h5 h6)
theorem ev_lshr {x : Int64} {y : Int32} (hd : decode M.2.1 pc = .ok (.lshr, 1)) (k : Ev l X M bc bs (pc + 1) L (.long (x >>> (y.toInt64 &&& 63)) :: st) n F Z) : Ev l X M bc bs (pc) L (.int y :: .long x :: st) n F Z :=
  fun p e R s m args below meth c H locs cells slots ls h1 h2 h3 h4 h5 h6 => lv_lshr h1.1 h1.2.1 hd rfl (k p e R s m args below meth c H locs cells slots ls h1 h2 h3 h4 h5 h6)
theorem ev_i2l {x : Int32} (hd : decode M.2.1 pc = .ok (.i2l, 1)) (k : Ev l X M bc bs (pc + 1) L (.long x.toInt64 :: st) n F Z) : Ev l X M bc bs (pc) L (.int x :: st) n F Z :=
  fun p e R s m args below meth c H locs cells slots ls h1 h2 h3 h4 h5 h6 => lv_i2l h1.1 h1.2.1 hd rfl (k p e R s m args below meth c H locs cells slots ls h1 h2 h3 h4 h5 h6)
theorem ev_l2i {x : Int64} (hd : decode M.2.1 pc = .ok (.l2i, 1)) (k : Ev l X M bc bs (pc + 1) L (.int x.toInt32 :: st) n F Z) : Ev l X M bc bs (pc) L (.long x :: st) n F Z :=
  fun p e R s m args below meth c H locs cells slots ls h1 h2 h3 h4 h5 h6 => lv_l2i h1.1 h1.2.1 hd rfl (k p e R s m args below meth c H locs cells slots ls h1 h2 h3 h4 h5 h6)
theorem ev_i2c {x : Int32} (hd : decode M.2.1 pc = .ok (.i2c, 1)) (k : Ev l X M bc bs (pc + 1) L (.int (x.toUInt32 % 65536).toInt32 :: st) n F Z) : Ev l X M bc bs (pc) L (.int x :: st) n F Z :=
  fun p e R s m args below meth c H locs cells slots ls h1 h2 h3 h4 h5 h6 => lv_i2c h1.1 h1.2.1 hd rfl (k p e R s m args below meth c H locs cells slots ls h1 h2 h3 h4 h5 h6)
theorem ev_i2b {x : Int32} (hd : decode M.2.1 pc = .ok (.i2b, 1)) (k : Ev l X M bc bs (pc + 1) L (.int x.toInt8.toInt32 :: st) n F Z) : Ev l X M bc bs (pc) L (.int x :: st) n F Z :=
  fun p e R s m args below meth c H locs cells slots ls h1 h2 h3 h4 h5 h6 => lv_i2b h1.1 h1.2.1 hd rfl (k p e R s m args below meth c H locs cells slots ls h1 h2 h3 h4 h5 h6)
theorem ev_lcmp {x y : Int64} (hd : decode M.2.1 pc = .ok (.lcmp, 1)) (k : Ev l X M bc bs (pc + 1) L (.int (lg_cmp x y) :: st) n F Z) : Ev l X M bc bs (pc) L (.long y :: .long x :: st) n F Z :=
  fun p e R s m args below meth c H locs cells slots ls h1 h2 h3 h4 h5 h6 => W.lcmp h1.1 h1.2.1 hd (k p e R s m args below meth c H locs cells slots ls h1 h2 h3 h4 h5 h6)
theorem ev_dup {a : Value} (hd : decode M.2.1 pc = .ok (.dup, 1)) (ha : a.category = 1) (k : Ev l X M bc bs (pc + 1) L (a :: a :: st) n F Z) : Ev l X M bc bs (pc) L (a :: st) n F Z :=
  fun p e R s m args below meth c H locs cells slots ls h1 h2 h3 h4 h5 h6 => lv_dup h1.1 h1.2.1 hd ha (k p e R s m args below meth c H locs cells slots ls h1 h2 h3 h4 h5 h6)
theorem ev_pop {a : Value} (hd : decode M.2.1 pc = .ok (.pop, 1)) (ha : a.category = 1) (k : Ev l X M bc bs (pc + 1) L st n F Z) : Ev l X M bc bs (pc) L (a :: st) n F Z :=
  fun p e R s m args below meth c H locs cells slots ls h1 h2 h3 h4 h5 h6 => lv_pop h1.1 h1.2.1 hd ha (k p e R s m args below meth c H locs cells slots ls h1 h2 h3 h4 h5 h6)
theorem ev_dup_x1 {a b : Value} (hd : decode M.2.1 pc = .ok (.dup_x1, 1)) (ha : a.category = 1) (hb : b.category = 1) (k : Ev l X M bc bs (pc + 1) L (a :: b :: a :: st) n F Z) : Ev l X M bc bs (pc) L (a :: b :: st) n F Z :=
  fun p e R s m args below meth c H locs cells slots ls h1 h2 h3 h4 h5 h6 => lv_dup_x1 h1.1 h1.2.1 hd ha hb (k p e R s m args below meth c H locs cells slots ls h1 h2 h3 h4 h5 h6)
theorem ev_dup_x2 {a b d : Value} (hd : decode M.2.1 pc = .ok (.dup_x2, 1)) (ha : a.category = 1) (hb : b.category = 1) (hd2 : d.category = 1) (k : Ev l X M bc bs (pc + 1) L (a :: b :: d :: a :: st) n F Z) : Ev l X M bc bs (pc) L (a :: b :: d :: st) n F Z :=
  fun p e R s m args below meth c H locs cells slots ls h1 h2 h3 h4 h5 h6 => lv_dup_x2 h1.1 h1.2.1 hd ha hb hd2 (k p e R s m args below meth c H locs cells slots ls h1 h2 h3 h4 h5 h6)
theorem ev_dup2_11 {a b : Value} (hd : decode M.2.1 pc = .ok (.dup2, 1)) (ha : a.category = 1) (hb : b.category = 1) (k : Ev l X M bc bs (pc + 1) L (a :: b :: a :: b :: st) n F Z) : Ev l X M bc bs (pc) L (a :: b :: st) n F Z :=
  fun p e R s m args below meth c H locs cells slots ls h1 h2 h3 h4 h5 h6 => lv_dup2_11 h1.1 h1.2.1 hd ha hb (k p e R s m args below meth c H locs cells slots ls h1 h2 h3 h4 h5 h6)
theorem ev_if_eq {x : Int32} {off : Int} (tgt : Nat) (hd : decode M.2.1 pc = .ok (.ifCond .eq off, 3)) (ht : (pc : Int) + off = (tgt : Int)) (kt : x = 0 → Ev l X M bc bs (tgt) L st n F Z) (kf : ¬ x = 0 → Ev l X M bc bs (pc + 3) L st n F Z) : Ev l X M bc bs (pc) L (.int x :: st) n F Z :=
  fun p e R s m args below meth c H locs cells slots ls h1 h2 h3 h4 h5 h6 => lv_if_eq h1.1 h1.2.1 hd ht (fun hc => kt hc p e R s m args below meth c H locs cells slots ls h1 h2 h3 h4 h5 h6) (fun hc => kf hc p e R s m args below meth c H locs cells slots ls h1 h2 h3 h4 h5 h6)
theorem ev_if_ne {x : Int32} {off : Int} (tgt : Nat) (hd : decode M.2.1 pc = .ok (.ifCond .ne off, 3)) (ht : (pc : Int) + off = (tgt : Int)) (kt : ¬ x = 0 → Ev l X M bc bs (tgt) L st n F Z) (kf : x = 0 → Ev l X M bc bs (pc + 3) L st n F Z) : Ev l X M bc bs (pc) L (.int x :: st) n F Z :=
  fun p e R s m args below meth c H locs cells slots ls h1 h2 h3 h4 h5 h6 => lv_if_ne h1.1 h1.2.1 hd ht (fun hc => kt hc p e R s m args below meth c H locs cells slots ls h1 h2 h3 h4 h5 h6) (fun hc => kf hc p e R s m args below meth c H locs cells slots ls h1 h2 h3 h4 h5 h6)
theorem ev_if_lt {x : Int32} {off : Int} (tgt : Nat) (hd : decode M.2.1 pc = .ok (.ifCond .lt off, 3)) (ht : (pc : Int) + off = (tgt : Int)) (kt : x < 0 → Ev l X M bc bs (tgt) L st n F Z) (kf : ¬ x < 0 → Ev l X M bc bs (pc + 3) L st n F Z) : Ev l X M bc bs (pc) L (.int x :: st) n F Z :=
  fun p e R s m args below meth c H locs cells slots ls h1 h2 h3 h4 h5 h6 => lv_if_lt h1.1 h1.2.1 hd ht (fun hc => kt hc p e R s m args below meth c H locs cells slots ls h1 h2 h3 h4 h5 h6) (fun hc => kf hc p e R s m args below meth c H locs cells slots ls h1 h2 h3 h4 h5 h6)
theorem ev_if_ge {x : Int32} {off : Int} (tgt : Nat) (hd : decode M.2.1 pc = .ok (.ifCond .ge off, 3)) (ht : (pc : Int) + off = (tgt : Int)) (kt : 0 ≤ x → Ev l X M bc bs (tgt) L st n F Z) (kf : ¬ 0 ≤ x → Ev l X M bc bs (pc + 3) L st n F Z) : Ev l X M bc bs (pc) L (.int x :: st) n F Z :=
  fun p e R s m args below meth c H locs cells slots ls h1 h2 h3 h4 h5 h6 => lv_if_ge h1.1 h1.2.1 hd ht (fun hc => kt hc p e R s m args below meth c H locs cells slots ls h1 h2 h3 h4 h5 h6) (fun hc => kf hc p e R s m args below meth c H locs cells slots ls h1 h2 h3 h4 h5 h6)
theorem ev_if_gt {x : Int32} {off : Int} (tgt : Nat) (hd : decode M.2.1 pc = .ok (.ifCond .gt off, 3)) (ht : (pc : Int) + off = (tgt : Int)) (kt : 0 < x → Ev l X M bc bs (tgt) L st n F Z) (kf : ¬ 0 < x → Ev l X M bc bs (pc + 3) L st n F Z) : Ev l X M bc bs (pc) L (.int x :: st) n F Z :=
  fun p e R s m args below meth c H locs cells slots ls h1 h2 h3 h4 h5 h6 => lv_if_gt h1.1 h1.2.1 hd ht (fun hc => kt hc p e R s m args below meth c H locs cells slots ls h1 h2 h3 h4 h5 h6) (fun hc => kf hc p e R s m args below meth c H locs cells slots ls h1 h2 h3 h4 h5 h6)
theorem ev_if_le {x : Int32} {off : Int} (tgt : Nat) (hd : decode M.2.1 pc = .ok (.ifCond .le off, 3)) (ht : (pc : Int) + off = (tgt : Int)) (kt : x ≤ 0 → Ev l X M bc bs (tgt) L st n F Z) (kf : ¬ x ≤ 0 → Ev l X M bc bs (pc + 3) L st n F Z) : Ev l X M bc bs (pc) L (.int x :: st) n F Z :=
  fun p e R s m args below meth c H locs cells slots ls h1 h2 h3 h4 h5 h6 => lv_if_le h1.1 h1.2.1 hd ht (fun hc => kt hc p e R s m args below meth c H locs cells slots ls h1 h2 h3 h4 h5 h6) (fun hc => kf hc p e R s m args below meth c H locs cells slots ls h1 h2 h3 h4 h5 h6)
theorem ev_icmp_eq {x y : Int32} {off : Int} (tgt : Nat) (hd : decode M.2.1 pc = .ok (.if_icmp .eq off, 3)) (ht : (pc : Int) + off = (tgt : Int)) (kt : x = y → Ev l X M bc bs (tgt) L st n F Z) (kf : ¬ x = y → Ev l X M bc bs (pc + 3) L st n F Z) : Ev l X M bc bs (pc) L (.int y :: .int x :: st) n F Z :=
  fun p e R s m args below meth c H locs cells slots ls h1 h2 h3 h4 h5 h6 => lv_icmp_eq h1.1 h1.2.1 hd ht (fun hc => kt hc p e R s m args below meth c H locs cells slots ls h1 h2 h3 h4 h5 h6) (fun hc => kf hc p e R s m args below meth c H locs cells slots ls h1 h2 h3 h4 h5 h6)
theorem ev_icmp_ne {x y : Int32} {off : Int} (tgt : Nat) (hd : decode M.2.1 pc = .ok (.if_icmp .ne off, 3)) (ht : (pc : Int) + off = (tgt : Int)) (kt : ¬ x = y → Ev l X M bc bs (tgt) L st n F Z) (kf : x = y → Ev l X M bc bs (pc + 3) L st n F Z) : Ev l X M bc bs (pc) L (.int y :: .int x :: st) n F Z :=
  fun p e R s m args below meth c H locs cells slots ls h1 h2 h3 h4 h5 h6 => lv_icmp_ne h1.1 h1.2.1 hd ht (fun hc => kt hc p e R s m args below meth c H locs cells slots ls h1 h2 h3 h4 h5 h6) (fun hc => kf hc p e R s m args below meth c H locs cells slots ls h1 h2 h3 h4 h5 h6)
theorem ev_icmp_lt {x y : Int32} {off : Int} (tgt : Nat) (hd : decode M.2.1 pc = .ok (.if_icmp .lt off, 3)) (ht : (pc : Int) + off = (tgt : Int)) (kt : x < y → Ev l X M bc bs (tgt) L st n F Z) (kf : ¬ x < y → Ev l X M bc bs (pc + 3) L st n F Z) : Ev l X M bc bs (pc) L (.int y :: .int x :: st) n F Z :=
  fun p e R s m args below meth c H locs cells slots ls h1 h2 h3 h4 h5 h6 => lv_icmp_lt h1.1 h1.2.1 hd ht (fun hc => kt hc p e R s m args below meth c H locs cells slots ls h1 h2 h3 h4 h5 h6) (fun hc => kf hc p e R s m args below meth c H locs cells slots ls h1 h2 h3 h4 h5 h6)
theorem ev_icmp_ge {x y : Int32} {off : Int} (tgt : Nat) (hd : decode M.2.1 pc = .ok (.if_icmp .ge off, 3)) (ht : (pc : Int) + off = (tgt : Int)) (kt : y ≤ x → Ev l X M bc bs (tgt) L st n F Z) (kf : ¬ y ≤ x → Ev l X M bc bs (pc + 3) L st n F Z) : Ev l X M bc bs (pc) L (.int y :: .int x :: st) n F Z :=
  fun p e R s m args below meth c H locs cells slots ls h1 h2 h3 h4 h5 h6 => lv_icmp_ge h1.1 h1.2.1 hd ht (fun hc => kt hc p e R s m args below meth c H locs cells slots ls h1 h2 h3 h4 h5 h6) (fun hc => kf hc p e R s m args below meth c H locs cells slots ls h1 h2 h3 h4 h5 h6)
theorem ev_icmp_gt {x y : Int32} {off : Int} (tgt : Nat) (hd : decode M.2.1 pc = .ok (.if_icmp .gt off, 3)) (ht : (pc : Int) + off = (tgt : Int)) (kt : y < x → Ev l X M bc bs (tgt) L st n F Z) (kf : ¬ y < x → Ev l X M bc bs (pc + 3) L st n F Z) : Ev l X M bc bs (pc) L (.int y :: .int x :: st) n F Z :=
  fun p e R s m args below meth c H locs cells slots ls h1 h2 h3 h4 h5 h6 => lv_icmp_gt h1.1 h1.2.1 hd ht (fun hc => kt hc p e R s m args below meth c H locs cells slots ls h1 h2 h3 h4 h5 h6) (fun hc => kf hc p e R s m args below meth c H locs cells slots ls h1 h2 h3 h4 h5 h6)
theorem ev_icmp_le {x y : Int32} {off : Int} (tgt : Nat) (hd : decode M.2.1 pc = .ok (.if_icmp .le off, 3)) (ht : (pc : Int) + off = (tgt : Int)) (kt : x ≤ y → Ev l X M bc bs (tgt) L st n F Z) (kf : ¬ x ≤ y → Ev l X M bc bs (pc + 3) L st n F Z) : Ev l X M bc bs (pc) L (.int y :: .int x :: st) n F Z :=
  fun p e R s m args below meth c H locs cells slots ls h1 h2 h3 h4 h5 h6 => lv_icmp_le h1.1 h1.2.1 hd ht (fun hc => kt hc p e R s m args below meth c H locs cells slots ls h1 h2 h3 h4 h5 h6) (fun hc => kf hc p e R s m args below meth c H locs cells slots ls h1 h2 h3 h4 h5 h6)
theorem ev_goto {off : Int} (tgt : Nat) (hd : decode M.2.1 pc = .ok (.goto off, 3)) (ht : (pc : Int) + off = (tgt : Int)) (k : Ev l X M bc bs (tgt) L st n F Z) : Ev l X M bc bs (pc) L st n F Z :=
  fun p e R s m args below meth c H locs cells slots ls h1 h2 h3 h4 h5 h6 => lv_goto h1.1 h1.2.1 hd ht (k p e R s m args below meth c H locs cells slots ls h1 h2 h3 h4 h5 h6)
theorem ev_tableOut {dflt lo hi : Int} {offs : Array Int} {len : Nat} {x : Int32} (tgt : Nat) (hd : decode M.2.1 pc = .ok (.tableswitch dflt lo hi offs, len)) (h : x.toInt < lo ∨ hi < x.toInt) (ht : (pc : Int) + dflt = (tgt : Int)) (k : Ev l X M bc bs (tgt) L st n F Z) : Ev l X M bc bs (pc) L (.int x :: st) n F Z :=
  fun p e R s m args below meth c H locs cells slots ls h1 h2 h3 h4 h5 h6 => lv_tableOut h1.1 h1.2.1 hd h ht (k p e R s m args below meth c H locs cells slots ls h1 h2 h3 h4 h5 h6)
theorem ev_tableIn {dflt lo hi : Int} {offs : Array Int} {len : Nat} {x : Int32} {off : Int} (tgt : Nat) (hd : decode M.2.1 pc = .ok (.tableswitch dflt lo hi offs, len)) (ha : ¬ x.toInt < lo) (hb : ¬ hi < x.toInt) (ho : offs[(x.toInt - lo).toNat]? = some off) (ht : (pc : Int) + off = (tgt : Int)) (k : Ev l X M bc bs (tgt) L st n F Z) : Ev l X M bc bs (pc) L (.int x :: st) n F Z :=
  fun p e R s m args below meth c H locs cells slots ls h1 h2 h3 h4 h5 h6 => lv_tableIn h1.1 h1.2.1 hd ha hb ho ht (k p e R s m args below meth c H locs cells slots ls h1 h2 h3 h4 h5 h6)
theorem ev_lookup {dflt : Int} {ps : Array (Int × Int)} {len : Nat} {x : Int32} {off : Int} (tgt : Nat) (hd : decode M.2.1 pc = .ok (.lookupswitch dflt ps, len)) (hp : (ps.toList.zip (ps.toList.drop 1)).all (fun (a, next) => a.1 < next.1) = true) (ho : Op.lookupswitch.offset ps.toList dflt x.toInt = off) (ht : (pc : Int) + off = (tgt : Int)) (k : Ev l X M bc bs (tgt) L st n F Z) : Ev l X M bc bs (pc) L (.int x :: st) n F Z :=
  fun p e R s m args below meth c H locs cells slots ls h1 h2 h3 h4 h5 h6 => lv_lookup h1.1 h1.2.1 hd hp ho ht (k p e R s m args below meth c H locs cells slots ls h1 h2 h3 h4 h5 h6)
theorem ev_ifnonnull {x : Nat} {off : Int} (tgt : Nat) (hd : decode M.2.1 pc = .ok (.ifnonnull off, 3)) (ht : (pc : Int) + off = (tgt : Int)) (k : Ev l X M bc bs (tgt) L st n F Z) : Ev l X M bc bs (pc) L (.ref x :: st) n F Z :=
  fun p e R s m args below meth c H locs cells slots ls h1 h2 h3 h4 h5 h6 => lv_ifnonnull h1.1 h1.2.1 hd ht (k p e R s m args below meth c H locs cells slots ls h1 h2 h3 h4 h5 h6)
theorem ev_ifnull {x : Nat} {off : Int} (hd : decode M.2.1 pc = .ok (.ifnull off, 3)) (k : Ev l X M bc bs (pc + 3) L st n F Z) : Ev l X M bc bs (pc) L (.ref x :: st) n F Z :=
  fun p e R s m args below meth c H locs cells slots ls h1 h2 h3 h4 h5 h6 => lv_ifnull h1.1 h1.2.1 hd (k p e R s m args below meth c H locs cells slots ls h1 h2 h3 h4 h5 h6)
theorem ev_ifnullN {off : Int} (tgt : Nat) (hd : decode M.2.1 pc = .ok (.ifnull off, 3)) (ht : (pc : Int) + off = (tgt : Int)) (k : Ev l X M bc bs (tgt) L st n F Z) : Ev l X M bc bs (pc) L (.null :: st) n F Z :=
  fun p e R s m args below meth c H locs cells slots ls h1 h2 h3 h4 h5 h6 => lv_ifnullN h1.1 h1.2.1 hd ht (k p e R s m args below meth c H locs cells slots ls h1 h2 h3 h4 h5 h6)
theorem ev_acmp_eq {a b : Option Nat} {off : Int} (tgt : Nat) (hd : decode M.2.1 pc = .ok (.if_acmp .eq off, 3)) (ht : (pc : Int) + off = (tgt : Int)) (kt : a = b → Ev l X M bc bs (tgt) L st n F Z) (kf : ¬ a = b → Ev l X M bc bs (pc + 3) L st n F Z) : Ev l X M bc bs (pc) L (va_rf b :: va_rf a :: st) n F Z :=
  fun p e R s m args below meth c H locs cells slots ls h1 h2 h3 h4 h5 h6 => lv_acmp_eq h1.1 h1.2.1 hd ht (fun hc => kt hc p e R s m args below meth c H locs cells slots ls h1 h2 h3 h4 h5 h6) (fun hc => kf hc p e R s m args below meth c H locs cells slots ls h1 h2 h3 h4 h5 h6)
theorem ev_acmp_ne {a b : Option Nat} {off : Int} (tgt : Nat) (hd : decode M.2.1 pc = .ok (.if_acmp .ne off, 3)) (ht : (pc : Int) + off = (tgt : Int)) (kt : ¬ a = b → Ev l X M bc bs (tgt) L st n F Z) (kf : a = b → Ev l X M bc bs (pc + 3) L st n F Z) : Ev l X M bc bs (pc) L (va_rf b :: va_rf a :: st) n F Z :=
  fun p e R s m args below meth c H locs cells slots ls h1 h2 h3 h4 h5 h6 => lv_acmp_ne h1.1 h1.2.1 hd ht (fun hc => kt hc p e R s m args below meth c H locs cells slots ls h1 h2 h3 h4 h5 h6) (fun hc => kf hc p e R s m args below meth c H locs cells slots ls h1 h2 h3 h4 h5 h6)
theorem Ev.sub (ks : List Nat) (hs : lv_pick L ks = L') (k : Ev l X M bc bs (pc) L' st n F Z) : Ev l X M bc bs (pc) L st n F Z :=
  fun p e R s m args below meth c H locs cells slots ls h1 h2 h3 h4 h5 h6 => k p e R s m args below meth c H locs cells slots ls h1 h2 h3 (lv_sub h4 ks hs) h5 h6
theorem Ev.room {bc2 bs2 : Nat} (hc : bc2 ≤ bc) (hs : bs2 ≤ bs) (k : Ev l X M bc2 bs2 (pc) L st n F Z) : Ev l X M bc bs (pc) L st n F Z :=
  fun p e R s m args below meth c H locs cells slots ls h1 h2 h3 h4 h5 h6 => k p e R s m args below meth c H locs cells slots ls h1 h2 h3 h4 (by omega) (by omega)
theorem ev_ldc {idx : Nat} {v : Int32} (hd : decode M.2.1 pc = .ok (.ldc idx, 2)) (hw : Jvm.Cond.constant M.1.cls idx v ∈ ev_gw) (k : Ev l X M bc bs (pc + 2) L (.int v :: st) n F Z) : Ev l X M bc bs (pc) L st n F Z :=
  fun p e R s m args below meth c H locs cells slots ls h1 h2 h3 h4 h5 h6 => lv_ldc h1.1 h1.2.1 h1.2.2.2.2.2.2.1 (h1.w hw) hd (k p e R s m args below meth c H locs cells slots ls h1 h2 h3 h4 h5 h6)
theorem ev_ldc2 {idx : Nat} {v : Int64} (hd : decode M.2.1 pc = .ok (.ldc2_w idx, 3)) (hw : Jvm.Cond.constantLong M.1.cls idx v ∈ ev_gw) (k : Ev l X M bc bs (pc + 3) L (.long v :: st) n F Z) : Ev l X M bc bs (pc) L st n F Z :=
  fun p e R s m args below meth c H locs cells slots ls h1 h2 h3 h4 h5 h6 => lv_ldc2 h1.1 h1.2.1 h1.2.2.2.2.2.2.1 (h1.w hw) hd (k p e R s m args below meth c H locs cells slots ls h1 h2 h3 h4 h5 h6)
theorem ev_P1 {X : ev_X} {a : Nat} {o : Nat × List Value} {H : Heap} (h : ev_at X a (.inr o) H) : va_P X.1 ev_cl [(a, .inr o)] H := fun k q hk => by
  cases k with
  | zero => cases hk; exact h
  | succ k => cases hk
theorem ev_PA {X : ev_X} {a t : Nat} {x : vp_A} {H : Heap} (h : ev_at X a (.inl (t, x)) H) {ty : FieldType} (ht : ev_tyl[t]? = some ty) : ∃ cA, X.2.1[t]? = some (cA, ty) ∧ va_P X.1 ev_cl [(a, .inl (cA, x))] H := by
  obtain ⟨⟨cA, t2⟩, h1, h2, h3⟩ := h
  have e : t2 = ty := Option.some.inj (h2.symm.trans ht)
  subst e
  refine ⟨cA, h1, fun k q hk => ?_⟩
  cases k with
  | zero => cases hk; exact h3
  | succ k => cases hk
/-- a class of the table: its words stand among ours, its fields' types, its fields' names differ -/
def ev_ck (ci : Nat) (r : vw_C) : Prop := ev_cl[ci]? = some r ∧ (∀ w ∈ u_ws r.1 r.2.1 r.2.2, w ∈ ev_gw) ∧ (∃ ty : Nat → FieldType, ∀ k, k < r.2.2 → parseFieldDescriptor (r.2.1 k).2.2.1 = some (ty k)) ∧ ∀ a, a < r.2.2 → ∀ b, b < r.2.2 → a ≠ b → (r.2.1 a).2.1 ≠ (r.2.1 b).2.1
/-- field k of class ci, as class own names it at place idx of its pool -/
def ev_fl (own : String) (idx ci k : Nat) : Prop := ∃ (r : vw_C) (ref : String), ev_ck ci r ∧ k < r.2.2 ∧ (Cond.fieldLink own idx ref (r.2.1 k).2.1 (r.2.1 k).2.2.1 ∈ ev_gw ∨ ∃ host, Cond.fieldLinkNest own idx ref (r.2.1 k).2.1 (r.2.1 k).2.2.1 host ∈ ev_gw) ∧ (ref = (r.2.1 k).1 ∨ Cond.sameField ref (r.2.1 k).1 (r.2.1 k).2.1 (r.2.1 k).2.2.1 ∈ ev_gw)
theorem ev_getfield {idx a ci : Nat} {fs : List Value} {v : Value} (kx : Nat) (hd : decode M.2.1 pc = .ok (.getfield idx, 3)) (hf : ev_fl M.1.cls idx ci kx) (hF : F a = some (.inr (ci, fs))) (hv : fs[kx]? = some v) (k : Ev l X M bc bs (pc + 3) L (v :: st) n F Z) : Ev l X M bc bs (pc) L (.ref a :: st) n F Z := by
  intro p e R s m args below meth c H locs cells slots ls h1 h2 h3 h4 h5 h6
  obtain ⟨⟨C, T, N⟩, ref, ⟨hc, hin, -, -⟩, hk, hl, hsm⟩ := hf
  have hsame : ∀ x, s.fieldFound? (T kx).1 (T kx).2.1 (T kx).2.2.1 = some x → s.fieldFound? ref (T kx).2.1 (T kx).2.2.1 = some x := by
    rcases hsm with rfl | hsm
    · exact fun _ h => h
    · exact fun x h => u_same (h1.w (args := args) hsm) x h
  rcases hl with hl | ⟨host, hl⟩
  · exact va_get h1.1 h1.2.1 (Ts := ev_gw) (fun w hw => h1.w hw) hin h1.2.2.2.2.2.2.1 h1.2.2.2.2.2.2.2.1.1 (ev_P1 (h2.2.2 _ _ hF).2) 0 rfl hc kx hk (h1.w hl) hsame hv hd (k p e R s m args below meth c H locs cells slots ls h1 h2 h3 h4 h5 h6)
  · exact va_getN h1.1 h1.2.1 (Ts := ev_gw) (fun w hw => h1.w hw) hin h1.2.2.2.2.2.2.1 h1.2.2.2.2.2.2.2.1.1 (ev_P1 (h2.2.2 _ _ hF).2) 0 rfl hc kx hk (h1.w hl) hsame hv hd (k p e R s m args below meth c H locs cells slots ls h1 h2 h3 h4 h5 h6)
theorem ev_putfield {idx a ci : Nat} {fs : List Value} {v : Value} (kx : Nat) (ty : FieldType) (hd : decode M.2.1 pc = .ok (.putfield idx, 3)) (hf : ev_fl M.1.cls idx ci kx) (hF : F a = some (.inr (ci, fs))) (hfin : ∀ r : vw_C, ev_cl[ci]? = some r → ((r.2.1 kx).2.2.2 = false ∨ ((r.2.1 kx).2.2.2 = true ∧ M.1.name = "<init>" ∧ (r.2.1 kx).1 = M.1.cls)) ∧ parseFieldDescriptor (r.2.1 kx).2.2.1 = some ty) (hn : narrow ty v = v) (hfit : fits ty v = true) (hl2 : kx < fs.length) (k : ∀ F2, ev_up F a (.inr (ci, fs.set kx v)) = F2 → Ev l X M bc bs (pc + 3) L st n F2 Z) : Ev l X M bc bs (pc) L (v :: .ref a :: st) n F Z := by
  intro p e R s m args below meth c H locs cells slots ls h1 h2 h3 h4 h5 h6
  obtain ⟨⟨C, T, N⟩, ref, ⟨hc, hin, ⟨ty0, hty⟩, hnm⟩, hk, hl, hsm⟩ := hf
  obtain ⟨hfin, hpd⟩ := hfin _ hc
  have hown := h1.2.2.2.2.2.2.1
  have hK := h1.2.2.2.2.2.2.2.1.1
  have hts : ∀ w ∈ ev_gw, w.before args s = true := fun w hw => h1.w hw
  have hsame : ∀ x, s.fieldFound? (T kx).1 (T kx).2.1 (T kx).2.2.1 = some x → s.fieldFound? ref (T kx).2.1 (T kx).2.2.1 = some x := by
    rcases hsm with rfl | hsm
    · exact fun _ h => h
    · exact fun x h => u_same (h1.w (args := args) hsm) x h
  have hap := va_apart (own := M.1.cls) hts hin ty0 hty hnm hK hc
  obtain ⟨r, hr1, cell, q1, q2, q3, q4⟩ := (h2.2.2 _ _ hF).2
  have hr : r = (C, T, N) := Option.some.inj (hr1.symm.trans hc)
  subst hr
  obtain ⟨hS, hfc, kC, hkC, hkind⟩ := hK.1 ci _ hc
  obtain ⟨cf, kf, fi, f, hi, hsl⟩ := hS kx hk
  have hst := (u_facts hfc hkC (u_lays hts hin hk) hi).1
  have hlay := hts _ (hin _ (u_in_lay hk))
  unfold u_lay at hlay
  have fin : ∀ H' : Heap, H'[a]? = some (cell.setSlot f.slot v) → H'.size = H.size → (∀ q, q ≠ a → H'[q]? = H[q]?) → W p l e R s m args below meth c H' (locs ++ [⟨a, f.slot⟩]) cells slots (Z R s args below) (F0 m (pc + 3) ls st) := by
    intro H' e1 e2 e3
    rw [hsl] at e1 ⊢
    refine k _ rfl p e R s m args below meth c H' _ cells slots ls h1 (h2.set hF ?_ e2 e3) (h3.put e2 e3 (h2.2.2 _ _ hF).1) h4 h5 h6
    exact ⟨_, hc, t_OB.to (V := updV (vp_V fs) kx v) ⟨_, e1, q2, q3, t_set q4 hap hk v⟩ (fun j _ => vp_updV_set hl2 v j)⟩
  rcases hfin with hfin | ⟨hfin, hini, hdecl⟩
  · rw [if_neg (by rw [hfin]; decide)] at hlay
    have h7 := u_store hfc hkC hkind hlay hi hpd hn hfit
    rcases hl with hl | ⟨host, hl⟩
    · exact W.putK h1.1 h1.2.1 (f := f) ⟨hown, h1.w hl, ⟨_, _, _, hsame _ hi⟩, hst⟩ (by rw [q2]; exact h7) q1 q3 (by rw [hsl]; exact k2_hasslot (q4 kx hk)) rfl rfl hd fin
    · exact va_WputK h1.1 h1.2.1 (f := f) hown (h1.w hl) (hsame _ hi) hst (by rw [q2]; exact h7) q1 q3 (by rw [hsl]; exact k2_hasslot (q4 kx hk)) rfl rfl hd fin
  · rw [if_pos hfin] at hlay
    have hcf : m.cls = cf := by
      obtain ⟨_, _, c', _, _, _, -, -, hf', -, -, -, hown2, -⟩ := Cond.laysFinal_spec hlay
      have e1 : c' = cf := by have := hi.symm.trans hf'; simp at this; exact this.1.symm
      have hdecl : (T kx).1 = M.1.cls := hdecl
      rw [hdecl] at hown2
      rw [← e1]; exact Option.some.inj (hown.symm.trans hown2)
    have h7 := u_fits hfc hkC hkind (Or.inr hlay) hi hpd hn hfit
    rcases hl with hl | ⟨host, hl⟩
    · exact W.putFinK h1.1 h1.2.1 hown (h1.w hl) (hsame _ hi) hst hcf (by rw [h1.2.2.2.2.2.1]; exact hini) (by rw [q2]; exact h7) q1 q3 (by rw [hsl]; exact k2_hasslot (q4 kx hk)) rfl rfl hd fin
    · refine va_Wputf h1.1 h1.2.1 hown (h1.w hl) (hsame _ hi) hst (Or.inr ⟨hcf, by rw [h1.2.2.2.2.2.1]; exact hini⟩) q1 (by rw [q3]; exact fun h => by cases h) (by rw [hsl]; exact k2_hasslot (q4 kx hk)) h7.1 (by rw [q3, q2]; exact h7.2) rfl rfl hd ?_
      have ha : a < H.size := (Array.getElem?_eq_some_iff.mp q1).1
      refine fin _ ?_ ?_ ?_
      · simp [Array.getElem?_setIfInBounds, ha]
      · simp
      · intro q hq
        simp [Array.getElem?_setIfInBounds, Ne.symm hq]
theorem ev_iaload {t a N : Nat} {f : Nat → Int32} {i : Int32} (hd : decode M.2.1 pc = .ok (.iaload, 1)) (hF : F a = some (.inl (t, N, .inl f))) (ht : ev_tyl[t]? = some .int) (hin : vp_in i N) (k : Ev l X M bc bs (pc + 1) L (.int (f i.toNatClampNeg) :: st) n F Z) : Ev l X M bc bs (pc) L (.int i :: .ref a :: st) n F Z := by
  intro p e R s m args below meth c H locs cells slots ls h1 h2 h3 h4 h5 h6
  obtain ⟨cA, g1, g2⟩ := ev_PA (h2.2.2 _ _ hF).2 ht
  exact va_iald h1.1 h1.2.1 h1.2.2.2.2.2.2.2.1.1 g2 0 t rfl g1 hin hd (k p e R s m args below meth c H locs cells slots ls h1 h2 h3 h4 h5 h6)
theorem ev_baload {t a N : Nat} {f : Nat → Int32} {i : Int32} (hd : decode M.2.1 pc = .ok (.baload, 1)) (hF : F a = some (.inl (t, N, .inl f))) (ht : ev_tyl[t]? = some .byte) (hin : vp_in i N) (k : Ev l X M bc bs (pc + 1) L (.int (f i.toNatClampNeg) :: st) n F Z) : Ev l X M bc bs (pc) L (.int i :: .ref a :: st) n F Z := by
  intro p e R s m args below meth c H locs cells slots ls h1 h2 h3 h4 h5 h6
  obtain ⟨cA, g1, g2⟩ := ev_PA (h2.2.2 _ _ hF).2 ht
  exact va_bald h1.1 h1.2.1 h1.2.2.2.2.2.2.2.1.1 g2 0 t rfl g1 hin hd (k p e R s m args below meth c H locs cells slots ls h1 h2 h3 h4 h5 h6)
theorem ev_zaload {t a N : Nat} {f : Nat → Int32} {i : Int32} (hd : decode M.2.1 pc = .ok (.baload, 1)) (hF : F a = some (.inl (t, N, .inl f))) (ht : ev_tyl[t]? = some .boolean) (hin : vp_in i N) (k : Ev l X M bc bs (pc + 1) L (.int (f i.toNatClampNeg) :: st) n F Z) : Ev l X M bc bs (pc) L (.int i :: .ref a :: st) n F Z := by
  intro p e R s m args below meth c H locs cells slots ls h1 h2 h3 h4 h5 h6
  obtain ⟨cA, g1, g2⟩ := ev_PA (h2.2.2 _ _ hF).2 ht
  exact va_zald h1.1 h1.2.1 h1.2.2.2.2.2.2.2.1.1 g2 0 t rfl g1 hin hd (k p e R s m args below meth c H locs cells slots ls h1 h2 h3 h4 h5 h6)
theorem ev_caload {t a N : Nat} {f : Nat → Int32} {i : Int32} (hd : decode M.2.1 pc = .ok (.caload, 1)) (hF : F a = some (.inl (t, N, .inl f))) (ht : ev_tyl[t]? = some .char) (hin : vp_in i N) (k : Ev l X M bc bs (pc + 1) L (.int (f i.toNatClampNeg) :: st) n F Z) : Ev l X M bc bs (pc) L (.int i :: .ref a :: st) n F Z := by
  intro p e R s m args below meth c H locs cells slots ls h1 h2 h3 h4 h5 h6
  obtain ⟨cA, g1, g2⟩ := ev_PA (h2.2.2 _ _ hF).2 ht
  exact va_cald h1.1 h1.2.1 h1.2.2.2.2.2.2.2.1.1 g2 0 t rfl g1 hin hd (k p e R s m args below meth c H locs cells slots ls h1 h2 h3 h4 h5 h6)
theorem ev_laload {t a N : Nat} {f : Nat → Int64} {i : Int32} (hd : decode M.2.1 pc = .ok (.laload, 1)) (hF : F a = some (.inl (t, N, .inr (.inl f)))) (ht : ev_tyl[t]? = some .long) (hin : vp_in i N) (k : Ev l X M bc bs (pc + 1) L (.long (f i.toNatClampNeg) :: st) n F Z) : Ev l X M bc bs (pc) L (.int i :: .ref a :: st) n F Z := by
  intro p e R s m args below meth c H locs cells slots ls h1 h2 h3 h4 h5 h6
  obtain ⟨cA, g1, g2⟩ := ev_PA (h2.2.2 _ _ hF).2 ht
  exact va_lald h1.1 h1.2.1 h1.2.2.2.2.2.2.2.1.1 g2 0 t rfl g1 hin hd (k p e R s m args below meth c H locs cells slots ls h1 h2 h3 h4 h5 h6)
theorem ev_alen {t a : Nat} {x : vp_A} {ty : FieldType} (hd : decode M.2.1 pc = .ok (.arraylength, 1)) (hF : F a = some (.inl (t, x))) (ht : ev_tyl[t]? = some ty) (k : Ev l X M bc bs (pc + 1) L (.int (nI x.1) :: st) n F Z) : Ev l X M bc bs (pc) L (.ref a :: st) n F Z := by
  intro p e R s m args below meth c H locs cells slots ls h1 h2 h3 h4 h5 h6
  obtain ⟨cA, g1, g2⟩ := ev_PA (h2.2.2 _ _ hF).2 ht
  exact va_alen h1.1 h1.2.1 h1.2.2.2.2.2.2.2.1.1 g2 0 t rfl g1 rfl hd (k p e R s m args below meth c H locs cells slots ls h1 h2 h3 h4 h5 h6)
theorem ev_aaload {t a N : Nat} {f : Nat → Option Nat} {i : Int32} {ty : FieldType} (hd : decode M.2.1 pc = .ok (.aaload, 1)) (hF : F a = some (.inl (t, N, .inr (.inr (.inr (.inr f)))))) (ht : ev_tyl[t]? = some ty) (hty : ty.isReference = true) (hin : vp_in i N) (k : Ev l X M bc bs (pc + 1) L (va_rf (f i.toNatClampNeg) :: st) n F Z) : Ev l X M bc bs (pc) L (.int i :: .ref a :: st) n F Z := by
  intro p e R s m args below meth c H locs cells slots ls h1 h2 h3 h4 h5 h6
  obtain ⟨cA, g1, g2⟩ := ev_PA (h2.2.2 _ _ hF).2 ht
  have hlt : i.toNatClampNeg < N := Nat.not_le.mp fun q => hin (Or.inr q)
  exact W.aald (v := va_rf (f i.toNatClampNeg)) (ty := ty) h1.1 h1.2.1 (g2 0 _ rfl) ((h1.2.2.2.2.2.2.2.1.1.2 t _ g1).1 N (fun j => va_rf (f j))) hty (fun q => by cases q) (by show ¬ (i < 0 ∨ (arrV _ _ _).slots.size ≤ _); rw [arrV_size]; exact hin) (by show (arrV _ _ _).slots[_]? = _; rw [arrV_read _ _ hlt]) rfl rfl hd (k p e R s m args below meth c H locs cells slots ls h1 h2 h3 h4 h5 h6)
theorem ev_iastore {t a N : Nat} {f : Nat → Int32} {i : Int32} {x : Int32} (hd : decode M.2.1 pc = .ok (.iastore, 1)) (hF : F a = some (.inl (t, N, .inl f))) (ht : ev_tyl[t]? = some .int) (hin : vp_in i N) (k : ∀ F2, ev_up F a (.inl (t, N, .inl (upd f i.toNatClampNeg x))) = F2 → Ev l X M bc bs (pc + 1) L st n F2 Z) : Ev l X M bc bs (pc) L (.int x :: .int i :: .ref a :: st) n F Z := by
  intro p e R s m args below meth c H locs cells slots ls h1 h2 h3 h4 h5 h6
  obtain ⟨⟨cA, t2⟩, g1, g2, g3⟩ := (h2.2.2 _ _ hF).2
  have e0 : t2 = .int := Option.some.inj (g2.symm.trans ht)
  subst e0
  refine W.iast h1.1 h1.2.1 g3 ((h1.2.2.2.2.2.2.2.1.1.2 t _ g1).1 N (fun j => .int (f j))) (fun q => by cases q) (by show ¬ (i < 0 ∨ (arrV _ _ _).slots.size ≤ _); rw [arrV_size]; exact hin) rfl rfl hd fun H1 ee z oq => ?_
  refine k _ rfl p e R s m args below meth c H1 _ cells slots ls h1 (h2.set hF ?_ z oq) (h3.put z oq (h2.2.2 _ _ hF).1) h4 h5 h6
  refine ⟨_, g1, g2, ?_⟩
  rw [ee]
  rw [vp_cell_i, vp_cell_i, arrV_store]
  congr 2
  funext q
  by_cases hq : q = i.toNatClampNeg
  · subst hq
    simp [updV, upd, vp_updL]
  · simp [updV, upd, vp_updL, hq]
theorem ev_lastore {t a N : Nat} {f : Nat → Int64} {i : Int32} {x : Int64} (hd : decode M.2.1 pc = .ok (.lastore, 1)) (hF : F a = some (.inl (t, N, .inr (.inl f)))) (ht : ev_tyl[t]? = some .long) (hin : vp_in i N) (k : ∀ F2, ev_up F a (.inl (t, N, .inr (.inl (vp_updL f i.toNatClampNeg x)))) = F2 → Ev l X M bc bs (pc + 1) L st n F2 Z) : Ev l X M bc bs (pc) L (.long x :: .int i :: .ref a :: st) n F Z := by
  intro p e R s m args below meth c H locs cells slots ls h1 h2 h3 h4 h5 h6
  obtain ⟨⟨cA, t2⟩, g1, g2, g3⟩ := (h2.2.2 _ _ hF).2
  have e0 : t2 = .long := Option.some.inj (g2.symm.trans ht)
  subst e0
  refine W.last h1.1 h1.2.1 g3 ((h1.2.2.2.2.2.2.2.1.1.2 t _ g1).1 N (fun j => .long (f j))) (fun q => by cases q) (by show ¬ (i < 0 ∨ (arrV _ _ _).slots.size ≤ _); rw [arrV_size]; exact hin) rfl rfl hd fun H1 ee z oq => ?_
  refine k _ rfl p e R s m args below meth c H1 _ cells slots ls h1 (h2.set hF ?_ z oq) (h3.put z oq (h2.2.2 _ _ hF).1) h4 h5 h6
  refine ⟨_, g1, g2, ?_⟩
  rw [ee]
  rw [vp_cell_l, vp_cell_l, arrV_store]
  congr 2
  funext q
  by_cases hq : q = i.toNatClampNeg
  · subst hq
    simp [updV, upd, vp_updL]
  · simp [updV, upd, vp_updL, hq]
theorem ev_bastore {t a N : Nat} {f : Nat → Int32} {i x : Int32} (hd : decode M.2.1 pc = .ok (.bastore, 1)) (hF : F a = some (.inl (t, N, .inl f))) (ht : ev_tyl[t]? = some .byte) (hin : vp_in i N) (hx : narrow .byte (.int x) = .int x) (k : ∀ F2, ev_up F a (.inl (t, N, .inl (upd f i.toNatClampNeg x))) = F2 → Ev l X M bc bs (pc + 1) L st n F2 Z) : Ev l X M bc bs (pc) L (.int x :: .int i :: .ref a :: st) n F Z := by
  intro p e R s m args below meth c H locs cells slots ls h1 h2 h3 h4 h5 h6
  obtain ⟨⟨cA, t2⟩, g1, g2, g3⟩ := (h2.2.2 _ _ hF).2
  have e0 : t2 = .byte := Option.some.inj (g2.symm.trans ht)
  subst e0
  refine W.bast h1.1 h1.2.1 g3 ((h1.2.2.2.2.2.2.2.1.1.2 t _ g1).1 N (fun j => .int (f j))) (fun q => by cases q) (by show ¬ (i < 0 ∨ (arrV _ _ _).slots.size ≤ _); rw [arrV_size]; exact hin) rfl rfl hd fun H1 ee z oq => ?_
  rw [hx] at ee
  refine k _ rfl p e R s m args below meth c H1 _ cells slots ls h1 (h2.set hF ?_ z oq) (h3.put z oq (h2.2.2 _ _ hF).1) h4 h5 h6
  refine ⟨_, g1, g2, ?_⟩
  rw [ee]
  rw [vp_cell_i, vp_cell_i, arrV_store]
  congr 2
  funext q
  by_cases hq : q = i.toNatClampNeg
  · subst hq
    simp [updV, upd]
  · simp [updV, upd, hq]
theorem ev_zastore {t a N : Nat} {f : Nat → Int32} {i x : Int32} (hd : decode M.2.1 pc = .ok (.bastore, 1)) (hF : F a = some (.inl (t, N, .inl f))) (ht : ev_tyl[t]? = some .boolean) (hin : vp_in i N) (hx : narrow .boolean (.int x) = .int x) (k : ∀ F2, ev_up F a (.inl (t, N, .inl (upd f i.toNatClampNeg x))) = F2 → Ev l X M bc bs (pc + 1) L st n F2 Z) : Ev l X M bc bs (pc) L (.int x :: .int i :: .ref a :: st) n F Z := by
  intro p e R s m args below meth c H locs cells slots ls h1 h2 h3 h4 h5 h6
  obtain ⟨⟨cA, t2⟩, g1, g2, g3⟩ := (h2.2.2 _ _ hF).2
  have e0 : t2 = .boolean := Option.some.inj (g2.symm.trans ht)
  subst e0
  refine W.zast h1.1 h1.2.1 g3 ((h1.2.2.2.2.2.2.2.1.1.2 t _ g1).1 N (fun j => .int (f j))) (fun q => by cases q) (by show ¬ (i < 0 ∨ (arrV _ _ _).slots.size ≤ _); rw [arrV_size]; exact hin) rfl rfl hd fun H1 ee z oq => ?_
  rw [hx] at ee
  refine k _ rfl p e R s m args below meth c H1 _ cells slots ls h1 (h2.set hF ?_ z oq) (h3.put z oq (h2.2.2 _ _ hF).1) h4 h5 h6
  refine ⟨_, g1, g2, ?_⟩
  rw [ee]
  rw [vp_cell_i, vp_cell_i, arrV_store]
  congr 2
  funext q
  by_cases hq : q = i.toNatClampNeg
  · subst hq
    simp [updV, upd]
  · simp [updV, upd, hq]
theorem ev_castore {t a N : Nat} {f : Nat → Int32} {i x : Int32} (hd : decode M.2.1 pc = .ok (.castore, 1)) (hF : F a = some (.inl (t, N, .inl f))) (ht : ev_tyl[t]? = some .char) (hin : vp_in i N) (hx : narrow .char (.int x) = .int x) (k : ∀ F2, ev_up F a (.inl (t, N, .inl (upd f i.toNatClampNeg x))) = F2 → Ev l X M bc bs (pc + 1) L st n F2 Z) : Ev l X M bc bs (pc) L (.int x :: .int i :: .ref a :: st) n F Z := by
  intro p e R s m args below meth c H locs cells slots ls h1 h2 h3 h4 h5 h6
  obtain ⟨⟨cA, t2⟩, g1, g2, g3⟩ := (h2.2.2 _ _ hF).2
  have e0 : t2 = .char := Option.some.inj (g2.symm.trans ht)
  subst e0
  refine W.cast h1.1 h1.2.1 g3 ((h1.2.2.2.2.2.2.2.1.1.2 t _ g1).1 N (fun j => .int (f j))) (fun q => by cases q) (by show ¬ (i < 0 ∨ (arrV _ _ _).slots.size ≤ _); rw [arrV_size]; exact hin) rfl rfl hd fun H1 ee z oq => ?_
  rw [hx] at ee
  refine k _ rfl p e R s m args below meth c H1 _ cells slots ls h1 (h2.set hF ?_ z oq) (h3.put z oq (h2.2.2 _ _ hF).1) h4 h5 h6
  refine ⟨_, g1, g2, ?_⟩
  rw [ee]
  rw [vp_cell_i, vp_cell_i, arrV_store]
  congr 2
  funext q
  by_cases hq : q = i.toNatClampNeg
  · subst hq
    simp [updV, upd]
  · simp [updV, upd, hq]
theorem ev_new {idx : Nat} (ci : Nat) {r : vw_C} (fs : List Value) (hd : decode M.2.1 pc = .ok (.new idx, 3)) (hck : ev_ck ci r) (hcl : Cond.classLink M.1.cls idx r.1 ∈ ev_gw) (hin : Cond.instantiable r.1 r.2.2 ∈ ev_gw) (hini : Cond.initialized r.1 ∈ ev_gw) (hfs : ∀ j, j < r.2.2 → (parseFieldDescriptor (r.2.1 j).2.2.1).map defaultValue = some (vp_V fs j)) {bc2 bs2 : Nat} (hb1 : bc2 + 1 ≤ bc) (hb2 : bs2 + r.2.2 ≤ bs) (k : ∀ F2, ev_up F n (.inr (ci, fs)) = F2 → Ev l X M bc2 bs2 (pc + 3) L (.ref n :: st) (n + 1) F2 Z) : Ev l X M bc bs (pc) L st n F Z := by
  intro p e R s m args below meth c H locs cells slots ls h1 h2 h3 h4 h5 h6
  obtain ⟨hc, hwi, ⟨ty0, hty⟩, hnm⟩ := hck
  have hown := h1.2.2.2.2.2.2.1
  have hK := h1.2.2.2.2.2.2.2.1.1
  have hts : ∀ w ∈ ev_gw, w.before args s = true := fun w hw => h1.w hw
  obtain ⟨hS, hfc, kC, hkC, hkind⟩ := hK.1 ci _ hc
  refine W.newcK h1.1 h1.2.1 hown (h1.w hcl) (h1.w hin) (h1.w hini) rfl hd (by omega) (by omega) hfc h2.1 fun H' kC' hkC' e1 e2 e3 => ?_
  have hbn := u_born ty0 hts hwi ⟨hS, hfc, kC, hkC, hkind⟩ hkC' e1 hty
  refine k _ rfl p e R s m args below meth c H' locs (cells + 1) (slots + r.2.2) ls h1 (h2.push ?_ e2 e3) ?_ h4 (by omega) (by omega)
  · exact ⟨_, hc, t_OB.to hbn (fun j hj => by have h9 := hfs j hj; rw [hty j hj] at h9; exact Option.some.inj h9)⟩
  · exact ⟨Nat.le_trans h3.1 (by rw [e2, h2.1]; omega), fun q hq hn => by rw [e3 q (by have := h3.1; rw [h2.1] at this; omega)]; exact h3.2.1 q hq hn, h3.2.2⟩
theorem ev_ireturn {v : Int32} {ty : FieldType} (hd : decode M.2.1 pc = .ok (.ireturn, 1)) (hr : M.2.2.2.1 = some ty) (hn : narrow ty (.int v) = .int v) (hq : Q (some (.int v)) n F) : Ev l X M bc bs (pc) L [.int v] n F (ev_mq X Q) := by
  intro p e R s m args below meth c H locs cells slots ls h1 h2 h3 h4 h5 h6
  refine W.widen (k := R.cells) (n := R.slots) (by omega) (by omega) ?_
  exact W.zret h1.1 h1.2.1 (h1.2.2.2.1.trans hr) hn (fun t ht hW => ⟨⟨_, n, F, rfl, hq, by rw [ht]; exact h2⟩, h3.F ht⟩) h3.2.2 hd h1.2.2.2.2.1
theorem ev_lreturn {v : Int64} (hd : decode M.2.1 pc = .ok (.lreturn, 1)) (hr : M.2.2.2.1 = some .long) (hq : Q (some (.long v)) n F) : Ev l X M bc bs (pc) L [.long v] n F (ev_mq X Q) := by
  intro p e R s m args below meth c H locs cells slots ls h1 h2 h3 h4 h5 h6
  refine W.widen (k := R.cells) (n := R.slots) (by omega) (by omega) ?_
  exact W.lret h1.1 h1.2.1 (h1.2.2.2.1.trans hr) (fun t ht hW => ⟨⟨_, n, F, rfl, hq, by rw [ht]; exact h2⟩, h3.F ht⟩) h3.2.2 hd h1.2.2.2.2.1
theorem ev_return (hd : decode M.2.1 pc = .ok (.return_, 1)) (hr : M.2.2.2.1 = none) (hq : Q none n F) : Ev l X M bc bs (pc) L [] n F (ev_mq X Q) := by
  intro p e R s m args below meth c H locs cells slots ls h1 h2 h3 h4 h5 h6
  refine W.widen (k := R.cells) (n := R.slots) (by omega) (by omega) ?_
  exact W.vret h1.1 h1.2.1 (h1.2.2.2.1.trans hr) (fun t ht hW => ⟨⟨_, n, F, rfl, hq, by rw [ht]; exact h2⟩, h3.F ht⟩) h3.2.2 hd h1.2.2.2.2.1
theorem ev_areturn {v : Value} {rt : FieldType} (hd : decode M.2.1 pc = .ok (.areturn, 1)) (hr : M.2.2.2.1 = some rt) (hrt : (∃ n, rt = .object n) ∨ ∃ t, rt = .array t) (hv : v = .null ∨ ∃ a, v = .ref a) (hq : Q (some v) n F) : Ev l X M bc bs (pc) L [v] n F (ev_mq X Q) := by
  intro p e R s m args below meth c H locs cells slots ls h1 h2 h3 h4 h5 h6
  refine W.widen (k := R.cells) (n := R.slots) (by omega) (by omega) ?_
  exact W.aret h1.1 h1.2.1 (h1.2.2.2.1.trans hr) hrt hv (fun t ht hW => ⟨⟨_, n, F, rfl, hq, by rw [ht]; exact h2⟩, h3.F ht⟩) h3.2.2 hd h1.2.2.2.2.1
theorem Cal.of {as : List Value} (hy : plainName M.1.cls = true) (hlen : (lg_sl as).length ≤ M.2.2.1) (h : Ev l X M bc bs 0 (lv_args 0 as) [] n F (ev_mq X Q)) : Cal l X M bc bs as n F Q := by
  refine Met.ofW (cc := M.2.1) (maxL := M.2.2.1) (ret := M.2.2.2.1) hy rfl ?_
  intro p e s m args below meth c s₁ B hml hv
  obtain ⟨rfl, hK, hR⟩ := hv
  have hl := lv_entry as (n := M.2.2.1) hlen
  rw [lg_entry_eq]
  generalize (lg_sl as ++ List.replicate (M.2.2.1 - (lg_sl as).length) Slot.unset).toArray = ls at hl ⊢
  exact h p e _ s m _ below meth c s.heap [] 0 0 ls ⟨B.exec, B.bytes, hml, B.returns, B.notSynchronized, (name_of_methodNamed B.named B.method).1, findClass_of_methodNamed B.named, hK, rfl, rfl⟩ hR va_S.rf hl (Nat.le_of_eq (Nat.zero_add _)) (Nat.le_of_eq (Nat.zero_add _))
/-- a call at place idx of own's pool: the method, its words, how many arguments -/
def ev_lc (own : String) (idx : Nat) (M2 : ev_M) (np : Nat) : Prop := (Cond.methodLink own idx M2.1 ∈ ev_gw ∨ ∃ host, Cond.methodLinkNest own idx M2.1 host ∈ ev_gw) ∧ Cond.code M2.1 M2.2.1 M2.2.2.1 M2.2.2.2.1 ∈ ev_gw ∧ Cond.initialized M2.1.cls ∈ ev_gw ∧ (M2.1.cls ≠ "java/lang/invoke/MethodHandle" ∧ M2.1.cls ≠ "java/lang/invoke/VarHandle") ∧ (parseMethodDescriptor M2.1.desc).map (fun d => d.parameters.length) = some np
theorem ev_lc.ps {own : String} {idx np : Nat} {M2 : ev_M} (h : ev_lc own idx M2 np) : ∀ sig, parseMethodDescriptor M2.1.desc = some sig → np = sig.parameters.length := by
  intro sig hs
  have h2 := h.2.2.2.2
  rw [hs] at h2
  exact (Option.some.inj h2).symm
theorem ev_lc.ws {own : String} {idx np : Nat} {M2 : ev_M} (h : ev_lc own idx M2 np) {p : Program} {R : Room} {s : State} {m : MethodId} {meth : Method} {c : Code} (h1 : ev_cs X M p R s m meth c) : ∀ w ∈ [Cond.code M2.1 M2.2.1 M2.2.2.1 M2.2.2.2.1], ∀ (a' : Array Value) (U : State), s.WarmedH U.vm → w.before a' U = true := by
  intro w hw a' U hW
  have e : w = Cond.code M2.1 M2.2.1 M2.2.2.1 M2.2.2.2.1 := by simpa using hw
  subst e
  exact ev_use (ev_gw_good _ h.2.1) rfl (ev_Nw_warm (ev_gw_good _ h.2.1) hW (h1.2.2.2.2.2.2.2.1.2.1 _ h.2.1))
theorem ev_cont {p : Program} {e : Env} {R : Room} {s : State} {m : MethodId} {args : Array Value} {below : List Frame} {meth : Method} {c : Code} {H : Heap} {locs : List Loc} {cells slots mc ms : Nat} {ls : Array Slot} {rest st0 : List Value} {Q2 : Option Value → Nat → ev_H → Prop} {a : Array Value} {Qf : State → Prop}
    (hr : va_Run p l e R s m args below meth c H locs cells slots mc ms (F0 m pc ls st0) rest (ev_Q X Q2 a) (ev_A X)) (hS : va_S (ev_A X) s.heap H locs)
    (kk : ∀ (v : Option Value) (n2 : Nat) (F2 : ev_H) (H1 : Heap) (locs1 : List Loc), Q2 v n2 F2 → ev_R X n2 F2 H1 → va_S (ev_A X) s.heap H1 locs1 → W p l e R s m args below meth c H1 locs1 (cells + mc) (slots + ms) Qf (F0 m (pc + 3) ls (v.toList ++ rest))) : W p l e R s m args below meth c H locs cells slots Qf (F0 m pc ls st0) := by
  intro T hT Xx
  obtain ⟨v, st₀, t, T', L2, h0, X', hL, e1, e2, ⟨⟨v2, n2, F2, hv, hq, hR⟩, hz, hk⟩, stp⟩ := hr T hT Xx
  cases hv
  rw [h0] at hz hk
  obtain ⟨t2, a1, b1⟩ := kk v n2 F2 T'.heap (locs ++ L2) hq (by rw [e1]; exact hR)
    ⟨Nat.le_trans hS.1 (by rw [e1]; exact hz), fun q g1 g2 => by rw [e1, hk q (Nat.lt_of_lt_of_le g1 hS.1) g2]; exact hS.2.1 q g1 g2, fun q hq => by
      rcases List.mem_append.mp hq with h | h
      · exact hS.2.2 q h
      · exact hL q h⟩ T' rfl X'
  exact ⟨t2, stp t2 a1, b1⟩
theorem ev_pre {p : Program} {R : Room} {s : State} {m : MethodId} {meth : Method} {c : Code} {H : Heap} {locs : List Loc} (h1 : ev_cs X M p R s m meth c) (h2 : ev_R X n F H) (h3 : va_S (ev_A X) s.heap H locs) (as : List Value) : FrameBlind (ev_P X as n F) ∧ ∀ U : State, U.heap = H → s.WarmedH U.vm → ev_P X as n F as.toArray U :=
  ⟨ev_P.blind, fun U hU hW => ⟨rfl, ev_K.warm hW (by rw [hU]; exact h3) h1.2.2.2.2.2.2.2.1, by rw [hU]; exact h2⟩⟩
theorem ev_invokestatic {idx np : Nat} (M2 : ev_M) {As st0 : List Value} {bc1 bs1 bc2 bs2 : Nat} {Q2 : Option Value → Nat → ev_H → Prop} (hd : decode M.2.1 pc = .ok (.invokestatic idx, 3)) (hlc : ev_lc M.1.cls idx M2 np) (hst : Cond.static M2.1 ∈ ev_gw) (hn : As.length = np) (hstk : st0 = As.reverse ++ st) (hcat : (st.map fun v => v.category).sum ≤ 8) (hfr : M2.2.2.2.2.1 + 1 ≤ M.2.2.2.2.1) (hlo : 8 + (M2.2.2.1 + 11) + M2.2.2.2.2.2 ≤ M.2.2.2.2.2) (hb1 : bc2 + bc1 ≤ bc) (hb2 : bs2 + bs1 ≤ bs) (hM : Cal l X M2 bc1 bs1 As n F Q2)
    (k : ∀ v n2 F2, Q2 v n2 F2 → Ev l X M bc2 bs2 (pc + 3) L (v.toList ++ st) n2 F2 Z) : Ev l X M bc bs (pc) L st0 n F Z := by
  intro p e R s m args below meth c H locs cells slots ls h1 h2 h3 h4 h5 h6
  have hpre := ev_pre h1 h2 h3 As
  refine ev_cont (mc := bc1) (ms := bs1) (rest := st) (Q2 := Q2) (a := As.toArray) ?_ h3 (fun v n2 F2 H1 locs1 hq hR hS => k v n2 F2 hq p e R s m args below meth c H1 locs1 (cells + bc1) (slots + bs1) ls h1 hR hS h4 (by omega) (by omega))
  rcases hlc.1 with hl | ⟨host, hl⟩
  · exact va_runS (Ts := ev_gw) (n := np) ⟨h1.1, h1.2.1, h1.2.2.1, h1.2.2.2.2.2.2.1, fun w hw => h1.w hw⟩ hM ⟨⟨rfl, rfl, by rw [h1.2.2.2.2.2.2.2.2.1]; exact hfr, by rw [h1.2.2.2.2.2.2.2.2.2]; exact hlo, hlc.ws h1, List.mem_cons_self, h1.w hlc.2.1, h1.w hlc.2.2.1, hlc.2.2.2.1, hlc.ps, h1.w hl⟩, h1.w hst⟩ hpre rfl hn h4.1 hstk (lv_room hcat) hd (by omega)
  · exact va_runSN (Ts := ev_gw) (n := np) (host := host) ⟨h1.1, h1.2.1, h1.2.2.1, h1.2.2.2.2.2.2.1, fun w hw => h1.w hw⟩ hM ⟨⟨⟨rfl, rfl, by rw [h1.2.2.2.2.2.2.2.2.1]; exact hfr, by rw [h1.2.2.2.2.2.2.2.2.2]; exact hlo, hlc.ws h1, List.mem_cons_self⟩, h1.w hlc.2.1, h1.w hlc.2.2.1, hlc.2.2.2.1, hlc.ps, h1.w hl⟩, h1.w hst, trivial⟩ hpre rfl hn h4.1 hstk (lv_room hcat) hd (by omega)
theorem ev_init {idx np b : Nat} (M2 : ev_M) {As st0 : List Value} {bc1 bs1 bc2 bs2 : Nat} {Q2 : Option Value → Nat → ev_H → Prop} (hd : decode M.2.1 pc = .ok (.invokespecial idx, 3)) (hlc : ev_lc M.1.cls idx M2 np) (hnm : M2.1.name = "<init>") (hrt : M2.2.2.2.1 = none) (hst : Cond.instanceMethod M2.1 ∈ ev_gw) (hn : As.length = np) (hstk : st0 = As.reverse ++ .ref b :: st) (hcat : (st.map fun v => v.category).sum ≤ 8) (hfr : M2.2.2.2.2.1 + 1 ≤ M.2.2.2.2.1) (hlo : 8 + (M2.2.2.1 + 11) + M2.2.2.2.2.2 ≤ M.2.2.2.2.2) (hb1 : bc2 + bc1 ≤ bc) (hb2 : bs2 + bs1 ≤ bs) (hM : Cal l X M2 bc1 bs1 (.ref b :: As) n F Q2)
    (k : ∀ v n2 F2, Q2 v n2 F2 → Ev l X M bc2 bs2 (pc + 3) L (v.toList ++ st) n2 F2 Z) : Ev l X M bc bs (pc) L st0 n F Z := by
  intro p e R s m args below meth c H locs cells slots ls h1 h2 h3 h4 h5 h6
  have hpre := ev_pre h1 h2 h3 (.ref b :: As)
  refine ev_cont (mc := bc1) (ms := bs1) (rest := st) (Q2 := Q2) (a := (Value.ref b :: As).toArray) ?_ h3 (fun v n2 F2 H1 locs1 hq hR hS => k v n2 F2 hq p e R s m args below meth c H1 locs1 (cells + bc1) (slots + bs1) ls h1 hR hS h4 (by omega) (by omega))
  have hcd := h1.w (args := args) hlc.2.1
  have hww := hlc.ws h1
  obtain ⟨y2, b2, n2, r2, f2, w2⟩ := M2
  dsimp only at hrt hcd hww
  subst hrt
  rcases hlc.1 with hl | ⟨host, hl⟩
  · exact va_runI (Ts := ev_gw) (n := np) ⟨h1.1, h1.2.1, h1.2.2.1, h1.2.2.2.2.2.2.1, fun w hw => h1.w hw⟩ hM ⟨⟨rfl, rfl, by rw [h1.2.2.2.2.2.2.2.2.1]; exact hfr, by rw [h1.2.2.2.2.2.2.2.2.2]; exact hlo, hww, List.mem_cons_self, hcd, h1.w hlc.2.2.1, hlc.2.2.2.1, hlc.ps, h1.w hl⟩, hnm, h1.w hst⟩ hpre rfl hn h4.1 hstk (lv_room hcat) hd (by omega)
  · exact va_runIN (Ts := ev_gw) (n := np) (host := host) ⟨h1.1, h1.2.1, h1.2.2.1, h1.2.2.2.2.2.2.1, fun w hw => h1.w hw⟩ hM ⟨⟨⟨rfl, rfl, by rw [h1.2.2.2.2.2.2.2.2.1]; exact hfr, by rw [h1.2.2.2.2.2.2.2.2.2]; exact hlo, hww, List.mem_cons_self⟩, hcd, h1.w hlc.2.2.1, hlc.2.2.2.1, hlc.ps, h1.w hl⟩, hnm, h1.w hst⟩ hpre rfl hn h4.1 hstk (lv_room hcat) hd (by omega)
theorem ev_invokevirtual {idx np b ci : Nat} (M2 : ev_M) {fs : List Value} {As st0 : List Value} {bc1 bs1 bc2 bs2 : Nat} {Q2 : Option Value → Nat → ev_H → Prop} (r : vw_C) (hd : decode M.2.1 pc = .ok (.invokevirtual idx, 3)) (hlc : ev_lc M.1.cls idx M2 np) (hst : Cond.instanceMethod M2.1 ∈ ev_gw) (hsel : Cond.selects r.1 M2.1 M2.1 ∈ ev_gw) (hr : ev_cl[ci]? = some r) (hF : F b = some (.inr (ci, fs))) (hn : As.length = np) (hstk : st0 = As.reverse ++ .ref b :: st) (hcat : (st.map fun v => v.category).sum ≤ 8) (hfr : M2.2.2.2.2.1 + 1 ≤ M.2.2.2.2.1) (hlo : 8 + (M2.2.2.1 + 11) + M2.2.2.2.2.2 ≤ M.2.2.2.2.2) (hb1 : bc2 + bc1 ≤ bc) (hb2 : bs2 + bs1 ≤ bs) (hM : Cal l X M2 bc1 bs1 (.ref b :: As) n F Q2)
    (k : ∀ v n2 F2, Q2 v n2 F2 → Ev l X M bc2 bs2 (pc + 3) L (v.toList ++ st) n2 F2 Z) : Ev l X M bc bs (pc) L st0 n F Z := by
  intro p e R s m args below meth c H locs cells slots ls h1 h2 h3 h4 h5 h6
  have hpre := ev_pre h1 h2 h3 (.ref b :: As)
  have hrc := va_recv h1.2.2.2.2.2.2.2.1.1 (ev_P1 (h2.2.2 _ _ hF).2) hr (q0 := 0) rfl
  refine ev_cont (mc := bc1) (ms := bs1) (rest := st) (Q2 := Q2) (a := (Value.ref b :: As).toArray) ?_ h3 (fun v n2 F2 H1 locs1 hq hR hS => k v n2 F2 hq p e R s m args below meth c H1 locs1 (cells + bc1) (slots + bs1) ls h1 hR hS h4 (by omega) (by omega))
  rcases hlc.1 with hl | ⟨host, hl⟩
  · exact va_runV (Ts := ev_gw) (n := np) (C := r.1) ⟨h1.1, h1.2.1, h1.2.2.1, h1.2.2.2.2.2.2.1, fun w hw => h1.w hw⟩ hM ⟨⟨rfl, rfl, by rw [h1.2.2.2.2.2.2.2.2.1]; exact hfr, by rw [h1.2.2.2.2.2.2.2.2.2]; exact hlo, hlc.ws h1, List.mem_cons_self, h1.w hlc.2.1, h1.w hlc.2.2.1, hlc.2.2.2.1, hlc.ps, h1.w hl⟩, h1.w hst, h1.w hsel⟩ ⟨hpre.1, hrc, hpre.2⟩ rfl hn h4.1 hstk (lv_room hcat) hd (by omega)
  · exact va_runVN (Ts := ev_gw) (n := np) (C := r.1) (host := host) ⟨h1.1, h1.2.1, h1.2.2.1, h1.2.2.2.2.2.2.1, fun w hw => h1.w hw⟩ hM ⟨⟨⟨rfl, rfl, by rw [h1.2.2.2.2.2.2.2.2.1]; exact hfr, by rw [h1.2.2.2.2.2.2.2.2.2]; exact hlo, hlc.ws h1, List.mem_cons_self⟩, h1.w hlc.2.1, h1.w hlc.2.2.1, hlc.2.2.2.1, hlc.ps, h1.w hl⟩, h1.w hst, h1.w hsel⟩ ⟨hpre.1, hrc, hpre.2⟩ rfl hn h4.1 hstk (lv_room hcat) hd (by omega)
theorem ev_checkcast {idx a ci : Nat} {fs : List Value} (r : vw_C) {nm : String} (hd : decode M.2.1 pc = .ok (.checkcast idx, 3)) (hcl : Cond.classLink M.1.cls idx nm ∈ ev_gw) (hct : Cond.castable r.1 nm ∈ ev_gw) (hr : ev_cl[ci]? = some r) (hF : F a = some (.inr (ci, fs))) (k : Ev l X M bc bs (pc + 3) L (.ref a :: st) n F Z) : Ev l X M bc bs (pc) L (.ref a :: st) n F Z := by
  intro p e R s m args below meth c H locs cells slots ls h1 h2 h3 h4 h5 h6
  have hrc := va_recv h1.2.2.2.2.2.2.2.1.1 (ev_P1 (h2.2.2 _ _ hF).2) hr (q0 := 0) rfl
  exact va_castY h1.1 h1.2.1 h1.2.2.2.2.2.2.1 (h1.w hcl) (h1.2.2.2.2.2.2.2.1.2.1 _ hct) hrc hd (k p e R s m args below meth c H locs cells slots ls h1 h2 h3 h4 h5 h6)
theorem ev_newarray {atype : ArrayType} (t N : Nat) (x : vp_A) {cnt : Int32} {ty : FieldType} (hd : decode M.2.1 pc = .ok (.newarray atype, 2)) (hw : Cond.arrayClass (newarray.typeOf atype) ∈ ev_gw) (hty : newarray.typeOf atype = ty) (ht : ev_tyl[t]? = some ty) (hpr : ∀ U cA, va_RA U cA ty → U.vm.findClass ("[" ++ ty.toString) = some cA) (ha : ∀ cA : ClassId, vp_cell cA x = arrV cA N (fun _ => defaultValue ty)) (hn : ¬ cnt < 0) (hN : cnt.toNatClampNeg = N) (hbytes : N * componentBytes ty ≤ 536870912) {bc2 bs2 : Nat} (hb1 : bc2 + 1 ≤ bc) (hb2 : bs2 + N ≤ bs) (k : ∀ F2, ev_up F n (.inl (t, x)) = F2 → Ev l X M bc2 bs2 (pc + 2) L (.ref n :: st) (n + 1) F2 Z) : Ev l X M bc bs (pc) L (.int cnt :: st) n F Z := by
  subst hty
  intro p e R s m args below meth c H locs cells slots ls h1 h2 h3 h4 h5 h6
  have hK := h1.2.2.2.2.2.2.2.1
  refine va_newaK h1.1 h1.2.1 (h1.w hw) rfl hd rfl hn hN hbytes (by omega) (by omega) h2.1 fun H' cA e1 e2 e3 e4 e5 => ?_
  refine k _ rfl p e R s m args below meth c H' locs (cells + 1) (slots + N) ls h1 (h2.push ?_ e2 e3) ?_ h4 (by omega) (by omega)
  · obtain ⟨t2, g1, g2⟩ := ev_tys hK ht
    have g3 := hpr s t2.1 (by have := (hK.1.2 t _ g1).2; rw [g2] at this; exact this)
    have g4 : t2.1 = cA := Option.some.inj (g3.symm.trans e5)
    exact ⟨t2, g1, by rw [g2]; exact ht, by rw [ha, g4]; exact e1⟩
  · exact ⟨Nat.le_trans h3.1 (by rw [e2, h2.1]; omega), fun q hq hn => by rw [e3 q (by have := h3.1; rw [h2.1] at this; omega)]; exact h3.2.1 q hq hn, h3.2.2⟩
theorem ev_objInit {idx a : Nat} (hd : decode M.2.1 pc = .ok (.invokespecial idx, 3)) (hw1 : Cond.methodLink M.1.cls idx Lib.objectInit ∈ ev_gw) (hw2 : Cond.instanceMethod Lib.objectInit ∈ ev_gw) (hw3 : Cond.code Lib.objectInit ⟨#[0xb1]⟩ 1 none ∈ ev_gw) (hfr : 1 ≤ M.2.2.2.2.1) (hlo : (st.map fun v => v.category).sum + 12 ≤ M.2.2.2.2.2) (k : Ev l X M bc bs (pc + 3) L st n F Z) : Ev l X M bc bs (pc) L (.ref a :: st) n F Z := by
  intro p e R s m args below meth c H locs cells slots ls h1 h2 h3 h4 h5 h6
  refine W.objInit h1.1 h1.2.1 h1.2.2.2.2.2.2.1 (h1.w hw1) (h1.w hw2) (h1.w hw3) rfl (h4.1.trans h1.2.2.1.symm) rfl hd (by rw [h1.2.2.2.2.2.2.2.2.1]; exact hfr) ?_ (k p e R s m args below meth c H locs cells slots ls h1 h2 h3 h4 h5 h6)
  rw [h1.2.2.2.2.2.2.2.2.2]
  show 2 * 0 + _ + 12 ≤ _
  omega
theorem ev_mmax {idx : Nat} {x y : Int32} (hd : decode M.2.1 pc = .ok (.invokestatic idx, 3)) (hw1 : Cond.methodLink M.1.cls idx Lib.Math.max.name ∈ ev_gw) (hw2 : Cond.static Lib.Math.max.name ∈ ev_gw) (hw3 : Cond.initialized "java/lang/Math" ∈ ev_gw) (hw4 : Cond.code Lib.Math.max.name Lib.Math.max.code 2 (some .int) ∈ ev_gw) (hfr : 1 ≤ M.2.2.2.2.1) (hlo : (st.map fun v => v.category).sum + 13 ≤ M.2.2.2.2.2) (k : Ev l X M bc bs (pc + 3) L (.int (if x < y then y else x) :: st) n F Z) : Ev l X M bc bs (pc) L (.int y :: .int x :: st) n F Z := by
  intro p e R s m args below meth c H locs cells slots ls h1 h2 h3 h4 h5 h6
  exact va_mmax h1.1 h1.2.1 (h1.2.2.1.trans h4.1.symm) h1.2.2.2.2.2.2.1 (h1.w hw1) (h1.w hw2) (h1.w hw3) (h1.w hw4) (by rw [h1.2.2.2.2.2.2.2.2.1]; exact hfr) (by rw [h1.2.2.2.2.2.2.2.2.2]; exact hlo) (by omega) (by omega) hd (k p e R s m args below meth c H locs cells slots ls h1 h2 h3 h4 h5 h6)
theorem ev_mmin {idx : Nat} {x y : Int32} (hd : decode M.2.1 pc = .ok (.invokestatic idx, 3)) (hw1 : Cond.methodLink M.1.cls idx Lib.Math.min.name ∈ ev_gw) (hw2 : Cond.static Lib.Math.min.name ∈ ev_gw) (hw3 : Cond.initialized "java/lang/Math" ∈ ev_gw) (hw4 : Cond.code Lib.Math.min.name Lib.Math.min.code 2 (some .int) ∈ ev_gw) (hfr : 1 ≤ M.2.2.2.2.1) (hlo : (st.map fun v => v.category).sum + 13 ≤ M.2.2.2.2.2) (k : Ev l X M bc bs (pc + 3) L (.int (if y < x then y else x) :: st) n F Z) : Ev l X M bc bs (pc) L (.int y :: .int x :: st) n F Z := by
  intro p e R s m args below meth c H locs cells slots ls h1 h2 h3 h4 h5 h6
  exact va_mmin h1.1 h1.2.1 (h1.2.2.1.trans h4.1.symm) h1.2.2.2.2.2.2.1 (h1.w hw1) (h1.w hw2) (h1.w hw3) (h1.w hw4) (by rw [h1.2.2.2.2.2.2.2.2.1]; exact hfr) (by rw [h1.2.2.2.2.2.2.2.2.2]; exact hlo) (by omega) (by omega) hd (k p e R s m args below meth c H locs cells slots ls h1 h2 h3 h4 h5 h6)
/-- a call that changes nothing, and answers v -/
def ev_pure (v : Value) (n : Nat) (F : ev_H) : Option Value → Nat → ev_H → Prop := fun v2 n2 F2 => v2 = some v ∧ n2 = n ∧ F2 = F
def ev_void (n : Nat) (F : ev_H) : Option Value → Nat → ev_H → Prop := fun v2 n2 F2 => v2 = none ∧ n2 = n ∧ F2 = F
theorem ev_purek {v : Value} (h : Ev l X M bc bs pc L (v :: st) n F Z) : ∀ v2 n2 F2, ev_pure v n F v2 n2 F2 → Ev l X M bc bs pc L (v2.toList ++ st) n2 F2 Z := by
  rintro _ _ _ ⟨rfl, rfl, rfl⟩
  exact h
theorem ev_voidk (h : Ev l X M bc bs pc L st n F Z) : ∀ v2 n2 F2, ev_void n F v2 n2 F2 → Ev l X M bc bs pc L (v2.toList ++ st) n2 F2 Z := by
  rintro _ _ _ ⟨rfl, rfl, rfl⟩
  exact h
theorem ev_fresh (k : (∀ q : Nat, n ≤ q → F q = none) → Ev l X M bc bs (pc) L st n F Z) : Ev l X M bc bs (pc) L st n F Z :=
  fun p e R s m args below meth c H locs cells slots ls h1 h2 h3 h4 h5 h6 => k (fun q hq => h2.none hq) p e R s m args below meth c H locs cells slots ls h1 h2 h3 h4 h5 h6
theorem ev_nf {a b : Nat} {x : ev_C} (ha : F a = some x) (hb : F b = none) : a ≠ b := fun e => by subst e; rw [ha] at hb; cases hb
theorem ev_rf {o : Option Nat} {x : Nat} (h : o = some x) (k : Ev l X M bc bs (pc) L (.ref x :: st) n F Z) : Ev l X M bc bs (pc) L (va_rf o :: st) n F Z := by subst h; exact k
theorem ev_rfN {o : Option Nat} (h : o = none) (k : Ev l X M bc bs (pc) L (.null :: st) n F Z) : Ev l X M bc bs (pc) L (va_rf o :: st) n F Z := by subst h; exact k
theorem ev_eqI {x y : Int32} (h : x = y) (k : Ev l X M bc bs (pc) L (.int y :: st) n F Z) : Ev l X M bc bs (pc) L (.int x :: st) n F Z := by subst h; exact k
theorem ev_swk {dflt lo hi : Int} {offs : Array Int} {len : Nat} {x : Int32} {off : Int} (i : Nat) (v : Int32) (tgt : Nat) (hd : decode M.2.1 pc = .ok (.tableswitch dflt lo hi offs, len)) (hv : v.toInt = lo + i) (hh : lo + i ≤ hi) (ho : offs[i]? = some off) (ht : (pc : Int) + off = (tgt : Int)) (kt : x = v → Ev l X M bc bs (tgt) L st n F Z) (kf : ¬ x = v → Ev l X M bc bs (pc) L (.int x :: st) n F Z) : Ev l X M bc bs (pc) L (.int x :: st) n F Z := by
  by_cases hx : x = v
  · subst hx
    exact ev_tableIn tgt hd (by omega) (by omega) (by rw [show (x.toInt - lo).toNat = i by omega]; exact ho) ht (kt rfl)
  · exact kf hx
theorem ev_getstatic {idx : Nat} {Cn nn dd : String} {v : Value} (hd : decode M.2.1 pc = .ok (.getstatic idx, 3)) (hZ : ∀ U : State, ev_S X U → va_Z Cn nn dd v (ev_A X) U U.heap) (hl : Cond.fieldLink M.1.cls idx Cn nn dd ∈ ev_gw ∨ ∃ host, Cond.fieldLinkNest M.1.cls idx Cn nn dd host ∈ ev_gw) (k : Ev l X M bc bs (pc + 3) L (v :: st) n F Z) : Ev l X M bc bs (pc) L st n F Z := by
  intro p e R s m args below meth c H locs cells slots ls h1 h2 h3 h4 h5 h6
  have hz := hZ s h1.2.2.2.2.2.2.2.1.2.2.1
  rcases hl with hl | ⟨host, hl⟩
  · exact va_gets h1.1 h1.2.1 hz h3 h1.2.2.2.2.2.2.1 (h1.w hl) (fun _ h => h) hd (k p e R s m args below meth c H locs cells slots ls h1 h2 h3 h4 h5 h6)
  · exact va_getsN h1.1 h1.2.1 hz h3 h1.2.2.2.2.2.2.1 (h1.w hl) (fun _ h => h) hd (k p e R s m args below meth c H locs cells slots ls h1 h2 h3 h4 h5 h6)
theorem ev_sld {i : Int32} (hd : decode M.2.1 pc = .ok (.iaload, 1)) (hin : vp_in i X.2.2.2.2.1) (k : Ev l X M bc bs (pc + 1) L (.int (X.2.2.2.2.2 i.toNatClampNeg) :: st) n F Z) : Ev l X M bc bs (pc) L (.int i :: .ref (X.2.2.2.1 0) :: st) n F Z := by
  intro p e R s m args below meth c H locs cells slots ls h1 h2 h3 h4 h5 h6
  obtain ⟨a1, a2, a3⟩ := h1.2.2.2.2.2.2.2.1.2.2.1.1
  exact va_sld h1.1 h1.2.1 a3 (Nat.lt_of_lt_of_le a2 a1) (fun z => Nat.lt_irrefl _ (Nat.lt_of_lt_of_le a2 z)) h3 hin hd (k p e R s m args below meth c H locs cells slots ls h1 h2 h3 h4 h5 h6)
theorem ev_slen (hd : decode M.2.1 pc = .ok (.arraylength, 1)) (k : Ev l X M bc bs (pc + 1) L (.int (nI X.2.2.2.2.1) :: st) n F Z) : Ev l X M bc bs (pc) L (.ref (X.2.2.2.1 0) :: st) n F Z := by
  intro p e R s m args below meth c H locs cells slots ls h1 h2 h3 h4 h5 h6
  obtain ⟨a1, a2, a3⟩ := h1.2.2.2.2.2.2.2.1.2.2.1.1
  exact va_slen h1.1 h1.2.1 a3 (Nat.lt_of_lt_of_le a2 a1) (fun z => Nat.lt_irrefl _ (Nat.lt_of_lt_of_le a2 z)) h3 hd (k p e R s m args below meth c H locs cells slots ls h1 h2 h3 h4 h5 h6)
end EvRows
