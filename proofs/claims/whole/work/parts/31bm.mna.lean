/-! `new int[n][k]`: our own row over the machine -/
section MNA
/-- the row of rows that lies at h, its first i places filled with what lies behind it -/
abbrev mnO (cA : ClassId) (N h i : Nat) : Cell := arrV cA N (fun j => va_rf (if j < i then some (h + 1 + j) else none))
abbrev mnI (cy : ClassId) (K : Nat) : Cell := { cls := cy, slots := Array.replicate K (.int 0), vm := .none }
theorem mnO_0 (cA : ClassId) (N h : Nat) : ({ cls := cA, slots := Array.replicate N .null, vm := .none } : Cell) = mnO cA N h 0 := by
  rw [arrV_new]
  refine congrArg (arrV cA N) (funext fun j => ?_)
  simp [va_rf]
theorem mnO_s (cA : ClassId) (N h i : Nat) : (mnO cA N h i).setSlot i (.ref (h + 1 + i)) = mnO cA N h (i + 1) := by
  rw [arrV_store]
  refine congrArg (arrV cA N) (funext fun j => ?_)
  by_cases q : j = i
  · subst q
    simp [updV, va_rf]
  · by_cases g : j < i
    · simp [updV, q, g, show j < i + 1 by omega]
    · simp [updV, q, g, show ¬ j < i + 1 by omega]
/-- the machine behind i rows -/
def mnT (S : State) (cA cy : ClassId) (N K : Nat) : Nat → State
  | 0 => S.pushCell (mnO cA N S.heap.size 0)
  | i + 1 => ((mnT S cA cy N K i).pushCell (mnI cy K)).setCell S.heap.size (mnO cA N S.heap.size (i + 1))
theorem mn_f (S : State) (cA cy : ClassId) (N K : Nat) : ∀ i, (mnT S cA cy N K i).heap.size = S.heap.size + 1 + i ∧ (mnT S cA cy N K i).heap[S.heap.size]? = some (mnO cA N S.heap.size i) ∧ (mnT S cA cy N K i).vm = S.vm ∧ (mnT S cA cy N K i).slotsUsed = S.slotsUsed + N + i * K ∧ (∀ x : Nat, x < S.heap.size → (mnT S cA cy N K i).heap[x]? = S.heap[x]?) ∧ ∀ j : Nat, j < i → (mnT S cA cy N K i).heap[S.heap.size + 1 + j]? = some (mnI cy K)
  | 0 => by
    refine ⟨by simp [mnT], by simp [mnT], rfl, ?_, fun x hx => State.heap_pushCell_of_lt _ _ hx, fun j hj => absurd hj (Nat.not_lt_zero j)⟩
    simp [mnT, arrV_size]
  | i + 1 => by
    obtain ⟨f1, f2, f3, f4, f5, f6⟩ := mn_f S cA cy N K i
    have hlt : S.heap.size < (mnT S cA cy N K i).heap.size := by omega
    have hc : ((mnT S cA cy N K i).pushCell (mnI cy K)).heap[S.heap.size]? = some (mnO cA N S.heap.size i) := by
      rw [State.heap_pushCell_of_lt (h := hlt)]
      exact f2
    refine ⟨?_, State.heap_setCell_self hc, by simp [mnT, f3], ?_, fun x hx => ?_, fun j hj => ?_⟩
    · simp [mnT, State.setCell, f1]
      omega
    · simp [mnT, f4, Nat.succ_mul]
      omega
    · show (((mnT S cA cy N K i).pushCell (mnI cy K)).setCell S.heap.size _).heap[x]? = _
      rw [State.heap_setCell_other (show S.heap.size ≠ x by omega), State.heap_pushCell_of_lt (h := show x < (mnT S cA cy N K i).heap.size by omega)]
      exact f5 x hx
    · show (((mnT S cA cy N K i).pushCell (mnI cy K)).setCell S.heap.size _).heap[S.heap.size + 1 + j]? = _
      rw [State.heap_setCell_other (show S.heap.size ≠ S.heap.size + 1 + j by omega)]
      by_cases g : j < i
      · rw [State.heap_pushCell_of_lt (h := show S.heap.size + 1 + j < (mnT S cA cy N K i).heap.size by omega)]
        exact f6 j g
      · rw [show S.heap.size + 1 + j = (mnT S cA cy N K i).heap.size by omega]
        exact State.heap_pushCell_size _ _
theorem mn_top (S : State) (f : JFrame) (cA cy : ClassId) (N K : Nat) : ∀ i, mnT (S.setTop f) cA cy N K i = (mnT S cA cy N K i).setTop f
  | 0 => rfl
  | i + 1 => by
    simp only [mnT, mn_top S f cA cy N K i, State.heap_setTop, State.pushCell_setTop, State.setCell_setTop]
section A
variable {E : CtlPost} {e : Env} {d : Bool} {acts : List Action} {S : State}
theorem mn_w1 {cy cc : ClassId} {kc : Class} {k : Int32} (hkc : S.vm.classes[cy]? = some kc) (hkind : kc.kind = .array cc .int) (hk : ¬ k < 0) (hl : ¬ k.toNatClampNeg > e.platform.arrayLengthLimit) (hh : ¬ k.toNatClampNeg * componentBytes .int > e.platform.maxHeapBytes) (h1 : S.heap.size < e.platform.maxCells) (h2 : S.slotsUsed + k.toNatClampNeg ≤ e.platform.maxSlots) {Q : Addr → Pre} (hq : ∀ acts', Q S.heap.size d acts' (S.pushCell (mnI cy k.toNatClampNeg))) : wp (Op.multianewarray.make cy [k]) Q E e d acts S := by
  rw [Op.multianewarray.make]
  simp only [wp_bind', Jvm.W.ite, hk, if_false, wp_pure', Jvm.W.theClass, hkc, hkind, Option.some.injEq, exists_eq_left']
  exact Jvm.W.newArray_of hkc hkind hl hh h1 h2 rfl hq
theorem mn_w2 {cA cy cc : ClassId} {kA kc : Class} {n k : Int32} (hkA : S.vm.classes[cA]? = some kA) (hkindA : kA.kind = .array cy (.array .int)) (hkc : S.vm.classes[cy]? = some kc) (hkind : kc.kind = .array cc .int) (hn : ¬ n < 0) (hk : ¬ k < 0) (hl1 : ¬ n.toNatClampNeg > e.platform.arrayLengthLimit) (hh1 : ¬ n.toNatClampNeg * componentBytes (.array .int) > e.platform.maxHeapBytes) (hl2 : ¬ k.toNatClampNeg > e.platform.arrayLengthLimit) (hh2 : ¬ k.toNatClampNeg * componentBytes .int > e.platform.maxHeapBytes) (hc : S.heap.size + 1 + n.toNatClampNeg ≤ e.platform.maxCells) (hs : S.slotsUsed + n.toNatClampNeg + n.toNatClampNeg * k.toNatClampNeg ≤ e.platform.maxSlots) {Q : Addr → Pre} (hq : ∀ d' acts', Q S.heap.size d' acts' (mnT S cA cy n.toNatClampNeg k.toNatClampNeg n.toNatClampNeg)) : wp (Op.multianewarray.make cA [n, k]) Q E e d acts S := by
  have hno : ([k].find? (· < 0)) = none := by simp [hk]
  rw [Op.multianewarray.make]
  simp only [wp_bind', Jvm.W.ite, hn, if_false, wp_pure', Jvm.W.theClass, hkA, hkindA, Option.some.injEq, exists_eq_left']
  refine Jvm.W.newArray_of hkA hkindA hl1 hh1 (by omega) (by have := Nat.zero_le (n.toNatClampNeg * k.toNatClampNeg); omega) rfl (fun acts1 => ?_)
  simp only [hno]
  rw [ite_self, wp_bind', Std.Legacy.Range.forIn_eq_forIn_range']
  have hz : ([:n.toNatClampNeg] : Std.Legacy.Range).size = n.toNatClampNeg := by simp [Std.Legacy.Range.size]
  rw [hz]
  show wp (forIn (List.range' 0 n.toNatClampNeg 1) PUnit.unit _) _ E e d acts1 _
  refine wp_forIn_inv (fun rest U => ∃ i, i + rest.length = n.toNatClampNeg ∧ rest = List.range' i rest.length ∧ U = mnT S cA cy n.toNatClampNeg k.toNatClampNeg i) _ _ ⟨0, by simp, by simp, ?_⟩ ?_ ?_
  · show S.pushCell _ = S.pushCell _
    rw [mnO_0]
  · rintro x rest U d2 acts2 Q2 ⟨i, hi, hr, rfl⟩ hnext
    rw [List.length_cons, List.range'_succ] at hr
    obtain ⟨rfl, hr2⟩ := List.cons.inj hr
    rw [List.length_cons] at hi
    obtain ⟨f1, f2, f3, f4, -, -⟩ := mn_f S cA cy n.toNatClampNeg k.toNatClampNeg x
    have hm : x * k.toNatClampNeg + k.toNatClampNeg ≤ n.toNatClampNeg * k.toNatClampNeg := by
      have := Nat.mul_le_mul_right k.toNatClampNeg (show x + 1 ≤ n.toNatClampNeg by omega)
      rw [Nat.succ_mul] at this
      exact this
    simp only [wp_bind']
    refine mn_w1 (by rw [f3]; exact hkc) hkind hk hl2 hh2 (by rw [f1]; omega) (by rw [f4]; omega) (fun acts3 => ?_)
    have hlt : S.heap.size < (mnT S cA cy n.toNatClampNeg k.toNatClampNeg x).heap.size := by omega
    simp only [wp_bind', Jvm.W.writeLoc, wp_pure']
    refine ⟨mnO cA n.toNatClampNeg S.heap.size x, by rw [State.heap_pushCell_of_lt (h := hlt)]; exact f2, by simp [arrV], by rw [arrV_size]; omega, ?_, hnext _ _ _ ⟨x + 1, by omega, hr2, ?_⟩⟩
    · simp [State.fitsSlot, State.slotType?, f3, hkA, hkindA, arrV, fits]
    · rw [f1, mnO_s]
      rfl
  · rintro U d2 acts2 ⟨i, hi, -, rfl⟩
    have e1 : i = n.toNatClampNeg := by simpa using hi
    subst e1
    simp only [wp_pure']
    exact hq _ _
end A
section B
variable {p : Program} {l : Launch} {e : Env} {R : Room} {s : State} {m : MethodId} {args : Array Value} {below : List Frame} {meth : Method} {c : Code} {T : State} {H : Heap} {locs : List Loc} {cells slots : Nat} {Q : State → Prop}
theorem mn_st (X : Stand p l e R s m args below meth c T locs cells slots) (cA cy : ClassId) (N K : Nat) : ∀ i, Stand p l e R s m args below meth c (mnT T cA cy N K i) locs (cells + 1 + i) (slots + N + i * K)
  | 0 => by
    have h := X.pushed (mnO cA N T.heap.size 0)
    rw [arrV_size] at h
    simpa [mnT] using h
  | i + 1 => by
    have Y := mn_st X cA cy N K i
    obtain ⟨f1, f2, -, -, -, -⟩ := mn_f T cA cy N K i
    have hlt : T.heap.size < (mnT T cA cy N K i).heap.size := by omega
    have hc : ((mnT T cA cy N K i).pushCell (mnI cy K)).heap[T.heap.size]? = some (mnO cA N T.heap.size i) := by
      rw [State.heap_pushCell_of_lt (h := hlt)]
      exact f2
    have h := (Y.pushed (mnI cy K)).stored hc i (.ref (T.heap.size + 1 + i))
    rw [mnO_s] at h
    have h2 := Stand.dropFresh h (fun x hx => by
      rw [List.mem_singleton] at hx
      subst hx
      exact X.heapGrown)
    have e1 : (mnI cy K).slots.size = K := by simp
    rw [e1] at h2
    rw [show slots + N + (i + 1) * K = slots + N + i * K + K by rw [Nat.succ_mul]; omega, show cells + 1 + (i + 1) = cells + 1 + i + 1 by omega]
    exact h2
theorem mn_W {cc : ByteArray} {pc : Nat} {ls : Array Slot} {rest : List Value} (hexec : p.tables.exec = Jvm.exec) (hb : c.code = cc) {own : String} {index : Nat} (hown : s.vm.findClass own = some m.cls) (hclink : (Cond.classLink own index ("[" ++ (FieldType.array .int).toString)).before args s = true) (hover : (Cond.arrayOver (.array .int)).before args s = true) (harr : (Cond.arrayClass .int).before args s = true) {n k : Int32} {N K : Nat} (hn : ¬ n < 0) (hk : ¬ k < 0) (hN : n.toNatClampNeg = N) (hK : k.toNatClampNeg = K) (hb1 : N * 4 ≤ 536870912) (hb2 : K * 4 ≤ 536870912) (hcells : cells + (1 + N) ≤ R.cells) (hslots : slots + (N + N * K) ≤ R.slots) (hdg : decode cc pc = .ok (.multianewarray index 2, 4))
    (kk : ∀ (cA cy : ClassId) (H1 : Heap), s.vm.findClass ("[" ++ (FieldType.array .int).toString) = some cA → s.vm.findClass (FieldType.array .int).toString = some cy → H1.size = H.size + 1 + N → (∀ x : Nat, x < H.size → H1[x]? = H[x]?) → H1[H.size]? = some (mnO cA N H.size N) → (∀ j : Nat, j < N → H1[H.size + 1 + j]? = some (mnI cy K)) → W p l e R s m args below meth c H1 locs (cells + 1 + N) (slots + N + N * K) Q (F0 m (pc + 4) ls (.ref H.size :: rest))) : W p l e R s m args below meth c H locs cells slots Q (F0 m pc ls (.int k :: .int n :: rest)) := by
  subst hN
  subst hK
  intro T hT X
  subst hT
  have hpl : e.platform.magicAccessors = ({} : Platform).magicAccessors := by rw [X.admits.platform]
  obtain ⟨cy, cA, kA, hcy, -, hkA, hkindA, hnA⟩ := arrayOverA_spec hover
  obtain ⟨cy2, kC, cc2, hcy2, hkC, hkindC⟩ := Cond.arrayClass_spec harr
  have ec : cy2 = cy := Option.some.inj (hcy2.symm.trans hcy)
  subst ec
  obtain ⟨c0, hf0, hcl⟩ := Cond.classLink_spec hown hclink e.platform hpl
  have ea : cA = c0 := Option.some.inj (hnA.symm.trans hf0)
  subst ea
  obtain ⟨hg1, hwarm, -⟩ := State.classEntry (e := e) X.warmed hcl
  generalize T.vm.noted m.cls index (.cls cA) = vm1 at hg1 hwarm
  obtain ⟨kA1, hkA1, heA⟩ := hwarm.alike.2.2 _ _ hkA
  obtain ⟨kC1, hkC1, heC⟩ := hwarm.alike.2.2 _ _ hkC
  have hkindA1 : kA1.kind = .array cy2 (.array .int) := by rw [heA]; exact hkindA
  have hkindC1 : kC1.kind = .array cc2 .int := by rw [heC]; exact hkindC
  have X1 := X.noted hwarm
  obtain ⟨r1, r2⟩ := X.roomAbove hcells hslots
  have hl1 : ¬ n.toNatClampNeg > e.platform.arrayLengthLimit := by rw [Launch.admits_arrayLengthLimit X.admits]; omega
  have hl2 : ¬ k.toNatClampNeg > e.platform.arrayLengthLimit := by rw [Launch.admits_arrayLengthLimit X.admits]; omega
  have hh1 : ¬ n.toNatClampNeg * componentBytes (.array .int) > e.platform.maxHeapBytes := by
    rw [Launch.admits_maxHeapBytes X.admits]
    show ¬ n.toNatClampNeg * 4 > 536870912
    omega
  have hh2 : ¬ k.toNatClampNeg * componentBytes .int > e.platform.maxHeapBytes := by
    rw [Launch.admits_maxHeapBytes X.admits]
    show ¬ k.toNatClampNeg * 4 > 536870912
    omega
  have XF := mn_st X1 cA cy2 n.toNatClampNeg k.toNatClampNeg n.toNatClampNeg
  obtain ⟨f1, f2, -, -, f5, f6⟩ := mn_f (T.setVm vm1) cA cy2 n.toNatClampNeg k.toNatClampNeg n.toNatClampNeg
  obtain ⟨t, a1, b1⟩ := kk cA cy2 _ hnA hcy f1 f5 f2 f6 (mnT (T.setVm vm1) cA cy2 n.toNatClampNeg k.toNatClampNeg n.toNatClampNeg) rfl XF
  refine ⟨t, ?_, b1⟩
  jvm_step X.here [hexec, hb, hdg]
  simp only [Op.multianewarray.sem, wp_bind', Jvm.W.resolveClassAt_links (State.method?_setTop (F0 m pc ls (.int k :: .int n :: rest)) X.here.top) hg1]
  rw [Jvm.W.popN, if_neg (by decide)]
  refine ⟨F0 m pc ls (.int k :: .int n :: rest), State.topJava?_setTop' (s := T.setVm vm1) _ X.here.top, [.int n, .int k], rest, rfl, rfl, ?_⟩
  simp only [List.mapM_cons, List.mapM_nil, wp_bind', wp_pure']
  refine mn_w2 (kA := kA1) (kc := kC1) (cy := cy2) (cc := cc2) hkA1 hkindA1 hkC1 hkindC1 hn hk hl1 hh1 hl2 hh2 (by show T.heap.size + 1 + _ ≤ _; omega) (by show T.slotsUsed + _ + _ ≤ _; omega) (fun d2 acts2 => ?_)
  have eS : ((T.setTop (F0 m pc ls (.int k :: .int n :: rest))).setVm vm1).setTop { (F0 m pc ls (.int k :: .int n :: rest)) with stack := rest } = (T.setVm vm1).setTop { (F0 m pc ls (.int k :: .int n :: rest)) with stack := rest } := by
    show ((T.setVm vm1).setTop _).setTop _ = _
    rw [State.setTop_setTop]
  rw [eS, mn_top]
  simp only [wp_bind', Jvm.W.mark, Jvm.W.pushRef, State.topJava?_setTop' _ XF.here.top, Option.some.injEq, exists_eq_left', State.setTop_setTop, State.heap_setTop]
  intro acts3
  simp [jvm, XF.here.top]
  exact a1
end B
end MNA
