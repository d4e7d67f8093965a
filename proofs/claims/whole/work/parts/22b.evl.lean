/-! rows for lists: rows of references, copies, clones, class objects -/
/-- an object of ours that may lie in a row of Object -/
def isO (F : ev_H) (v : Nat) : Prop := ∃ ci fs, F v = some (.inr (ci, fs)) ∧ (ci = 8 ∨ ci = 9 ∨ ci = 10)
theorem isO_r {F : ev_H} {v : Nat} (h : isO F v) : ∃ ci fs r, F v = some (.inr (ci, fs)) ∧ ev_cl[ci]? = some r ∧ Cond.castable r.1 "java/lang/Object" ∈ ev_gw := by
  obtain ⟨ci, fs, h1, rfl | rfl | rfl⟩ := h
  · exact ⟨8, fs, rC8, h1, rfl, wd_1218⟩
  · exact ⟨9, fs, rC9, h1, rfl, wd_1219⟩
  · exact ⟨10, fs, rC10, h1, rfl, wd_1220⟩
section EvL
variable {l : Launch} {X : ev_X} {M : ev_M} {bc bs pc n : Nat} {L L' : List (Nat × Value)} {st : List Value} {F : ev_H} {Z : ev_Z} {Q : Option Value → Nat → ev_H → Prop}
theorem ev_aastore {a N v : Nat} {f : Nat → Option Nat} {i : Int32} (hd : decode M.2.1 pc = .ok (.aastore, 1)) (hF : F a = some (.inl (5, N, .inr (.inr (.inr (.inr f)))))) (hO : isO F v) (hin : vp_in i N) (k : ∀ F2, ev_up F a (.inl (5, N, .inr (.inr (.inr (.inr (va_up f i.toNatClampNeg (some v))))))) = F2 → Ev l X M bc bs (pc + 1) L st n F2 Z) : Ev l X M bc bs pc L (.ref v :: .int i :: .ref a :: st) n F Z := by
  intro p e R s m args below meth c H locs cells slots ls h1 h2 h3 h4 h5 h6
  have hK := h1.2.2.2.2.2.2.2.1
  obtain ⟨⟨cA, t2⟩, g1, g2, g3⟩ := (h2.2.2 _ _ hF).2
  have e0 : t2 = .object "java/lang/Object" := Option.some.inj (g2.symm.trans rfl)
  subst e0
  have hlt : i.toNatClampNeg < N := Nat.not_le.mp fun q => hin (Or.inr q)
  have h0 : ¬ i < 0 := fun q => hin (Or.inl q)
  obtain ⟨ci, fs, r, hv, hr, hct⟩ := isO_r hO
  obtain ⟨cellV, q1, q3, q2⟩ := va_recv hK.1 (ev_P1 (h2.2.2 _ _ hv).2) hr (q0 := 0) rfl
  obtain ⟨kA, comp, k1, k2, k3, -⟩ := (hK.1.2 5 _ g1).2
  obtain ⟨kE, hkE, -⟩ := Vm.findClass_spec k3
  obtain ⟨kC, hkC, -⟩ := Vm.findClass_spec q2
  refine W.aast h1.1 h1.2.1 g3 (fun q h => by cases h) (fun h => by cases h) k1 k2 rfl hkE ⟨h0, by show _ < (arrV _ _ _).slots.size; rw [arrV_size]; exact hlt⟩ q1 (fun q h => by rw [h] at q3; cases q3) hkC (vb_asgC (hK.2.1 _ hct) _ _ k3 q2) rfl rfl hd fun H1 ee z oq => ?_
  refine k _ rfl p e R s m args below meth c H1 _ cells slots ls h1 (h2.set hF ?_ z oq) (h3.put z oq (h2.2.2 _ _ hF).1) h4 h5 h6
  refine ⟨_, g1, g2, ?_⟩
  rw [ee]
  rw [vp_cell_q, vp_cell_q, arrV_store]
  congr 2
  funext q
  by_cases hq : q = i.toNatClampNeg
  · subst hq
    simp [updV, va_up, va_rf]
  · simp [updV, va_up, hq]
theorem ev_aastoreN {a N : Nat} {f : Nat → Option Nat} {i : Int32} (hd : decode M.2.1 pc = .ok (.aastore, 1)) (hF : F a = some (.inl (5, N, .inr (.inr (.inr (.inr f)))))) (hin : vp_in i N) (k : ∀ F2, ev_up F a (.inl (5, N, .inr (.inr (.inr (.inr (va_up f i.toNatClampNeg none)))))) = F2 → Ev l X M bc bs (pc + 1) L st n F2 Z) : Ev l X M bc bs pc L (.null :: .int i :: .ref a :: st) n F Z := by
  intro p e R s m args below meth c H locs cells slots ls h1 h2 h3 h4 h5 h6
  have hK := h1.2.2.2.2.2.2.2.1
  obtain ⟨⟨cA, t2⟩, g1, g2, g3⟩ := (h2.2.2 _ _ hF).2
  have e0 : t2 = .object "java/lang/Object" := Option.some.inj (g2.symm.trans rfl)
  subst e0
  refine va_WaastN (C := "java/lang/Object") h1.1 h1.2.1 g3 ((hK.1.2 5 _ g1).1 N (fun j => va_rf (f j))) (fun h => by cases h) (by show ¬ (i < 0 ∨ (arrV _ _ _).slots.size ≤ _); rw [arrV_size]; exact hin) rfl rfl hd fun H1 ee z oq => ?_
  refine k _ rfl p e R s m args below meth c H1 _ cells slots ls h1 (h2.set hF ?_ z oq) (h3.put z oq (h2.2.2 _ _ hF).1) h4 h5 h6
  refine ⟨_, g1, g2, ?_⟩
  rw [ee]
  rw [vp_cell_q, vp_cell_q, arrV_store]
  congr 2
  funext q
  by_cases hq : q = i.toNatClampNeg
  · subst hq
    simp [updV, va_up, va_rf]
  · simp [updV, va_up, hq]
theorem ev_anew {idx : Nat} (N : Nat) {cnt : Int32} (hd : decode M.2.1 pc = .ok (.anewarray idx, 3)) (hcl : Cond.classLink M.1.cls idx "java/lang/Object" ∈ ev_gw) (hn : ¬ cnt < 0) (hN : cnt.toNatClampNeg = N) (hbytes : N * 4 ≤ 536870912) {bc2 bs2 : Nat} (hb1 : bc2 + 1 ≤ bc) (hb2 : bs2 + N ≤ bs) (k : ∀ F2, ev_up F n (.inl (5, N, .inr (.inr (.inr (.inr (fun _ => none)))))) = F2 → Ev l X M bc2 bs2 (pc + 3) L (.ref n :: st) (n + 1) F2 Z) : Ev l X M bc bs pc L (.int cnt :: st) n F Z := by
  subst hN
  intro p e R s m args below meth c H locs cells slots ls h1 h2 h3 h4 h5 h6
  have hK := h1.2.2.2.2.2.2.2.1
  refine W.anew h1.1 h1.2.1 h1.2.2.2.2.2.2.1 (h1.w hcl) (h1.w wd_542) rfl hd rfl hn hbytes (by omega) (by omega) fun cA kA comp f1 f2 f3 f4 => ?_
  have hsz := h2.1
  generalize hH1 : H.push ({ cls := cA, slots := Array.replicate cnt.toNatClampNeg .null, vm := .none } : Cell) = H1
  have z1 : H1.size = n + 1 := by rw [← hH1, Array.size_push, hsz]
  have e1 : H1[n]? = some (arrV cA cnt.toNatClampNeg (fun _ => .null)) := by rw [← hH1, ← hsz, Array.getElem?_push_size, ← arrV_new]
  have o1 : ∀ q : Nat, q < n → H1[q]? = H[q]? := fun q hq => by rw [← hH1, Array.getElem?_push, if_neg (by omega)]
  obtain ⟨t2, g1, g2⟩ := ev_tys hK (t := 5) (ty := .object "java/lang/Object") rfl
  have g3 := (hK.1.2 5 _ g1).2
  rw [g2] at g3
  have g4 : t2.1 = cA := by
    obtain ⟨-, -, -, -, -, g5⟩ := g3
    exact Option.some.inj (g5.symm.trans f1)
  rw [hsz]
  refine k _ rfl p e R s m args below meth c H1 locs (cells + 1) (slots + cnt.toNatClampNeg) ls h1 (h2.push ⟨t2, g1, by rw [g2]; rfl, ?_⟩ z1 o1) ⟨Nat.le_trans h3.1 (by rw [z1, hsz]; omega), fun q hq hn => by rw [o1 q (by have := h3.1; rw [hsz] at this; omega)]; exact h3.2.1 q hq hn, h3.2.2⟩ h4 (by omega) (by omega)
  rw [g4, vp_cell_q]
  exact e1
theorem ev_copyq {idx a0 a n0 n1 : Nat} {f g : Nat → Option Nat} {sp dp cn : Int32} (hd : decode M.2.1 pc = .ok (.invokestatic idx, 3)) (hml : Cond.methodLink M.1.cls idx arraycopyName ∈ ev_gw) (hF0 : F a0 = some (.inl (5, n0, .inr (.inr (.inr (.inr f)))))) (hF1 : F a = some (.inl (5, n1, .inr (.inr (.inr (.inr g)))))) (hh : (¬ sp < 0 ∧ ¬ dp < 0 ∧ ¬ cn < 0) ∧ sp.toNatClampNeg + cn.toNatClampNeg ≤ n0 ∧ dp.toNatClampNeg + cn.toNatClampNeg ≤ n1) (hel : ∀ i : Nat, i < cn.toNatClampNeg → ∀ y : Nat, f (sp.toNatClampNeg + i) = some y → isO F y) (hfr : 1 ≤ M.2.2.2.2.1) (hlo : (st.map fun v => v.category).sum + (nativeFrameWords "java/lang/System" "arraycopy" 5 + 11) ≤ M.2.2.2.2.2) (k : ∀ F2, ev_up F a (.inl (5, n1, .inr (.inr (.inr (.inr (va_cpy f g sp.toNatClampNeg dp.toNatClampNeg cn.toNatClampNeg)))))) = F2 → Ev l X M bc bs (pc + 3) L st n F2 Z) : Ev l X M bc bs pc L (.int cn :: .int dp :: .ref a :: .int sp :: .ref a0 :: st) n F Z := by
  intro p e R s m args below meth c H locs cells slots ls h1 h2 h3 h4 h5 h6
  have hK := h1.2.2.2.2.2.2.2.1
  obtain ⟨⟨p1, p2, p3⟩, p4, p5⟩ := hh
  obtain ⟨⟨c0, t0⟩, a1, a2, a3⟩ := (h2.2.2 _ _ hF0).2
  obtain ⟨⟨c1, t1⟩, b1, b2, b3⟩ := (h2.2.2 _ _ hF1).2
  have e0 : t0 = .object "java/lang/Object" := Option.some.inj (a2.symm.trans rfl)
  have e1 : t1 = .object "java/lang/Object" := Option.some.inj (b2.symm.trans rfl)
  subst e0
  subst e1
  have nn : ∀ z : Int32, ¬ z < 0 → z.toInt = (z.toNatClampNeg : Int) := by
    intro z hz
    have hz0 : (0 : Int) ≤ z.toInt := by
      have := Int32.not_lt.mp hz
      simpa using Int32.le_iff_toInt_le.mp this
    show z.toInt = ((z.toInt.toNat : Nat) : Int)
    omega
  intro T hT Y
  obtain ⟨-, k0, hk0, cm0, hkk0⟩ := (hK.1.2 5 _ a1).1 n0 (fun j => va_rf (f j))
  obtain ⟨-, k1, hk1, cm1, hkk1⟩ := (hK.1.2 5 _ b1).1 n1 (fun j => va_rf (g j))
  obtain ⟨vm', X', step⟩ := Y.arraycopy h1.1 h1.2.2.2.2.2.2.1 (h1.w hml) (h1.w wd_443) (h1.w wd_442) (h1.w wd_21) (src := a0) (dst := a) (cs := vp_cell c0 (n0, .inr (.inr (.inr (.inr f))))) (cd := vp_cell c1 (n1, .inr (.inr (.inr (.inr g))))) (srcPos := sp) (destPos := dp) (n := cn) (by rw [hT]; exact a3) (by rw [hT]; exact b3)
    (fun _ h => by cases h) (fun _ h => by cases h) (fun h => by cases h) (fun h => by cases h) hk0 hk1 hkk0 hkk1 rfl p1 p2 p3
    (by rw [nn sp p1, nn cn p3]; show ¬ _ > ((arrV c0 n0 (fun j => va_rf (f j))).slots.size : Int); rw [arrV_size]; omega)
    (by rw [nn dp p2, nn cn p3]; show ¬ _ > ((arrV c1 n1 (fun j => va_rf (g j))).slots.size : Int); rw [arrV_size]; omega)
    (fun vm₁ hal i hi => by
      have e : (vp_cell c0 (n0, .inr (.inr (.inr (.inr f))))).slots.getD (sp.toNatClampNeg + i) .null = va_rf (f (sp.toNatClampNeg + i)) := by
        show (arrV c0 n0 (fun j => va_rf (f j))).slots.getD _ _ = _
        rw [Array.getD_eq_getD_getElem?, arrV_read _ _ (by omega)]
        rfl
      rw [e]
      cases hy : f (sp.toNatClampNeg + i) with
      | none => exact ⟨rfl, trivial⟩
      | some y =>
        obtain ⟨ci, fs, r, hv, hr, hct⟩ := isO_r (hel i hi y hy)
        obtain ⟨cellV, g1, g2, g3⟩ := va_recv hK.1 (ev_P1 (h2.2.2 _ _ hv).2) hr (q0 := 0) rfl
        obtain ⟨kA, comp, r1, r2, r3, -⟩ := (hK.1.2 5 _ b1).2
        cases hk1.symm.trans r1
        cases hkk1.symm.trans r2
        obtain ⟨kC, hkC, -⟩ := Vm.findClass_spec g3
        obtain ⟨kE, hkE, -⟩ := Vm.findClass_spec r3
        obtain ⟨kC', hkC', -⟩ := hal.2.2 _ _ hkC
        obtain ⟨kE', hkE', -⟩ := hal.2.2 _ _ hkE
        refine ⟨rfl, cellV, (show T.heap[y]? = some cellV by rw [hT]; exact g1), (fun q h => by rw [h] at g2; cases g2), ⟨kC', hkC'⟩, ?_, ?_⟩
        · exact ⟨kE', hkE'⟩
        · show vm₁.assignable _ _ = true
          rw [hal.assignable]
          exact vb_asgC (hK.2.1 _ hct) _ _ r3 g3)
    (g := F0 m pc ls (.int cn :: .int dp :: .ref a :: .int sp :: .ref a0 :: st)) rfl (h4.1.trans h1.2.2.1.symm) (rest := st) rfl (by rw [h1.2.1]; exact hd) (by rw [h1.2.2.2.2.2.2.2.2.1]; exact hfr) (by rw [h1.2.2.2.2.2.2.2.2.2]; show 2 * 0 + _ + _ ≤ _; omega)
  have e1 : copied (vp_cell c0 (n0, .inr (.inr (.inr (.inr f))))) (vp_cell c1 (n1, .inr (.inr (.inr (.inr g))))) sp dp cn = vp_cell c1 (n1, .inr (.inr (.inr (.inr (va_cpy f g sp.toNatClampNeg dp.toNatClampNeg cn.toNatClampNeg))))) := by
    rw [vp_cell_q, vp_cell_q, vp_cell_q]
    exact va_copied (fun z => va_rf z) c0 c1 f g p4
  rw [e1] at X' step
  have hl : a < H.size := (Array.getElem?_eq_some_iff.mp b3).1
  have hheap : ((T.setVm vm').setCell a (vp_cell c1 (n1, .inr (.inr (.inr (.inr (va_cpy f g sp.toNatClampNeg dp.toNatClampNeg cn.toNatClampNeg))))))).heap = H.setIfInBounds a (vp_cell c1 (n1, .inr (.inr (.inr (.inr (va_cpy f g sp.toNatClampNeg dp.toNatClampNeg cn.toNatClampNeg)))))) := by rw [← hT]; rfl
  have oq : ∀ q : Nat, q ≠ a → (H.setIfInBounds a (vp_cell c1 (n1, .inr (.inr (.inr (.inr (va_cpy f g sp.toNatClampNeg dp.toNatClampNeg cn.toNatClampNeg)))))))[q]? = H[q]? := fun q hq => by simp [Array.getElem?_setIfInBounds, Ne.symm hq]
  have hAa : ev_A X a := (h2.2.2 _ _ hF1).1
  obtain ⟨t, u1, u2⟩ := k _ rfl p e R s m args below meth c _ _ cells slots ls h1 (h2.set hF1 ⟨_, b1, b2, (show (H.setIfInBounds a _)[a]? = some _ by simp [Array.getElem?_setIfInBounds, hl])⟩ (by simp) oq) ⟨by simp; exact h3.1, fun q g1 g2 => by
      rw [oq q (fun e => g2 (by rw [e]; exact hAa))]
      exact h3.2.1 q g1 g2, fun q hq => by
      rcases List.mem_append.mp hq with h | h
      · exact h3.2.2 q h
      · obtain ⟨z, -, hz⟩ := List.mem_map.mp h
        rw [← hz]
        exact hAa⟩ h4 h5 h6 _ hheap X'
  exact ⟨t, step t u1, u2⟩
theorem ev_copyl {idx a0 a n0 n1 : Nat} {f g : Nat → Int64} {sp dp cn : Int32} (hd : decode M.2.1 pc = .ok (.invokestatic idx, 3)) (hml : Cond.methodLink M.1.cls idx arraycopyName ∈ ev_gw) (hF0 : F a0 = some (.inl (1, n0, .inr (.inl f)))) (hF1 : F a = some (.inl (1, n1, .inr (.inl g)))) (hh : (¬ sp < 0 ∧ ¬ dp < 0 ∧ ¬ cn < 0) ∧ sp.toNatClampNeg + cn.toNatClampNeg ≤ n0 ∧ dp.toNatClampNeg + cn.toNatClampNeg ≤ n1) (hfr : 1 ≤ M.2.2.2.2.1) (hlo : (st.map fun v => v.category).sum + (nativeFrameWords "java/lang/System" "arraycopy" 5 + 11) ≤ M.2.2.2.2.2) (k : ∀ F2, ev_up F a (.inl (1, n1, .inr (.inl (va_cpy f g sp.toNatClampNeg dp.toNatClampNeg cn.toNatClampNeg)))) = F2 → Ev l X M bc bs (pc + 3) L st n F2 Z) : Ev l X M bc bs pc L (.int cn :: .int dp :: .ref a :: .int sp :: .ref a0 :: st) n F Z := by
  intro p e R s m args below meth c H locs cells slots ls h1 h2 h3 h4 h5 h6
  have hK := h1.2.2.2.2.2.2.2.1
  obtain ⟨⟨p1, p2, p3⟩, p4, p5⟩ := hh
  obtain ⟨⟨c0, t0⟩, a1, a2, a3⟩ := (h2.2.2 _ _ hF0).2
  obtain ⟨⟨c1, t1⟩, b1, b2, b3⟩ := (h2.2.2 _ _ hF1).2
  have e0 : t0 = .long := Option.some.inj (a2.symm.trans rfl)
  have e1 : t1 = .long := Option.some.inj (b2.symm.trans rfl)
  subst e0
  subst e1
  have nn : ∀ z : Int32, ¬ z < 0 → z.toInt = (z.toNatClampNeg : Int) := by
    intro z hz
    have hz0 : (0 : Int) ≤ z.toInt := by
      have := Int32.not_lt.mp hz
      simpa using Int32.le_iff_toInt_le.mp this
    show z.toInt = ((z.toInt.toNat : Nat) : Int)
    omega
  intro T hT Y
  obtain ⟨-, k0, hk0, cm0, hkk0⟩ := (hK.1.2 1 _ a1).1 n0 (fun j => .long (f j))
  obtain ⟨-, k1, hk1, cm1, hkk1⟩ := (hK.1.2 1 _ b1).1 n1 (fun j => .long (g j))
  obtain ⟨vm', X', step⟩ := Y.arraycopy h1.1 h1.2.2.2.2.2.2.1 (h1.w hml) (h1.w wd_443) (h1.w wd_442) (h1.w wd_21) (src := a0) (dst := a) (cs := vp_cell c0 (n0, .inr (.inl f))) (cd := vp_cell c1 (n1, .inr (.inl g))) (srcPos := sp) (destPos := dp) (n := cn) (by rw [hT]; exact a3) (by rw [hT]; exact b3)
    (fun _ h => by cases h) (fun _ h => by cases h) (fun h => by cases h) (fun h => by cases h) hk0 hk1 hkk0 hkk1 (by simp [refKind]) p1 p2 p3
    (by rw [nn sp p1, nn cn p3]; show ¬ _ > ((arrV c0 n0 (fun j => .long (f j))).slots.size : Int); rw [arrV_size]; omega)
    (by rw [nn dp p2, nn cn p3]; show ¬ _ > ((arrV c1 n1 (fun j => .long (g j))).slots.size : Int); rw [arrV_size]; omega)
    (fun vm₁ _ i hi => by
      have e : (vp_cell c0 (n0, .inr (.inl f))).slots.getD (sp.toNatClampNeg + i) .null = .long (f (sp.toNatClampNeg + i)) := by
        show (arrV c0 n0 (fun j => .long (f j))).slots.getD _ _ = _
        rw [Array.getD_eq_getD_getElem?, arrV_read _ _ (by omega)]
        rfl
      refine ⟨?_, ?_⟩
      · rw [e]
        rfl
      · rw [e]
        exact trivial)
    (g := F0 m pc ls (.int cn :: .int dp :: .ref a :: .int sp :: .ref a0 :: st)) rfl (h4.1.trans h1.2.2.1.symm) (rest := st) rfl (by rw [h1.2.1]; exact hd) (by rw [h1.2.2.2.2.2.2.2.2.1]; exact hfr) (by rw [h1.2.2.2.2.2.2.2.2.2]; show 2 * 0 + _ + _ ≤ _; omega)
  have e1 : copied (vp_cell c0 (n0, .inr (.inl f))) (vp_cell c1 (n1, .inr (.inl g))) sp dp cn = vp_cell c1 (n1, .inr (.inl (va_cpy f g sp.toNatClampNeg dp.toNatClampNeg cn.toNatClampNeg))) := va_copied (fun z => .long z) c0 c1 f g p4
  rw [e1] at X' step
  have hl : a < H.size := (Array.getElem?_eq_some_iff.mp b3).1
  have hheap : ((T.setVm vm').setCell a (vp_cell c1 (n1, .inr (.inl (va_cpy f g sp.toNatClampNeg dp.toNatClampNeg cn.toNatClampNeg))))).heap = H.setIfInBounds a (vp_cell c1 (n1, .inr (.inl (va_cpy f g sp.toNatClampNeg dp.toNatClampNeg cn.toNatClampNeg)))) := by rw [← hT]; rfl
  have oq : ∀ q : Nat, q ≠ a → (H.setIfInBounds a (vp_cell c1 (n1, .inr (.inl (va_cpy f g sp.toNatClampNeg dp.toNatClampNeg cn.toNatClampNeg)))))[q]? = H[q]? := fun q hq => by simp [Array.getElem?_setIfInBounds, Ne.symm hq]
  have hAa : ev_A X a := (h2.2.2 _ _ hF1).1
  obtain ⟨t, u1, u2⟩ := k _ rfl p e R s m args below meth c _ _ cells slots ls h1 (h2.set hF1 ⟨_, b1, b2, (show (H.setIfInBounds a _)[a]? = some _ by simp [Array.getElem?_setIfInBounds, hl])⟩ (by simp) oq) ⟨by simp; exact h3.1, fun q g1 g2 => by
      rw [oq q (fun e => g2 (by rw [e]; exact hAa))]
      exact h3.2.1 q g1 g2, fun q hq => by
      rcases List.mem_append.mp hq with h | h
      · exact h3.2.2 q h
      · obtain ⟨z, -, hz⟩ := List.mem_map.mp h
        rw [← hz]
        exact hAa⟩ h4 h5 h6 _ hheap X'
  exact ⟨t, step t u1, u2⟩
theorem ev_clone {idx a N : Nat} {f : Nat → Int64} (hd : decode M.2.1 pc = .ok (.invokevirtual idx, 3)) (hml : Cond.methodLink M.1.cls idx ⟨"[J", "clone", "()Ljava/lang/Object;"⟩ ∈ ev_gw) (hF : F a = some (.inl (1, N, .inr (.inl f)))) (hfr : 1 ≤ M.2.2.2.2.1) (hlo : (st.map fun v => v.category).sum + 14 ≤ M.2.2.2.2.2) {bc2 bs2 : Nat} (hb1 : bc2 + 1 ≤ bc) (hb2 : bs2 + N ≤ bs) (k : ∀ F2, ev_up F n (.inl (1, N, .inr (.inl f))) = F2 → Ev l X M bc2 bs2 (pc + 3) L (.ref n :: st) (n + 1) F2 Z) : Ev l X M bc bs pc L (.ref a :: st) n F Z := by
  intro p e R s m args below meth c H locs cells slots ls h1 h2 h3 h4 h5 h6
  have hK := h1.2.2.2.2.2.2.2.1
  obtain ⟨⟨cA, t2⟩, g1, g2, g3⟩ := (h2.2.2 _ _ hF).2
  have e0 : t2 = .long := Option.some.inj (g2.symm.trans rfl)
  subst e0
  have hnm : s.vm.findClass "[J" = some cA := (hK.1.2 1 _ g1).2
  have hsz : (vp_cell cA (N, .inr (.inl f))).slots.size = N := arrV_size _ _ _
  obtain ⟨c0, t0', f1, f2, f3⟩ := Cond.castable_spec (va_Nw.use (A := args) rfl (hK.2.1 _ wd_438))
  cases hnm.symm.trans f1
  intro T hT Y
  have hcellT : T.heap[a]? = some (vp_cell cA (N, .inr (.inl f))) := by rw [hT]; exact g3
  obtain ⟨-, kA, hkA, comp, hkind⟩ := State.isArrayOf_alike Y.warmed.alike ((hK.1.2 1 _ g1).1 0 (fun _ => .null))
  obtain ⟨-, kS, hkS, compS, hkindS⟩ := (hK.1.2 1 _ g1).1 0 (fun _ => .null)
  obtain ⟨vm', X', stp⟩ := Y.cloneArray h1.1 h1.2.2.2.2.2.2.1 (h1.w hml) (h1.w wd_434) (h1.w wd_435) (h1.w wd_436) (h1.w wd_437) (a := a) (cell := vp_cell cA (N, .inr (.inl f))) hcellT (fun k h => by cases h) (fun h => by cases h) hnm f2 f3
    (fun i v hv => by
      have hk' : T.vm.classes[cA]? = some kA := hkA
      have hv2 : (arrV cA N (fun j => .long (f j))).slots[i]? = some v := hv
      have hl : i < N := by
        have := (Array.getElem?_eq_some_iff.mp hv2).1
        rw [arrV_size] at this
        exact this
      rw [arrV_read _ _ hl] at hv2
      cases hv2
      show T.fitsSlot cA _ _ _ = true
      simp [State.fitsSlot, State.slotType?, hk', hkind]
      rfl)
    (g := F0 m pc ls (.ref a :: st)) rfl (h4.1.trans h1.2.2.1.symm) rfl (by rw [h1.2.1]; exact hd) (by rw [h1.2.2.2.2.2.2.2.2.1]; exact hfr) (by rw [h1.2.2.2.2.2.2.2.2.2]; show 2 * 0 + _ + 14 ≤ _; omega) (by omega) (by rw [hsz]; omega) (hloader := Vm.clonesLoader_of_array hkS hkindS)
  rw [hsz] at X'
  have hz := h2.1
  generalize hH1 : H.push (vp_cell cA (N, .inr (.inl f))) = H1
  have z1 : H1.size = n + 1 := by rw [← hH1, Array.size_push, hz]
  have e1 : H1[n]? = some (vp_cell cA (N, .inr (.inl f))) := by rw [← hH1, ← hz, Array.getElem?_push_size]
  have o1 : ∀ q : Nat, q < n → H1[q]? = H[q]? := fun q hq => by rw [← hH1, Array.getElem?_push, if_neg (by omega)]
  obtain ⟨t, b1, b2⟩ := k _ rfl p e R s m args below meth c H1 locs (cells + 1) (slots + N) ls h1 (h2.push ⟨_, g1, g2, e1⟩ z1 o1) ⟨Nat.le_trans h3.1 (by rw [z1, hz]; omega), fun q hq hn => by rw [o1 q (by have := h3.1; rw [hz] at this; omega)]; exact h3.2.1 q hq hn, h3.2.2⟩ h4 (by omega) (by omega)
    ((T.setVm vm').pushCell (vp_cell cA (N, .inr (.inl f)))) (by rw [← hH1, ← hT]; rfl) X'
  refine ⟨t, stp t ?_, b2⟩
  rw [hT, hz]
  exact b1
theorem ev_castJ {idx a N : Nat} {f : Nat → Int64} (hd : decode M.2.1 pc = .ok (.checkcast idx, 3)) (hcl : Cond.classLink M.1.cls idx "[J" ∈ ev_gw) (hF : F a = some (.inl (1, N, .inr (.inl f)))) (k : Ev l X M bc bs (pc + 3) L (.ref a :: st) n F Z) : Ev l X M bc bs pc L (.ref a :: st) n F Z := by
  intro p e R s m args below meth c H locs cells slots ls h1 h2 h3 h4 h5 h6
  obtain ⟨cA, g1, g2⟩ := ev_PA (h2.2.2 _ _ hF).2 (ty := .long) rfl
  have hnm : s.vm.findClass "[J" = some cA := (h1.2.2.2.2.2.2.2.1.1.2 1 _ g1).2
  exact va_castA h1.1 h1.2.1 h1.2.2.2.2.2.2.1 (h1.w hcl) g2 0 rfl hnm hd (k p e R s m args below meth c H locs cells slots ls h1 h2 h3 h4 h5 h6)
theorem ev_getC {idx a N : Nat} {f : Nat → Option Nat} (hd : decode M.2.1 pc = .ok (.invokevirtual idx, 3)) (hml : Cond.methodLink M.1.cls idx ⟨"java/lang/Object", "getClass", "()Ljava/lang/Class;"⟩ ∈ ev_gw) (hF : F a = some (.inl (5, N, .inr (.inr (.inr (.inr f)))))) (hfr : 1 ≤ M.2.2.2.2.1) (hlo : (st.map fun v => v.category).sum + 14 ≤ M.2.2.2.2.2) (k : Ev l X M bc bs (pc + 3) L (.ref (X.2.2.2.1 3) :: st) n F Z) : Ev l X M bc bs pc L (.ref a :: st) n F Z := by
  intro p e R s m args below meth c H locs cells slots ls h1 h2 h3 h4 h5 h6
  have hK := h1.2.2.2.2.2.2.2.1
  obtain ⟨⟨cA, t2⟩, g1, g2, g3⟩ := (h2.2.2 _ _ hF).2
  have e0 : t2 = .object "java/lang/Object" := Option.some.inj (g2.symm.trans rfl)
  subst e0
  have hnm : s.vm.findClass "[Ljava/lang/Object;" = some cA := va_nmO (hK.1.2 5 _ g1).2 (by decide)
  exact va_getC (C := "[Ljava/lang/Object;") h1.1 h1.2.1 (h1.2.2.1.trans h4.1.symm) h1.2.2.2.2.2.2.1 (h1.w hml) (h1.w wd_1208) (h1.w wd_1207) (h1.w wd_522) (h1.w wd_537) hK.2.2.1.2.2.2.2.2 ⟨_, g3, rfl, hnm⟩ (by rw [h1.2.2.2.2.2.2.2.2.1]; exact hfr) (by rw [h1.2.2.2.2.2.2.2.2.2]; exact hlo) hd (k p e R s m args below meth c H locs cells slots ls h1 h2 h3 h4 h5 h6)
theorem ev_ldcM {idx : Nat} (hd : decode M.2.1 pc = .ok (.ldc idx, 2)) (hcl : Cond.classLink M.1.cls idx "[Ljava/lang/Object;" ∈ ev_gw) (k : Ev l X M bc bs (pc + 2) L (.ref (X.2.2.2.1 3) :: st) n F Z) : Ev l X M bc bs pc L st n F Z := by
  intro p e R s m args below meth c H locs cells slots ls h1 h2 h3 h4 h5 h6
  exact va_ldcM h1.1 h1.2.1 h1.2.2.2.2.2.2.1 (h1.w hcl) h1.2.2.2.2.2.2.2.1.2.2.1.2.2.2.2.2 hd (k p e R s m args below meth c H locs cells slots ls h1 h2 h3 h4 h5 h6)
theorem ev_ldcw {idx : Nat} {v : Int32} (hd : decode M.2.1 pc = .ok (.ldc_w idx, 3)) (hw : Jvm.Cond.constant M.1.cls idx v ∈ ev_gw) (k : Ev l X M bc bs (pc + 3) L (.int v :: st) n F Z) : Ev l X M bc bs pc L st n F Z :=
  fun p e R s m args below meth c H locs cells slots ls h1 h2 h3 h4 h5 h6 => lv_ldcw h1.1 h1.2.1 h1.2.2.2.2.2.2.1 (h1.w hw) hd (k p e R s m args below meth c H locs cells slots ls h1 h2 h3 h4 h5 h6)
end EvL
