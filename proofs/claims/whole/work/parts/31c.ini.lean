/-! what the constructors make -/
theorem wd_161 : (Jvm.Cond.arrayOver (Jvm.ClassFile.FieldType.array Jvm.ClassFile.FieldType.int)) ∈ ev_gw := ev_m1 (List.mem_of_getElem? (i := 161) rfl) rfl
section EVMN
variable {l : Launch} {X : ev_X} {M : ev_M} {bc bs pc n : Nat} {L : List (Nat × Value)} {st : List Value} {F : ev_H} {Z : ev_Z}
def mnF (F : ev_H) (n N K : Nat) : ev_H := fun q => if q = n then some (.inl (6, N, .inr (.inr (.inr (.inr (fun j => if j < N then some (n + 1 + j) else none)))))) else if n < q ∧ q ≤ n + N then some (.inl (0, K, .inl (fun _ => 0))) else F q
theorem ev_mna {idx : Nat} (N K : Nat) {cn ck : Int32} (hd : decode M.2.1 pc = .ok (.multianewarray idx 2, 4)) (hcl : Cond.classLink M.1.cls idx "[[I" ∈ ev_gw) (hn : ¬ cn < 0) (hk : ¬ ck < 0) (hN : cn.toNatClampNeg = N) (hK : ck.toNatClampNeg = K) (hb1 : N * 4 ≤ 536870912) (hb2 : K * 4 ≤ 536870912) {bc2 bs2 : Nat} (hc : bc2 + (1 + N) ≤ bc) (hs : bs2 + (N + N * K) ≤ bs) (k : ∀ F2, mnF F n N K = F2 → Ev l X M bc2 bs2 (pc + 4) L (.ref n :: st) (n + 1 + N) F2 Z) : Ev l X M bc bs pc L (.int ck :: .int cn :: st) n F Z := by
  intro p e R s m args below meth c H locs cells slots ls h1 h2 h3 h4 h5 h6
  have hK0 := h1.2.2.2.2.2.2.2.1
  have es : "[" ++ (FieldType.array FieldType.int).toString = "[[I" := by decide +kernel
  refine mn_W h1.1 h1.2.1 h1.2.2.2.2.2.2.1 (by rw [es]; exact h1.w hcl) (h1.w wd_161) (h1.w wd_153) hn hk hN hK hb1 hb2 (by omega) (by omega) hd fun cA cy H1 fA fC z1 o1 e1 e2 => ?_
  have hsz := h2.1
  rw [hsz] at z1 o1 e1 e2
  rw [hsz]
  obtain ⟨t6, g1, g2⟩ := ev_tys hK0 (t := 6) (ty := .array .int) rfl
  obtain ⟨t0, f1, f2⟩ := ev_tys hK0 (t := 0) (ty := .int) rfl
  have g3 := (hK0.1.2 6 _ g1).2
  rw [g2] at g3
  have f3 := (hK0.1.2 0 _ f1).2
  rw [f2] at f3
  have g4 : t6.1 = cA := by
    have g5 : s.vm.findClass ("[" ++ (FieldType.array FieldType.int).toString) = some t6.1 := g3
    exact Option.some.inj (g5.symm.trans fA)
  have f4 : t0.1 = cy := by
    have f5 : s.vm.findClass ("[" ++ FieldType.int.toString) = some t0.1 := f3
    exact Option.some.inj (f5.symm.trans fC)
  refine k _ rfl p e R s m args below meth c H1 locs (cells + 1 + N) (slots + N + N * K) ls h1 ⟨z1, by have := h2.2.1; omega, fun q d hq => ?_⟩ ⟨Nat.le_trans h3.1 (by rw [z1, hsz]; omega), fun q hq hn => by rw [o1 q (by have := h3.1; rw [hsz] at this; omega)]; exact h3.2.1 q hq hn, h3.2.2⟩ h4 (by omega) (by omega)
  unfold mnF at hq
  by_cases c1 : q = n
  · rw [if_pos c1] at hq
    cases hq
    subst c1
    refine ⟨h2.2.1, t6, g1, by rw [g2]; rfl, ?_⟩
    rw [g4, vp_cell_q]
    exact e1
  · rw [if_neg c1] at hq
    by_cases c2 : n < q ∧ q ≤ n + N
    · rw [if_pos c2] at hq
      cases hq
      refine ⟨by have := h2.2.1; omega, t0, f1, by rw [f2]; rfl, ?_⟩
      have e3 := e2 (q - (n + 1)) (by omega)
      rw [show n + 1 + (q - (n + 1)) = q by omega] at e3
      rw [e3, f4]
      show some ({ cls := cy, slots := Array.replicate K (.int 0), vm := .none } : Cell) = _
      rw [arrV_new]
      rfl
    · rw [if_neg c2] at hq
      have hl := (h2.2.2 q d hq).2.lt
      rw [hsz] at hl
      exact ⟨(h2.2.2 q d hq).1, (h2.2.2 q d hq).2.kept (o1 q hl)⟩
end EVMN
section INI
variable {l : Launch} {X : ev_X} {n a : Nat} {F G : ev_H}
def iQ (n : Nat) (F : ev_H) (a k : Nat) (P : ev_H → Prop) : Option Value → Nat → ev_H → Prop := fun v n' F' => v = none ∧ n' = n + k ∧ (∀ q, q < n → q ≠ a → F' q = F q) ∧ P F'
theorem c_St_init (h : F a = some (.inr (1, [.null, .null, .int 0]))) : Cal l X M_St_init 2 24 [.ref a] (a + 1) F (iQ (a + 1) F a 2 (fun G => stZ G a)) := by
  refine Cal.of (by decide) (Nat.le_of_ble_eq_true rfl) (s_St_initN_0 (rc7 := 1) (rs7 := 12) (rc15 := 0) (rs15 := 0) (by omega) (by omega) h (by omega) (by omega) ⟨rfl, rfl, fun q h1 h2 => ?_, ⟨0, fun _ => 0, fun _ => 0, ?_, ?_, ?_⟩⟩)
  · repeat rw [ev_up_n (by omega)]
  · exact ev_up_s
  · repeat (first | exact ev_up_s | rw [ev_up_n (by omega)])
  · repeat (first | exact ev_up_s | rw [ev_up_n (by omega)])
theorem c_Pe_init (h : F a = some (.inr (2, [.null, .int 0]))) : Cal l X M_Pe_init 1 3 [.ref a] (a + 1) F (iQ (a + 1) F a 1 (fun G => G a = some (.inr (2, [.ref (a + 1), .int 0])) ∧ G (a + 1) = some (eL X))) := by
  refine Cal.of (by decide) (Nat.le_of_ble_eq_true rfl) (s_Pe_initN_0 (rc5 := 0) (rs5 := 0) (bc9 := 0) (bs9 := 0) (rc9 := 0) (rs9 := 0) (by omega) (by omega) (by omega) (by omega) (c_AL_init eu_y) ?_)
  rintro _ _ _ ⟨rfl, rfl, rfl⟩
  refine s_Pe_initN_12 (ir0_ids := 0) (by rw [ev_up_n (by omega), ev_up_n (by omega)]; exact h) ⟨rfl, rfl, fun q h1 h2 => ?_, ?_, ?_⟩
  · repeat rw [ev_up_n (by omega)]
  · exact ev_up_s
  · repeat (first | exact ev_up_s | rw [ev_up_n (by omega)])
theorem c_Sh_init (h : F a = some (.inr (3, [.null, .null]))) : Cal l X M_Sh_init 2 6 [.ref a] (a + 1) F (iQ (a + 1) F a 2 (fun G => G a = some (.inr (3, [.ref (a + 1), .ref (a + 2)])) ∧ G (a + 1) = some (eL X) ∧ G (a + 2) = some (eL X))) := by
  refine Cal.of (by decide) (Nat.le_of_ble_eq_true rfl) (s_Sh_initN_0 (rc5 := 1) (rs5 := 3) (bc9 := 0) (bs9 := 0) (rc9 := 1) (rs9 := 3) (by omega) (by omega) (by omega) (by omega) (c_AL_init eu_y) ?_)
  rintro _ _ _ ⟨rfl, rfl, rfl⟩
  refine s_Sh_initN_12 (rc16 := 0) (rs16 := 0) (bc20 := 0) (bs20 := 0) (rc20 := 0) (rs20 := 0) (by rw [ev_up_n (by omega), ev_up_n (by omega)]; exact h) (by omega) (by omega) (by omega) (by omega) (c_AL_init eu_y) ?_
  rintro _ _ _ ⟨rfl, rfl, rfl⟩
  refine s_Sh_initN_23 (by repeat (first | exact ev_up_s | rw [ev_up_n (by omega)])) ⟨rfl, rfl, fun q h1 h2 => ?_, ?_, ?_, ?_⟩
  · repeat rw [ev_up_n (by omega)]
  · exact ev_up_s
  · repeat (first | exact ev_up_s | rw [ev_up_n (by omega)])
  · repeat (first | exact ev_up_s | rw [ev_up_n (by omega)])
theorem c_Ma_init (h : F a = some (.inr (4, [.int 0, .int 0, .int 0]))) : Cal l X M_Ma_init 0 0 [.ref a] (a + 1) F (iQ (a + 1) F a 0 (fun G => G a = some (maO (nI 0) 0 false))) := by
  refine Cal.of (by decide) (Nat.le_of_ble_eq_true rfl) (s_Ma_initN_0 h ⟨rfl, rfl, fun q h1 h2 => ?_, ?_⟩)
  · repeat rw [ev_up_n (by omega)]
  · exact ev_up_s
theorem c_Qs_init (h : F a = some (.inr (5, [.null, .null, .int 0]))) : Cal l X M_Qs_init 2 11 [.ref a] (a + 1) F (iQ (a + 1) F a 2 (fun G => G a = some (.inr (5, [.ref (a + 1), .ref (a + 2), .int 0])) ∧ G (a + 1) = some (eL X) ∧ G (a + 2) = some (.inl (0, 8, .inl (fun _ => 0))))) := by
  refine Cal.of (by decide) (Nat.le_of_ble_eq_true rfl) (s_Qs_initN_0 (rc5 := 1) (rs5 := 8) (bc9 := 0) (bs9 := 0) (rc9 := 1) (rs9 := 8) (by omega) (by omega) (by omega) (by omega) (c_AL_init eu_y) ?_)
  rintro _ _ _ ⟨rfl, rfl, rfl⟩
  refine s_Qs_initN_12 (ir0_height := 0) (rc18 := 0) (rs18 := 0) (by rw [ev_up_n (by omega), ev_up_n (by omega)]; exact h) (by omega) (by omega) ⟨rfl, rfl, fun q h1 h2 => ?_, ?_, ?_, ?_⟩
  · repeat rw [ev_up_n (by omega)]
  · exact ev_up_s
  · repeat (first | exact ev_up_s | rw [ev_up_n (by omega)])
  · repeat (first | exact ev_up_s | rw [ev_up_n (by omega)])
theorem c_Re_init (h : F a = some (.inr (7, [.null, .null, .int 0]))) : Cal l X M_Re_init 2 24 [.ref a] (a + 1) F (iQ (a + 1) F a 2 (fun G => reI G a [])) := by
  refine Cal.of (by decide) (Nat.le_of_ble_eq_true rfl) (s_Re_initN_0 (rc7 := 1) (rs7 := 12) (rc15 := 0) (rs15 := 0) (by omega) (by omega) h (by omega) (by omega) ⟨rfl, rfl, fun q h1 h2 => ?_, ⟨fun _ => 0, fun _ => 0, ?_, ?_, ?_, by simp, by simp⟩⟩)
  · repeat rw [ev_up_n (by omega)]
  · exact ev_up_s
  · repeat (first | exact ev_up_s | rw [ev_up_n (by omega)])
  · repeat (first | exact ev_up_s | rw [ev_up_n (by omega)])
set_option maxRecDepth 100000 in
theorem c_Ra_init (h : F a = some (.inr (6, [.null, .null, .int 0, .int 0]))) : Cal l X M_Ra_init 10 112 [.ref a] (a + 1) F (iQ (a + 1) F a 10 (fun G => raI G a (fun _ _ => 0) (fun _ => 0) 0 0)) := by
  refine Cal.of (by decide) (Nat.le_of_ble_eq_true rfl) ?_
  refine ev_aload_n (pc := 0) d_Ra_init_0 rfl ?_
  refine ev_objInit (pc := 1) d_Ra_init_1 wd_159 wd_33 wd_34 (Nat.le_of_ble_eq_true rfl) (Nat.le_of_ble_eq_true rfl) ?_
  refine ev_aload_n (pc := 4) d_Ra_init_4 rfl ?_
  refine ev_bipush (pc := 5) 8 d_Ra_init_5 (by decide) ?_
  refine ev_bipush (pc := 7) 12 d_Ra_init_7 (by decide) ?_
  refine ev_mna (pc := 9) 8 12 d_Ra_init_9 wd_160 (by decide) (by decide) (by decide) (by decide) (by decide) (by decide) (bc2 := 1) (bs2 := 8) (by omega) (by omega) (fun F1 hF1 => ?_)
  have a1 : F1 a = some (.inr (6, [.null, .null, .int 0, .int 0])) := by
    rw [← hF1]
    unfold mnF
    rw [if_neg (by omega), if_neg (by omega)]
    exact h
  refine ev_putfield (pc := 13) 0 _ d_Ra_init_13 fl_Ra_11 a1 (ev_pfn (r0 := rC6) (ty := (.array (.array .int))) rfl (Or.inr ⟨rfl, rfl, rfl⟩) (by decide +kernel)) rfl rfl (Nat.le_of_ble_eq_true rfl) (fun F2 hF2 => ?_)
  have a2 : F2 a = some (.inr (6, [.ref (a + 1), .null, .int 0, .int 0])) := by rw [← hF2]; exact ev_up_s
  refine ev_aload_n (pc := 16) d_Ra_init_16 rfl ?_
  refine ev_bipush (pc := 17) 8 d_Ra_init_17 (by decide) ?_
  refine ev_newarray (pc := 19) 0 8 (8, .inl (fun _ => 0)) d_Ra_init_19 wd_153 rfl rfl (fun _ _ h => h) (fun _ => rfl) (by decide) (by decide) (by decide) (bc2 := 0) (bs2 := 0) (by omega) (by omega) (fun F3 hF3 => ?_)
  have a3 : F3 a = some (.inr (6, [.ref (a + 1), .null, .int 0, .int 0])) := by rw [← hF3]; exact ev_up_k (by omega) a2
  refine ev_putfield (pc := 21) 1 _ d_Ra_init_21 fl_Ra_16 a3 (ev_pfn (r0 := rC6) (ty := (.array .int)) rfl (Or.inr ⟨rfl, rfl, rfl⟩) (by decide +kernel)) rfl rfl (Nat.le_of_ble_eq_true rfl) (fun F4 hF4 => ?_)
  have a4 : F4 a = some (.inr (6, [.ref (a + 1), .ref (a + 10), .int 0, .int 0])) := by rw [← hF4]; exact ev_up_s
  refine ev_aload_n (pc := 24) d_Ra_init_24 rfl ?_
  refine ev_iconst (pc := 25) 0 d_Ra_init_25 (by decide) ?_
  refine ev_putfield (pc := 26) 2 _ d_Ra_init_26 fl_Ra_20 a4 pf_6_termCount rfl rfl (Nat.le_of_ble_eq_true rfl) (fun F5 hF5 => ?_)
  have a5 : F5 a = some (.inr (6, [.ref (a + 1), .ref (a + 10), .int 0, .int 0])) := by rw [← hF5]; exact ev_up_s
  refine ev_aload_n (pc := 29) d_Ra_init_29 rfl ?_
  refine ev_iconst (pc := 30) 0 d_Ra_init_30 (by decide) ?_
  refine ev_putfield (pc := 31) 3 _ d_Ra_init_31 fl_Ra_24 a5 pf_6_weighedCount rfl rfl (Nat.le_of_ble_eq_true rfl) (fun F6 hF6 => ?_)
  have kq : ∀ q, q ≠ a → q ≠ a + 10 → F6 q = F1 q := fun q h1 h2 => by
    rw [← hF6, ev_up_n h1, ← hF5, ev_up_n h1, ← hF4, ev_up_n h1, ← hF3, ev_up_n (by omega), ← hF2, ev_up_n h1]
  refine ev_return (pc := 34) d_Ra_init_34 rfl ⟨rfl, rfl, fun q h1 h2 => ?_, ?_, ⟨fun j => if j < 8 then some (a + 1 + 1 + j) else none, ?_, ?_⟩, fun i hi => ?_, ?_⟩
  · rw [kq q h2 (by omega), ← hF1]
    unfold mnF
    rw [if_neg (by omega), if_neg (by omega)]
  · rw [← hF6]
    exact ev_up_s
  · rw [kq (a + 1) (by omega) (by omega), ← hF1]
    unfold mnF
    rw [if_pos rfl]
  · intro i hi
    show (if i < 8 then some (a + 1 + 1 + i) else none) = _
    rw [if_pos hi]
  · rw [kq (a + 2 + i) (by omega) (by omega), ← hF1]
    unfold mnF
    rw [if_neg (by omega), if_pos (by omega)]
  · rw [← hF6, ev_up_n (by omega), ← hF5, ev_up_n (by omega), ← hF4, ev_up_n (by omega), ← hF3]
    exact ev_up_s
/-- what of a new shelf stands already, its first k cells but the object itself -/
def iP (X : ev_X) (F : ev_H) (a k : Nat) (G : ev_H) : Prop := (∀ q, q < a → G q = F q) ∧ (4 ≤ k → stZ G (a + 1)) ∧ (5 ≤ k → ∃ f, G (a + 4) = some (.inl (1, 12, .inr (.inl f)))) ∧ (7 ≤ k → G (a + 5) = some (.inr (2, [.ref (a + 6), .int 0])) ∧ G (a + 6) = some (eL X)) ∧ (10 ≤ k → G (a + 7) = some (.inr (3, [.ref (a + 8), .ref (a + 9)])) ∧ G (a + 8) = some (eL X) ∧ G (a + 9) = some (eL X)) ∧ (11 ≤ k → G (a + 10) = some (maO (nI 0) 0 false)) ∧ (14 ≤ k → G (a + 11) = some (.inr (5, [.ref (a + 12), .ref (a + 13), .int 0])) ∧ G (a + 12) = some (eL X) ∧ G (a + 13) = some (.inl (0, 8, .inl (fun _ => 0)))) ∧ (25 ≤ k → raI G (a + 14) (fun _ _ => 0) (fun _ => 0) 0 0) ∧ (28 ≤ k → reI G (a + 25) [])
theorem iP_k {k : Nat} {G' : ev_H} (h : iP X F a k G) (e : ∀ q, q ≠ a → q < a + k → G' q = G q) : iP X F a k G' := by
  obtain ⟨h0, h1, h2, h3, h4, h5, h6, h7, h8⟩ := h
  refine ⟨fun q hq => (e q (by omega) (by omega)).trans (h0 q hq), fun hk => ?_, fun hk => ?_, fun hk => ?_, fun hk => ?_, fun hk => ?_, fun hk => ?_, fun hk => ?_, fun hk => ?_⟩
  · obtain ⟨x, y, z, b1, b2, b3⟩ := h1 hk
    exact ⟨x, y, z, (e _ (by omega) (by omega)).trans b1, (e _ (by omega) (by omega)).trans b2, (e _ (by omega) (by omega)).trans b3⟩
  · obtain ⟨f, b1⟩ := h2 hk
    exact ⟨f, (e _ (by omega) (by omega)).trans b1⟩
  · obtain ⟨b1, b2⟩ := h3 hk
    exact ⟨(e _ (by omega) (by omega)).trans b1, (e _ (by omega) (by omega)).trans b2⟩
  · obtain ⟨b1, b2, b3⟩ := h4 hk
    exact ⟨(e _ (by omega) (by omega)).trans b1, (e _ (by omega) (by omega)).trans b2, (e _ (by omega) (by omega)).trans b3⟩
  · exact (e _ (by omega) (by omega)).trans (h5 hk)
  · obtain ⟨b1, b2, b3⟩ := h6 hk
    exact ⟨(e _ (by omega) (by omega)).trans b1, (e _ (by omega) (by omega)).trans b2, (e _ (by omega) (by omega)).trans b3⟩
  · obtain ⟨b1, ⟨f, b2, b3⟩, b4, b5⟩ := h7 hk
    exact ⟨(e _ (by omega) (by omega)).trans b1, ⟨f, (e _ (by omega) (by omega)).trans b2, b3⟩, fun i hi => (e _ (by omega) (by omega)).trans (b4 i hi), (e _ (by omega) (by omega)).trans b5⟩
  · obtain ⟨x, y, b1, b2, b3, b4⟩ := h8 hk
    exact ⟨x, y, (e _ (by omega) (by omega)).trans b1, (e _ (by omega) (by omega)).trans b2, (e _ (by omega) (by omega)).trans b3, b4⟩
/-- the state of a new shelf -/
abbrev psZ (X : ev_X) (G : ev_H) (a : Nat) : Prop := psI X G (fun _ => 1) a [] [] [] 0 [] [] 0 0 false [] 0 (fun _ => 0) 0 []
set_option maxHeartbeats 4000000 in
theorem c_P_init (ha : 1 < a) (h : F a = some (.inr (0, [.null, .null, .int 0, .null, .null, .null, .null, .null, .null]))) : Cal l X M_P_init 27 212 [.ref a] (a + 1) F (iQ (a + 1) F a 27 (fun G => psZ X G a)) := by
  refine Cal.of (by decide) (Nat.le_of_ble_eq_true rfl) (s_P_initN_0 (rc5 := 26) (rs5 := 209) (bc9 := 2) (bs9 := 24) (rc9 := 24) (rs9 := 185) (by omega) (by omega) (by omega) (by omega) (c_St_init eu_y) ?_)
  rintro _ _ G1 ⟨rfl, rfl, k1, z1⟩
  have y1 : G1 a = some (.inr (0, [.null, .null, .int 0, .null, .null, .null, .null, .null, .null])) := by
    rw [k1 a (by omega) (by omega), ev_up_n (by omega)]
    exact h
  have p1 : iP X F a 4 G1 := ⟨fun q hq => by rw [k1 q (by omega) (by omega), ev_up_n (by omega)], fun _ => z1, fun hk => absurd hk (by omega), fun hk => absurd hk (by omega), fun hk => absurd hk (by omega), fun hk => absurd hk (by omega), fun hk => absurd hk (by omega), fun hk => absurd hk (by omega), fun hk => absurd hk (by omega)⟩
  refine s_P_initN_12 (rs1 := a + 1) (ir0_draftWords := 0) (rc18 := 23) (rs18 := 173) (rc29 := 22) (rs29 := 171) (bc33 := 1) (bs33 := 3) (rc33 := 21) (rs33 := 168) y1 (by omega) (by omega) (by omega) (by omega) (by omega) (by omega) (c_Pe_init eu_y) ?_
  rintro _ _ G2 ⟨rfl, rfl, k2, z2, z2b⟩
  have y2 : G2 a = some (.inr (0, [.ref (a + 1), .ref (a + 4), .int 0, .null, .null, .null, .null, .null, .null])) := by
    rw [k2 a (by omega) (by omega), ev_up_n (by omega)]
    exact ev_up_s
  have d2 : G2 (a + 4) = some (.inl (1, 12, .inr (.inl (fun _ => 0)))) := by
    rw [k2 (a + 4) (by omega) (by omega)]
    repeat (first | exact ev_up_s | rw [ev_up_n (by omega)])
  have e2 : iP X F a 4 G2 := iP_k p1 fun q h1 h2 => by
    rw [k2 q (by omega) (by omega)]
    repeat rw [ev_up_n (by omega)]
  have p2 : iP X F a 7 G2 := ⟨e2.1, fun _ => e2.2.1 (by omega), fun _ => ⟨_, d2⟩, fun _ => ⟨z2, z2b⟩, fun hk => absurd hk (by omega), fun hk => absurd hk (by omega), fun hk => absurd hk (by omega), fun hk => absurd hk (by omega), fun hk => absurd hk (by omega)⟩
  refine s_P_initN_36 (rs1 := a + 5) (ir0_draftWords := 0) (rc40 := 20) (rs40 := 166) (bc44 := 2) (bs44 := 6) (rc44 := 18) (rs44 := 160) y2 (by omega) (by omega) (by omega) (by omega) (c_Sh_init eu_y) ?_
  rintro _ _ G3 ⟨rfl, rfl, k3, z3⟩
  have y3 : G3 a = some (.inr (0, [.ref (a + 1), .ref (a + 4), .int 0, .ref (a + 5), .null, .null, .null, .null, .null])) := by
    rw [k3 a (by omega) (by omega), ev_up_n (by omega)]
    exact ev_up_s
  have e3 : iP X F a 7 G3 := iP_k p2 fun q h1 h2 => by
    rw [k3 q (by omega) (by omega)]
    repeat rw [ev_up_n (by omega)]
  have p3 : iP X F a 10 G3 := ⟨e3.1, fun _ => e3.2.1 (by omega), fun _ => e3.2.2.1 (by omega), fun _ => e3.2.2.2.1 (by omega), fun _ => z3, fun hk => absurd hk (by omega), fun hk => absurd hk (by omega), fun hk => absurd hk (by omega), fun hk => absurd hk (by omega)⟩
  refine s_P_initN_47 (rs1 := a + 7) (ir0_draftWords := 0) (rc51 := 17) (rs51 := 157) (bc55 := 0) (bs55 := 0) (rc55 := 17) (rs55 := 157) y3 (by omega) (by omega) (by omega) (by omega) (c_Ma_init eu_y) ?_
  rintro _ _ G4 ⟨rfl, rfl, k4, z4⟩
  have y4 : G4 a = some (.inr (0, [.ref (a + 1), .ref (a + 4), .int 0, .ref (a + 5), .ref (a + 7), .null, .null, .null, .null])) := by
    rw [k4 a (by omega) (by omega), ev_up_n (by omega)]
    exact ev_up_s
  have e4 : iP X F a 10 G4 := iP_k p3 fun q h1 h2 => by
    rw [k4 q (by omega) (by omega)]
    repeat rw [ev_up_n (by omega)]
  have p4 : iP X F a 11 G4 := ⟨e4.1, fun _ => e4.2.1 (by omega), fun _ => e4.2.2.1 (by omega), fun _ => e4.2.2.2.1 (by omega), fun _ => e4.2.2.2.2.1 (by omega), fun _ => z4, fun hk => absurd hk (by omega), fun hk => absurd hk (by omega), fun hk => absurd hk (by omega)⟩
  refine s_P_initN_58 (rs1 := a + 10) (ir0_draftWords := 0) (rc62 := 16) (rs62 := 154) (bc66 := 2) (bs66 := 11) (rc66 := 14) (rs66 := 143) y4 (by omega) (by omega) (by omega) (by omega) (c_Qs_init eu_y) ?_
  rintro _ _ G5 ⟨rfl, rfl, k5, z5⟩
  have y5 : G5 a = some (.inr (0, [.ref (a + 1), .ref (a + 4), .int 0, .ref (a + 5), .ref (a + 7), .ref (a + 10), .null, .null, .null])) := by
    rw [k5 a (by omega) (by omega), ev_up_n (by omega)]
    exact ev_up_s
  have e5 : iP X F a 11 G5 := iP_k p4 fun q h1 h2 => by
    rw [k5 q (by omega) (by omega)]
    repeat rw [ev_up_n (by omega)]
  have p5 : iP X F a 14 G5 := ⟨e5.1, fun _ => e5.2.1 (by omega), fun _ => e5.2.2.1 (by omega), fun _ => e5.2.2.2.1 (by omega), fun _ => e5.2.2.2.2.1 (by omega), fun _ => e5.2.2.2.2.2.1 (by omega), fun _ => z5, fun hk => absurd hk (by omega), fun hk => absurd hk (by omega)⟩
  refine s_P_initN_69 (rs1 := a + 11) (ir0_draftWords := 0) (rc73 := 13) (rs73 := 139) (bc77 := 10) (bs77 := 112) (rc77 := 3) (rs77 := 27) y5 (by omega) (by omega) (by omega) (by omega) (c_Ra_init eu_y) ?_
  rintro _ _ G6 ⟨rfl, rfl, k6, z6⟩
  have y6 : G6 a = some (.inr (0, [.ref (a + 1), .ref (a + 4), .int 0, .ref (a + 5), .ref (a + 7), .ref (a + 10), .ref (a + 11), .null, .null])) := by
    rw [k6 a (by omega) (by omega), ev_up_n (by omega)]
    exact ev_up_s
  have e6 : iP X F a 14 G6 := iP_k p5 fun q h1 h2 => by
    rw [k6 q (by omega) (by omega)]
    repeat rw [ev_up_n (by omega)]
  have p6 : iP X F a 25 G6 := ⟨e6.1, fun _ => e6.2.1 (by omega), fun _ => e6.2.2.1 (by omega), fun _ => e6.2.2.2.1 (by omega), fun _ => e6.2.2.2.2.1 (by omega), fun _ => e6.2.2.2.2.2.1 (by omega), fun _ => e6.2.2.2.2.2.2.1 (by omega), fun _ => z6, fun hk => absurd hk (by omega)⟩
  refine s_P_initN_80 (rs1 := a + 14) (ir0_draftWords := 0) (rc84 := 2) (rs84 := 24) (bc88 := 2) (bs88 := 24) (rc88 := 0) (rs88 := 0) y6 (by omega) (by omega) (by omega) (by omega) (c_Re_init eu_y) ?_
  rintro _ _ G7 ⟨rfl, rfl, k7, z7⟩
  have y7 : G7 a = some (.inr (0, [.ref (a + 1), .ref (a + 4), .int 0, .ref (a + 5), .ref (a + 7), .ref (a + 10), .ref (a + 11), .ref (a + 14), .null])) := by
    rw [k7 a (by omega) (by omega), ev_up_n (by omega)]
    exact ev_up_s
  have e7 : iP X F a 25 G7 := iP_k p6 fun q h1 h2 => by
    rw [k7 q (by omega) (by omega)]
    repeat rw [ev_up_n (by omega)]
  have p7 : iP X F a 28 G7 := ⟨e7.1, fun _ => e7.2.1 (by omega), fun _ => e7.2.2.1 (by omega), fun _ => e7.2.2.2.1 (by omega), fun _ => e7.2.2.2.2.1 (by omega), fun _ => e7.2.2.2.2.2.1 (by omega), fun _ => e7.2.2.2.2.2.2.1 (by omega), fun _ => e7.2.2.2.2.2.2.2.1 (by omega), fun _ => z7⟩
  refine s_P_initN_91 (rs1 := a + 25) (ir0_draftWords := 0) y7 ?_
  obtain ⟨b0, b1, b2, b3, b4, b5, b6, b7, b8⟩ := iP_k (G' := ev_up G7 a (psO a 0)) p7 fun q h1 h2 => ev_up_n h1
  refine ⟨rfl, rfl, fun q h1 h2 => b0 q (by omega), eu_y, b1 (by omega), ?_, ⟨(b3 (by omega)).1, dl_nil (b3 (by omega)).2, by decide, rfl, by omega⟩, ⟨(b4 (by omega)).1, ⟨ls_nil (b4 (by omega)).2.1, rfl, List.nodup_nil, fun i g y hg => by simp at hg⟩, dl_nil (b4 (by omega)).2.2, ⟨rfl, rfl, rfl, by omega⟩, by simp, by simp⟩, b5 (by omega), ⟨(b6 (by omega)).1, ⟨[], ls_nil (b6 (by omega)).2.1, rfl, fun i v x hv => by simp at hv⟩, ⟨_, (b6 (by omega)).2.2, fun i hi => absurd hi (by omega)⟩, by omega, rfl, rfl, rfl, by omega⟩, ⟨_, _, _, b7 (by omega)⟩, b8 (by omega), fun _ _ => rfl, fun g hg => by simp at hg, ha, by simp⟩
  obtain ⟨f, hf⟩ := b2 (by omega)
  exact ⟨f, hf, fun j hj => absurd hj (by simp)⟩
set_option maxRecDepth 100000 in
set_option maxHeartbeats 4000000 in
theorem c_Mo_init (h : F a = some (.inr (11, [.null, .int 0, .null, .null, .null, .int 0, .null, .null, .null, .null, .null, .int 0, .int 0, .int 0, .int 0, .int 0, .null, .null, .int 0, .null, .null, .null, .int 0, .null, .null, .int 0, .null, .null, .null]))) : Cal l X M_Mo_init 19 2584 [.ref a] (a + 1) F (fun v n' F' => v = none ∧ n' = a + 20 ∧ F' = moH F a 0 0 0 0 0 0 0 0 0 0 (fun _ _ => 0) (fun _ _ => 0)) := by
  refine Cal.of (by decide) (Nat.le_of_ble_eq_true rfl) ?_
  refine s_Mo_initN_0 (rc7 := 18) (rs7 := 2572) (rc15 := 17) (rs15 := 2560) (rc23 := 16) (rs23 := 2548) (rc32 := 15) (rs32 := 2404) (rc40 := 14) (rs40 := 2324) (rc48 := 13) (rs48 := 2244) (rc56 := 12) (rs56 := 2164) (rc64 := 11) (rs64 := 2084) (rc73 := 10) (rs73 := 1124) (rc82 := 9) (rs82 := 604) (rc91 := 8) (rs91 := 84) (rc99 := 7) (rs99 := 76) (rc107 := 6) (rs107 := 68) (rc115 := 5) (rs115 := 60) (rc123 := 4) (rs123 := 48) (rc131 := 3) (rs131 := 36) (rc139 := 2) (rs139 := 24) (rc147 := 1) (rs147 := 12) (rc155 := 0) (rs155 := 0) (by omega) (by omega) h (by omega) (by omega) (by omega) (by omega) (by omega) (by omega) (by omega) (by omega) (by omega) (by omega) (by omega) (by omega) (by omega) (by omega) (by omega) (by omega) (by omega) (by omega) (by omega) (by omega) (by omega) (by omega) (by omega) (by omega) (by omega) (by omega) (by omega) (by omega) (by omega) (by omega) (by omega) (by omega) (by omega) (by omega) (by omega) (by omega) ⟨rfl, by omega, ?_⟩
  funext q
  unfold moH
  by_cases g0 : q = a
  · subst g0
    rw [if_pos rfl]
    exact ev_up_s
  rw [if_neg g0]
  by_cases g1 : q = a + 1
  · subst g1
    rw [if_pos rfl]
    repeat (first | exact ev_up_s | rw [ev_up_n (by omega)])
  rw [if_neg g1]
  by_cases g2 : q = a + 2
  · subst g2
    rw [if_pos rfl]
    repeat (first | exact ev_up_s | rw [ev_up_n (by omega)])
  rw [if_neg g2]
  by_cases g3 : q = a + 3
  · subst g3
    rw [if_pos rfl]
    repeat (first | exact ev_up_s | rw [ev_up_n (by omega)])
  rw [if_neg g3]
  by_cases g4 : q = a + 4
  · subst g4
    rw [if_pos rfl]
    repeat (first | exact ev_up_s | rw [ev_up_n (by omega)])
  rw [if_neg g4]
  by_cases g5 : q = a + 5
  · subst g5
    rw [if_pos rfl]
    repeat (first | exact ev_up_s | rw [ev_up_n (by omega)])
  rw [if_neg g5]
  by_cases g6 : q = a + 6
  · subst g6
    rw [if_pos rfl]
    repeat (first | exact ev_up_s | rw [ev_up_n (by omega)])
  rw [if_neg g6]
  by_cases g7 : q = a + 7
  · subst g7
    rw [if_pos rfl]
    repeat (first | exact ev_up_s | rw [ev_up_n (by omega)])
  rw [if_neg g7]
  by_cases g8 : q = a + 8
  · subst g8
    rw [if_pos rfl]
    repeat (first | exact ev_up_s | rw [ev_up_n (by omega)])
  rw [if_neg g8]
  by_cases g9 : q = a + 9
  · subst g9
    rw [if_pos rfl]
    repeat (first | exact ev_up_s | rw [ev_up_n (by omega)])
  rw [if_neg g9]
  by_cases g10 : q = a + 10
  · subst g10
    rw [if_pos rfl]
    repeat (first | exact ev_up_s | rw [ev_up_n (by omega)])
  rw [if_neg g10]
  by_cases g11 : q = a + 11
  · subst g11
    rw [if_pos rfl]
    repeat (first | exact ev_up_s | rw [ev_up_n (by omega)])
  rw [if_neg g11]
  by_cases g12 : q = a + 12
  · subst g12
    rw [if_pos rfl]
    repeat (first | exact ev_up_s | rw [ev_up_n (by omega)])
  rw [if_neg g12]
  by_cases g13 : q = a + 13
  · subst g13
    rw [if_pos rfl]
    repeat (first | exact ev_up_s | rw [ev_up_n (by omega)])
  rw [if_neg g13]
  by_cases g14 : q = a + 14
  · subst g14
    rw [if_pos rfl]
    repeat (first | exact ev_up_s | rw [ev_up_n (by omega)])
  rw [if_neg g14]
  by_cases g15 : q = a + 15
  · subst g15
    rw [if_pos rfl]
    repeat (first | exact ev_up_s | rw [ev_up_n (by omega)])
  rw [if_neg g15]
  by_cases g16 : q = a + 16
  · subst g16
    rw [if_pos rfl]
    repeat (first | exact ev_up_s | rw [ev_up_n (by omega)])
  rw [if_neg g16]
  by_cases g17 : q = a + 17
  · subst g17
    rw [if_pos rfl]
    repeat (first | exact ev_up_s | rw [ev_up_n (by omega)])
  rw [if_neg g17]
  by_cases g18 : q = a + 18
  · subst g18
    rw [if_pos rfl]
    repeat (first | exact ev_up_s | rw [ev_up_n (by omega)])
  rw [if_neg g18]
  by_cases g19 : q = a + 19
  · subst g19
    rw [if_pos rfl]
    repeat (first | exact ev_up_s | rw [ev_up_n (by omega)])
  rw [if_neg g19]
  repeat rw [ev_up_n (by omega)]
end INI
