/-! what is pending: put and clear; ids as bits -/
theorem n_shc : ∀ i, i < 12 → ((nI i &&& 31).toBitVec.smod 32).toNat = i := by decide +kernel
theorem n_and1 (a : Nat) : nI a &&& 1 = nI (a % 2) := by
  rw [← Nat.and_one_is_mod]
  apply Int32.toBitVec_inj.mp
  show BitVec.ofNat 32 a &&& BitVec.ofNat 32 1 = BitVec.ofNat 32 (a &&& 1)
  apply BitVec.eq_of_toNat_eq
  simp [Nat.and_mod_two_pow]
  omega
theorem tb_ok (i : Nat) (hi : i < 12) (m : Nat) (hm : m < 4096) : decide (((nI m >>> (nI i &&& 31)) &&& 1) = 1) = m.testBit i := by
  rw [pk_shrN (by omega) _ i (n_shc i hi), n_and1, Nat.testBit_eq_decide_div_mod_eq]
  have h2 : m / 2 ^ i % 2 < 2 := Nat.mod_lt _ (by decide)
  exact decide_eq_decide.mpr (nI_eq (b := 1) (by omega) (by decide))
theorem fr_k {W : Nat → Prop} {F G : ev_H} {x : Nat} {c : ev_C} (h : fr W F G) (hx : F x = some c) (hw : ¬ W x) : G x = some c := h x c hx hw
section ConPe2
variable {l : Launch} {X : ev_X} {n : Nat} {F : ev_H} {ow : Nat → Nat} {q m : Nat} {ds : List (Nat × List Int64)}
theorem c_P_isAmong {i m : Nat} (hi : i < 12) (hm : m < 4096) : Cal l X M_P_isAmong 0 0 [.int (nI i), .int (nI m)] n F (ev_pure (.int (bI (m.testBit i))) n F) := by
  have e := tb_ok i hi m hm
  refine Cal.of (by decide) (Nat.le_of_ble_eq_true rfl) (s_P_isAmong_0 (fun a => ⟨?_, rfl, rfl⟩) (fun a => ⟨?_, rfl, rfl⟩))
  · rw [← e, decide_eq_false a]
    rfl
  · rw [← e, decide_eq_true a]
    rfl
theorem pe_W (h : peI X F ow q ds m) : ∀ a, ow a = 0 → peW ow q a → ∃ d fs, F a = some (.inr (d, fs)) ∧ d ≠ 8 := fun a h0 hz => by
  obtain ⟨g1, ⟨vs, ⟨e, mc, l1, -⟩, -⟩, -, -, g5⟩ := h
  rcases hz with rfl | rfl | hz
  · exact ⟨2, _, g1, by decide⟩
  · exact ⟨12, _, l1, by decide⟩
  · rw [h0] at hz
    omega
/-- one document more in a list -/
theorem dl_app {L v : Nat} {G : ev_H} {ow' : Nat → Nat} {vs : List Nat} {x : Nat × List Int64} (h : lsI X F ow L vs) (hL : L ≠ 0) (hl : vs.length = ds.length) (hd : ∀ (i v : Nat) (y : Nat × List Int64), vs[i]? = some v → ds[i]? = some y → dcW F ow v y) (hv : dcW F ow v x) (hw : ∀ a c, F a = some c → ow' a = ow a) (hG : lsI X G ow' L (vs ++ [v])) (hf : lsF ow L F G) : dlI X G ow' L (ds ++ [x]) := by
  refine ⟨_, hG, by simp [hl], fun i w y hw1 hy => ?_⟩
  have key : dcW F ow w y := by
    by_cases g : i < vs.length
    · rw [List.getElem?_append_left g] at hw1
      rw [List.getElem?_append_left (by omega)] at hy
      exact hd i w y hw1 hy
    · rw [List.getElem?_append_right (by omega)] at hw1
      rw [List.getElem?_append_right (by omega)] at hy
      rw [hl] at hw1
      have e : i - ds.length = 0 := by
        have := (List.getElem?_eq_some_iff.mp hy).1
        simp at this
        omega
      rw [e] at hw1 hy
      cases hw1
      cases hy
      exact hv
  exact key.k (lsF_fr hf) (ls_W h hL) hw
/-- an object that is no document, no list of this one and no row is written: the list stays -/
theorem dl_up {L a d : Nat} {fs fs' : List Value} {ds : List (Nat × List Int64)} (h : dlI X F ow L ds) (ha : F a = some (.inr (d, fs))) (hd : d ≠ 8) (hL : L ≠ a) (hw : ow a ≠ L) : dlI X (ev_up F a (.inr (d, fs'))) ow L ds := by
  obtain ⟨vs, ⟨e, mc, l1, l2⟩, h2, h3⟩ := h
  refine ⟨vs, ⟨e, mc, by rw [eu_n hL]; exact l1, ?_⟩, h2, fun i v x hv hx => ?_⟩
  · rcases l2 with l2 | ⟨cap, f, e1, e2⟩
    · exact Or.inl l2
    · refine Or.inr ⟨cap, f, ?_, e2⟩
      rw [eu_n (ev_ne_ao e1 ha)]
      exact e1
  · obtain ⟨t, f, d1, d2, d3⟩ := h3 i v x hv hx
    refine ⟨t, f, ?_, ?_, d3⟩
    · rw [eu_n (fun z => by subst z; rw [d1] at ha; cases ha; exact hd rfl)]
      exact d1
    · rw [eu_n (ev_ne_ao d2 ha)]
      exact d2
/-- the post of what changes the pending ones -/
def peQ (X : ev_X) (n : Nat) (F : ev_H) (ow : Nat → Nat) (q : Nat) (ds : List (Nat × List Int64)) (m : Nat) : Option Value → Nat → ev_H → Prop := fun v n' F' => v = none ∧ n ≤ n' ∧ ∃ ow', (∀ x, x < n → ow' x = ow x) ∧ peI X F' ow' q ds m ∧ fr (peW ow q) F F'
theorem c_Pe_putDocument {v : Nat} {x : Nat × List Int64} (h : peI X F ow q ds m) (hv : dcW F ow v x) (hlen : ds.length < 500) : Cal l X M_Pe_putDocument 1 780 [.ref q, .ref v] n F (peQ X n F ow q (ds.filter (fun y => y.1 != x.1) ++ [x]) (m ||| 2 ^ x.1)) := by
  have hh := h
  have hpw := pe_W h
  have hvv := hv
  obtain ⟨tt, f, d1, d2, d3, d4, d5, d6, d7⟩ := hv
  refine Cal.of (by decide) (Nat.le_of_ble_eq_true rfl) (ev_fresh fun fr0 => ?_)
  refine s_Pe_putDocument_0 (bc5 := 0) (bs5 := 0) (rc5 := 1) (rs5 := 780) d1 h.1 (by omega) (by omega) (c_Pe_dropDocument h d6) ?_
  rintro _ _ G ⟨rfl, rfl, hG, hF⟩
  obtain ⟨g1, ⟨vs, g2, g3, g4⟩, g5, g6, g7⟩ := hG
  have hv1 : dcW G ow v x := hvv.k hF hpw (fun _ _ _ => rfl)
  have hg2 := g2
  obtain ⟨e, mc, l1, l2⟩ := g2
  have hl2 : vs.length < 520 := by
    have := List.length_filter_le (fun y : Nat × List Int64 => y.1 != x.1) ds
    omega
  refine s_Pe_putDocument_8 (bc13 := 1) (bs13 := 780) (rc13 := 0) (rs13 := 0) g1 l1 (by omega) (by omega) (c_AL_add hg2 hv1.o (dl_O (X := X) g3 g4) hl2) ?_
  rintro _ n2 G2 ⟨rfl, hn, ow', w1, w2, hq1, hq2⟩
  have hne : q ≠ q + 1 := by omega
  have hwq : ow q ≠ q + 1 := by omega
  have k1 : G2 q = some (.inr (2, [.ref (q + 1), .int (nI m)])) := hq2 q _ g1 hne hwq
  have hdl := dl_app hg2 (by omega) g3 g4 hv1 w1 hq1 hq2
  have d1' : G v = some (.inr (8, [.int (nI x.1), .ref tt])) := fr_k hF d1 (fun z => by
    obtain ⟨dd, fs, z1, z2⟩ := hpw v d4 z
    rw [d1] at z1
    cases z1
    exact z2 rfl)
  have hd1 : G2 v = some (.inr (8, [.int (nI x.1), .ref tt])) := hq2 v _ d1' (ev_ne_oo d1' l1 rfl) (by rw [d4]; omega)
  have wq : ow' q = ow q := w1 q _ g1
  refine s_Pe_putDocument_16 k1 hd1 ⟨rfl, hn, ow', w2, ⟨?_, ?_, or_lt g5 d6, by rw [wq]; exact g6, g7⟩, ?_⟩
  · rw [eu_y, n_bit _ d6, n_or]
  · exact dl_up hdl k1 (by decide) (by omega) (by rw [wq]; omega)
  · refine fr_u (fr_t hF ?_) (Or.inl rfl)
    exact fr_w (lsF_fr hq2) (fun a c _ z => z.elim (fun z => Or.inr (Or.inl z)) (fun z => Or.inr (Or.inr z)))
theorem c_Pe_putDeletion {id : Nat} (h : peI X F ow q ds m) (hid : id < 12) : Cal l X M_Pe_putDeletion 0 0 [.ref q, .int (nI id)] n F (peQ X n F ow q (ds.filter (fun y => y.1 != id)) (m ||| 2 ^ id)) := by
  refine Cal.of (by decide) (Nat.le_of_ble_eq_true rfl) (s_Pe_putDeletion_0 (bc2 := 0) (bs2 := 0) (rc2 := 0) (rs2 := 0) h.1 (by omega) (by omega) (c_Pe_dropDocument h hid) ?_)
  rintro _ _ G ⟨rfl, rfl, hG, hF⟩
  obtain ⟨g1, g2, g5, g6, g7⟩ := hG
  refine s_Pe_putDeletion_5 g1 ⟨rfl, Nat.le_refl _, ow, fun _ _ => rfl, ⟨?_, dl_up g2 g1 (by decide) (by omega) (by omega), or_lt g5 hid, g6, g7⟩, fr_u hF (Or.inl rfl)⟩
  rw [eu_y, n_bit _ hid, n_or]
theorem c_Pe_clear (h : peI X F ow q ds m) : Cal l X M_Pe_clear 0 0 [.ref q] n F (peQ X n F ow q [] 0) := by
  obtain ⟨g1, ⟨vs, g2, g3, g4⟩, g5, g6, g7⟩ := h
  have hg2 := g2
  obtain ⟨e, mc, l1, l2⟩ := g2
  refine Cal.of (by decide) (Nat.le_of_ble_eq_true rfl) (s_Pe_clear_0 (bc4 := 0) (bs4 := 0) (rc4 := 0) (rs4 := 0) g1 l1 (by omega) (by omega) (c_AL_clear hg2) ?_)
  rintro _ _ G ⟨rfl, rfl, hq1, hq2⟩
  have k1 : G q = some (.inr (2, [.ref (q + 1), .int (nI m)])) := hq2 q _ g1 (by omega) (by omega)
  have hdl : dlI X G ow (q + 1) [] := ⟨[], hq1, rfl, fun i v x hv => by simp at hv⟩
  refine s_Pe_clear_7 k1 ⟨rfl, Nat.le_refl _, ow, fun _ _ => rfl, ⟨eu_y, dl_up hdl k1 (by decide) (by omega) (by omega), by decide, g6, g7⟩, fr_u (fr_w (lsF_fr hq2) (fun a c _ z => z.elim (fun z => Or.inr (Or.inl z)) (fun z => Or.inr (Or.inr z)))) (Or.inl rfl)⟩
end ConPe2
