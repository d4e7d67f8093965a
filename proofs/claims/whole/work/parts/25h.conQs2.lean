/-! the stack of queries: what changes it -/
theorem spW.o {F : ev_H} {ow : Nat → Nat} {v : Nat} {x : QStep} (h : spW F ow v x) : isO F v := by
  obtain ⟨t, f, h1, -⟩ := h
  exact ⟨10, _, h1, Or.inr (Or.inr rfl)⟩
theorem spW.k {F G : ev_H} {ow ow' : Nat → Nat} {v : Nat} {x : QStep} {W : Nat → Prop} (h : spW F ow v x) (hf : fr W F G) (hW : ∀ a, ow a = 0 → W a → ∃ d fs, F a = some (.inr (d, fs)) ∧ d ≠ 10) (hw : ∀ a c, F a = some c → ow' a = ow a) : spW G ow' v x := by
  obtain ⟨t, f, h1, h2, h3, h4, h5, h6⟩ := h
  refine ⟨t, f, hf v _ h1 (fun z => ?_), hf t _ h2 (fun z => ?_), h3, by rw [hw v _ h1]; exact h4, by rw [hw t _ h2]; exact h5, h6⟩
  · obtain ⟨d, fs, q1, q2⟩ := hW v h4 z
    rw [h1] at q1
    cases q1
    exact q2 rfl
  · obtain ⟨d, fs, q1, q2⟩ := hW t h5 z
    rw [h2] at q1
    cases q1
theorem ls_W10 {X : ev_X} {F : ev_H} {ow : Nat → Nat} {L : Nat} {vs : List Nat} (h : lsI X F ow L vs) (hL : L ≠ 0) : ∀ a, ow a = 0 → (a = L ∨ ow a = L) → ∃ d fs, F a = some (.inr (d, fs)) ∧ d ≠ 10 := fun a h0 hz => by
  rcases hz with rfl | hz
  · obtain ⟨e, mc, h1, -⟩ := h
    exact ⟨12, _, h1, by decide⟩
  · rw [h0] at hz
    exact absurd hz.symm hL
theorem pl_O {F : ev_H} {ow : Nat → Nat} {ss : List QStep} {vs : List Nat} (hl : vs.length = ss.length) (hd : ∀ (i v : Nat) (x : QStep), vs[i]? = some v → ss[i]? = some x → spW F ow v x) : ∀ y ∈ vs, isO F y := fun y hy => by
  obtain ⟨i, hi⟩ := List.getElem?_of_mem hy
  have hlt : i < ss.length := by rw [← hl]; exact (List.getElem?_eq_some_iff.mp hi).1
  exact (hd i y _ hi (List.getElem?_eq_getElem hlt)).o
abbrev qsW (ow : Nat → Nat) (q : Nat) : Nat → Prop := fun x => x = q ∨ x = q + 1 ∨ x = q + 2 ∨ ow x = q + 1
section ConQs2
variable {l : Launch} {X : ev_X} {n : Nat} {F : ev_H} {ow : Nat → Nat} {q h : Nat} {ss : List QStep} {dp : Nat → Nat}
theorem pl_app {L v : Nat} {G : ev_H} {ow' : Nat → Nat} {vs : List Nat} {x : QStep} (h : lsI X F ow L vs) (hL : L ≠ 0) (hl : vs.length = ss.length) (hd : ∀ (i v : Nat) (y : QStep), vs[i]? = some v → ss[i]? = some y → spW F ow v y) (hv : spW F ow v x) (hw : ∀ a c, F a = some c → ow' a = ow a) (hG : lsI X G ow' L (vs ++ [v])) (hf : lsF ow L F G) : plI X G ow' L (ss ++ [x]) := by
  refine ⟨_, hG, by simp [hl], fun i w y hw1 hy => ?_⟩
  have key : spW F ow w y := by
    by_cases g : i < vs.length
    · rw [List.getElem?_append_left g] at hw1
      rw [List.getElem?_append_left (by omega)] at hy
      exact hd i w y hw1 hy
    · rw [List.getElem?_append_right (by omega)] at hw1
      rw [List.getElem?_append_right (by omega)] at hy
      rw [hl] at hw1
      have e : i - ss.length = 0 := by
        have := (List.getElem?_eq_some_iff.mp hy).1
        simp at this
        omega
      rw [e] at hw1 hy
      cases hw1
      cases hy
      exact hv
  exact key.k (lsF_fr hf) (ls_W10 h hL) hw
/-- a row of ints, or an object that is no step and not the list, is written: the list of steps stays -/
theorem pl_upI {L a N : Nat} {f : Nat → Int32} {c : ev_C} (h : plI X F ow L ss) (ha : F a = some (.inl (0, N, .inl f))) : plI X (ev_up F a c) ow L ss := by
  obtain ⟨vs, ⟨e, mc, l1, l2⟩, h2, h3⟩ := h
  refine ⟨vs, ⟨e, mc, by rw [eu_n (ev_ne_oa l1 ha)]; exact l1, ?_⟩, h2, fun i v x hv hx => ?_⟩
  · rcases l2 with l2 | ⟨cap, f, e1, e2⟩
    · exact Or.inl l2
    · exact Or.inr ⟨cap, f, by rw [eu_n (ev_ne_aa e1 ha rfl)]; exact e1, e2⟩
  · obtain ⟨t, f, d1, d2, d3⟩ := h3 i v x hv hx
    exact ⟨t, f, by rw [eu_n (ev_ne_oa d1 ha)]; exact d1, by rw [eu_n (ev_ne_aa d2 ha rfl)]; exact d2, d3⟩
theorem pl_upO {L a d : Nat} {fs : List Value} {c : ev_C} (h : plI X F ow L ss) (ha : F a = some (.inr (d, fs))) (hd : (10 == d) = false) (hd2 : (12 == d) = false) : plI X (ev_up F a c) ow L ss := by
  obtain ⟨vs, ⟨e, mc, l1, l2⟩, h2, h3⟩ := h
  refine ⟨vs, ⟨e, mc, by rw [eu_n (ev_ne_oo l1 ha hd2)]; exact l1, ?_⟩, h2, fun i v x hv hx => ?_⟩
  · rcases l2 with l2 | ⟨cap, f, e1, e2⟩
    · exact Or.inl l2
    · exact Or.inr ⟨cap, f, by rw [eu_n (ev_ne_ao e1 ha)]; exact e1, e2⟩
  · obtain ⟨t, f, d1, d2, d3⟩ := h3 i v x hv hx
    exact ⟨t, f, by rw [eu_n (ev_ne_oo d1 ha hd)]; exact d1, by rw [eu_n (ev_ne_ao d2 ha)]; exact d2, d3⟩
def qsQ (X : ev_X) (n : Nat) (F : ev_H) (ow : Nat → Nat) (q : Nat) (ss : List QStep) (h : Nat) (dp : Nat → Nat) (v : Option Value) : Option Value → Nat → ev_H → Prop := fun v' n' F' => v' = v ∧ n ≤ n' ∧ ∃ ow', (∀ x, x < n → ow' x = ow x) ∧ qsI X F' ow' q ss h dp ∧ fr (qsW ow q) F F'
theorem c_Qs_clear (hI : qsI X F ow q ss h dp) : Cal l X M_Qs_clear 0 0 [.ref q] n F (qsQ X n F ow q [] 0 dp none) := by
  obtain ⟨h1, ⟨vs, g2, g3, g4⟩, ⟨f, k1, k2⟩, h4, w0, w1, w2, w3⟩ := hI
  have hg2 := g2
  obtain ⟨e, mc, l1, l2⟩ := g2
  refine Cal.of (by decide) (Nat.le_of_ble_eq_true rfl) (s_Qs_clear_0 (bc4 := 0) (bs4 := 0) (rc4 := 0) (rs4 := 0) h1 l1 (by omega) (by omega) (c_AL_clear hg2) ?_)
  rintro _ _ G ⟨rfl, rfl, hq1, hq2⟩
  have m1 : G q = some (.inr (5, [.ref (q + 1), .ref (q + 2), .int (nI h)])) := hq2 q _ h1 (by omega) (by omega)
  have m2 : G (q + 2) = some (.inl (0, 8, .inl f)) := hq2 _ _ k1 (by omega) (by omega)
  have hpl : plI X G ow (q + 1) [] := ⟨[], hq1, rfl, fun i v x hv => by simp at hv⟩
  refine s_Qs_clear_7 m1 ⟨rfl, Nat.le_refl _, ow, fun _ _ => rfl, ⟨eu_y, pl_upO hpl m1 rfl rfl, ⟨f, by rw [eu_n (by omega)]; exact m2, fun i hi => absurd hi (Nat.not_lt_zero _)⟩, by omega, w0, w1, w2, w3⟩, fr_u (fr_w (lsF_fr hq2) (fun a c _ z => z.elim (fun z => Or.inr (Or.inl z)) (fun z => Or.inr (Or.inr (Or.inr z))))) (Or.inl rfl)⟩
theorem c_Qs_push {v p d : Nat} {x : QStep} (hI : qsI X F ow q ss h dp) (hv : spW F ow v x) (hp : p ≤ h) (h8 : h - p < 8) (hd : d ≤ 6) (hlen : ss.length < 520) : Cal l X M_Qs_push 1 780 [.ref q, .ref v, .int (nI p), .int (nI d)] n F (qsQ X n F ow q (ss ++ [x]) (h - p + 1) (va_up dp (h - p) d) (some (.int (nI (h - p + 1))))) := by
  obtain ⟨h1, ⟨vs, g2, g3, g4⟩, ⟨f, k1, k2⟩, h4, w0, w1, w2, w3⟩ := hI
  have hg2 := g2
  obtain ⟨e, mc, l1, l2⟩ := g2
  have s1 : nI h - nI p = nI (h - p) := pk_sub hp
  refine Cal.of (by decide) (Nat.le_of_ble_eq_true rfl) (s_Qs_push_0 (bc27 := 1) (bs27 := 780) (rc27 := 0) (rs27 := 0) h1 l1 (by omega) (by omega) (fun a => ?_) (fun _ _ => c_AL_add hg2 hv.o (pl_O g3 g4) (by omega)) (fun _ _ => ?_) (fun _ a => ?_))
  · rw [s1] at a
    exact absurd a (nI_pos (by omega))
  · rintro _ n2 G ⟨rfl, hn, ow', u1, u2, hq1, hq2⟩
    have m1 : G q = some (.inr (5, [.ref (q + 1), .ref (q + 2), .int (nI h)])) := hq2 q _ h1 (by omega) (by omega)
    have m2 : G (q + 2) = some (.inl (0, 8, .inl f)) := hq2 _ _ k1 (by omega) (by omega)
    have hpl := pl_app hg2 (by omega) g3 g4 hv u1 hq1 hq2
    rw [s1]
    refine s_Qs_push_30 m1 m2 (vp_in_nI h8 (by decide)) ⟨?_, hn, ow', u2, ⟨?_, pl_upO (pl_upI hpl m2) (by rw [eu_n (by omega)]; exact m1) rfl rfl, ⟨upd f (h - p) (nI d), ?_, ?_⟩, by omega, by rw [u1 _ _ h1]; exact w0, by rw [u1 _ _ l1]; exact w1, by rw [u1 _ _ k1]; exact w2, w3⟩, ?_⟩
    · rw [nI_1]
    · rw [eu_y, nI_1]
    · rw [eu_n (by omega), nI_clamp (by omega)]
      exact eu_y
    · intro i hi
      by_cases z : i = h - p
      · subst z
        simp [upd, va_up, hd]
      · have := k2 i (by omega)
        simp [upd, va_up, z, this]
    · refine fr_u (fr_u (fr_w (lsF_fr hq2) (fun a c _ z => z.elim (fun z => Or.inr (Or.inl z)) (fun z => Or.inr (Or.inr (Or.inr z))))) (Or.inr (Or.inr (Or.inl rfl)))) (Or.inl rfl)
  · rw [s1] at a
    exact absurd ((nI_ltI (b := 8) (by omega) (by decide)).mpr h8) a
end ConQs2
