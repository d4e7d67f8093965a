/-! frames: what a step keeps, by the ghost map -/
/-- what never changes is kept, and what belongs to C -/
def kp (ow : Nat → Nat) (C : Nat → Prop) (F G : ev_H) : Prop := ∀ x c, F x = some c → (ow x = 0 ∨ (ow x = 1 ∧ C x) ∨ C (ow x)) → G x = some c
section Kp
variable {X : ev_X} {F G H : ev_H} {ow ow' : Nat → Nat} {C D : Nat → Prop}
theorem kp_r : kp ow C F F := fun _ _ h _ => h
theorem kp_t (h : kp ow C F G) (k : kp ow' C G H) (w : ∀ x c, F x = some c → ow' x = ow x) : kp ow C F H := fun x c hx hc => k x c (h x c hx hc) (by rw [w x c hx]; exact hc)
theorem kp_w (h : kp ow C F G) (k : ∀ x, D x → C x) : kp ow D F G := fun x c hx hc => h x c hx (hc.elim Or.inl fun z => Or.inr (z.elim (fun z => Or.inl ⟨z.1, k x z.2⟩) (fun z => Or.inr (k _ z))))
theorem kp_e (e : ext F G) : kp ow C F G := fun x c hx _ => e x c hx
theorem kp_u {a : Nat} {c : ev_C} (h : kp ow C F G) (h1 : ow a = 1) (ha : ¬ C a) (hC : ¬ C 1) : kp ow C F (ev_up G a c) := fun x d hx hc => by
  have hne : x ≠ a := fun z => by
    subst z
    rcases hc with hc | hc | hc
    · omega
    · exact ha hc.2
    · rw [h1] at hc
      exact hC hc
  rw [eu_n hne]
  exact h x d hx hc
theorem kp_fr {W : Nat → Prop} (h : fr W F G) (k : ∀ x c, F x = some c → (ow x = 0 ∨ (ow x = 1 ∧ C x) ∨ C (ow x)) → ¬ W x) : kp ow C F G := fun x c hx hc => h x c hx (k x c hx hc)
/-- the frame of a list's method -/
theorem kp_ls {L : Nat} (h : lsF ow L F G) (h1 : ow L = 1) (h2 : 1 < L) : kp ow (fun x => 1 < x ∧ x ≠ L) F G := fun x c hx hc => by
  refine h x c hx (fun z => ?_) (fun z => ?_)
  · subst z
    rw [h1] at hc
    rcases hc with hc | hc | hc
    · omega
    · exact hc.2.2 rfl
    · omega
  · rw [z] at hc
    rcases hc with hc | hc | hc
    · omega
    · omega
    · exact hc.2 rfl
theorem ls_kp {L : Nat} {vs : List Nat} (h : lsI X F ow L vs) (k : kp ow C F G) (hL : C L) (h1 : ow L = 1) (w : ∀ x c, F x = some c → ow' x = ow x) : lsI X G ow' L vs := by
  obtain ⟨r, mc, a1, a2⟩ := h
  refine ⟨r, mc, k _ _ a1 (Or.inr (Or.inl ⟨h1, hL⟩)), ?_⟩
  rcases a2 with a2 | ⟨cap, f, k1, k2, k3⟩
  · exact Or.inl a2
  · exact Or.inr ⟨cap, f, k _ _ k1 (Or.inr (Or.inr (by rw [k2]; exact hL))), by rw [w _ _ k1]; exact k2, k3⟩
theorem dc_kp {v : Nat} {x : Doc} (h : dcW F ow v x) (k : kp ow C F G) (w : ∀ x c, F x = some c → ow' x = ow x) : dcW G ow' v x := by
  obtain ⟨t, f, h1, h2, h3, h4, h5, h6⟩ := h
  exact ⟨t, f, k _ _ h1 (Or.inl h4), k _ _ h2 (Or.inl h5), h3, by rw [w _ _ h1]; exact h4, by rw [w _ _ h2]; exact h5, h6⟩
theorem sp_kp {v : Nat} {x : QStep} (h : spW F ow v x) (k : kp ow C F G) (w : ∀ x c, F x = some c → ow' x = ow x) : spW G ow' v x := by
  obtain ⟨t, f, h1, h2, h3, h4, h5, h6⟩ := h
  exact ⟨t, f, k _ _ h1 (Or.inl h4), k _ _ h2 (Or.inl h5), h3, by rw [w _ _ h1]; exact h4, by rw [w _ _ h2]; exact h5, h6⟩
theorem dl_kp {L : Nat} {ds : List Doc} (h : dlI X F ow L ds) (k : kp ow C F G) (hL : C L) (h1 : ow L = 1) (w : ∀ x c, F x = some c → ow' x = ow x) : dlI X G ow' L ds := by
  obtain ⟨vs, a1, a2, a3⟩ := h
  exact ⟨vs, ls_kp a1 k hL h1 w, a2, fun i v x hv hx => dc_kp (a3 i v x hv hx) k w⟩
theorem pl_kp {L : Nat} {ss : List QStep} (h : plI X F ow L ss) (k : kp ow C F G) (hL : C L) (h1 : ow L = 1) (w : ∀ x c, F x = some c → ow' x = ow x) : plI X G ow' L ss := by
  obtain ⟨vs, a1, a2, a3⟩ := h
  exact ⟨vs, ls_kp a1 k hL h1 w, a2, fun i v x hv hx => sp_kp (a3 i v x hv hx) k w⟩
theorem pe_kp {q m : Nat} {ds : List Doc} (h : peI X F ow q ds m) (k : kp ow C F G) (h0 : C q) (h1 : C (q + 1)) (hw : ow (q + 1) = 1) (w : ∀ x c, F x = some c → ow' x = ow x) : peI X G ow' q ds m := by
  obtain ⟨a1, a2, a3, a4, a5⟩ := h
  exact ⟨k _ _ a1 (Or.inr (Or.inl ⟨a4, h0⟩)), dl_kp a2 k h1 hw w, a3, by rw [w _ _ a1]; exact a4, a5⟩
theorem qs_kp {q h : Nat} {ss : List QStep} {dp : Nat → Nat} (hI : qsI X F ow q ss h dp) (k : kp ow C F G) (c0 : C q) (c1 : C (q + 1)) (c2 : C (q + 2)) (w : ∀ x c, F x = some c → ow' x = ow x) : qsI X G ow' q ss h dp := by
  obtain ⟨h1, h2, ⟨f, k1, k2⟩, h4, w0, w1, w2, w3⟩ := hI
  obtain ⟨r, mc, q1⟩ := pl_cell h2
  exact ⟨k _ _ h1 (Or.inr (Or.inl ⟨w0, c0⟩)), pl_kp h2 k c1 w1 w, ⟨f, k _ _ k1 (Or.inr (Or.inl ⟨w2, c2⟩)), k2⟩, h4, by rw [w _ _ h1]; exact w0, by rw [w _ _ q1]; exact w1, by rw [w _ _ k1]; exact w2, w3⟩
theorem sg_kp {s m : Nat} {ds : List Doc} (h : sgI X F ow s ds m) (k : kp ow C F G) (c0 : C s) (c1 : C (s + 1)) (w : ∀ x c, F x = some c → ow' x = ow x) : sgI X G ow' s ds m := by
  obtain ⟨h1, h2, h3, h4, h5, h6⟩ := h
  obtain ⟨r, mc, q1⟩ := dl_cell h2
  exact ⟨k _ _ h1 (Or.inr (Or.inl ⟨h4, c0⟩)), dl_kp h2 k c1 h5 w, h3, by rw [w _ _ h1]; exact h4, by rw [w _ _ q1]; exact h5, h6⟩
theorem sl_kp {L : Nat} {gs : List Nat} {sg : List Seg} (h : slI X F ow L gs sg) (k : kp ow C F G) (hL : C L) (h1 : ow L = 1) (hg : ∀ g ∈ gs, C g ∧ C (g + 1)) (w : ∀ x c, F x = some c → ow' x = ow x) : slI X G ow' L gs sg := by
  obtain ⟨a1, a2, a3, a4⟩ := h
  exact ⟨ls_kp a1 k hL h1 w, a2, a3, fun i g y e1 e2 => sg_kp (a4 i g y e1 e2) k (hg g (List.mem_of_getElem? e1)).1 (hg g (List.mem_of_getElem? e1)).2 w⟩
theorem sh_kp {s : Nat} {gs : List Nat} {sg : List Seg} {lv : List Doc} (h : shI X F ow s gs sg lv) (k : kp ow C F G) (c0 : C s) (c1 : C (s + 1)) (c2 : C (s + 2)) (hg : ∀ g ∈ gs, C g ∧ C (g + 1)) (w : ∀ x c, F x = some c → ow' x = ow x) : shI X G ow' s gs sg lv := by
  obtain ⟨h1, h2, h3, ⟨w0, w1, w2, w3⟩, h5⟩ := h
  obtain ⟨r1, mc1, q1⟩ := sl_cell h2
  obtain ⟨r2, mc2, q2⟩ := dl_cell h3
  exact ⟨k _ _ h1 (Or.inr (Or.inl ⟨w0, c0⟩)), sl_kp h2 k c1 w1 hg w, dl_kp h3 k c2 w2 w, ⟨by rw [w _ _ h1]; exact w0, by rw [w _ _ q1]; exact w1, by rw [w _ _ q2]; exact w2, w3⟩, h5⟩
/-- a segment of a list of segments: its cells -/
theorem sl_mem {L g : Nat} {gs : List Nat} {sg : List Seg} (h : slI X F ow L gs sg) (hg : g ∈ gs) : ∃ (i : Nat) (y : Seg), gs[i]? = some g ∧ sg[i]? = some y ∧ sgI X F ow g y.1 y.2 := by
  obtain ⟨i, hi⟩ := List.getElem?_of_mem hg
  have hlt : i < sg.length := by rw [← h.2.1]; exact (List.getElem?_eq_some_iff.mp hi).1
  exact ⟨i, _, hi, List.getElem?_eq_getElem hlt, h.2.2.2 i g _ hi (List.getElem?_eq_getElem hlt)⟩
theorem sl_O {L : Nat} {gs : List Nat} {sg : List Seg} (h : slI X F ow L gs sg) : ∀ y ∈ gs, isO F y := fun g hg => by
  obtain ⟨i, y, -, -, h1, -⟩ := sl_mem h hg
  exact ⟨9, _, h1, Or.inr (Or.inl rfl)⟩
end Kp
