/-! the object as a whole: its cells, and what a step of one part keeps -/
/-- the object at p: draft, pending, shelf, machine, stack, ranking, results -/
def psI (X : ev_X) (F : ev_H) (ow : Nat → Nat) (p : Nat) (gs : List Nat) (dr : List Int64) (pd : List Doc) (pm : Nat) (sg : List Seg) (lv : List Doc) (w b : Nat) (st : Bool) (ss : List QStep) (h : Nat) (dp : Nat → Nat) (wc : Nat) (rs : List (Nat × Nat)) : Prop :=
  F p = some (psO p (nI dr.length)) ∧ stZ F (p + 1) ∧ (∃ f, F (p + 4) = some (.inl (1, 12, .inr (.inl f))) ∧ ∀ j, j < dr.length → f j = tg dr j) ∧ peI X F ow (p + 5) pd pm ∧ shI X F ow (p + 7) gs sg lv ∧ F (p + 10) = some (maO (nI w) b st) ∧ qsI X F ow (p + 11) ss h dp ∧ (∃ wf bf tc, raI F (p + 14) wf bf tc wc) ∧ reI F (p + 25) rs ∧ (∀ i, i < 28 → ow (p + i) = 1) ∧ (∀ g ∈ gs, p + 27 < g) ∧ 1 < p ∧ dr.length ≤ 12
abbrev iv (p a b : Nat) : Nat → Prop := fun x => 1 < x ∧ (x < p + a ∨ p + b ≤ x)
abbrev psC (n p : Nat) (gs : List Nat) : Nat → Prop := fun x => 1 < x ∧ x < n ∧ (x < p ∨ p + 28 ≤ x) ∧ x ∉ gs
/-- a step: more cells, the ghost of the old ones, what is kept -/
def psS (p n : Nat) (F : ev_H) (ow : Nat → Nat) (gs : List Nat) (n' : Nat) (F' : ev_H) (ow' : Nat → Nat) (gs' : List Nat) : Prop := n ≤ n' ∧ (∀ x, x < n → ow' x = ow x) ∧ (∀ g ∈ gs', g ∈ gs ∨ n ≤ g) ∧ kp ow (psC n p gs) F F'
def psQ (X : ev_X) (n : Nat) (F : ev_H) (ow : Nat → Nat) (p : Nat) (gs : List Nat) (v : Value) (dr : List Int64) (pd : List Doc) (pm : Nat) (sg : List Seg) (lv : List Doc) (w b : Nat) (st : Bool) (ss : List QStep) (h : Nat) (dp : Nat → Nat) (wc : Nat) (rs : List (Nat × Nat)) : Option Value → Nat → ev_H → Prop := fun v' n' F' => v' = some v ∧ ∃ ow' gs', psS p n F ow gs n' F' ow' gs' ∧ (psI X F' ow' p gs' dr pd pm sg lv w b st ss h dp wc rs)
section Ps
variable {l : Launch} {X : ev_X} {n : Nat} {F G H : ev_H} {ow ow' ow2 : Nat → Nat} {p : Nat} {gs gs' gs2 : List Nat} {dr : List Int64} {pd : List Doc} {pm : Nat} {sg : List Seg} {lv : List Doc} {w b : Nat} {st : Bool} {ss : List QStep} {h : Nat} {dp : Nat → Nat} {wc : Nat} {rs : List (Nat × Nat)}
theorem psS_r : psS p n F ow gs n F ow gs := ⟨Nat.le_refl _, fun _ _ => rfl, fun _ h => Or.inl h, kp_r⟩
theorem psS_t {n1 n2 : Nat} (fr0 : ∀ q : Nat, n ≤ q → F q = none) (h : psS p n F ow gs n1 G ow' gs') (k : psS p n1 G ow' gs' n2 H ow2 gs2) : psS p n F ow gs n2 H ow2 gs2 := by
  obtain ⟨a1, a2, a3, a4⟩ := h
  obtain ⟨b1, b2, b3, b4⟩ := k
  refine ⟨by omega, fun x hx => (b2 x (by omega)).trans (a2 x hx), fun g hg => ?_, kp_t a4 (kp_w b4 (fun x hx => ⟨hx.1, by omega, hx.2.2.1, fun z => ?_⟩)) (fun x c hx => a2 x (kn fr0 hx))⟩
  · rcases b3 g hg with z | z
    · exact a3 g z
    · exact Or.inr (by omega)
  · rcases a3 x z with z | z
    · exact hx.2.2.2 z
    · omega
theorem psS_iv {a b' : Nat} (hb : b' ≤ 28) (k : kp ow (iv p a b') F G) : psS p n F ow gs n G ow gs := ⟨Nat.le_refl _, fun _ _ => rfl, fun _ h => Or.inl h, kp_w k (fun x hx => ⟨hx.1, by omega⟩)⟩
theorem psS_ivn {n' a b' : Nat} (hb : b' ≤ 28) (hn : n ≤ n') (u : ∀ x, x < n → ow' x = ow x) (k : kp ow (iv p a b') F G) : psS p n F ow gs n' G ow' gs := ⟨hn, u, fun _ h => Or.inl h, kp_w k (fun x hx => ⟨hx.1, by omega⟩)⟩
theorem ps_lt (fr0 : ∀ q : Nat, n ≤ q → F q = none) (hI : (psI X F ow p gs dr pd pm sg lv w b st ss h dp wc rs)) : p + 27 < n := by
  obtain ⟨fi, fw, -, -, h3, -⟩ := hI.2.2.2.2.2.2.2.2.1
  exact kn fr0 h3
theorem st_kp {C : Nat → Prop} {r : Nat} (h : stZ F r) (k : kp ow C F G) (hw : ∀ i, i < 3 → ow (r + i) = 1 ∧ C (r + i)) : stZ G r := by
  obtain ⟨len, lf, vf, h1, h2, h3⟩ := h
  exact ⟨len, lf, vf, k _ _ h1 (Or.inr (Or.inl (hw 0 (by omega)))), k _ _ h2 (Or.inr (Or.inl (hw 1 (by omega)))), k _ _ h3 (Or.inr (Or.inl (hw 2 (by omega))))⟩
/-- all that stands outside of a to b' -/
theorem ps_iv {a b' : Nat} (hI : (psI X F ow p gs dr pd pm sg lv w b st ss h dp wc rs)) (k : kp ow (iv p a b') F G) (w' : ∀ x c, F x = some c → ow' x = ow x) (hab : b' ≤ 28) :
    (1 ≤ a → G p = some (psO p (nI dr.length))) ∧ (b' ≤ 1 ∨ 4 ≤ a → stZ G (p + 1)) ∧ (b' ≤ 4 ∨ 5 ≤ a → ∃ f, G (p + 4) = some (.inl (1, 12, .inr (.inl f))) ∧ ∀ j, j < dr.length → f j = tg dr j) ∧ (b' ≤ 5 ∨ 7 ≤ a → peI X G ow' (p + 5) pd pm) ∧ (b' ≤ 7 ∨ 10 ≤ a → shI X G ow' (p + 7) gs sg lv) ∧ (b' ≤ 10 ∨ 11 ≤ a → G (p + 10) = some (maO (nI w) b st)) ∧ (b' ≤ 11 ∨ 14 ≤ a → qsI X G ow' (p + 11) ss h dp) ∧ (b' ≤ 14 ∨ 25 ≤ a → ∃ wf bf tc, raI G (p + 14) wf bf tc wc) ∧ (b' ≤ 25 → reI G (p + 25) rs) := by
  obtain ⟨h0, h1, ⟨f, h2, h3⟩, h4, h5, h6, h7, ⟨wf, bf, tc, h8⟩, h9, hw, hg, hp, hd⟩ := hI
  have c1 : ∀ i, i < 28 → (i < a ∨ b' ≤ i) → ow (p + i) = 1 ∧ iv p a b' (p + i) := fun i hi z => ⟨hw i hi, by omega, by omega⟩
  refine ⟨fun z => k _ _ h0 (Or.inr (Or.inl (c1 0 (by omega) (by omega)))), fun z => st_kp h1 k (fun i hi => ?_), fun z => ⟨f, k _ _ h2 (Or.inr (Or.inl (c1 4 (by omega) (by omega)))), h3⟩, fun z => pe_kp h4 k (c1 5 (by omega) (by omega)).2 (c1 6 (by omega) (by omega)).2 (hw 6 (by omega)) w', fun z => sh_kp h5 k (c1 7 (by omega) (by omega)).2 (c1 8 (by omega) (by omega)).2 (c1 9 (by omega) (by omega)).2 (fun g hg2 => ?_) w', fun z => k _ _ h6 (Or.inr (Or.inl (c1 10 (by omega) (by omega)))), fun z => qs_kp h7 k (c1 11 (by omega) (by omega)).2 (c1 12 (by omega) (by omega)).2 (c1 13 (by omega) (by omega)).2 w', fun z => ⟨wf, bf, tc, ra_kp h8 k (fun i hi => ?_)⟩, fun z => re_kp h9 k (fun i hi => ?_)⟩
  · have := c1 (1 + i) (by omega) (by omega)
    rw [← Nat.add_assoc] at this
    exact this
  · have := hg g hg2
    exact ⟨⟨by omega, by omega⟩, ⟨by omega, by omega⟩⟩
  · have := c1 (14 + i) (by omega) (by omega)
    rw [← Nat.add_assoc] at this
    exact this
  · have := c1 (25 + i) (by omega) (by omega)
    rw [← Nat.add_assoc] at this
    exact this
/-- the whole is kept -/
theorem ps_kp {C : Nat → Prop} (hI : (psI X F ow p gs dr pd pm sg lv w b st ss h dp wc rs)) (k : kp ow C F G) (u : ∀ i, i < 28 → ow' (p + i) = 1) (w' : ∀ x c, F x = some c → ow' x = ow x) (hC : ∀ i, i < 28 → C (p + i)) (hg : ∀ g ∈ gs, C g ∧ C (g + 1)) : (psI X G ow' p gs dr pd pm sg lv w b st ss h dp wc rs) := by
  obtain ⟨h0, h1, ⟨f, h2, h3⟩, h4, h5, h6, h7, ⟨wf, bf, tc, h8⟩, h9, hw, hgs, hp, hd⟩ := hI
  have c1 : ∀ i, i < 28 → ow (p + i) = 1 ∧ C (p + i) := fun i hi => ⟨hw i hi, hC i hi⟩
  refine ⟨k _ _ h0 (Or.inr (Or.inl (c1 0 (by omega)))), st_kp h1 k (fun i hi => ?_), ⟨f, k _ _ h2 (Or.inr (Or.inl (c1 4 (by omega)))), h3⟩, pe_kp h4 k (c1 5 (by omega)).2 (c1 6 (by omega)).2 (hw 6 (by omega)) w', sh_kp h5 k (c1 7 (by omega)).2 (c1 8 (by omega)).2 (c1 9 (by omega)).2 hg w', k _ _ h6 (Or.inr (Or.inl (c1 10 (by omega)))), qs_kp h7 k (c1 11 (by omega)).2 (c1 12 (by omega)).2 (c1 13 (by omega)).2 w', ⟨wf, bf, tc, ra_kp h8 k (fun i hi => ?_)⟩, re_kp h9 k (fun i hi => ?_), u, hgs, hp, hd⟩
  · have := c1 (1 + i) (by omega)
    rw [← Nat.add_assoc] at this
    exact this
  · have := c1 (14 + i) (by omega)
    rw [← Nat.add_assoc] at this
    exact this
  · have := c1 (25 + i) (by omega)
    rw [← Nat.add_assoc] at this
    exact this
/-- the stemmer worked -/
theorem ps_st (hI : (psI X F ow p gs dr pd pm sg lv w b st ss h dp wc rs)) (hz : stZ G (p + 1)) (ha : ag F G (p + 1) (p + 1 + 3)) : (psI X G ow p gs dr pd pm sg lv w b st ss h dp wc rs) ∧ psS p n F ow gs n G ow gs := by
  have hw := hI.2.2.2.2.2.2.2.2.2.1
  have hp := hI.2.2.2.2.2.2.2.2.2.2.2.1
  have k : kp ow (iv p 1 4) F G := kp_ag ha (fun x h1 h2 => by
    have := hw (x - p) (by omega)
    rw [show p + (x - p) = x by omega] at this
    exact ⟨this, fun z => by omega⟩) (fun z => by omega)
  obtain ⟨k0, -, k2, k3, k4, k5, k6, k7, k8⟩ := ps_iv hI k (fun _ _ _ => rfl) (by omega)
  exact ⟨⟨k0 (by omega), hz, k2 (by omega), k3 (by omega), k4 (by omega), k5 (by omega), k6 (by omega), k7 (by omega), k8 (by omega), hI.2.2.2.2.2.2.2.2.2⟩, psS_iv (by omega) k⟩
/-- the number of drafted words is another one -/
theorem ps_0 {m : Nat} {dr' : List Int64} (hI : (psI X F ow p gs dr pd pm sg lv w b st ss h dp wc rs)) (hm : m = dr'.length) (hl : dr'.length ≤ 12) (ht : ∃ f, F (p + 4) = some (.inl (1, 12, .inr (.inl f))) ∧ ∀ j, j < dr'.length → f j = tg dr' j) : (psI X (ev_up F p (psO p (nI m))) ow p gs dr' pd pm sg lv w b st ss h dp wc rs) ∧ psS p n F ow gs n (ev_up F p (psO p (nI m))) ow gs := by
  subst hm
  obtain ⟨f, q1, q2⟩ := ht
  obtain ⟨h0, h1, h2, h4, h5, h6, h7, h8, h9, hw, hg, hp, hd⟩ := id hI
  have k : kp ow (iv p 0 1) F (ev_up F p (psO p (nI dr'.length))) := kp_u kp_r (hw 0 (by omega)) (fun z => by omega) (fun z => by omega)
  obtain ⟨-, k1, k2, k3, k4, k5, k6, k7, k8⟩ := ps_iv hI k (fun _ _ _ => rfl) (by omega)
  exact ⟨⟨eu_y, k1 (by omega), ⟨f, by rw [eu_n (by omega)]; exact q1, q2⟩, k3 (by omega), k4 (by omega), k5 (by omega), k6 (by omega), k7 (by omega), k8 (by omega), hw, hg, hp, hl⟩, psS_iv (by omega) k⟩
/-- a place of the draft behind its words is written -/
theorem ps_4 {f' : Nat → Int64} (hI : (psI X F ow p gs dr pd pm sg lv w b st ss h dp wc rs)) (ht : ∀ j, j < dr.length → f' j = tg dr j) : (psI X (ev_up F (p + 4) (.inl (1, 12, .inr (.inl f')))) ow p gs dr pd pm sg lv w b st ss h dp wc rs) ∧ psS p n F ow gs n (ev_up F (p + 4) (.inl (1, 12, .inr (.inl f')))) ow gs := by
  obtain ⟨h0, h1, h2, h4, h5, h6, h7, h8, h9, hw, hg, hp, hd⟩ := id hI
  have k : kp ow (iv p 4 5) F (ev_up F (p + 4) (.inl (1, 12, .inr (.inl f')))) := kp_u kp_r (hw 4 (by omega)) (fun z => by omega) (fun z => by omega)
  obtain ⟨k0, k1, -, k3, k4, k5, k6, k7, k8⟩ := ps_iv hI k (fun _ _ _ => rfl) (by omega)
  exact ⟨⟨k0 (by omega), k1 (by omega), ⟨f', eu_y, ht⟩, k3 (by omega), k4 (by omega), k5 (by omega), k6 (by omega), k7 (by omega), k8 (by omega), hw, hg, hp, hd⟩, psS_iv (by omega) k⟩
/-- the pending part worked -/
theorem ps_pe {n' : Nat} {pd' : List Doc} {pm' : Nat} (fr0 : ∀ q : Nat, n ≤ q → F q = none) (hI : (psI X F ow p gs dr pd pm sg lv w b st ss h dp wc rs)) (hn : n ≤ n') (u : ∀ x, x < n → ow' x = ow x) (hq : peI X G ow' (p + 5) pd' pm') (hf : fr (peW ow (p + 5)) F G) : (psI X G ow' p gs dr pd' pm' sg lv w b st ss h dp wc rs) ∧ psS p n F ow gs n' G ow' gs := by
  have hlt := ps_lt fr0 hI
  obtain ⟨h0, h1, h2, h4, h5, h6, h7, h8, h9, hw, hg, hp, hd⟩ := id hI
  have k : kp ow (iv p 5 7) F G := kp_fr hf (fun x c hx hc z => by
    rcases z with z | z | z
    · subst z
      rw [hw 5 (by omega)] at hc
      omega
    · have : ow x = 1 := by rw [z]; exact hw 6 (by omega)
      rw [this, z] at hc
      omega
    · rw [z] at hc
      omega)
  obtain ⟨k0, k1, k2, -, k4, k5, k6, k7, k8⟩ := ps_iv hI k (fun x c hx => u x (kn fr0 hx)) (by omega)
  exact ⟨⟨k0 (by omega), k1 (by omega), k2 (by omega), hq, k4 (by omega), k5 (by omega), k6 (by omega), k7 (by omega), k8 (by omega), fun i hi => by rw [u _ (by omega)]; exact hw i hi, hg, hp, hd⟩, psS_ivn (by omega) hn u k⟩
/-- the stack worked -/
theorem ps_qs {n' h' : Nat} {ss' : List QStep} {dp' : Nat → Nat} (fr0 : ∀ q : Nat, n ≤ q → F q = none) (hI : (psI X F ow p gs dr pd pm sg lv w b st ss h dp wc rs)) (hn : n ≤ n') (u : ∀ x, x < n → ow' x = ow x) (hq : qsI X G ow' (p + 11) ss' h' dp') (hf : fr (qsW ow (p + 11)) F G) : (psI X G ow' p gs dr pd pm sg lv w b st ss' h' dp' wc rs) ∧ psS p n F ow gs n' G ow' gs := by
  have hlt := ps_lt fr0 hI
  obtain ⟨h0, h1, h2, h4, h5, h6, h7, h8, h9, hw, hg, hp, hd⟩ := id hI
  have k : kp ow (iv p 11 14) F G := kp_fr hf (fun x c hx hc z => by
    rcases z with z | z | z | z
    · have : ow x = 1 := by rw [z]; exact hw 11 (by omega)
      rw [this, z] at hc
      omega
    · have : ow x = 1 := by rw [z]; exact hw 12 (by omega)
      rw [this, z] at hc
      omega
    · have : ow x = 1 := by rw [z]; exact hw 13 (by omega)
      rw [this, z] at hc
      omega
    · rw [z] at hc
      omega)
  obtain ⟨k0, k1, k2, k3, k4, k5, -, k7, k8⟩ := ps_iv hI k (fun x c hx => u x (kn fr0 hx)) (by omega)
  exact ⟨⟨k0 (by omega), k1 (by omega), k2 (by omega), k3 (by omega), k4 (by omega), k5 (by omega), hq, k7 (by omega), k8 (by omega), fun i hi => by rw [u _ (by omega)]; exact hw i hi, hg, hp, hd⟩, psS_ivn (by omega) hn u k⟩
/-- the machine's cell is another one -/
theorem ps_ma {w' b' : Nat} {st' : Bool} (hI : (psI X F ow p gs dr pd pm sg lv w b st ss h dp wc rs)) : (psI X (ev_up F (p + 10) (maO (nI w') b' st')) ow p gs dr pd pm sg lv w' b' st' ss h dp wc rs) ∧ psS p n F ow gs n (ev_up F (p + 10) (maO (nI w') b' st')) ow gs := by
  obtain ⟨h0, h1, h2, h4, h5, h6, h7, h8, h9, hw, hg, hp, hd⟩ := id hI
  have k : kp ow (iv p 10 11) F (ev_up F (p + 10) (maO (nI w') b' st')) := kp_u kp_r (hw 10 (by omega)) (fun z => by omega) (fun z => by omega)
  obtain ⟨k0, k1, k2, k3, k4, -, k6, k7, k8⟩ := ps_iv hI k (fun _ _ _ => rfl) (by omega)
  exact ⟨⟨k0 (by omega), k1 (by omega), k2 (by omega), k3 (by omega), k4 (by omega), eu_y, k6 (by omega), k7 (by omega), k8 (by omega), hw, hg, hp, hd⟩, psS_iv (by omega) k⟩
/-- the results are others -/
theorem ps_re {rs' : List (Nat × Nat)} (hI : (psI X F ow p gs dr pd pm sg lv w b st ss h dp wc rs)) (hr : reI G (p + 25) rs') (ha : ag F G (p + 25) (p + 25 + 3)) : (psI X G ow p gs dr pd pm sg lv w b st ss h dp wc rs') ∧ psS p n F ow gs n G ow gs := by
  have hw := hI.2.2.2.2.2.2.2.2.2.1
  have hp := hI.2.2.2.2.2.2.2.2.2.2.2.1
  have k : kp ow (iv p 25 28) F G := kp_ag ha (fun x h1 h2 => by
    have := hw (x - p) (by omega)
    rw [show p + (x - p) = x by omega] at this
    exact ⟨this, fun z => by omega⟩) (fun z => by omega)
  obtain ⟨k0, k1, k2, k3, k4, k5, k6, k7, -⟩ := ps_iv hI k (fun _ _ _ => rfl) (by omega)
  exact ⟨⟨k0 (by omega), k1 (by omega), k2 (by omega), k3 (by omega), k4 (by omega), k5 (by omega), k6 (by omega), k7 (by omega), hr, hI.2.2.2.2.2.2.2.2.2⟩, psS_iv (by omega) k⟩
/-- the ranking worked, and perhaps the results -/
theorem ps_ra {wc' : Nat} {rs' : List (Nat × Nat)} (hI : (psI X F ow p gs dr pd pm sg lv w b st ss h dp wc rs)) (hr : ∃ wf bf tc, raI G (p + 14) wf bf tc wc') (hs : reI G (p + 25) rs') (k : kp ow (iv p 14 28) F G) : (psI X G ow p gs dr pd pm sg lv w b st ss h dp wc' rs') ∧ psS p n F ow gs n G ow gs := by
  obtain ⟨k0, k1, k2, k3, k4, k5, k6, -, -⟩ := ps_iv hI k (fun _ _ _ => rfl) (by omega)
  exact ⟨⟨k0 (by omega), k1 (by omega), k2 (by omega), k3 (by omega), k4 (by omega), k5 (by omega), k6 (by omega), hr, hs, hI.2.2.2.2.2.2.2.2.2⟩, psS_iv (by omega) k⟩
/-- the shelf is another one -/
theorem ps_shI {C : Nat → Prop} {sg' : List Seg} {lv' : List Doc} (hI : (psI X F ow p gs dr pd pm sg lv w b st ss h dp wc rs)) (u : ∀ i, i < 28 → ow' (p + i) = 1) (w' : ∀ x c, F x = some c → ow' x = ow x) (hq : shI X G ow' (p + 7) gs' sg' lv') (hg' : ∀ g ∈ gs', p + 27 < g) (k : kp ow C F G) (hC : ∀ i, i < 28 → (i < 8 ∨ 10 ≤ i) → C (p + i)) : (psI X G ow' p gs' dr pd pm sg' lv' w b st ss h dp wc rs) := by
  obtain ⟨h0, h1, ⟨f, h2, h3⟩, h4, h5, h6, h7, ⟨wf, bf, tc, h8⟩, h9, hw, hg, hp, hd⟩ := hI
  have c1 : ∀ i, i < 28 → (i < 8 ∨ 10 ≤ i) → ow (p + i) = 1 ∧ C (p + i) := fun i hi z => ⟨hw i hi, hC i hi z⟩
  refine ⟨k _ _ h0 (Or.inr (Or.inl (c1 0 (by omega) (by omega)))), st_kp h1 k (fun i hi => ?_), ⟨f, k _ _ h2 (Or.inr (Or.inl (c1 4 (by omega) (by omega)))), h3⟩, pe_kp h4 k (c1 5 (by omega) (by omega)).2 (c1 6 (by omega) (by omega)).2 (hw 6 (by omega)) w', hq, k _ _ h6 (Or.inr (Or.inl (c1 10 (by omega) (by omega)))), qs_kp h7 k (c1 11 (by omega) (by omega)).2 (c1 12 (by omega) (by omega)).2 (c1 13 (by omega) (by omega)).2 w', ⟨wf, bf, tc, ra_kp h8 k (fun i hi => ?_)⟩, re_kp h9 k (fun i hi => ?_), u, hg', hp, hd⟩
  · have := c1 (1 + i) (by omega) (by omega)
    rw [← Nat.add_assoc] at this
    exact this
  · have := c1 (14 + i) (by omega) (by omega)
    rw [← Nat.add_assoc] at this
    exact this
  · have := c1 (25 + i) (by omega) (by omega)
    rw [← Nat.add_assoc] at this
    exact this
/-- the shelf worked -/
theorem ps_sh {n' : Nat} {sg' : List Seg} {lv' : List Doc} (fr0 : ∀ q : Nat, n ≤ q → F q = none) (hI : (psI X F ow p gs dr pd pm sg lv w b st ss h dp wc rs)) (hn : n ≤ n') (u : ∀ x, x < n → ow' x = ow x) (hq : shI X G ow' (p + 7) gs' sg' lv') (hg' : ∀ g ∈ gs', g ∈ gs ∨ n ≤ g) (k : kp ow (shC n (p + 7) gs) F G) : (psI X G ow' p gs' dr pd pm sg' lv' w b st ss h dp wc rs) ∧ psS p n F ow gs n' G ow' gs' := by
  have hlt := ps_lt fr0 hI
  have hw := hI.2.2.2.2.2.2.2.2.2.1
  have hg := hI.2.2.2.2.2.2.2.2.2.2.1
  have hp := hI.2.2.2.2.2.2.2.2.2.2.2.1
  refine ⟨ps_shI hI (fun i hi => by rw [u _ (by omega)]; exact hw i hi) (fun x c hx => u x (kn fr0 hx)) hq (fun g hg2 => ?_) k (fun i hi z => ⟨by omega, by omega, by omega, by omega, fun q => by have := hg _ q; omega⟩), hn, u, hg', kp_w k (fun x hx => ⟨hx.1, hx.2.1, by omega, by omega, hx.2.2.2⟩)⟩
  rcases hg' g hg2 with z | z
  · exact hg g z
  · omega
/-- more cells that never change -/
theorem ps_ext {n' : Nat} (fr0 : ∀ q : Nat, n ≤ q → F q = none) (hI : (psI X F ow p gs dr pd pm sg lv w b st ss h dp wc rs)) (e : ext F G) (hn : n ≤ n') (u : ∀ x, x < n → ow' x = ow x) : (psI X G ow' p gs dr pd pm sg lv w b st ss h dp wc rs) ∧ psS p n F ow gs n' G ow' gs := by
  have hlt := ps_lt fr0 hI
  have hw := hI.2.2.2.2.2.2.2.2.2.1
  exact ⟨ps_kp (C := fun _ => True) hI (kp_e e) (fun i hi => by rw [u _ (by omega)]; exact hw i hi) (fun x c hx => u x (kn fr0 hx)) (fun _ _ => trivial) (fun _ _ => ⟨trivial, trivial⟩), hn, u, fun _ h => Or.inl h, kp_e e⟩
end Ps
