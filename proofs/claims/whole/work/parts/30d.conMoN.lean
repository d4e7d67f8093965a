/-! the reference: phrases, matches -/
section MoN
variable {l : Launch} {X : ev_X} {n : Nat} {B : ev_H} {r : Nat} {d ro se st fu wr to he re we : Int32} {ai : Nat → Nat → Int32} {al : Nat → Nat → Int64}
theorem c_Mo_phraseIn {q k at_ : Nat} {x : PRow} {row : List Int64} (hx : rA ai al q x) (hq : q < 80) (hk : row.length = k) (hka : k ≤ at_) (ha : at_ ≤ 520) (hrow : ∀ j, j < k → al 11 (at_ - k + j) = tg row j) : Cal l X M_Mo_phraseIn 0 0 [.ref r, .int (nI q), .int (nI at_), .int (nI k)] n (moH B r d ro se st fu wr to he re we ai al) (ev_pure (.int (bI (dP x.2.2.2 row))) n (moH B r d ro se st fu wr to he re we ai al)) := by
  obtain ⟨b1, b2, b3, b4, b5, b6, b7, b8⟩ := hx
  have cq : (nI q).toNatClampNeg = q := nI_clamp (by omega)
  have key : ∀ (e u : Nat), u + e = x.2.2.2.length + 1 - row.length → dX x.2.2.2 row u = false → Ev l X M_Mo_phraseIn 0 0 3 [(0, .ref r), (1, .int (nI q)), (2, .int (nI at_)), (3, .int (nI k)), (4, .int (nI u))] [] n (moH B r d ro se st fu wr to he re we ai al) (ev_mq X (ev_pure (.int (bI (dP x.2.2.2 row))) n (moH B r d ro se st fu wr to he re we ai al))) := by
    intro e
    induction e with
    | zero =>
      intro u hu hf
      refine s_Mo_phraseIn_3 mh_0 mh_8 (vp_in_nI hq (by decide)) (fun _ => ⟨?_, rfl, rfl⟩) (fun a => ?_)
      · unfold dP
        rw [← hu, Nat.add_zero, hf]
        rfl
      · exfalso
        apply a
        rw [cq, b4, nI_add]
        exact (nI_ltI (by omega) (by omega)).mpr (by omega)
    | succ e ih =>
      intro u hu hf
      have hgt : ¬ ai 8 q < nI u + nI k := fun z => by
        rw [b4, nI_add] at z
        have := (nI_ltI (by omega) (by omega)).mp z
        omega
      have inner : ∀ (v j : Nat), j + v = k → Ev l X M_Mo_phraseIn 0 0 22 [(0, .ref r), (1, .int (nI q)), (2, .int (nI at_)), (3, .int (nI k)), (4, .int (nI u)), (5, .int (bI (dQ x.2.2.2 row u j))), (6, .int (nI j))] [] n (moH B r d ro se st fu wr to he re we ai al) (ev_mq X (ev_pure (.int (bI (dP x.2.2.2 row))) n (moH B r d ro se st fu wr to he re we ai al))) := by
        intro v
        induction v with
        | zero =>
          intro j hj
          have e1 : j = k := by omega
          subst e1
          have hle : nI j ≤ nI j := (nI_leI (by omega) (by omega)).mpr (Nat.le_refl _)
          refine s_Mo_phraseIn_22 mh_0 mh_11 mh_9 (fun _ a => ?_) (fun _ a => ⟨?_, rfl, rfl⟩) ?_ ?_ ?_ ?_ ?_ ?_
          · rw [nI_1]
            refine ih (u + 1) (by omega) ?_
            unfold dX
            rw [hf, hk, bI_1.mp a]
            rfl
          · have h1 : dX x.2.2.2 row (u + 1) = true := by
              unfold dX
              rw [hk, bI_n0 a, Bool.or_true]
            have := dX_t e (u + 1) h1
            rw [show u + 1 + e = x.2.2.2.length + 1 - row.length by omega] at this
            unfold dP
            rw [this]
            rfl
          all_goals exact fun c => absurd hle c
        | succ v ihv =>
          intro j hj
          have hgt2 : ¬ nI k ≤ nI j := i_ge (by omega) (by omega) (by omega)
          have e1 : (nI at_ - nI k) + nI j = nI (at_ - k + j) := by rw [pk_sub hka, nI_add]
          have e2 : ((12 : Int32) * nI q + nI u) + nI j = nI (12 * q + (u + j)) := by rw [i_12, nI_add, Nat.add_assoc]
          have c1 : (nI (at_ - k + j)).toNatClampNeg = at_ - k + j := nI_clamp (by omega)
          have c2 : (nI (12 * q + (u + j))).toNatClampNeg = 12 * q + (u + j) := nI_clamp (by omega)
          have hih := ihv (j + 1) (by omega)
          have ej := hrow j (by omega)
          have et := b5 (u + j) (by omega)
          have edq : dQ x.2.2.2 row u (j + 1) = (dQ x.2.2.2 row u j && (tg row j != 0 && tg row j == tg x.2.2.2 (u + j))) := rfl
          have no : dQ x.2.2.2 row u (j + 1) = false → Ev l X M_Mo_phraseIn 0 0 22 [(0, .ref r), (1, .int (nI q)), (2, .int (nI at_)), (3, .int (nI k)), (4, .int (nI u)), (5, .int 0), (6, .int (nI j + 1))] [] n (moH B r d ro se st fu wr to he re we ai al) (ev_mq X (ev_pure (.int (bI (dP x.2.2.2 row))) n (moH B r d ro se st fu wr to he re we ai al))) := fun z => by
            rw [z] at hih
            rw [nI_1]
            exact hih
          refine s_Mo_phraseIn_22 mh_0 mh_11 mh_9 (fun c => absurd c hgt2) (fun c => absurd c hgt2) (fun _ => by rw [e1]; exact vp_in_nI (by omega) (by decide)) (fun _ a => no (by rw [edq, bI_1.mp a]; rfl)) (fun _ a c => no ?_) (fun _ _ _ => by rw [e2]; exact vp_in_nI (by omega) (by decide)) (fun _ a c g => no ?_) (fun _ a c g => ?_)
          · rw [e1, c1, lg_cmp_eq, ej] at c
            rw [edq, c]
            simp
          · rw [e1, e2, c1, c2, lg_cmp_eq, ej, et] at g
            have : (tg row j == tg x.2.2.2 (u + j)) = false := by
              rw [beq_eq_false_iff_ne]
              exact fun z => g z.symm
            rw [edq, this]
            simp
          · rw [e1, c1, lg_cmp_eq, ej] at c
            rw [e1, e2, c1, c2, lg_cmp_eq, ej, et] at g
            have : dQ x.2.2.2 row u (j + 1) = true := by
              rw [edq, bI_n0 a, ← g]
              rw [← g] at c
              simp [c]
            rw [this] at hih
            rw [nI_1]
            exact hih
      refine s_Mo_phraseIn_3 mh_0 mh_8 (vp_in_nI hq (by decide)) (fun c => ?_) (fun _ => inner k 0 (by omega))
      rw [cq] at c
      exact absurd c hgt
  exact Cal.of (by decide) (Nat.le_of_ble_eq_true rfl) (s_Mo_phraseIn_0 (key _ 0 (Nat.zero_add _) rfl))
/-- the answers on the stack, in cells -/
def sR (g : Nat → Int32) (bs : List Bool) : Prop := ∀ i b, bs.reverse[i]? = some b → g i = bI b
theorem sR_push {g : Nat → Int32} {bs : List Bool} {b : Bool} (h : sR g bs) : sR (upd g bs.length (bI b)) (b :: bs) := fun i c hc => by
  rw [List.reverse_cons] at hc
  by_cases e : i = bs.length
  · subst e
    rw [List.getElem?_append_right (by simp)] at hc
    simp at hc
    subst hc
    simp [upd]
  · have hlt : i < bs.length := by
      have := (List.getElem?_eq_some_iff.mp hc).1
      simp at this
      omega
    rw [List.getElem?_append_left (by simpa using hlt)] at hc
    simp [upd, e, h i c hc]
theorem sR_drop {g : Nat → Int32} {a bs : List Bool} (h : sR g (a ++ bs)) : sR g bs := fun i c hc => by
  refine h i c ?_
  rw [List.reverse_append, List.getElem?_append_left]
  · exact hc
  · exact (List.getElem?_eq_some_iff.mp hc).1
theorem sR_top {g : Nat → Int32} {bs : List Bool} {b : Bool} (h : sR g (b :: bs)) : g bs.length = bI b := h bs.length b (by
  rw [List.reverse_cons, List.getElem?_append_right (by simp)]
  simp)
/-- the tokens in cells -/
def tkA (ai : Nat → Nat → Int32) (al : Nat → Nat → Int64) (tk : List PTok) : Prop := ∀ j x, tk[j]? = some x → ai 10 j = nI x.1 ∧ al 11 j = x.2
theorem ph_tn {k : Nat} (h : k < 2 ^ 31) : ((nI k).toInt64).toInt32 = nI k := by simp
theorem rT_dT {q : Nat} {x : PRow} {t : Int64} (hx : rA ai al q x) : rT (al 9) q t x.2.2.2.length = dT x.2.2.2 t := by
  unfold rT dT
  apply cn_congr
  intro j hj
  rw [hx.2.2.2.2.1 j hj]
theorem rL_dL {q : Nat} {x : PRow} (hx : rA ai al q x) : rL (al 9) q x.2.2.2.length = dL x.2.2.2 := by
  unfold rL dL
  apply cn_congr
  intro j hj
  rw [hx.2.2.2.2.1 j hj]
theorem c_Mo_matches {q : Nat} {x : PRow} {ss : List QStep} {tk : List PTok} {es : List Nat} (hx : rA ai al q x) (hq : q < 80) (htk : tk = ss.flatMap tokOf) (ht : tkA ai al tk) (hT : tk.length ≤ 520) (hd : dpR ss.reverse = some es) (h1 : es.length = 1) : Cal l X M_Mo_matches 0 0 [.ref r, .int (nI q)] n (moH B r d ro se st fu wr (nI tk.length) he re we ai al) (fun v n' F' => n' = n ∧ ∃ b g, evR x.2.2.2 ss.reverse = [b] ∧ v = some (.int (bI b)) ∧ F' = (moH B r d ro se st fu wr (nI tk.length) he re we (va_up ai 14 g) al)) := by
  generalize hQ : (fun (v : Option Value) (n' : Nat) (F' : ev_H) => n' = n ∧ ∃ b g, evR x.2.2.2 ss.reverse = [b] ∧ v = some (.int (bI b)) ∧ F' = (moH B r d ro se st fu wr (nI tk.length) he re we (va_up ai 14 g) al)) = Q
  have hx8 : ∀ g, rA (va_up ai 14 g) al q x := fun g => rA_k hx (by simp [va_up]) (by simp [va_up]) (by simp [va_up]) (by simp [va_up]) (fun _ _ => rfl)
  have hsz : ∀ g, va_up ai 14 g 8 q = nI x.2.2.2.length := fun g => (hx8 g).2.2.2.1
  have h12 : x.2.2.2.length ≤ 12 := hx.2.2.2.2.2.2.2
  have nx : ∀ (j u : Nat) (g : Nat → Int32), Ev l X M_Mo_matches 0 0 4 [(0, .ref r), (1, .int (nI q)), (2, .int (nI u)), (3, .int (nI (j + 1)))] [] n (moH B r d ro se st fu wr (nI tk.length) he re we (va_up ai 14 g) al) (ev_mq X Q) → Ev l X M_Mo_matches 0 0 208 [(0, .ref r), (1, .int (nI q)), (2, .int (nI u)), (3, .int (nI j))] [] n (moH B r d ro se st fu wr (nI tk.length) he re we (va_up ai 14 g) al) (ev_mq X Q) := fun j u g h => s_Mo_matches_208 (by rw [nI_1]; exact h)
  have lt : ∀ {j : Nat} {y : PTok}, tk[j]? = some y → j < tk.length ∧ ¬ nI tk.length ≤ nI j ∧ (nI j).toNatClampNeg = j ∧ vp_in (nI j) 520 := fun {j y} hy => by
    have := (List.getElem?_eq_some_iff.mp hy).1
    exact ⟨this, i_ge (by omega) (by omega) this, nI_clamp (by omega), vp_in_nI (by omega) (by decide)⟩
  have k10 : ∀ g, va_up ai 14 g 10 = ai 10 := fun g => by simp [va_up]
  have k14 : ∀ g, va_up ai 14 g 14 = g := fun g => by simp [va_up]
  have tTerm : ∀ (j : Nat) (t : Int64) (g : Nat → Int32) (bs : List Bool), tk[j]? = some (0, t) → bs.length < 8 → sR g bs → (∀ g', sR g' (dP x.2.2.2 [t] :: bs) → Ev l X M_Mo_matches 0 0 4 [(0, .ref r), (1, .int (nI q)), (2, .int (nI (bs.length + 1))), (3, .int (nI (j + 1)))] [] n (moH B r d ro se st fu wr (nI tk.length) he re we (va_up ai 14 g') al) (ev_mq X Q)) → Ev l X M_Mo_matches 0 0 4 [(0, .ref r), (1, .int (nI q)), (2, .int (nI bs.length)), (3, .int (nI j))] [] n (moH B r d ro se st fu wr (nI tk.length) he re we (va_up ai 14 g) al) (ev_mq X Q) := by
    intro j t g bs hj hb hs next
    obtain ⟨l1, l2, l3, l4⟩ := lt hj
    obtain ⟨e1, e2⟩ := ht j _ hj
    have cb : (nI bs.length).toNatClampNeg = bs.length := nI_clamp (by omega)
    have hne : ∀ {A : Prop}, ¬ va_up ai 14 g 10 (nI j).toNatClampNeg = 0 → A := fun z => by
      rw [k10, l3, e1] at z
      exact absurd rfl z
    have hcal : Cal l X M_Mo_times 0 0 [.ref r, .int (nI q), .long (al 11 (nI j).toNatClampNeg)] n (moH B r d ro se st fu wr (nI tk.length) he re we (va_up ai 14 g) al) (ev_pure (.int (nI (dT x.2.2.2 t))) n (moH B r d ro se st fu wr (nI tk.length) he re we (va_up ai 14 g) al)) := by
      rw [l3, e2]
      have := c_Mo_times (l := l) (X := X) (n := n) (B := B) (r := r) (d := d) (ro := ro) (se := se) (st := st) (fu := fu) (wr := wr) (to := nI tk.length) (he := he) (re := re) (we := we) (ai := va_up ai 14 g) (al := al) (t := t) hq h12 (hsz g)
      rw [rT_dT (hx8 g)] at this
      exact this
    have hdt := dT_le x.2.2.2 t
    refine s_Mo_matches_4 (v90 := 0) (v34 := nI (dT x.2.2.2 t)) mh_0 mh_14 mh_10 mh_11 (fun c => absurd c l2) (fun c => absurd c l2) (fun c => absurd c l2) (fun _ => l4) (fun _ z => hne z) (fun _ z => hne z) (fun _ z => hne z) (fun _ z => hne z) (fun _ z => hne z) (fun _ z => hne z) (fun _ z => hne z) (fun _ z => hne z) (fun _ z => hne z) (fun _ z => hne z) (fun _ z => hne z) (fun _ z => hne z) (fun _ z => hne z) (fun _ z => hne z) (fun _ z => hne z) (fun _ z => hne z) (fun _ z => hne z) (fun _ z => hne z) (fun _ z => hne z) (fun _ z => hne z) (fun _ z => hne z) (fun _ z => hne z) (fun _ z => hne z) (fun _ _ => l4) (fun _ _ => hcal) (fun _ _ _ => vp_in_nI hb (by decide)) (fun _ _ a => ?_) (fun _ _ _ => vp_in_nI hb (by decide)) (fun _ _ a => ?_)
    · have z : dT x.2.2.2 t = 0 := by
        have := (nI_leI (b := 0) (by omega) (by decide)).mp a
        omega
      rw [cb, mu_14, nI_1, va_uu, k14]
      have e : dP x.2.2.2 [t] = false := by rw [dP_1, z]; rfl
      have hp := sR_push (b := false) hs
      rw [← e] at hp
      have := next _ hp
      rw [e] at this
      exact nx _ _ _ this
    · have z : 0 < dT x.2.2.2 t := Nat.pos_of_ne_zero fun z => a (by rw [z]; decide)
      rw [cb, mu_14, nI_1, va_uu, k14]
      have e : dP x.2.2.2 [t] = true := by rw [dP_1]; exact decide_eq_true z
      have hp := sR_push (b := true) hs
      rw [← e] at hp
      have := next _ hp
      rw [e] at this
      exact nx _ _ _ this
  have tNot : ∀ (j : Nat) (z0 : Int64) (g : Nat → Int32) (b : Bool) (bs : List Bool), tk[j]? = some (4, z0) → bs.length < 8 → sR g (b :: bs) → (∀ g', sR g' ((!b) :: bs) → Ev l X M_Mo_matches 0 0 4 [(0, .ref r), (1, .int (nI q)), (2, .int (nI (bs.length + 1))), (3, .int (nI (j + 1)))] [] n (moH B r d ro se st fu wr (nI tk.length) he re we (va_up ai 14 g') al) (ev_mq X Q)) → Ev l X M_Mo_matches 0 0 4 [(0, .ref r), (1, .int (nI q)), (2, .int (nI (bs.length + 1))), (3, .int (nI j))] [] n (moH B r d ro se st fu wr (nI tk.length) he re we (va_up ai 14 g) al) (ev_mq X Q) := by
    intro j z0 g b bs hj hb hs next
    obtain ⟨l1, l2, l3, l4⟩ := lt hj
    obtain ⟨e1, e2⟩ := ht j _ hj
    have s1 : nI (bs.length + 1) - 1 = nI bs.length := pk_sub (a := bs.length + 1) (b := 1) (by omega)
    have cb : (nI bs.length).toNatClampNeg = bs.length := nI_clamp (by omega)
    have h4 : va_up ai 14 g 10 (nI j).toNatClampNeg = 4 := by rw [k10, l3, e1]; rfl
    have n0 : ∀ {A : Prop}, va_up ai 14 g 10 (nI j).toNatClampNeg = 0 → A := fun z => by rw [h4] at z; exact absurd z (by decide)
    have n1 : ∀ {A : Prop}, va_up ai 14 g 10 (nI j).toNatClampNeg = 1 → A := fun z => by rw [h4] at z; exact absurd z (by decide)
    have n4 : ∀ {A : Prop}, ¬ va_up ai 14 g 10 (nI j).toNatClampNeg = 4 → A := fun z => absurd h4 z
    have inb : vp_in (nI (bs.length + 1) - 1) 8 := by rw [s1]; exact vp_in_nI hb (by decide)
    have htop : va_up ai 14 g 14 (nI (bs.length + 1) - 1).toNatClampNeg = bI b := by rw [k14, s1, cb]; exact sR_top hs
    refine s_Mo_matches_4 (v90 := 0) (v34 := 0) mh_0 mh_14 mh_10 mh_11 (fun c => absurd c l2) (fun c => absurd c l2) (fun c => absurd c l2) (fun _ => l4) (fun _ _ => l4) (fun _ _ _ => l4) (fun _ _ _ z => n4 z) (fun _ _ _ z => n4 z) (fun _ _ _ z => n4 z) (fun _ _ _ z => n4 z) (fun _ _ _ z => n4 z) (fun _ _ _ z => n4 z) (fun _ _ _ z => n4 z) (fun _ _ _ z => n4 z) (fun _ _ _ z => n4 z) (fun _ _ _ z => n4 z) (fun _ _ _ z => n4 z) (fun _ _ _ _ => inb) (fun _ _ _ _ _ => inb) (fun _ _ _ _ a => ?_) (fun _ _ _ _ _ => inb) (fun _ _ _ _ a => ?_) (fun _ _ z => n1 z) (fun _ _ z => n1 z) (fun _ _ z => n1 z) (fun _ _ z => n1 z) (fun _ _ z => n1 z) (fun _ z => n0 z) (fun _ z => n0 z) (fun _ z => n0 z) (fun _ z => n0 z) (fun _ z => n0 z) (fun _ z => n0 z)
    · rw [htop] at a
      have e : b = true := bI_n0 a
      subst e
      rw [s1, cb, mu_14, va_uu, k14]
      exact nx _ _ _ (next _ (sR_push (b := false) (sR_drop (a := [true]) hs)))
    · rw [htop] at a
      have e : b = false := bI_1.mp a
      subst e
      rw [s1, cb, mu_14, va_uu, k14]
      exact nx _ _ _ (next _ (sR_push (b := true) (sR_drop (a := [false]) hs)))
  have tTwo : ∀ (j k : Nat) (z0 : Int64) (g : Nat → Int32) (a b : Bool) (bs : List Bool), k ≤ 1 → tk[j]? = some (k + 2, z0) → bs.length < 7 → sR g (a :: b :: bs) → (∀ g', sR g' ((if k = 0 then b && a else b || a) :: bs) → Ev l X M_Mo_matches 0 0 4 [(0, .ref r), (1, .int (nI q)), (2, .int (nI (bs.length + 1))), (3, .int (nI (j + 1)))] [] n (moH B r d ro se st fu wr (nI tk.length) he re we (va_up ai 14 g') al) (ev_mq X Q)) → Ev l X M_Mo_matches 0 0 4 [(0, .ref r), (1, .int (nI q)), (2, .int (nI (bs.length + 2))), (3, .int (nI j))] [] n (moH B r d ro se st fu wr (nI tk.length) he re we (va_up ai 14 g) al) (ev_mq X Q) := by
    intro j k z0 g a b bs hk hj hb hs next
    obtain ⟨l1, l2, l3, l4⟩ := lt hj
    obtain ⟨e1, e2⟩ := ht j _ hj
    have s0 : nI (bs.length + 2) + (-1) = nI (bs.length + 1) := by
      rw [n_m1]
      exact pk_sub (a := bs.length + 2) (b := 1) (by omega)
    have s1 : nI (bs.length + 1) - 1 = nI bs.length := pk_sub (a := bs.length + 1) (b := 1) (by omega)
    have cb : (nI bs.length).toNatClampNeg = bs.length := nI_clamp (by omega)
    have cb1 : (nI (bs.length + 1)).toNatClampNeg = bs.length + 1 := nI_clamp (by omega)
    have hk10 : va_up ai 14 g 10 (nI j).toNatClampNeg = nI (k + 2) := by rw [k10, l3, e1]
    have n0 : ∀ {A : Prop}, va_up ai 14 g 10 (nI j).toNatClampNeg = 0 → A := fun z => by
      rw [hk10] at z
      have := (nI_eq (b := 0) (by omega) (by decide)).mp z
      omega
    have n1 : ∀ {A : Prop}, va_up ai 14 g 10 (nI j).toNatClampNeg = 1 → A := fun z => by
      rw [hk10] at z
      have := (nI_eq (b := 1) (by omega) (by decide)).mp z
      omega
    have n4 : ∀ {A : Prop}, va_up ai 14 g 10 (nI j).toNatClampNeg = 4 → A := fun z => by
      rw [hk10] at z
      have := (nI_eq (b := 4) (by omega) (by decide)).mp z
      omega
    have n2 : va_up ai 14 g 10 (nI j).toNatClampNeg = 2 ↔ k = 0 := by
      rw [hk10]
      have := nI_eq (a := k + 2) (b := 2) (by omega) (by decide)
      exact this.trans (by omega)
    have in1 : vp_in (nI (bs.length + 2) + (-1)) 8 := by rw [s0]; exact vp_in_nI (by omega) (by decide)
    have in0 : vp_in ((nI (bs.length + 2) + (-1)) - 1) 8 := by rw [s0, s1]; exact vp_in_nI (by omega) (by decide)
    have gb : va_up ai 14 g 14 ((nI (bs.length + 2) + (-1)) - 1).toNatClampNeg = bI b := by
      rw [k14, s0, s1, cb]
      exact sR_top (sR_drop (a := [a]) hs)
    have ga : va_up ai 14 g 14 (nI (bs.length + 2) + (-1)).toNatClampNeg = bI a := by
      rw [k14, s0, cb1]
      exact sR_top (bs := b :: bs) hs
    have fin : ∀ c : Bool, c = (if k = 0 then b && a else b || a) → Ev l X M_Mo_matches 0 0 207 [(0, .ref r), (1, .int (nI q)), (2, .int (nI (bs.length + 2) + (-1))), (3, .int (nI j))] [.int (bI c), .int ((nI (bs.length + 2) + (-1)) - 1), .ref (r + 14)] n (moH B r d ro se st fu wr (nI tk.length) he re we (va_up ai 14 g) al) (ev_mq X Q) := by
      intro c hc
      refine s_Mo_matches_207 mh_14 in0 (bI_nar c) ?_
      rw [s0, s1, cb, mu_14, va_uu, k14]
      have hp := sR_push (b := c) (sR_drop (a := [a, b]) hs)
      rw [hc] at hp ⊢
      exact nx _ _ _ (next _ hp)
    refine s_Mo_matches_4 (v90 := 0) (v34 := 0) mh_0 mh_14 mh_10 mh_11 (fun c => absurd c l2) (fun c => absurd c l2) (fun c => absurd c l2) (fun _ => l4) (fun _ _ => l4) (fun _ _ _ => l4) (fun _ _ _ _ => l4) (fun _ _ _ _ _ => in0) (fun _ _ _ _ y c => fin true ?_) (fun _ _ _ _ _ _ => in1) (fun _ _ _ _ y c e => fin false ?_) (fun _ _ _ _ y c e => fin true ?_) (fun _ _ _ _ _ => in0) (fun _ _ _ _ y c => fin false ?_) (fun _ _ _ _ _ _ => in1) (fun _ _ _ _ y c e => fin false ?_) (fun _ _ _ _ y c e => fin true ?_) (fun _ _ _ z => n4 z) (fun _ _ _ z => n4 z) (fun _ _ _ z => n4 z) (fun _ _ _ z => n4 z) (fun _ _ _ z => n4 z) (fun _ _ z => n1 z) (fun _ _ z => n1 z) (fun _ _ z => n1 z) (fun _ _ z => n1 z) (fun _ _ z => n1 z) (fun _ z => n0 z) (fun _ z => n0 z) (fun _ z => n0 z) (fun _ z => n0 z) (fun _ z => n0 z) (fun _ z => n0 z)
    · rw [n2] at y
      rw [gb] at c
      rw [if_neg y, bI_n0 c]
      rfl
    · rw [n2] at y
      rw [gb] at c
      rw [ga] at e
      rw [if_neg y, bI_1.mp c, bI_1.mp e]
      rfl
    · rw [n2] at y
      rw [gb] at c
      rw [ga] at e
      rw [if_neg y, bI_1.mp c, bI_n0 e]
      rfl
    · rw [n2] at y
      rw [gb] at c
      rw [if_pos y, bI_1.mp c]
      rfl
    · rw [n2] at y
      rw [gb] at c
      rw [ga] at e
      rw [if_pos y, bI_n0 c, bI_1.mp e]
      rfl
    · rw [n2] at y
      rw [gb] at c
      rw [ga] at e
      rw [if_pos y, bI_n0 c, bI_n0 e]
      rfl
  have tPhr : ∀ (j : Nat) (row : List Int64) (g : Nat → Int32) (as bs : List Bool), tk[j]? = some (1, (nI row.length).toInt64) → as.length = row.length → 1 ≤ row.length → row.length ≤ j → (∀ i, i < row.length → al 11 (j - row.length + i) = tg row i) → (as ++ bs).length ≤ 8 → sR g (as ++ bs) → (∀ g', sR g' (dP x.2.2.2 row :: bs) → Ev l X M_Mo_matches 0 0 4 [(0, .ref r), (1, .int (nI q)), (2, .int (nI (bs.length + 1))), (3, .int (nI (j + 1)))] [] n (moH B r d ro se st fu wr (nI tk.length) he re we (va_up ai 14 g') al) (ev_mq X Q)) → Ev l X M_Mo_matches 0 0 4 [(0, .ref r), (1, .int (nI q)), (2, .int (nI (as ++ bs).length)), (3, .int (nI j))] [] n (moH B r d ro se st fu wr (nI tk.length) he re we (va_up ai 14 g) al) (ev_mq X Q) := by
    intro j row g as bs hj has h1r hrj hrow h8 hs next
    obtain ⟨l1, l2, l3, l4⟩ := lt hj
    obtain ⟨e1, e2⟩ := ht j _ hj
    rw [List.length_append] at h8
    have hm : (al 11 (nI j).toNatClampNeg).toInt32 = nI row.length := by rw [l3, e2]; exact ph_tn (by omega)
    have s1 : (nI (as ++ bs).length - nI row.length) + 1 = nI (bs.length + 1) := by
      rw [List.length_append, has, pk_sub (by omega), nI_1]
      congr 1
      omega
    have s2 : nI (bs.length + 1) - 1 = nI bs.length := pk_sub (a := bs.length + 1) (b := 1) (by omega)
    have cb : (nI bs.length).toNatClampNeg = bs.length := nI_clamp (by omega)
    have hk10 : va_up ai 14 g 10 (nI j).toNatClampNeg = 1 := by rw [k10, l3, e1]; rfl
    have n0 : ∀ {A : Prop}, va_up ai 14 g 10 (nI j).toNatClampNeg = 0 → A := fun z => by rw [hk10] at z; exact absurd z (by decide)
    have n1 : ∀ {A : Prop}, ¬ va_up ai 14 g 10 (nI j).toNatClampNeg = 1 → A := fun z => absurd hk10 z
    have hcal : Cal l X M_Mo_phraseIn 0 0 [.ref r, .int (nI q), .int (nI j), .int ((al 11 (nI j).toNatClampNeg).toInt32)] n (moH B r d ro se st fu wr (nI tk.length) he re we (va_up ai 14 g) al) (ev_pure (.int (bI (dP x.2.2.2 row))) n (moH B r d ro se st fu wr (nI tk.length) he re we (va_up ai 14 g) al)) := by
      rw [hm]
      exact c_Mo_phraseIn (hx8 g) hq rfl hrj (by omega) hrow
    refine s_Mo_matches_4 (v90 := bI (dP x.2.2.2 row)) (v34 := 0) mh_0 mh_14 mh_10 mh_11 (fun c => absurd c l2) (fun c => absurd c l2) (fun c => absurd c l2) (fun _ => l4) (fun _ _ => l4) (fun _ _ z => n1 z) (fun _ _ z => n1 z) (fun _ _ z => n1 z) (fun _ _ z => n1 z) (fun _ _ z => n1 z) (fun _ _ z => n1 z) (fun _ _ z => n1 z) (fun _ _ z => n1 z) (fun _ _ z => n1 z) (fun _ _ z => n1 z) (fun _ _ z => n1 z) (fun _ _ z => n1 z) (fun _ _ z => n1 z) (fun _ _ z => n1 z) (fun _ _ z => n1 z) (fun _ _ z => n1 z) (fun _ _ z => n1 z) (fun _ _ _ => l4) (fun _ _ _ => hcal) (fun _ _ _ => by rw [hm, s1, s2]; exact vp_in_nI (by omega) (by decide)) (fun _ _ _ => bI_nar _) (fun _ _ _ => ?_) (fun _ z => n0 z) (fun _ z => n0 z) (fun _ z => n0 z) (fun _ z => n0 z) (fun _ z => n0 z) (fun _ z => n0 z)
    rw [hm, s1, s2, cb, mu_14, va_uu, k14]
    exact nx _ _ _ (next _ (sR_push (sR_drop hs)))
  have key : ∀ (rest done : List QStep) (g : Nat → Int32), ss = done ++ rest → sR g (evR x.2.2.2 done.reverse) → Ev l X M_Mo_matches 0 0 4 [(0, .ref r), (1, .int (nI q)), (2, .int (nI (evR x.2.2.2 done.reverse).length)), (3, .int (nI (done.flatMap tokOf).length))] [] n (moH B r d ro se st fu wr (nI tk.length) he re we (va_up ai 14 g) al) (ev_mq X Q) := by
    intro rest
    induction rest with
    | nil =>
      intro done g hss hs
      rw [List.append_nil] at hss
      subst hss
      obtain ⟨i1, i2, i3⟩ := run_ok x.2.2.2 _ _ hd
      rw [h1] at i2
      match hb : evR x.2.2.2 ss.reverse, i2 with
      | [b], _ =>
        have hle : nI tk.length ≤ nI (ss.flatMap tokOf).length := by
          rw [← htk]
          exact (nI_leI (by omega) (by omega)).mpr (Nat.le_refl _)
        rw [hb] at hs
        have g0 : va_up ai 14 g 14 (0 : Int32).toNatClampNeg = bI b := by
          rw [k14, show (0 : Int32).toNatClampNeg = 0 by decide]
          exact sR_top hs
        refine s_Mo_matches_4 (v90 := 0) (v34 := 0) mh_0 mh_14 mh_10 mh_11 (fun _ => vp_in_nI (n := 0) (by decide) (by decide)) (fun _ => ?_) (fun _ => ?_) ?_ ?_ ?_ ?_ ?_ ?_ ?_ ?_ ?_ ?_ ?_ ?_ ?_ ?_ ?_ ?_ ?_ ?_ ?_ ?_ ?_ ?_ ?_ ?_ ?_ ?_ ?_ ?_ ?_ ?_
        · rw [g0, ← hQ]
          exact ⟨rfl, b, g, hb, rfl, rfl⟩
        · rw [g0]
          exact bI_nar b
        all_goals exact fun c => absurd hle c
    | cons y t ih =>
      intro done g hss hs
      generalize hD : done.flatMap tokOf = D at *
      generalize hbs : evR x.2.2.2 done.reverse = bs at *
      have etk : tk = D ++ (tokOf y ++ t.flatMap tokOf) := by
        rw [htk, hss, List.flatMap_append, List.flatMap_cons, hD]
      have htl : tk.length = D.length + ((tokOf y).length + (t.flatMap tokOf).length) := by rw [etk]; simp
      have tkg : ∀ i z, (tokOf y)[i]? = some z → tk[D.length + i]? = some z := fun i z hz => by
        rw [etk, List.getElem?_append_right (by omega), show D.length + i - D.length = i by omega, List.getElem?_append_left (List.getElem?_eq_some_iff.mp hz).1]
        exact hz
      have hrev : ss.reverse = t.reverse ++ (y :: done.reverse) := by rw [hss]; simp
      rw [hrev] at hd
      obtain ⟨e', he'⟩ := dpR_tail _ _ _ hd
      have hst : ∃ e1, dpR done.reverse = some e1 ∧ stp y e1 = some e' := by
        unfold dpR at he'
        cases hq1 : dpR done.reverse with
        | none => rw [hq1] at he'; cases he'
        | some e1 => rw [hq1] at he'; exact ⟨e1, rfl, he'⟩
      obtain ⟨e1, he1, hstp⟩ := hst
      obtain ⟨i1, i2, -⟩ := run_ok x.2.2.2 _ _ he1
      rw [hbs] at i2
      have hih := ih (done ++ [y])
      have er : (done ++ [y]).reverse = y :: done.reverse := by simp
      have ef : (done ++ [y]).flatMap tokOf = D ++ tokOf y := by rw [List.flatMap_append, hD]; simp
      rw [er, ef] at hih
      have hev : evR x.2.2.2 (y :: done.reverse) = evS x.2.2.2 y bs := by
        show evS x.2.2.2 y (evR x.2.2.2 done.reverse) = _
        rw [hbs]
      rw [hev] at hih
      have hih2 := fun g' => hih g' (by rw [hss]; simp)
      clear hih
      unfold stp at hstp
      unfold evS at hih2
      by_cases g3 : y.1 = 3
      · rw [if_pos g3] at hstp
        simp only [g3, if_true] at hih2
        by_cases gl : y.2.length = 1
        · rw [if_pos gl] at hstp
          have hb8 : bs.length < 8 := by
            by_cases z : e1.length < 8
            · omega
            · rw [if_neg z] at hstp; cases hstp
          obtain ⟨t0, ht0⟩ : ∃ t0, y.2 = [t0] := by
            match hy : y.2, gl with
            | [t0], _ => exact ⟨t0, rfl⟩
          have etok : tokOf y = [(0, t0)] := by
            unfold tokOf
            rw [if_pos g3, if_pos gl, ht0]
            rfl
          rw [etok, ht0] at hih2
          have h0 := tkg 0 (0, t0) (by rw [etok]; rfl)
          rw [Nat.add_zero] at h0
          refine tTerm D.length t0 g bs h0 hb8 hs (fun g' hg' => ?_)
          have := hih2 g' hg'
          simpa using this
        · rw [if_neg gl] at hstp
          have h2 : 2 ≤ y.2.length ∧ bs.length + y.2.length ≤ 8 := by
            by_cases z : 2 ≤ y.2.length ∧ e1.length + y.2.length ≤ 8
            · omega
            · rw [if_neg z] at hstp; cases hstp
          have etok : tokOf y = y.2.map (fun t => ((0, t) : PTok)) ++ [(1, (nI y.2.length).toInt64)] := by
            unfold tokOf
            rw [if_pos g3, if_neg gl]
          have hlt : (tokOf y).length = y.2.length + 1 := by rw [etok]; simp
          have hterm : ∀ i, i < y.2.length → tk[D.length + i]? = some (0, tg y.2 i) := fun i hi => by
            refine tkg i _ ?_
            rw [etok, List.getElem?_append_left (by simpa using hi), List.getElem?_map, List.getElem?_eq_getElem hi]
            unfold tg
            rw [List.getD_eq_getElem?_getD, List.getElem?_eq_getElem hi]
            rfl
          have hphr : tk[D.length + y.2.length]? = some (1, (nI y.2.length).toInt64) := by
            refine tkg _ _ ?_
            rw [etok, List.getElem?_append_right (by simp)]
            simp
          have run : ∀ (r2 r1 : List Int64) (g : Nat → Int32), y.2 = r1 ++ r2 → sR g (r1.reverse.map (fun t => dP x.2.2.2 [t]) ++ bs) → Ev l X M_Mo_matches 0 0 4 [(0, .ref r), (1, .int (nI q)), (2, .int (nI (r1.reverse.map (fun t => dP x.2.2.2 [t]) ++ bs).length)), (3, .int (nI (D.length + r1.length)))] [] n (moH B r d ro se st fu wr (nI tk.length) he re we (va_up ai 14 g) al) (ev_mq X Q) := by
            intro r2
            induction r2 with
            | nil =>
              intro r1 g hr hs1
              rw [List.append_nil] at hr
              rw [← hr] at hs1 ⊢
              refine tPhr (D.length + y.2.length) y.2 g (y.2.reverse.map (fun t => dP x.2.2.2 [t])) bs hphr (by simp) (by omega) (by omega) (fun i hi => ?_) (by simp; omega) hs1 (fun g' hg' => ?_)
              · rw [show D.length + y.2.length - y.2.length + i = D.length + i by omega]
                exact (ht _ _ (hterm i hi)).2
              · have := hih2 g' hg'
                rw [List.length_append, hlt, ← Nat.add_assoc] at this
                exact this
            | cons t0 r2 ihr =>
              intro r1 g hr hs1
              have hlr : y.2.length = r1.length + (r2.length + 1) := by rw [hr]; simp
              have et0 : tg y.2 r1.length = t0 := by
                unfold tg
                rw [List.getD_eq_getElem?_getD, hr, get_mid]
                rfl
              have h0 := hterm r1.length (by omega)
              rw [et0] at h0
              refine tTerm (D.length + r1.length) t0 g _ h0 (by simp; omega) hs1 (fun g' hg' => ?_)
              have := ihr (r1 ++ [t0]) g' (by rw [hr]; simp) (by simpa using hg')
              have e2 : ((r1 ++ [t0]).reverse.map (fun t => dP x.2.2.2 [t]) ++ bs).length = (r1.reverse.map (fun t => dP x.2.2.2 [t]) ++ bs).length + 1 := by simp
              have e3 : D.length + (r1 ++ [t0]).length = D.length + r1.length + 1 := by rw [List.length_append]; rfl
              rw [e2, e3] at this
              exact this
          have := run y.2 [] g rfl (by simpa using hs)
          simpa using this
      · rw [if_neg g3] at hstp
        have etok : tokOf y = [(y.1 + 2, 0)] := by
          unfold tokOf
          rw [if_neg g3]
        have h0 := tkg 0 (y.1 + 2, 0) (by rw [etok]; rfl)
        rw [Nat.add_zero] at h0
        simp only [g3, if_false] at hih2
        by_cases g2 : y.1 = 2
        · rw [if_pos g2] at hstp
          simp only [g2, if_true] at hih2
          match e1, hstp, i2, i1 with
          | d0 :: e2, _, i2, i1 =>
            match bs, i2, hs, hih2 with
            | b :: bt, i2, hs, hih2 =>
              rw [g2] at h0
              simp only [List.length_cons] at i2 i1
              refine tNot D.length 0 g b bt h0 (by omega) hs (fun g' hg' => ?_)
              have := hih2 g' hg'
              rw [etok] at this
              simpa using this
        · rw [if_neg g2] at hstp
          simp only [g2, if_false] at hih2
          by_cases g1 : y.1 ≤ 1
          · rw [if_pos g1] at hstp
            match e1, hstp, i2, i1 with
            | d0 :: d1 :: e2, _, i2, i1 =>
              match bs, i2, hs, hih2 with
              | a :: b :: bt, i2, hs, hih2 =>
                simp only [List.length_cons] at i2 i1
                refine tTwo D.length y.1 0 g a b bt g1 h0 (by omega) hs (fun g' hg' => ?_)
                have := hih2 g' hg'
                rw [etok] at this
                simpa using this
          · rw [if_neg g1] at hstp
            cases hstp
  refine Cal.of (by decide) (Nat.le_of_ble_eq_true rfl) (s_Mo_matches_0 ?_)
  have h0 := key ss [] (ai 14) rfl (fun i b hb => by simp [evR] at hb)
  rw [va_id] at h0
  exact h0
end MoN
