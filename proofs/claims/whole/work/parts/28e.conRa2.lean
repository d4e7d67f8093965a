/-! the ranking: weights, bounds, the best -/
/-- the ranking at r: its rows of weights, its bounds -/
def raI (F : ev_H) (r : Nat) (wf : Nat → Nat → Int32) (bf : Nat → Int32) (tc wc : Nat) : Prop := F r = some (.inr (6, [.ref (r + 1), .ref (r + 10), .int (nI tc), .int (nI wc)])) ∧ (∃ f, F (r + 1) = some (.inl (6, 8, .inr (.inr (.inr (.inr f))))) ∧ ∀ i, i < 8 → f i = some (r + 2 + i)) ∧ (∀ i, i < 8 → F (r + 2 + i) = some (.inl (0, 12, .inl (wf i)))) ∧ F (r + 10) = some (.inl (0, 8, .inl bf))
abbrev raC (r : Nat) : Nat → Prop := fun x => 1 < x ∧ (x < r ∨ r + 11 ≤ x)
def wI (lv : List Doc) (ts : List Int64) (t : Int64) : Int32 := if dT ts t = 0 then -1 else nI (wtL lv ts t)
theorem kp_ag {F G : ev_H} {ow : Nat → Nat} {C : Nat → Prop} {a b : Nat} (h : ag F G a b) (h1 : ∀ x, a ≤ x → x < b → ow x = 1 ∧ ¬ C x) (hC : ¬ C 1) : kp ow C F G := fun x c hx hc => by
  by_cases g : a ≤ x ∧ x < b
  · obtain ⟨w, nc⟩ := h1 x g.1 g.2
    rw [w] at hc
    rcases hc with hc | hc | hc
    · omega
    · exact absurd hc.2 nc
    · exact absurd hc hC
  · rw [h x (by omega)]
    exact hx
section Ra2
variable {l : Launch} {X : ev_X} {n : Nat} {F G : ev_H} {ow ow' : Nat → Nat} {r tc wc : Nat} {wf : Nat → Nat → Int32} {bf : Nat → Int32} {L : Nat} {lv : List Doc}
theorem ra_up {j : Nat} {g b' : Nat → Int32} (h : raI F r wf bf tc wc) (hj : j < 8) : raI (ev_up (ev_up F (r + 2 + j) (.inl (0, 12, .inl g))) (r + 10) (.inl (0, 8, .inl b'))) r (va_up wf j g) b' tc wc := by
  obtain ⟨h1, ⟨f, h2, h3⟩, h4, h5⟩ := h
  refine ⟨?_, ⟨f, ?_, h3⟩, fun i hi => ?_, eu_y⟩
  · rw [eu_n (by omega), eu_n (by omega)]
    exact h1
  · rw [eu_n (by omega), eu_n (by omega)]
    exact h2
  · rw [eu_n (by omega)]
    unfold va_up
    by_cases e : i = j
    · subst e
      rw [if_pos rfl]
      exact eu_y
    · rw [if_neg e, eu_n (by omega)]
      exact h4 i hi
theorem ra_kp {C : Nat → Prop} (h : raI F r wf bf tc wc) (k : kp ow C F G) (hw : ∀ i, i < 11 → ow (r + i) = 1 ∧ C (r + i)) : raI G r wf bf tc wc := by
  obtain ⟨h1, ⟨f, h2, h3⟩, h4, h5⟩ := h
  refine ⟨k _ _ h1 (Or.inr (Or.inl (hw 0 (by omega)))), ⟨f, k _ _ h2 (Or.inr (Or.inl (hw 1 (by omega)))), h3⟩, fun i hi => k _ _ (h4 i hi) (Or.inr (Or.inl ?_)), k _ _ h5 (Or.inr (Or.inl (hw 10 (by omega))))⟩
  have := hw (2 + i) (by omega)
  rw [← Nat.add_assoc] at this
  exact this
theorem c_Ra_clear (h : raI F r wf bf tc wc) (hw : ow r = 1) : Cal l X M_Ra_clear 0 0 [.ref r] n F (fun v n' F' => v = none ∧ n' = n ∧ raI F' r wf bf tc 0 ∧ kp ow (fun x => 1 < x ∧ x ≠ r) F F') := by
  obtain ⟨h1, ⟨f, h2, h3⟩, h4, h5⟩ := h
  refine Cal.of (by decide) (Nat.le_of_ble_eq_true rfl) (s_Ra_clear_0 h1 ⟨rfl, rfl, ⟨eu_y, ⟨f, by rw [eu_n (by omega)]; exact h2, h3⟩, fun i hi => by rw [eu_n (by omega)]; exact h4 i hi, by rw [eu_n (by omega)]; exact h5⟩, kp_u kp_r hw (fun z => z.2 rfl) (fun z => by omega)⟩)
def wtQ (n : Nat) (F : ev_H) (ow : Nat → Nat) (r : Nat) (wf : Nat → Nat → Int32) (bf : Nat → Int32) (tc wc j : Nat) (lv : List Doc) (t : Int64) : Option Value → Nat → ev_H → Prop := fun v n' F' => v = none ∧ n' = n ∧ ∃ wf' bf', raI F' r wf' bf' tc wc ∧ (∀ i, i ≠ j → wf' i = wf i ∧ bf' i = bf i) ∧ (∀ i, i < lv.length → wf' j i = wI lv (dAt lv i).2 t) ∧ bf' j = nI (bdL lv t lv.length) ∧ kp ow (raC r) F F'
theorem c_Ra_weighTerm {j : Nat} {t : Int64} (h : raI F r wf bf tc wc) (hj : j < 8) (hl : dlI X F ow L lv) (h12 : lv.length ≤ 12) (wL : ow L = 1) (cL : raC r L) (hw : ∀ i, i < 11 → ow (r + i) = 1) : Cal l X M_Ra_weighTerm 0 0 [.ref r, .int (nI j), .long t, .ref L, .int (nI (wAll lv))] n F (wtQ n F ow r wf bf tc wc j lv t) := by
  have hH : hol lv t lv.length ≤ 12 := Nat.le_trans (cn_le _ _) h12
  have hR := rar_le (N := lv.length) (f := hol lv t lv.length) h12
  have cj : (nI j).toNatClampNeg = j := nI_clamp (by omega)
  have inj : vp_in (nI j) 8 := vp_in_nI hj (by decide)
  have h8 : ∀ d : Doc, (∃ G ow1 v, dcW G ow1 v d) → d.2.length ≤ 12 := fun d ⟨G, ow1, v, t, f, a1, a2, a3, a4, a5, a6, a7⟩ => a7
  have key : ∀ (d k : Nat), k + d = lv.length → ∀ (G : ev_H) (wf' : Nat → Nat → Int32) (bf' : Nat → Int32), raI G r wf' bf' tc wc → (∀ i, i ≠ j → wf' i = wf i ∧ bf' i = bf i) → (∀ i, i < k → wf' j i = wI lv (dAt lv i).2 t) → bf' j = nI (bdL lv t k) → bdL lv t k ≤ 5280000 → kp ow (raC r) F G → Ev l X M_Ra_weighTerm 0 0 26 [(0, .ref r), (1, .int (nI j)), (2, .long t), (4, .ref L), (5, .int (nI (wAll lv))), (6, .int (nI (rar lv.length (hol lv t lv.length)))), (7, .int (nI k))] [] n G (ev_mq X (wtQ n F ow r wf bf tc wc j lv t)) := by
    intro d
    induction d with
    | zero =>
      intro k hk G wf' bf' hG hO hW hB hb hK
      have e1 : k = lv.length := by omega
      subst e1
      have hlG : dlI X G ow L lv := dl_kp hl hK cL wL (fun _ _ _ => rfl)
      obtain ⟨e, mc, c1⟩ := dl_cell hlG
      have hle : nI lv.length ≤ nI lv.length := (nI_leI (by omega) (by omega)).mpr (Nat.le_refl _)
      refine s_Ra_weighTerm_26 (v47 := 0) (iv47_id := 0) (v47_terms := 0) (v58 := 0) (v73 := 0) (v79 := 0) c1 (dl_size hlG) (fun _ => s_Ra_weighTerm_163 ⟨rfl, rfl, wf', bf', hG, hO, hW, hB, hK⟩) ?_ ?_ ?_ ?_ ?_ ?_ ?_ ?_ ?_
      all_goals exact fun c => absurd hle c
    | succ d ih =>
      intro k hk G wf' bf' hG hO hW hB hb hK
      have hlG : dlI X G ow L lv := dl_kp hl hK cL wL (fun _ _ _ => rfl)
      obtain ⟨e, mc, c1⟩ := dl_cell hlG
      have hgt : ¬ nI lv.length ≤ nI k := i_ge (by omega) (by omega) (by omega)
      have hgt2 : ¬ (12 : Int32) ≤ nI k := i_ge (a := 12) (by decide) (by omega) (by omega)
      obtain ⟨v, k1, k2⟩ := dl_get (l := l) (n := n) hlG (show k < lv.length by omega)
      have k3 := k2.i
      have hts := h8 _ ⟨G, ow, v, k2⟩
      obtain ⟨tt, f, d1, d2, d3, d4, d5, d6, d7⟩ := k2
      have hT := dT_le (dAt lv k).2 t
      have hLn := dL_le (dAt lv k).2
      have hwt := wtL_le (lv := lv) (t := t) h12 hts
      obtain ⟨g1, ⟨rf, g2, g3⟩, g4, g5⟩ := hG
      -- behind the weight
      have fin : ∀ (sh w : Int32), w = wI lv (dAt lv k).2 t → Ev l X M_Ra_weighTerm 0 0 132 [(0, .ref r), (1, .int (nI j)), (2, .long t), (4, .ref L), (5, .int (nI (wAll lv))), (6, .int (nI (rar lv.length (hol lv t lv.length)))), (7, .int (nI k)), (8, .ref v), (9, .int (nI (dT (dAt lv k).2 t))), (10, .int sh)] [.int w, .int (nI k), .ref (r + 2 + j)] n G (ev_mq X (wtQ n F ow r wf bf tc wc j lv t)) := by
        intro sh w hw2
        have ck : (nI k).toNatClampNeg = k := nI_clamp (by omega)
        refine s_Ra_weighTermN_132 (g4 j hj) g1 g5 (by omega) g2 (by omega) (vp_in_nI (by omega) (by decide)) inj inj (by rw [cj]; exact g3 j hj) (vp_in_nI (by omega) (by decide)) inj ?_
        rw [cj, ck, nI_1]
        have hup := ra_up (g := upd (wf' j) k w) (b' := upd bf' j (if bf' j < upd (wf' j) k w k then upd (wf' j) k w k else bf' j)) ⟨g1, ⟨rf, g2, g3⟩, g4, g5⟩ hj
        have ek : upd (wf' j) k w k = w := by simp [upd]
        have eb : (if bf' j < upd (wf' j) k w k then upd (wf' j) k w k else bf' j) = nI (bdL lv t (k + 1)) := by
          rw [ek, hB, hw2]
          unfold wI
          show _ = nI (max (bdL lv t k) (wtL lv (dAt lv k).2 t))
          by_cases z : dT (dAt lv k).2 t = 0
          · have z2 : wtL lv (dAt lv k).2 t = 0 := if_pos z
            rw [if_pos z, z2, Nat.max_zero, if_neg]
            intro q
            have : (0 : Int32) ≤ nI (bdL lv t k) := (nI_leI (a := 0) (by decide) (by omega)).mpr (Nat.zero_le _)
            have h3 : nI (bdL lv t k) < (0 : Int32) := Int32.lt_trans q (by decide)
            exact absurd this (Int32.not_le.mpr h3)
          · rw [if_neg z]
            by_cases g : bdL lv t k < wtL lv (dAt lv k).2 t
            · rw [if_pos ((nI_ltI (by omega) (by omega)).mpr g), Nat.max_eq_right (by omega)]
            · rw [if_neg (fun q => g ((nI_ltI (by omega) (by omega)).mp q)), Nat.max_eq_left (by omega)]
        rw [eb] at hup ⊢
        refine ih (k + 1) (by omega) _ _ _ hup (fun i hi => ?_) (fun i hi => ?_) ?_ (by unfold bdL; omega) (kp_t hK (kp_u (kp_u kp_r (by have := hw (2 + j) (by omega); rw [← Nat.add_assoc] at this; exact this) (fun z => by omega) (fun z => by omega)) (hw 10 (by omega)) (fun z => by omega) (fun z => by omega)) (fun _ _ _ => rfl))
        · simp [va_up, upd, hi, hO i hi]
        · by_cases z : i = k
          · subst z
            simp [va_up, upd, hw2]
          · have := hW i (by omega)
            simp [va_up, upd, z, this]
        · simp [upd]
      have q90 : ∀ sh : Nat, sh = (if wAll lv = 0 then 0 else 900 * dL (dAt lv k).2 * lv.length / wAll lv) → sh ≤ 129600 → Ev l X M_Ra_weighTerm 0 0 90 [(0, .ref r), (1, .int (nI j)), (2, .long t), (4, .ref L), (5, .int (nI (wAll lv))), (6, .int (nI (rar lv.length (hol lv t lv.length)))), (7, .int (nI k)), (8, .ref v), (9, .int (nI (dT (dAt lv k).2 t)))] [.int (nI sh)] n G (ev_mq X (wtQ n F ow r wf bf tc wc j lv t)) := by
        intro sh hs hs2
        have hmul : rar lv.length (hol lv t lv.length) * dT (dAt lv k).2 t ≤ 200 * 12 := Nat.mul_le_mul hR (by omega)
        have den : (1000 * nI (dT (dAt lv k).2 t) + 300) + nI sh = nI (1000 * dT (dAt lv k).2 t + 300 + sh) := by
          rw [show (1000 : Int32) = nI 1000 from rfl, show (300 : Int32) = nI 300 from rfl, pk_mul, nI_add, nI_add]
        refine s_Ra_weighTerm_90 g1 g2 inj (by rw [cj]; exact g3 j hj) (fun a => ?_) (fun a => ?_) (fun a => ?_)
        · have z : dT (dAt lv k).2 t = 0 := by
            have := (nI_leI (b := 0) (by omega) (by decide)).mp a
            omega
          exact fin _ _ (by unfold wI; rw [if_pos z])
        · rw [den]
          intro z
          have := (nI_eq (b := 0) (by omega) (by decide)).mp z
          omega
        · have z : ¬ dT (dAt lv k).2 t = 0 := fun z => a ((nI_leI (b := 0) (by omega) (by decide)).mpr (by omega))
          rw [den, show (2200 : Int32) = nI 2200 from rfl, pk_mul, pk_mul, pk_div (by omega) (by omega) (by omega)]
          refine fin _ _ ?_
          unfold wI wtL
          rw [if_neg z, if_neg z, hs]
      have hall : 0 < wAll lv ∨ wAll lv = 0 := by omega
      have hsum : wAll lv ≤ 12 * 12 := by
        have := sN_le (f := fun i => dL (dAt lv i).2) (b := 12) (fun i => Nat.le_trans (dL_le _) ?_) lv.length
        · unfold wAll
          omega
        · by_cases z : i < lv.length
          · obtain ⟨v', -, k2'⟩ := dl_get (l := l) (n := n) hlG z
            exact h8 _ ⟨G, ow, v', k2'⟩
          · unfold dAt
            rw [List.getD_eq_getElem?_getD, List.getElem?_eq_none (by omega)]
            simp
      refine s_Ra_weighTerm_26 (v47 := v) (v73 := nI (dL (dAt lv k).2)) (v79 := nI lv.length) c1 (dl_size hlG) (fun c => absurd c hgt) (fun _ c => absurd c hgt2) (fun _ _ => k1) (fun _ _ => d1) (fun _ _ => c_D_timesOf k3 (by omega)) (fun _ _ a => ?_) (fun _ _ _ => c_D_length k3 (by omega)) (fun _ _ _ => dl_size hlG) (fun _ _ a => ?_) (fun _ _ a => ?_)
      · have z : wAll lv = 0 := by
          have := (nI_leI (b := 0) (by omega) (by decide)).mp a
          omega
        exact q90 0 (by rw [if_pos z]) (by omega)
      · intro z
        exact a (by rw [z]; decide)
      · have z : ¬ wAll lv = 0 := fun z => a (by rw [z]; decide)
        have hm : 900 * dL (dAt lv k).2 * lv.length ≤ 900 * 12 * 12 := Nat.mul_le_mul (Nat.mul_le_mul_left _ (by omega)) h12
        rw [show (900 : Int32) = nI 900 from rfl, pk_mul, pk_mul, pk_div (by omega) (by omega) (by omega)]
        exact q90 _ (by rw [if_neg z]) (Nat.le_trans (Nat.div_le_self _ _) hm)
  obtain ⟨g1, ⟨rf, g2, g3⟩, g4, g5⟩ := h
  obtain ⟨e, mc, c1⟩ := dl_cell hl
  refine Cal.of (by decide) (Nat.le_of_ble_eq_true rfl) (s_Ra_weighTerm_0 c1 g1 g5 (dl_size hl) (c_Ra_holders hl) (c_Ra_rarity h12 hH) inj ?_)
  rw [cj]
  refine key lv.length 0 (by omega) _ wf (upd bf j 0) ⟨by rw [eu_n (by omega)]; exact g1, ⟨rf, by rw [eu_n (by omega)]; exact g2, g3⟩, fun i hi => by rw [eu_n (by omega)]; exact g4 i hi, eu_y⟩ (fun i hi => ⟨rfl, by simp [upd, hi]⟩) (fun i hi => absurd hi (Nat.not_lt_zero _)) (by simp [upd]; rfl) (by simp [bdL]) (kp_u kp_r (hw 10 (by omega)) (fun z => by omega) (fun z => by omega))
/-- the ranking holds the weights of the terms of a row -/
def rkI (F : ev_H) (r : Nat) (lv : List Doc) (row : List Int64) (wc : Nat) : Prop := ∃ wf bf, raI F r wf bf row.length wc ∧ (∀ j, j < row.length → ∀ i, i < lv.length → wf j i = wI lv (dAt lv i).2 (tg row j)) ∧ ∀ j, j < row.length → bf j = nI (bdL lv (tg row j) lv.length)
def wbQ (n : Nat) (F : ev_H) (ow : Nat → Nat) (r : Nat) (lv : List Doc) (row : List Int64) (wc : Nat) : Option Value → Nat → ev_H → Prop := fun v n' F' => v = none ∧ n' = n ∧ rkI F' r lv row wc ∧ kp ow (raC r) F F'
theorem c_Ra_weighBag {q : Nat} {row : List Int64} {dp : Nat → Nat} (h : raI F r wf bf tc wc) (hq : qsI X F ow q (row.map (fun t => ((3, [t]) : QStep))) row.length dp) (hl : dlI X F ow L lv) (h12 : lv.length ≤ 12) (wL : ow L = 1) (cL : raC r L) (cq : raC r q ∧ raC r (q + 1) ∧ raC r (q + 2)) (hw : ∀ i, i < 11 → ow (r + i) = 1) : Cal l X M_Ra_weighBag 0 0 [.ref r, .ref q, .ref L] n F (wbQ n F ow r lv row wc) := by
  have h8 : row.length ≤ 8 := hq.2.2.2.1
  have key : ∀ (d k : Nat), k + d = row.length → ∀ (G : ev_H) (wf' : Nat → Nat → Int32) (bf' : Nat → Int32), raI G r wf' bf' row.length wc → (∀ j, j < k → ∀ i, i < lv.length → wf' j i = wI lv (dAt lv i).2 (tg row j)) → (∀ j, j < k → bf' j = nI (bdL lv (tg row j) lv.length)) → kp ow (raC r) F G → Ev l X M_Ra_weighBag 0 0 21 [(0, .ref r), (1, .ref q), (2, .ref L), (3, .int (nI (wAll lv))), (4, .int (nI k))] [] n G (ev_mq X (wbQ n F ow r lv row wc)) := by
    intro d
    induction d with
    | zero =>
      intro k hk G wf' bf' hG hW hB hK
      have e1 : k = row.length := by omega
      subst e1
      have hqG := qs_kp hq hK cq.1 cq.2.1 cq.2.2 (fun _ _ _ => rfl)
      have hle : nI row.length ≤ nI row.length := (nI_leI (by omega) (by omega)).mpr (Nat.le_refl _)
      refine s_Ra_weighBag_21 (v36 := 0) (bc41 := 0) (bs41 := 0) (rc41 := 0) (rs41 := 0) (Q41 := fun _ _ _ => False) hG.1 hqG.1 (by omega) (by omega) (fun _ => ⟨rfl, rfl, ⟨wf', bf', hG, hW, hB⟩, hK⟩) ?_ ?_ ?_
      all_goals exact fun c => absurd hle c
    | succ d ih =>
      intro k hk G wf' bf' hG hW hB hK
      have hqG := qs_kp hq hK cq.1 cq.2.1 cq.2.2 (fun _ _ _ => rfl)
      have hlG : dlI X G ow L lv := dl_kp hl hK cL wL (fun _ _ _ => rfl)
      have hgt : ¬ nI row.length ≤ nI k := i_ge (by omega) (by omega) (by omega)
      have ht := c_Qs_termAt (l := l) (n := n) hqG (show k < (row.map (fun t => ((3, [t]) : QStep))).length by rw [List.length_map]; omega)
      have et : tg (pAt (row.map (fun t => ((3, [t]) : QStep))) k).2 0 = tg row k := by
        have hkr : k < row.length := by omega
        simp [pAt, tg, List.getD_eq_getElem?_getD, hkr]
      rw [et] at ht
      refine s_Ra_weighBag_21 (bc41 := 0) (bs41 := 0) (rc41 := 0) (rs41 := 0) hG.1 hqG.1 (by omega) (by omega) (fun c => absurd c hgt) (fun _ => ht) (fun _ => c_Ra_weighTerm hG (by omega) hlG h12 wL cL hw) (fun _ => ?_)
      rintro _ _ G2 ⟨rfl, rfl, wf2, bf2, hG2, hO, hW2, hB2, hK2⟩
      refine s_Ra_weighBag_44 ?_
      rw [nI_1]
      refine ih (k + 1) (by omega) G2 wf2 bf2 hG2 (fun j hj i hi => ?_) (fun j hj => ?_) (kp_t hK hK2 (fun _ _ _ => rfl))
      · by_cases z : j = k
        · subst z
          exact hW2 i hi
        · rw [(hO j z).1]
          exact hW j (by omega) i hi
      · by_cases z : j = k
        · subst z
          exact hB2
        · rw [(hO j z).2]
          exact hB j (by omega)
  obtain ⟨g1, ⟨rf, g2, g3⟩, g4, g5⟩ := h
  have hmin : (if (8 : Int32) < nI row.length then 8 else nI row.length) = nI row.length := if_neg fun z => by
    have := (nI_ltI (a := 8) (by decide) (by omega)).mp z
    omega
  refine Cal.of (by decide) (Nat.le_of_ble_eq_true rfl) (s_Ra_weighBag_0 hq.1 g1 (c_P_totalLength hl) ?_)
  rw [hmin]
  exact key row.length 0 (by omega) _ wf bf ⟨eu_y, ⟨rf, by rw [eu_n (by omega)]; exact g2, g3⟩, fun i hi => by rw [eu_n (by omega)]; exact g4 i hi, by rw [eu_n (by omega)]; exact g5⟩ (fun j hj => absurd hj (Nat.not_lt_zero _)) (fun j hj => absurd hj (Nat.not_lt_zero _)) (kp_u kp_r (hw 0 (by omega)) (fun z => by omega) (fun z => by omega))
variable {row : List Int64}
theorem wI_m1 {ts : List Int64} {t : Int64} (h12 : lv.length ≤ 12) (hl : ts.length ≤ 12) : wI lv ts t = -1 ↔ dT ts t = 0 := by
  have := wtL_le (lv := lv) (t := t) h12 hl
  unfold wI
  constructor
  · intro h
    apply Classical.byContradiction
    intro z
    rw [if_neg z] at h
    have h0 : (0 : Int32) ≤ nI (wtL lv ts t) := (nI_leI (a := 0) (by decide) (by omega)).mpr (Nat.zero_le _)
    rw [h] at h0
    exact absurd h0 (by decide)
  · intro z
    rw [if_pos z]
def hasK (row : List Int64) (ts : List Int64) : Nat → Bool
  | 0 => false
  | k + 1 => hasK row ts k || decide (0 < dT ts (tg row k))
theorem hasK_t {row ts : List Int64} : ∀ (d k : Nat), hasK row ts k = true → hasK row ts (k + d) = true
  | 0, _, h => h
  | d + 1, k, h => by
    show (hasK row ts (k + d) || _) = true
    rw [hasK_t d k h]
    rfl
theorem take_tg {row : List Int64} {k : Nat} (h : k < row.length) : row.take (k + 1) = row.take k ++ [tg row k] := by
  rw [List.take_succ_eq_append_getElem h]
  congr 2
  unfold tg
  rw [List.getD_eq_getElem?_getD, List.getElem?_eq_getElem h]
  rfl
theorem hasK_T {row ts : List Int64} : ∀ k, k ≤ row.length → hasK row ts k = hasT (row.take k) ts
  | 0, _ => by simp [hasK, hasT]
  | k + 1, h => by
    unfold hasK
    rw [hasK_T k (by omega), take_tg (by omega)]
    unfold hasT
    rw [List.any_append]
    simp
theorem c_Ra_hasTermOfBag {i : Nat} (h : rkI F r lv row wc) (hi : i < lv.length) (h12 : lv.length ≤ 12) (hts : (dAt lv i).2.length ≤ 12) (h8 : row.length ≤ 8) : Cal l X M_Ra_hasTermOfBag 0 0 [.ref r, .int (nI i)] n F (ev_pure (.int (bI (hasT row (dAt lv i).2))) n F) := by
  obtain ⟨wf, bf, ⟨g1, ⟨rf, g2, g3⟩, g4, g5⟩, hW, hB⟩ := h
  have hfin : hasT row (dAt lv i).2 = hasK row (dAt lv i).2 row.length := by rw [hasK_T _ (Nat.le_refl _), List.take_length]
  have key : ∀ (d k : Nat), k + d = row.length → hasK row (dAt lv i).2 k = false → Ev l X M_Ra_hasTermOfBag 0 0 2 [(0, .ref r), (1, .int (nI i)), (2, .int (nI k))] [] n F (ev_mq X (ev_pure (.int (bI (hasT row (dAt lv i).2))) n F)) := by
    intro d
    induction d with
    | zero =>
      intro k hk hf
      have e1 : k = row.length := by omega
      subst e1
      have hle : nI row.length ≤ nI row.length := (nI_leI (by omega) (by omega)).mpr (Nat.le_refl _)
      refine s_Ra_hasTermOfBag_2 (x15 := 0) (x15_n := 0) (x15_f := fun _ => 0) g1 g2 (fun _ => ⟨by rw [hfin, hf]; rfl, rfl, rfl⟩) ?_ ?_ ?_ ?_ ?_ ?_
      all_goals exact fun c => absurd hle c
    | succ d ih =>
      intro k hk hf
      have hgt : ¬ nI row.length ≤ nI k := i_ge (by omega) (by omega) (by omega)
      have ck : (nI k).toNatClampNeg = k := nI_clamp (by omega)
      have ci : (nI i).toNatClampNeg = i := nI_clamp (by omega)
      refine s_Ra_hasTermOfBag_2 g1 g2 (fun c => absurd c hgt) (fun _ => vp_in_nI (by omega) (by decide)) (fun _ => by rw [ck]; exact g3 k (by omega)) (fun _ => g4 k (by omega)) (fun _ => vp_in_nI (by omega) (by decide)) (fun _ a => ?_) (fun _ a => ⟨?_, rfl, rfl⟩)
      · rw [ci, hW k (by omega) i hi, wI_m1 h12 hts] at a
        rw [nI_1]
        exact ih (k + 1) (by omega) (by simp [hasK, hf, a])
      · rw [ci, hW k (by omega) i hi, wI_m1 h12 hts] at a
        have := hasK_t d (k + 1) (show hasK row (dAt lv i).2 (k + 1) = true by simp [hasK]; omega)
        rw [show k + 1 + d = row.length by omega] at this
        rw [hfin, this]
        rfl
  exact Cal.of (by decide) (Nat.le_of_ble_eq_true rfl) (s_Ra_hasTermOfBag_0 (key row.length 0 (by omega) rfl))
theorem sum_take (f : Int64 → Nat) {k : Nat} (h : k < row.length) : ((row.take (k + 1)).map f).sum = ((row.take k).map f).sum + f (tg row k) := by
  rw [take_tg h, List.map_append, List.sum_append_nat]
  simp
theorem sum_lt (f : Int64 → Nat) (h8 : row.length ≤ 8) (hf : ∀ t, f t ≤ 5280000) (k : Nat) : ((row.take k).map f).sum < 2 ^ 27 := by
  have := sum_le_c (f := f) (b := 5280000) (l := row.take k) (fun t _ => hf t)
  have h2 : (row.take k).length ≤ 8 := by rw [List.length_take]; omega
  have : (row.take k).length * 5280000 ≤ 8 * 5280000 := Nat.mul_le_mul_right _ h2
  omega
theorem c_Ra_weightOf {i : Nat} (h : rkI F r lv row wc) (hi : i < lv.length) (h12 : lv.length ≤ 12) (hts : (dAt lv i).2.length ≤ 12) (h8 : row.length ≤ 8) : Cal l X M_Ra_weightOf 0 0 [.ref r, .int (nI i)] n F (ev_pure (.int (nI (sumW lv row (dAt lv i).2))) n F) := by
  obtain ⟨wf, bf, ⟨g1, ⟨rf, g2, g3⟩, g4, g5⟩, hW, hB⟩ := h
  have key : ∀ (d k : Nat), k + d = row.length → Ev l X M_Ra_weightOf 0 0 4 [(0, .ref r), (1, .int (nI i)), (2, .int (nI ((row.take k).map (fun t => if 0 < dT (dAt lv i).2 t then wtL lv (dAt lv i).2 t else 0)).sum)), (3, .int (nI k))] [] n F (ev_mq X (ev_pure (.int (nI (sumW lv row (dAt lv i).2))) n F)) := by
    intro d
    induction d with
    | zero =>
      intro k hk
      have e1 : k = row.length := by omega
      subst e1
      have hle : nI row.length ≤ nI row.length := (nI_leI (by omega) (by omega)).mpr (Nat.le_refl _)
      refine s_Ra_weightOf_4 (x19 := 0) (x19_n := 0) (x19_f := fun _ => 0) g1 g2 (fun _ => ⟨by rw [List.take_length]; rfl, rfl, rfl⟩) ?_ ?_ ?_ ?_ ?_
      all_goals exact fun c => absurd hle c
    | succ d ih =>
      intro k hk
      have hgt : ¬ nI row.length ≤ nI k := i_ge (by omega) (by omega) (by omega)
      have ck : (nI k).toNatClampNeg = k := nI_clamp (by omega)
      have ci : (nI i).toNatClampNeg = i := nI_clamp (by omega)
      have hi2 := ih (k + 1) (by omega)
      rw [sum_take _ (show k < row.length by omega)] at hi2
      have hwt := wtL_le (lv := lv) (ts := (dAt lv i).2) (t := tg row k) h12 hts
      refine s_Ra_weightOf_4 g1 g2 (fun c => absurd c hgt) (fun _ => vp_in_nI (by omega) (by decide)) (fun _ => by rw [ck]; exact g3 k (by omega)) (fun _ => g4 k (by omega)) (fun _ => vp_in_nI (by omega) (by decide)) (fun _ => ?_)
      rw [ci, hW k (by omega) i hi, nI_1]
      have e : (if 0 < wI lv (dAt lv i).2 (tg row k) then wI lv (dAt lv i).2 (tg row k) else 0) = nI (if 0 < dT (dAt lv i).2 (tg row k) then wtL lv (dAt lv i).2 (tg row k) else 0) := by
        unfold wI
        by_cases z : dT (dAt lv i).2 (tg row k) = 0
        · have z0 : ¬ 0 < dT (dAt lv i).2 (tg row k) := by omega
          rw [if_pos z, if_neg (by decide), if_neg z0]
          rfl
        · have z0 : 0 < dT (dAt lv i).2 (tg row k) := by omega
          rw [if_neg z, if_pos z0]
          by_cases g : 0 < wtL lv (dAt lv i).2 (tg row k)
          · exact if_pos ((nI_ltI (a := 0) (by decide) (by omega)).mpr g)
          · rw [show wtL lv (dAt lv i).2 (tg row k) = 0 by omega]
            rfl
      rw [e, nI_add]
      exact hi2
  exact Cal.of (by decide) (Nat.le_of_ble_eq_true rfl) (s_Ra_weightOf_0 (key row.length 0 (by omega)))
theorem c_Ra_boundOf {i : Nat} (h : rkI F r lv row wc) (hi : i < lv.length) (h12 : lv.length ≤ 12) (hts : (dAt lv i).2.length ≤ 12) (h8 : row.length ≤ 8) : Cal l X M_Ra_boundOf 0 0 [.ref r, .int (nI i)] n F (ev_pure (.int (nI (sumB lv row (dAt lv i).2))) n F) := by
  obtain ⟨wf, bf, ⟨g1, ⟨rf, g2, g3⟩, g4, g5⟩, hW, hB⟩ := h
  have key : ∀ (d k : Nat), k + d = row.length → Ev l X M_Ra_boundOf 0 0 4 [(0, .ref r), (1, .int (nI i)), (2, .int (nI ((row.take k).map (fun t => if 0 < dT (dAt lv i).2 t then bdL lv t lv.length else 0)).sum)), (3, .int (nI k))] [] n F (ev_mq X (ev_pure (.int (nI (sumB lv row (dAt lv i).2))) n F)) := by
    intro d
    induction d with
    | zero =>
      intro k hk
      have e1 : k = row.length := by omega
      subst e1
      have hle : nI row.length ≤ nI row.length := (nI_leI (by omega) (by omega)).mpr (Nat.le_refl _)
      refine s_Ra_boundOf_4 (x18 := 0) (x18_n := 0) (x18_f := fun _ => 0) g1 g2 g5 (fun _ => ⟨by rw [List.take_length]; rfl, rfl, rfl⟩) ?_ ?_ ?_ ?_ ?_ ?_ ?_
      all_goals exact fun c => absurd hle c
    | succ d ih =>
      intro k hk
      have hgt : ¬ nI row.length ≤ nI k := i_ge (by omega) (by omega) (by omega)
      have ck : (nI k).toNatClampNeg = k := nI_clamp (by omega)
      have ci : (nI i).toNatClampNeg = i := nI_clamp (by omega)
      have hi2 := ih (k + 1) (by omega)
      rw [sum_take _ (show k < row.length by omega)] at hi2
      refine s_Ra_boundOf_4 g1 g2 g5 (fun c => absurd c hgt) (fun _ => vp_in_nI (by omega) (by decide)) (fun _ => by rw [ck]; exact g3 k (by omega)) (fun _ => g4 k (by omega)) (fun _ => vp_in_nI (by omega) (by decide)) (fun _ a => ?_) (fun _ _ => vp_in_nI (by omega) (by decide)) (fun _ a => ?_)
      · rw [ci, hW k (by omega) i hi, wI_m1 h12 hts] at a
        rw [nI_1, show (0 : Int32) = nI 0 from rfl, nI_add]
        rw [if_neg (by omega)] at hi2
        exact hi2
      · rw [ci, hW k (by omega) i hi, wI_m1 h12 hts] at a
        rw [nI_1, ck, hB k (by omega), nI_add]
        rw [if_pos (by omega)] at hi2
        exact hi2
  exact Cal.of (by decide) (Nat.le_of_ble_eq_true rfl) (s_Ra_boundOf_0 (key row.length 0 (by omega)))
end Ra2
