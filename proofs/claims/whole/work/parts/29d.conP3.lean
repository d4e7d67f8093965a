/-! its own methods: the queries -/
section ConP3
variable {l : Launch} {X : ev_X} {n : Nat} {F G : ev_H} {ow ow' : Nat → Nat} {p : Nat} {gs : List Nat} {dr : List Int64} {pd : List Doc} {pm : Nat} {sg : List Seg} {lv : List Doc} {w b : Nat} {st : Bool} {ss : List QStep} {h : Nat} {dp : Nat → Nat} {wc : Nat} {rs : List (Nat × Nat)}
theorem c_P_term_stop {t : Int64} (hI : (psI X F ow p gs dr pd pm sg lv w b true ss h dp wc rs)) : Cal l X M_P_term 3 783 [.ref p, .long t] n F (psQ X n F ow p gs (.int (-9)) dr pd pm sg lv w b true ss h dp wc rs) := by
  obtain ⟨len, lf, vf, s1, -⟩ := id hI.2.1
  refine Cal.of (by decide) (Nat.le_of_ble_eq_true rfl) (s_P_term_0 (v14 := 0) (bc43 := 0) (bs43 := 0) (rc43 := 0) (rs43 := 0) (Q43 := fun _ _ _ => False) hI.1 hI.2.2.2.2.2.1 hI.2.2.2.2.2.2.1.1 s1 (by omega) (by omega) ?_ ?_ ?_ ?_ ?_ (fun _ => ps_same hI))
  all_goals exact fun c => absurd c (by decide)
theorem c_P_term_no {t : Int64} (hI : (psI X F ow p gs dr pd pm sg lv w b false ss h dp wc rs)) (hn : isw t = false ∨ h = 8) : Cal l X M_P_term 3 783 [.ref p, .long t] n F (psQ X n F ow p gs (.int (-1)) dr pd pm sg lv w b false ss h dp wc rs) := by
  obtain ⟨len, lf, vf, s1, -⟩ := id hI.2.1
  have hx : ∀ {A : Prop}, ¬ bI (isw t) = 0 → nI h < 8 → A := fun a b => by
    rcases hn with hn | hn
    · exact absurd (bI_1.mpr hn) a
    · rw [hn] at b
      exact absurd b (by decide)
  exact Cal.of (by decide) (Nat.le_of_ble_eq_true rfl) (s_P_term_0 (v14 := bI (isw t)) (bc43 := 0) (bs43 := 0) (rc43 := 0) (rs43 := 0) (Q43 := fun _ _ _ => False) hI.1 hI.2.2.2.2.2.1 hI.2.2.2.2.2.2.1.1 s1 (by omega) (by omega) (fun _ => c_St_isWord t) (fun _ _ => ps_same hI) (fun _ a b => hx a b) (fun _ a b => hx a b) (fun _ _ _ => ps_same hI) (fun c => absurd rfl c))
theorem c_P_term_ok {t : Int64} (hI : (psI X F ow p gs dr pd pm sg lv w b false ss h dp wc rs)) (hw : isw t = true) (h8 : h < 8) (hlen : ss.length < 520) : Cal l X M_P_term 3 783 [.ref p, .long t] n F (psQ X n F ow p gs (.int (nI (h + 1))) dr pd pm sg lv w b false (ss ++ [(3, [lN (tm t)])]) (h + 1) (va_up dp h 0) wc rs) := by
  obtain ⟨len, lf, vf, s1, -⟩ := id hI.2.1
  have hne : ¬ bI (isw t) = 0 := fun z => by rw [hw] at z; exact absurd z (by decide)
  have hl8 : nI h < 8 := (nI_ltI (b := 8) (by omega) (by decide)).mpr h8
  refine Cal.of (by decide) (Nat.le_of_ble_eq_true rfl) (ev_fresh fun fr0 => s_P_term_0 (v14 := bI (isw t)) (bc43 := 0) (bs43 := 0) (rc43 := 3) (rs43 := 783) hI.1 hI.2.2.2.2.2.1 hI.2.2.2.2.2.2.1.1 s1 (by omega) (by omega) (fun _ => c_St_isWord t) (fun _ z => absurd z hne) (fun _ _ _ => c_St_termW hI.2.1 hw) (fun _ _ _ => ?_) (fun _ _ z => absurd hl8 z) (fun c => absurd rfl c))
  rintro _ nn G ⟨rfl, rfl, hz, ha⟩
  obtain ⟨k1, k2⟩ := ps_st (n := nn) hI hz ha
  refine ev_fresh fun fr1 => s_P_term_46 (bc46 := 3) (bs46 := 783) (rc46 := 0) (rs46 := 0) k1.2.2.2.2.2.2.1.1 (by omega) (by omega) (c_Qs_pushTerm k1.2.2.2.2.2.2.1 h8 hlen) ?_
  rintro _ n2 G2 ⟨rfl, hn2, ow2, u2, hq2, hf2⟩
  obtain ⟨m1, m2⟩ := ps_qs fr1 k1 hn2 u2 hq2 hf2
  exact s_P_term_49 ⟨rfl, ow2, gs, psS_t fr0 k2 m2, m1⟩
theorem c_P_phrase_stop {i : Int32} (hI : (psI X F ow p gs dr pd pm sg lv w b true ss h dp wc rs)) : Cal l X M_P_phrase 3 800 [.ref p, .int i] n F (psQ X n F ow p gs (.int (-9)) dr pd pm sg lv w b true ss h dp wc rs) := by
  refine Cal.of (by decide) (Nat.le_of_ble_eq_true rfl) (s_P_phrase_0 (v34 := 0) (bc47 := 0) (bs47 := 0) (rc47 := 0) (rs47 := 0) (Q47 := fun _ _ _ => False) hI.1 hI.2.2.2.2.2.1 hI.2.2.2.2.2.2.1.1 (by omega) (by omega) ?_ ?_ ?_ ?_ ?_ ?_ (fun _ => ps_same hI))
  all_goals exact fun c => absurd c (by decide)
theorem c_P_phrase_ref {i : Int32} (hI : (psI X F ow p gs dr pd pm sg lv w b false ss h dp wc rs)) (hn : i < 2 ∨ nI h < i) : Cal l X M_P_phrase 3 800 [.ref p, .int i] n F (psQ X n F ow p gs (.int (-1)) dr pd pm sg lv w b false ss h dp wc rs) := by
  have hx : ∀ {A : Prop}, ¬ i < 2 → ¬ nI h < i → A := fun a c => hn.elim (fun z => absurd z a) (fun z => absurd z c)
  exact Cal.of (by decide) (Nat.le_of_ble_eq_true rfl) (s_P_phrase_0 (v34 := 0) (bc47 := 0) (bs47 := 0) (rc47 := 0) (rs47 := 0) (Q47 := fun _ _ _ => False) hI.1 hI.2.2.2.2.2.1 hI.2.2.2.2.2.2.1.1 (by omega) (by omega) (fun _ _ => ps_same hI) (fun _ _ _ => ps_same hI) (fun _ a c => hx a c) (fun _ a c => hx a c) (fun _ a c => hx a c) (fun _ _ _ _ => ps_same hI) (fun a => absurd rfl a))
theorem c_P_phrase_no {k : Nat} (hI : (psI X F ow p gs dr pd pm sg lv w b false ss h dp wc rs)) (h2 : 2 ≤ k) (hk : k ≤ h) (hm : ¬ mxd dp (h - k) h = 0) : Cal l X M_P_phrase 3 800 [.ref p, .int (nI k)] n F (psQ X n F ow p gs (.int (-1)) dr pd pm sg lv w b false ss h dp wc rs) := by
  have h8 : h ≤ 8 := hI.2.2.2.2.2.2.1.2.2.2.1
  have e : bI (decide (mxd dp (h - k) h = 0)) = 0 := by rw [decide_eq_false hm]; rfl
  exact Cal.of (by decide) (Nat.le_of_ble_eq_true rfl) (s_P_phrase_0 (bc47 := 0) (bs47 := 0) (rc47 := 0) (rs47 := 0) (Q47 := fun _ _ _ => False) hI.1 hI.2.2.2.2.2.1 hI.2.2.2.2.2.2.1.1 (by omega) (by omega) (fun _ _ => ps_same hI) (fun _ _ _ => ps_same hI) (fun _ _ _ => c_Qs_areTerms hI.2.2.2.2.2.2.1 hk) (fun _ _ _ a => absurd e a) (fun _ _ _ a => absurd e a) (fun _ _ _ _ => ps_same hI) (fun a => absurd rfl a))
theorem c_P_phrase_ok {k : Nat} {s0 : List QStep} {row : List Int64} (hI : (psI X F ow p gs dr pd pm sg lv w b false (s0 ++ row.map (fun t => ((3, [t]) : QStep))) h dp wc rs)) (hr : row.length = k) (h2 : 2 ≤ k) (hk : k ≤ h) (hm : mxd dp (h - k) h = 0) (hlen : (s0 ++ row.map (fun t => ((3, [t]) : QStep))).length < 520) : Cal l X M_P_phrase 3 800 [.ref p, .int (nI k)] n F (psQ X n F ow p gs (.int (nI (h - k + 1))) dr pd pm sg lv w b false (s0 ++ [(3, row)]) (h - k + 1) (va_up dp (h - k) 1) wc rs) := by
  have h8 : h ≤ 8 := hI.2.2.2.2.2.2.1.2.2.2.1
  have e : ¬ bI (decide (mxd dp (h - k) h = 0)) = 0 := by rw [decide_eq_true hm]; decide
  have a1 : ¬ nI k < 2 := fun z => by
    have := (nI_ltI (b := 2) (by omega) (by decide)).mp z
    omega
  have a2 : ¬ nI h < nI k := fun z => by
    have := (nI_ltI (by omega) (by omega)).mp z
    omega
  refine Cal.of (by decide) (Nat.le_of_ble_eq_true rfl) (ev_fresh fun fr0 => s_P_phrase_0 (bc47 := 3) (bs47 := 800) (rc47 := 0) (rs47 := 0) hI.1 hI.2.2.2.2.2.1 hI.2.2.2.2.2.2.1.1 (by omega) (by omega) (fun _ a => absurd a a1) (fun _ _ a => absurd a a2) (fun _ _ _ => c_Qs_areTerms hI.2.2.2.2.2.2.1 hk) (fun _ _ _ _ => c_Qs_makePhrase hI.2.2.2.2.2.2.1 hr (by omega) hk hlen) (fun _ _ _ _ => ?_) (fun _ _ _ a => absurd a e) (fun a => absurd rfl a))
  rintro _ n2 G2 ⟨rfl, hn2, ow2, u2, hq2, hf2⟩
  obtain ⟨m1, m2⟩ := ps_qs fr0 hI hn2 u2 hq2 hf2
  exact s_P_phrase_50 ⟨rfl, ow2, gs, m2, m1⟩
theorem c_P_join_stop {i : Int32} (hI : (psI X F ow p gs dr pd pm sg lv w b true ss h dp wc rs)) : Cal l X M_P_join 3 783 [.ref p, .int i] n F (psQ X n F ow p gs (.int (-9)) dr pd pm sg lv w b true ss h dp wc rs) := by
  refine Cal.of (by decide) (Nat.le_of_ble_eq_true rfl) (s_P_join_0 hI.1 hI.2.2.2.2.2.1 ?_ ?_ ?_ ?_ (fun _ => ps_same hI))
  all_goals exact fun c => absurd c (by decide)
theorem c_P_join_how {i : Int32} (hI : (psI X F ow p gs dr pd pm sg lv w b false ss h dp wc rs)) (hn : i < 0 ∨ 2 < i) : Cal l X M_P_join 3 783 [.ref p, .int i] n F (psQ X n F ow p gs (.int (-1)) dr pd pm sg lv w b false ss h dp wc rs) := by
  have hx : ∀ {A : Prop}, ¬ i < 0 → i ≤ 2 → A := fun a c => hn.elim (fun z => absurd z a) (fun z => absurd c (Int32.not_le.mpr z))
  exact Cal.of (by decide) (Nat.le_of_ble_eq_true rfl) (s_P_join_0 hI.1 hI.2.2.2.2.2.1 (fun _ _ => ps_same hI) (fun _ a c _ => hx a c) (fun _ a c _ => hx a c) (fun _ _ _ => ps_same hI) (fun a => absurd rfl a))
/-- the road behind the kind -/
theorem e_P_join {k : Nat} {Q : Option Value → Nat → ev_H → Prop} (hI : (psI X F ow p gs dr pd pm sg lv w b false ss h dp wc rs)) (hk : k ≤ 2) (go : Ev l X M_P_join 3 783 34 [(0, .ref p), (1, .int (nI k))] [.int (nI (need k))] n F (ev_mq X Q)) : Ev l X M_P_join 3 783 0 [(0, .ref p), (1, .int (nI k))] [] n F (ev_mq X Q) := by
  have a2 : nI k ≤ 2 := (nI_leI (b := 2) (by omega) (by decide)).mpr hk
  refine s_P_join_0 hI.1 hI.2.2.2.2.2.1 (fun _ a => absurd a (nI_pos (by omega))) (fun _ _ _ a => ?_) (fun _ _ _ a => ?_) (fun _ _ a => absurd a2 a) (fun a => absurd rfl a)
  · have : ¬ k = 2 := fun z => a (by rw [z]; rfl)
    unfold need at go
    rw [if_neg this] at go
    exact go
  · have : k = 2 := (nI_eq (b := 2) (by omega) (by decide)).mp a
    unfold need at go
    rw [if_pos this] at go
    exact go
theorem need_b (k : Nat) : 1 ≤ need k ∧ need k ≤ 2 := by
  unfold need
  split <;> omega
theorem c_P_join_few {k : Nat} (hI : (psI X F ow p gs dr pd pm sg lv w b false ss h dp wc rs)) (hk : k ≤ 2) (hn : h < need k) : Cal l X M_P_join 3 783 [.ref p, .int (nI k)] n F (psQ X n F ow p gs (.int (-1)) dr pd pm sg lv w b false ss h dp wc rs) := by
  have h8 : h ≤ 8 := hI.2.2.2.2.2.2.1.2.2.2.1
  have nb := need_b k
  have a : nI h < nI (need k) := (nI_ltI (by omega) (by omega)).mpr hn
  exact Cal.of (by decide) (Nat.le_of_ble_eq_true rfl) (e_P_join hI hk (s_P_join_34 (v51 := 0) (bc67 := 0) (bs67 := 0) (rc67 := 0) (rs67 := 0) (Q67 := fun _ _ _ => False) hI.1 hI.2.2.2.2.2.2.1.1 (by omega) (by omega) (fun _ => s_P_join_59 (ps_same hI)) (fun z => absurd a z) (fun z => absurd a z) (fun z => absurd a z) (fun z => absurd a z)))
theorem c_P_join_deep {k : Nat} (hI : (psI X F ow p gs dr pd pm sg lv w b false ss h dp wc rs)) (hk : k ≤ 2) (hn : need k ≤ h) (hm : ¬ mxd dp (h - need k) h < 6) : Cal l X M_P_join 3 783 [.ref p, .int (nI k)] n F (psQ X n F ow p gs (.int (-1)) dr pd pm sg lv w b false ss h dp wc rs) := by
  have h8 : h ≤ 8 := hI.2.2.2.2.2.2.1.2.2.2.1
  have nb := need_b k
  have a : ¬ nI h < nI (need k) := fun z => by
    have := (nI_ltI (by omega) (by omega)).mp z
    omega
  have hb : mxd dp (h - need k) h ≤ 6 := by
    obtain ⟨-, -, ⟨f, -, h3⟩, -⟩ := id hI.2.2.2.2.2.2.1
    exact mxd_le (fun i hi => (h3 i hi).2)
  have c : ¬ nI (mxd dp (h - need k) h) < 6 := fun z => hm ((nI_ltI (b := 6) (by omega) (by decide)).mp z)
  exact Cal.of (by decide) (Nat.le_of_ble_eq_true rfl) (e_P_join hI hk (s_P_join_34 (bc67 := 0) (bs67 := 0) (rc67 := 0) (rs67 := 0) (Q67 := fun _ _ _ => False) hI.1 hI.2.2.2.2.2.2.1.1 (by omega) (by omega) (fun z => absurd z a) (fun _ => c_Qs_deepest hI.2.2.2.2.2.2.1 hn) (fun _ z => absurd z c) (fun _ z => absurd z c) (fun _ _ => s_P_join_59 (ps_same hI))))
theorem c_P_join_ok {k : Nat} (hI : (psI X F ow p gs dr pd pm sg lv w b false ss h dp wc rs)) (hk : k ≤ 2) (hn : need k ≤ h) (hm : mxd dp (h - need k) h < 6) (hlen : ss.length < 520) : Cal l X M_P_join 3 783 [.ref p, .int (nI k)] n F (psQ X n F ow p gs (.int (nI (h - need k + 1))) dr pd pm sg lv w b false (ss ++ [(k, [])]) (h - need k + 1) (va_up dp (h - need k) (mxd dp (h - need k) h + 1)) wc rs) := by
  have h8 : h ≤ 8 := hI.2.2.2.2.2.2.1.2.2.2.1
  have nb := need_b k
  have a : ¬ nI h < nI (need k) := fun z => by
    have := (nI_ltI (by omega) (by omega)).mp z
    omega
  have c : nI (mxd dp (h - need k) h) < 6 := (nI_ltI (b := 6) (by omega) (by decide)).mpr hm
  refine Cal.of (by decide) (Nat.le_of_ble_eq_true rfl) (ev_fresh fun fr0 => e_P_join hI hk (s_P_join_34 (bc67 := 3) (bs67 := 783) (rc67 := 0) (rs67 := 0) hI.1 hI.2.2.2.2.2.2.1.1 (by omega) (by omega) (fun z => absurd z a) (fun _ => c_Qs_deepest hI.2.2.2.2.2.2.1 hn) (fun _ _ => c_Qs_makeJoin hI.2.2.2.2.2.2.1 (by omega) nb.1 hn hm hlen) (fun _ _ => ?_) (fun _ z => absurd c z)))
  rintro _ n2 G2 ⟨rfl, hn2, ow2, u2, hq2, hf2⟩
  obtain ⟨m1, m2⟩ := ps_qs fr0 hI hn2 u2 hq2 hf2
  exact s_P_join_70 ⟨rfl, ow2, gs, m2, m1⟩
/-- the documents that the query matches -/
def mtc (ss : List QStep) (d : Doc) : Bool := decide (ansK ss d.2 ss.length % 2 = 1)
def fnd (ss : List QStep) (ds : List Doc) : List (Nat × Nat) := (ds.filter (mtc ss)).map (fun d => (d.1, 0))
theorem c_P_collect (hI : (psI X F ow p gs dr pd pm sg lv w b st ss h dp wc ([]))) (ha : ∀ ts k, k ≤ ss.length → ansK ss ts k < 512) : Cal l X M_P_collectMatches 0 0 [.ref p] n F (fun v n' F' => v = none ∧ n' = n ∧ (psI X F' ow p gs dr pd pm sg lv w b st ss h dp wc (fnd ss lv)) ∧ psS p n F ow gs n F' ow gs) := by
  refine Cal.of (by decide) (Nat.le_of_ble_eq_true rfl) (ev_fresh fun fr0 => ?_)
  have h12 := hI.2.2.2.2.1.2.2.2.2.2
  have key : ∀ (d k : Nat), k + d = lv.length → ∀ G, (psI X G ow p gs dr pd pm sg lv w b st ss h dp wc (fnd ss (lv.take k))) → psS p n F ow gs n G ow gs → Ev l X M_P_collectMatches 0 0 2 [(0, .ref p), (1, .int (nI k))] [] n G (ev_mq X (fun v n' F' => v = none ∧ n' = n ∧ (psI X F' ow p gs dr pd pm sg lv w b st ss h dp wc (fnd ss lv)) ∧ psS p n F ow gs n F' ow gs)) := by
    intro d
    induction d with
    | zero =>
      intro k hk G hG hS
      have e1 : k = lv.length := by omega
      subst e1
      rw [List.take_length] at hG
      obtain ⟨r2, mc2, q2⟩ := dl_cell hG.2.2.2.2.1.2.2.1
      obtain ⟨fi, fw, r1, -⟩ := id hG.2.2.2.2.2.2.2.2.1
      have hle : nI lv.length ≤ nI lv.length := (nI_leI (by omega) (by omega)).mpr (Nat.le_refl _)
      refine s_P_collectMatches_2 (v24 := 0) (iv24_id := 0) (v24_terms := 0) (v36 := 0) (bc53 := 0) (bs53 := 0) (rc53 := 0) (rs53 := 0) (Q53 := fun _ _ _ => False) hG.1 hG.2.2.2.2.1.1 q2 hG.2.2.2.2.2.2.1.1 r1 (by omega) (by omega) (dl_size hG.2.2.2.2.1.2.2.1) (fun _ => ⟨rfl, rfl, hG, hS⟩) ?_ ?_ ?_ ?_ ?_ ?_
      all_goals exact fun c => absurd hle c
    | succ d ih =>
      intro k hk G hG hS
      have hkl : k < lv.length := by omega
      obtain ⟨r2, mc2, q2⟩ := dl_cell hG.2.2.2.2.1.2.2.1
      have hR := hG.2.2.2.2.2.2.2.2.1
      obtain ⟨fi, fw, r1, -⟩ := id hR
      have hgt : ¬ nI lv.length ≤ nI k := i_ge (by omega) (by omega) (by omega)
      obtain ⟨v, k1, k2⟩ := dl_get (l := l) (n := n) hG.2.2.2.2.1.2.2.1 hkl
      have k3 := k2
      obtain ⟨tt, f, d1, d2, d3, d4, d5, d6, d7⟩ := k2
      have hih := ih (k + 1) (by omega)
      have hfl : (fnd ss (lv.take k)).length ≤ k := by
        unfold fnd
        rw [List.length_map]
        have := List.length_filter_le (mtc ss) (lv.take k)
        rw [List.length_take] at this
        omega
      have efn : fnd ss (lv.take (k + 1)) = fnd ss (lv.take k) ++ (if mtc ss (dAt lv k) then [((dAt lv k).1, 0)] else []) := by
        rw [take_dAt hkl]
        unfold fnd
        rw [List.filter_append, List.map_append]
        congr 1
        by_cases z : mtc ss (dAt lv k) = true
        · simp [z]
        · simp [z]
      rw [efn] at hih
      refine s_P_collectMatches_2 (v36 := bI (mtc ss (dAt lv k))) (bc53 := 0) (bs53 := 0) (rc53 := 0) (rs53 := 0) hG.1 hG.2.2.2.2.1.1 q2 hG.2.2.2.2.2.2.1.1 r1 (by omega) (by omega) (dl_size hG.2.2.2.2.1.2.2.1) (fun z => absurd z hgt) (fun _ => k1) (fun _ => d1) (fun _ => c_Qs_matches hG.2.2.2.2.2.2.1 k3 (fun j hj => ha _ j hj)) (fun _ a => ?_) (fun _ _ => c_Re_insert (w := 0) (mx := 12) hR (by decide) (by decide) (by decide) (by omega)) (fun _ a => ?_)
      · rw [nI_1]
        have e : ¬ mtc ss (dAt lv k) = true := by rw [bI_1.mp a]; decide
        rw [if_neg e, List.append_nil] at hih
        exact hih G hG hS
      · rintro _ nn G2 ⟨rfl, rfl, hR2, hA2⟩
        rw [rIns_0 (by omega)] at hR2
        have e : mtc ss (dAt lv k) = true := bI_n0 a
        rw [if_pos e] at hih
        refine ev_fresh fun fr2 => s_P_collectMatches_56 ?_
        rw [nI_1]
        obtain ⟨m1, m2⟩ := ps_re (n := nn) hG hR2 hA2
        exact hih G2 m1 (psS_t fr0 hS m2)
  refine s_P_collectMatches_0 (key lv.length 0 (by omega) F ?_ psS_r)
  rw [List.take_zero]
  exact hI
theorem c_P_find_stop (hI : (psI X F ow p gs dr pd pm sg lv w b true ss h dp wc rs)) : Cal l X M_P_find 0 0 [.ref p] n F (psQ X n F ow p gs (.int (-9)) dr pd pm sg lv w b true ss h dp wc rs) := by
  obtain ⟨fi, fw, r1, -⟩ := id hI.2.2.2.2.2.2.2.2.1
  refine Cal.of (by decide) (Nat.le_of_ble_eq_true rfl) (s_P_find_0 (bc17 := 0) (bs17 := 0) (rc17 := 0) (rs17 := 0) (Q17 := fun _ _ _ => False) hI.1 hI.2.2.2.2.2.1 r1 (by omega) (by omega) ?_ ?_ (fun _ => ps_same hI))
  all_goals exact fun c => absurd c (by decide)
theorem c_P_find (hI : (psI X F ow p gs dr pd pm sg lv w b false ss h dp wc rs)) (ha : h = 1 → ∀ ts k, k ≤ ss.length → ansK ss ts k < 512) : Cal l X M_P_find 0 0 [.ref p] n F (psQ X n F ow p gs (.int (if h = 1 then nI (fnd ss lv).length else -3)) dr pd pm sg lv w b false ([]) 0 dp wc (if h = 1 then fnd ss lv else [])) := by
  refine Cal.of (by decide) (Nat.le_of_ble_eq_true rfl) (ev_fresh fun fr0 => ?_)
  obtain ⟨fi, fw, r1, -⟩ := id hI.2.2.2.2.2.2.2.2.1
  have h8 : h ≤ 8 := hI.2.2.2.2.2.2.1.2.2.2.1
  generalize hR : (if h = 1 then fnd ss lv else []) = rs2
  generalize hV : (if h = 1 then nI (fnd ss lv).length else (-3 : Int32)) = vv
  -- the end
  have fin : ∀ (G : ev_H) (i1 : Int32), (i1 = 0 ↔ ¬ h = 1) → psS p n F ow gs n G ow gs → (psI X G ow p gs dr pd pm sg lv w b false ss h dp wc rs2) → Ev l X M_P_find 0 0 45 [(0, .ref p), (1, .int i1)] [] n G (ev_mq X (psQ X n F ow p gs (.int vv) dr pd pm sg lv w b false ([]) 0 dp wc rs2)) := by
    intro G i1 hi hS hG
    refine ev_fresh fun fr1 => s_P_find_45 (bc49 := 0) (bs49 := 0) (rc49 := 0) (rs49 := 0) hG.1 hG.2.2.2.2.2.2.1.1 (by omega) (by omega) (c_Qs_clear hG.2.2.2.2.2.2.1) ?_
    rintro _ n2 G2 ⟨rfl, hn2, ow2, u2, hq2, hf2⟩
    obtain ⟨m1, m2⟩ := ps_qs fr1 hG hn2 u2 hq2 hf2
    obtain ⟨fi', fw', r1', -⟩ := id m1.2.2.2.2.2.2.2.2.1
    refine s_P_find_52 m1.1 r1' (fun a => ?_) (fun a => ?_)
    · exact ⟨by rw [← hV, if_neg (hi.mp a)], ow2, gs, psS_t fr0 hS m2, m1⟩
    · have e : h = 1 := Classical.byContradiction fun z => a (hi.mpr z)
      refine ⟨?_, ow2, gs, psS_t fr0 hS m2, m1⟩
      rw [← hV, ← hR, if_pos e, if_pos e]
  refine s_P_find_0 (bc17 := 0) (bs17 := 0) (rc17 := 0) (rs17 := 0) hI.1 hI.2.2.2.2.2.1 r1 (by omega) (by omega) (fun _ => c_Re_clear hI.2.2.2.2.2.2.2.2.1) (fun _ => ?_) (fun a => absurd rfl a)
  rintro _ nn G ⟨rfl, rfl, hR1, hA1⟩
  obtain ⟨k1, k2⟩ := ps_re (n := nn) hI hR1 hA1
  refine ev_fresh fun fr1 => s_P_find_20 k1.1 k1.2.2.2.2.2.2.1.1 (fun a => ?_) (fun a => ?_)
  · have e : ¬ h = 1 := fun z => a (by rw [z]; rfl)
    rw [if_neg e] at hR
    subst hR
    exact s_P_find_36 (bc42 := 0) (bs42 := 0) (rc42 := 0) (rs42 := 0) (Q42 := fun _ _ _ => False) k1.1 (by omega) (by omega) (fun _ => fin G 0 ⟨fun _ => e, fun _ => rfl⟩ k2 k1) (fun z => absurd rfl z) (fun z => absurd rfl z)
  · have e : h = 1 := (nI_eq (b := 1) (by omega) (by decide)).mp a
    rw [if_pos e] at hR
    subst hR
    refine s_P_find_36 (bc42 := 0) (bs42 := 0) (rc42 := 0) (rs42 := 0) k1.1 (by omega) (by omega) (fun z => absurd z (by decide)) (fun _ => c_P_collect k1 (ha e)) (fun _ => ?_)
    rintro _ nn G2 ⟨rfl, rfl, m1, m2⟩
    exact fin G2 1 ⟨fun z => absurd z (by decide), fun z => absurd e z⟩ (psS_t fr0 k2 m2) m1
theorem c_P_rank_stop {i : Int32} (hI : (psI X F ow p gs dr pd pm sg lv w b true ss h dp wc rs)) : Cal l X M_P_rank 0 0 [.ref p, .int i] n F (psQ X n F ow p gs (.int (-9)) dr pd pm sg lv w b true ss h dp wc rs) := by
  obtain ⟨fi, fw, r1, -⟩ := id hI.2.2.2.2.2.2.2.2.1
  refine Cal.of (by decide) (Nat.le_of_ble_eq_true rfl) (s_P_rank_0 (bc29 := 0) (bs29 := 0) (rc29 := 0) (rs29 := 0) (Q29 := fun _ _ _ => False) hI.1 hI.2.2.2.2.2.1 r1 (by omega) (by omega) ?_ ?_ ?_ ?_ (fun _ => ps_same hI))
  all_goals exact fun c => absurd c (by decide)
theorem c_P_rank_no {i : Int32} (hI : (psI X F ow p gs dr pd pm sg lv w b false ss h dp wc rs)) (hn : i < 1 ∨ 5 < i) : Cal l X M_P_rank 0 0 [.ref p, .int i] n F (psQ X n F ow p gs (.int (-1)) dr pd pm sg lv w b false ss h dp wc rs) := by
  obtain ⟨fi, fw, r1, -⟩ := id hI.2.2.2.2.2.2.2.2.1
  have hx : ∀ {A : Prop}, ¬ i < 1 → i ≤ 5 → A := fun a c => hn.elim (fun z => absurd z a) (fun z => absurd c (Int32.not_le.mpr z))
  exact Cal.of (by decide) (Nat.le_of_ble_eq_true rfl) (s_P_rank_0 (bc29 := 0) (bs29 := 0) (rc29 := 0) (rs29 := 0) (Q29 := fun _ _ _ => False) hI.1 hI.2.2.2.2.2.1 r1 (by omega) (by omega) (fun _ _ => ps_same hI) (fun _ a c => hx a c) (fun _ a c => hx a c) (fun _ _ _ => ps_same hI) (fun a => absurd rfl a))
/-- results and ranking are cleared, up to the question whether the stack is a bag -/
theorem e_P_rank {K : Nat} {Q : Option Value → Nat → ev_H → Prop} (fr0 : ∀ q : Nat, n ≤ q → F q = none) (hI : (psI X F ow p gs dr pd pm sg lv w b false ss h dp wc rs)) (h1 : 1 ≤ K) (h5 : K ≤ 5) (go : ∀ G, (∀ q : Nat, n ≤ q → G q = none) → (psI X G ow p gs dr pd pm sg lv w b false ss h dp 0 ([])) → psS p n F ow gs n G ow gs → Ev l X M_P_rank 0 0 39 [(0, .ref p), (1, .int (nI K))] [] n G (ev_mq X Q)) : Ev l X M_P_rank 0 0 0 [(0, .ref p), (1, .int (nI K))] [] n F (ev_mq X Q) := by
  obtain ⟨fi, fw, r1, -⟩ := id hI.2.2.2.2.2.2.2.2.1
  have a1 : ¬ nI K < 1 := fun z => by
    have := (nI_ltI (b := 1) (by omega) (by decide)).mp z
    omega
  have a5 : nI K ≤ 5 := (nI_leI (b := 5) (by omega) (by decide)).mpr h5
  refine s_P_rank_0 (bc29 := 0) (bs29 := 0) (rc29 := 0) (rs29 := 0) hI.1 hI.2.2.2.2.2.1 r1 (by omega) (by omega) (fun _ a => absurd a a1) (fun _ _ _ => c_Re_clear hI.2.2.2.2.2.2.2.2.1) (fun _ _ _ => ?_) (fun _ _ a => absurd a5 a) (fun a => absurd rfl a)
  rintro _ nn G ⟨rfl, rfl, hR1, hA1⟩
  obtain ⟨k1, k2⟩ := ps_re (n := nn) hI hR1 hA1
  obtain ⟨wf, bf, tc, hra⟩ := id k1.2.2.2.2.2.2.2.1
  have hw := k1.2.2.2.2.2.2.2.2.2.1
  refine ev_fresh fun fr1 => s_P_rank_32 (bc36 := 0) (bs36 := 0) (rc36 := 0) (rs36 := 0) k1.1 hra.1 (by omega) (by omega) (c_Ra_clear hra (hw 14 (by omega))) ?_
  rintro _ nn G2 ⟨rfl, rfl, hra2, hk2⟩
  have hp := k1.2.2.2.2.2.2.2.2.2.2.2.1
  have hk3 : kp ow (iv p 14 25) G G2 := kp_w hk2 (fun x hx => ⟨hx.1, by omega⟩)
  obtain ⟨m1, m2⟩ := ps_ra (n := nn) k1 ⟨wf, bf, tc, hra2⟩ (re_kp k1.2.2.2.2.2.2.2.2.1 hk3 (fun i hi => ⟨by have := hw (25 + i) (by omega); rw [← Nat.add_assoc] at this; exact this, by omega, by omega⟩)) (kp_w hk2 (fun x hx => ⟨hx.1, by omega⟩))
  exact ev_fresh fun fr2 => go G2 fr2 m1 (psS_t fr0 k2 m2)
/-- the end of rank: the stack is cleared -/
theorem e_P_rank2 {K : Nat} {i2 vv : Int32} (fr0 : ∀ q : Nat, n ≤ q → F q = none) (fr1 : ∀ q : Nat, n ≤ q → G q = none) (hS : psS p n F ow gs n G ow gs) (hG : (psI X G ow p gs dr pd pm sg lv w b st ss h dp wc rs)) (hv : vv = if i2 = 0 then -3 else nI rs.length) : Ev l X M_P_rank 0 0 113 [(0, .ref p), (1, .int (nI K)), (2, .int i2)] [] n G (ev_mq X (psQ X n F ow p gs (.int vv) dr pd pm sg lv w b st ([]) 0 dp wc rs)) := by
  refine s_P_rank_113 (bc117 := 0) (bs117 := 0) (rc117 := 0) (rs117 := 0) hG.1 hG.2.2.2.2.2.2.1.1 (by omega) (by omega) (c_Qs_clear hG.2.2.2.2.2.2.1) ?_
  rintro _ n2 G2 ⟨rfl, hn2, ow2, u2, hq2, hf2⟩
  obtain ⟨m1, m2⟩ := ps_qs fr1 hG hn2 u2 hq2 hf2
  obtain ⟨fi', fw', r1', -⟩ := id m1.2.2.2.2.2.2.2.2.1
  refine s_P_rank_120 m1.1 r1' (fun a => ?_) (fun a => ?_)
  · rw [if_pos a] at hv
    exact ⟨by rw [hv], ow2, gs, psS_t fr0 hS m2, m1⟩
  · rw [if_neg a] at hv
    exact ⟨by rw [hv], ow2, gs, psS_t fr0 hS m2, m1⟩
theorem c_P_rank_bad {K : Nat} (hI : (psI X F ow p gs dr pd pm sg lv w b false ss h dp wc rs)) (h1 : 1 ≤ K) (h5 : K ≤ 5) (hn : h = 0 ∨ ¬ mxd dp 0 h = 0) : Cal l X M_P_rank 0 0 [.ref p, .int (nI K)] n F (psQ X n F ow p gs (.int (-3)) dr pd pm sg lv w b false ([]) 0 dp 0 ([])) := by
  refine Cal.of (by decide) (Nat.le_of_ble_eq_true rfl) (ev_fresh fun fr0 => e_P_rank fr0 hI h1 h5 (fun G fr1 hG hS => ?_))
  have h8 : h ≤ 8 := hG.2.2.2.2.2.2.1.2.2.2.1
  obtain ⟨wf, bf, tc, hra⟩ := id hG.2.2.2.2.2.2.2.1
  have bad : Ev l X M_P_rank 0 0 70 [(0, .ref p), (1, .int (nI K))] [] n G (ev_mq X (psQ X n F ow p gs (.int (-3)) dr pd pm sg lv w b false ([]) 0 dp 0 ([]))) := s_P_rank_70 (s_P_rank_71 (bc91 := 0) (bs91 := 0) (rc91 := 0) (rs91 := 0) (Q91 := fun _ _ _ => False) hG.1 hG.2.2.2.2.1.1 hra.1 (by omega) (by omega) (fun _ => e_P_rank2 fr0 fr1 hS hG rfl) (fun z => absurd rfl z) (fun z => absurd rfl z))
  refine s_P_rank_39 (v60 := bI (decide (mxd dp (h - h) h = 0))) hG.1 hG.2.2.2.2.2.2.1.1 (fun _ => bad) (fun _ => c_Qs_areTerms hG.2.2.2.2.2.2.1 (Nat.le_refl _)) (fun _ _ => bad) (fun a c => ?_)
  exfalso
  have c1 : mxd dp (h - h) h = 0 := by simpa using bI_n0 c
  rw [Nat.sub_self] at c1
  rcases hn with hn | hn
  · exact a (by rw [hn]; decide)
  · exact hn c1
theorem c_P_rank_ok {K : Nat} {row : List Int64} (hI : (psI X F ow p gs dr pd pm sg lv w b false (row.map (fun t => ((3, [t]) : QStep))) row.length dp wc rs)) (h1 : 1 ≤ K) (h5 : K ≤ 5) (h0 : 0 < row.length) (hm : mxd dp 0 row.length = 0) (hlv : ∀ x ∈ lv, x.1 < 12 ∧ x.2.length ≤ 12) (hasc : asc lv) : Cal l X M_P_rank 0 0 [.ref p, .int (nI K)] n F (psQ X n F ow p gs (.int (nI (rkR lv row K).length)) dr pd pm sg lv w b false ([]) 0 dp ((wlF K (candO lv row lv)).length) (rkR lv row K)) := by
  refine Cal.of (by decide) (Nat.le_of_ble_eq_true rfl) (ev_fresh fun fr0 => e_P_rank fr0 hI h1 h5 (fun G fr1 hG hS => ?_))
  have h8 : row.length ≤ 8 := hG.2.2.2.2.2.2.1.2.2.2.1
  have h12 := hG.2.2.2.2.1.2.2.2.2.2
  obtain ⟨wf, bf, tc, hra⟩ := id hG.2.2.2.2.2.2.2.1
  have hw := hG.2.2.2.2.2.2.2.2.2.1
  have hp := hG.2.2.2.2.2.2.2.2.2.2.2.1
  have hwr : ∀ i, i < 11 → ow (p + 14 + i) = 1 := fun i hi => by have := hw (14 + i) (by omega); rw [← Nat.add_assoc] at this; exact this
  have hws : ∀ i, i < 3 → ow (p + 25 + i) = 1 := fun i hi => by have := hw (25 + i) (by omega); rw [← Nat.add_assoc] at this; exact this
  have n0 : ¬ nI row.length ≤ 0 := fun z => by
    have := (nI_leI (b := 0) (by omega) (by decide)).mp z
    omega
  have e1 : ¬ bI (decide (mxd dp (row.length - row.length) row.length = 0)) = 0 := by
    rw [Nat.sub_self, decide_eq_true hm]
    decide
  refine s_P_rank_39 (v60 := bI (decide (mxd dp (row.length - row.length) row.length = 0))) hG.1 hG.2.2.2.2.2.2.1.1 (fun z => absurd z n0) (fun _ => c_Qs_areTerms hG.2.2.2.2.2.2.1 (Nat.le_refl _)) (fun _ z => absurd z e1) (fun _ _ => ?_)
  refine s_P_rank_71 (bc91 := 0) (bs91 := 0) (rc91 := 0) (rs91 := 0) hG.1 hG.2.2.2.2.1.1 hra.1 (by omega) (by omega) (fun z => absurd z (by decide)) (fun _ => c_Ra_weighBag hra hG.2.2.2.2.2.2.1 hG.2.2.2.2.1.2.2.1 h12 hG.2.2.2.2.1.2.2.2.1.2.2.1 ⟨by omega, by omega⟩ ⟨⟨by omega, by omega⟩, ⟨by omega, by omega⟩, ⟨by omega, by omega⟩⟩ hwr) (fun _ => ?_)
  rintro _ nn G2 ⟨rfl, rfl, hrk, hk2⟩
  obtain ⟨wf2, bf2, hra2, -⟩ := id hrk
  have hre2 : reI G2 (p + 25) [] := re_kp hG.2.2.2.2.2.2.2.2.1 hk2 (fun i hi => ⟨hws i hi, by omega, by omega⟩)
  obtain ⟨m1, m2⟩ := ps_ra (n := nn) hG ⟨wf2, bf2, _, hra2⟩ hre2 (kp_w hk2 (fun x hx => ⟨hx.1, by omega⟩))
  refine s_P_rank_94 (bc110 := 0) (bs110 := 0) (rc110 := 0) (rs110 := 0) m1.1 m1.2.2.2.2.1.1 hra2.1 (by omega) (by omega) (c_Ra_chooseBest hrk hre2 m1.2.2.2.2.1.2.2.1 h12 hlv hasc h8 h1 (by omega) hG.2.2.2.2.1.2.2.2.1.2.2.1 ⟨by omega, by omega, by omega⟩ hwr hws (by omega) (by omega)) ?_
  rintro _ nn G3 ⟨rfl, rfl, hrk3, hre3, hk3⟩
  obtain ⟨wf3, bf3, hra3, -⟩ := id hrk3
  obtain ⟨v1, v2⟩ := ps_ra (n := nn) m1 ⟨wf3, bf3, _, hra3⟩ hre3 (kp_w hk3 (fun x hx => ⟨hx.1, by omega, by omega⟩))
  exact ev_fresh fun fr3 => e_P_rank2 fr0 fr3 (psS_t fr0 (psS_t fr0 hS m2) v2) v1 rfl
end ConP3
