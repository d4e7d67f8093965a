/-! its own methods: stem, feed, add, delete, fuse, restart, and what only reads -/
section ConP
variable {l : Launch} {X : ev_X} {n : Nat} {F G : ev_H} {ow ow' : Nat → Nat} {p : Nat} {gs : List Nat} {dr : List Int64} {pd : List Doc} {pm : Nat} {sg : List Seg} {lv : List Doc} {w b : Nat} {st : Bool} {ss : List QStep} {h : Nat} {dp : Nat → Nat} {wc : Nat} {rs : List (Nat × Nat)}
/-- nothing changes: the answer alone -/
theorem ps_same {v : Value} (hI : (psI X F ow p gs dr pd pm sg lv w b st ss h dp wc rs)) : psQ X n F ow p gs v dr pd pm sg lv w b st ss h dp wc rs (some v) n F := ⟨rfl, ow, gs, psS_r, hI⟩
theorem c_St_termW {r : Nat} {t : Int64} (hz : stZ F r) (hh : isw t = true) : Cal l X M_St_termOf 0 0 [.ref r, .long t] n F (stA n F r (lN (tm t))) := by
  obtain ⟨N, rfl, hN⟩ := isw_of hh
  rw [tm_N (gw_lt hN)]
  exact c_St_termOf hz hN
theorem c_P_stem {t : Int64} (hI : (psI X F ow p gs dr pd pm sg lv w b st ss h dp wc rs)) : Cal l X M_P_stem 0 0 [.ref p, .long t] n F (psQ X n F ow p gs (.long (if isw t then lN (st_stem t.toBitVec.toNat) else 0)) dr pd pm sg lv w b st ss h dp wc rs) := by
  obtain ⟨len, lf, vf, s1, -⟩ := id hI.2.1
  cases h : isw t with
  | false =>
    have h0 : bI (isw t) = 0 := bI_1.mpr h
    exact Cal.of (by decide) (Nat.le_of_ble_eq_true rfl) (s_P_stem_0 (v1 := bI (isw t)) (bc12 := 0) (bs12 := 0) (rc12 := 0) (rs12 := 0) (Q12 := fun _ _ _ => False) hI.1 s1 (by omega) (by omega) (c_St_isWord t) (fun _ => ps_same hI) (fun a => absurd h0 a) (fun a => absurd h0 a))
  | true =>
    have h0 : ¬ bI (isw t) = 0 := fun z => by rw [h] at z; exact absurd z (by decide)
    obtain ⟨N, rfl, hN⟩ := isw_of h
    rw [wb_tn (gw_lt hN)]
    refine Cal.of (by decide) (Nat.le_of_ble_eq_true rfl) (s_P_stem_0 (v1 := bI (isw (lN N))) (bc12 := 0) (bs12 := 0) (rc12 := 0) (rs12 := 0) hI.1 s1 (by omega) (by omega) (c_St_isWord _) (fun a => absurd a h0) (fun _ => c_St_stemOf hI.2.1 hN) (fun _ => ?_))
    rintro _ nn G ⟨rfl, rfl, hz, ha⟩
    obtain ⟨k1, k2⟩ := ps_st (n := nn) hI hz ha
    exact s_P_stem_15 ⟨rfl, ow, gs, k2, k1⟩
theorem c_P_feed_stop {t : Int64} (hI : (psI X F ow p gs dr pd pm sg lv w b true ss h dp wc rs)) : Cal l X M_P_feed 0 0 [.ref p, .long t] n F (psQ X n F ow p gs (.int (-9)) dr pd pm sg lv w b true ss h dp wc rs) := by
  obtain ⟨len, lf, vf, s1, -⟩ := id hI.2.1
  refine Cal.of (by decide) (Nat.le_of_ble_eq_true rfl) (s_P_feed_0 (v14 := 0) (bc44 := 0) (bs44 := 0) (rc44 := 0) (rs44 := 0) (Q44 := fun _ _ _ => False) hI.1 hI.2.2.2.2.2.1 s1 (by omega) (by omega) ?_ ?_ ?_ ?_ ?_ (fun _ => ps_same hI))
  all_goals exact fun c => absurd c (by decide)
theorem c_P_feed_no {t : Int64} (hI : (psI X F ow p gs dr pd pm sg lv w b false ss h dp wc rs)) (hh : isw t = false ∨ dr.length = 12) : Cal l X M_P_feed 0 0 [.ref p, .long t] n F (psQ X n F ow p gs (.int (-1)) dr pd pm sg lv w b false ss h dp wc rs) := by
  obtain ⟨len, lf, vf, s1, -⟩ := id hI.2.1
  have hx : ∀ {A : Prop}, ¬ bI (isw t) = 0 → nI dr.length < 12 → A := fun a b => by
    rcases hh with hh | hh
    · exact absurd (bI_1.mpr hh) a
    · rw [hh] at b
      exact absurd b (by decide)
  exact Cal.of (by decide) (Nat.le_of_ble_eq_true rfl) (s_P_feed_0 (v14 := bI (isw t)) (bc44 := 0) (bs44 := 0) (rc44 := 0) (rs44 := 0) (Q44 := fun _ _ _ => False) hI.1 hI.2.2.2.2.2.1 s1 (by omega) (by omega) (fun _ => c_St_isWord t) (fun _ _ => ps_same hI) (fun _ a b => hx a b) (fun _ a b => hx a b) (fun _ _ _ => ps_same hI) (fun c => absurd rfl c))
theorem c_P_feed_ok {t : Int64} (hI : (psI X F ow p gs dr pd pm sg lv w b false ss h dp wc rs)) (hh : isw t = true) (hd : dr.length < 12) : Cal l X M_P_feed 0 0 [.ref p, .long t] n F (psQ X n F ow p gs (.int (nI (dr.length + 1))) (dr ++ [lN (tm t)]) pd pm sg lv w b false ss h dp wc rs) := by
  obtain ⟨len, lf, vf, s1, -⟩ := id hI.2.1
  have hne : ¬ bI (isw t) = 0 := fun z => by rw [hh] at z; exact absurd z (by decide)
  have h12 : nI dr.length < 12 := (nI_ltI (b := 12) (by omega) (by decide)).mpr hd
  refine Cal.of (by decide) (Nat.le_of_ble_eq_true rfl) (ev_fresh fun fr0 => s_P_feed_0 (v14 := bI (isw t)) (bc44 := 0) (bs44 := 0) (rc44 := 0) (rs44 := 0) hI.1 hI.2.2.2.2.2.1 s1 (by omega) (by omega) (fun _ => c_St_isWord t) (fun _ z => absurd z hne) (fun _ _ _ => c_St_termW hI.2.1 hh) (fun _ _ _ => ?_) (fun _ _ z => absurd h12 z) (fun c => absurd rfl c))
  rintro _ nn G ⟨rfl, rfl, hz, ha⟩
  obtain ⟨k1, k2⟩ := ps_st (n := nn) hI hz ha
  obtain ⟨f, q1, q2⟩ := id k1.2.2.1
  have hpG := k1.2.2.2.2.2.2.2.2.2.2.2.1
  have e0 : vp_updL f dr.length (lN (tm t)) dr.length = lN (tm t) := by simp [vp_updL]
  have e1 : ∀ j, j < dr.length → vp_updL f dr.length (lN (tm t)) j = tg dr j := fun j hj => by
    have : j ≠ dr.length := by omega
    simp [vp_updL, this, q2 j hj]
  obtain ⟨m1, m2⟩ := ps_4 (n := nn) k1 e1
  obtain ⟨o1, o2⟩ := ps_0 (n := nn) (m := dr.length + 1) (dr' := dr ++ [lN (tm t)]) m1 (by simp) (by simp; omega) ⟨_, eu_y, fun j hj => by
    by_cases z : j = dr.length
    · subst z
      rw [e0]
      simp [tg]
    · have hj' : j < dr.length := by simp at hj; omega
      rw [e1 j hj']
      simp [tg, List.getElem?_append_left hj']⟩
  refine ev_fresh fun fr1 => s_P_feed_47 q1 k1.1 (vp_in_nI hd (by decide)) ?_
  rw [nI_clamp (by omega), nI_1]
  exact ⟨rfl, ow, gs, psS_t fr0 k2 (psS_t fr1 m2 o2), o1⟩
theorem c_P_isId (i : Int32) : Cal l X M_P_isId 0 0 [.int i] n F (ev_pure (.int (bI (decide (¬ i < 0 ∧ ¬ 12 ≤ i)))) n F) := by
  refine Cal.of (by decide) (Nat.le_of_ble_eq_true rfl) (s_P_isId_0 (fun a => ⟨?_, rfl, rfl⟩) (fun a c => ⟨?_, rfl, rfl⟩) (fun a c => ⟨?_, rfl, rfl⟩))
  · simp [a, bI]
  · simp [c, bI]
  · simp [a, c, bI]
theorem isId_n {i : Nat} (hh : i < 12) : bI (decide (¬ nI i < 0 ∧ ¬ (12 : Int32) ≤ nI i)) = 1 := by
  have a : ¬ nI i < 0 := nI_pos (by omega)
  have c : ¬ (12 : Int32) ≤ nI i := i_ge (a := 12) (by decide) (by omega) hh
  simp [a, c, bI]
theorem isId_no {i : Int32} (hh : i < 0 ∨ 11 < i) : bI (decide (¬ i < 0 ∧ ¬ (12 : Int32) ≤ i)) = 0 := by
  have : ¬ (¬ i < 0 ∧ ¬ (12 : Int32) ≤ i) := fun z => by
    rcases hh with hh | hh
    · exact z.1 hh
    · apply z.2
      have h1 := Int32.lt_iff_toInt_lt.mp hh
      apply Int32.le_iff_toInt_le.mpr
      have e1 : (11 : Int32).toInt = 11 := by decide
      have e2 : (12 : Int32).toInt = 12 := by decide
      omega
  rw [decide_eq_false this]
  rfl
theorem c_P_add_stop {i : Int32} (hI : (psI X F ow p gs dr pd pm sg lv w b true ss h dp wc rs)) : Cal l X M_P_add 3 800 [.ref p, .int i] n F (psQ X n F ow p gs (.int (-9)) dr pd pm sg lv w b true ss h dp wc rs) := by
  refine Cal.of (by decide) (Nat.le_of_ble_eq_true rfl) (s_P_add_0 (v14 := 0) (rc26 := 0) (rs26 := 0) (bc39 := 0) (bs39 := 0) (rc39 := 0) (rs39 := 0) (Q39 := fun _ _ _ => False) hI.1 hI.2.2.2.2.2.1 (by omega) (by omega) (by omega) (by omega) ?_ ?_ ?_ ?_ (fun _ => ps_same hI))
  all_goals exact fun c => absurd c (by decide)
theorem c_P_add_no {i : Int32} (hI : (psI X F ow p gs dr pd pm sg lv w b false ss h dp wc rs)) (hh : i < 0 ∨ 11 < i) : Cal l X M_P_add 3 800 [.ref p, .int i] n F (psQ X n F ow p gs (.int (-1)) dr pd pm sg lv w b false ss h dp wc rs) := by
  refine Cal.of (by decide) (Nat.le_of_ble_eq_true rfl) (s_P_add_0 (rc26 := 0) (rs26 := 0) (bc39 := 0) (bs39 := 0) (rc39 := 0) (rs39 := 0) (Q39 := fun _ _ _ => False) hI.1 hI.2.2.2.2.2.1 (by omega) (by omega) (by omega) (by omega) (fun _ => c_P_isId i) (fun _ a => absurd (isId_no hh) a) (fun _ a => absurd (isId_no hh) a) (fun _ _ => ps_same hI) (fun c => absurd rfl c))
theorem c_P_add_ok {i : Nat} (hI : (psI X F ow p gs dr pd pm sg lv w b false ss h dp wc rs)) (hi : i < 12) (hpd : pd.length ≤ 12) : Cal l X M_P_add 3 800 [.ref p, .int (nI i)] n F (psQ X n F ow p gs (.int (nI (popc (pm ||| 2 ^ i)))) ([]) (pd.filter (fun y => y.1 != i) ++ [(i, dr)]) (pm ||| 2 ^ i) sg lv w b false ss h dp wc rs) := by
  refine Cal.of (by decide) (Nat.le_of_ble_eq_true rfl) (ev_fresh fun fr0 => ?_)
  have hlt := ps_lt fr0 hI
  have n0 : F n = none := fr0 n (Nat.le_refl n)
  have n1 : F (n + 1) = none := fr0 (n + 1) (by omega)
  have hd := hI.2.2.2.2.2.2.2.2.2.2.2.2
  obtain ⟨f, q1, q2⟩ := id hI.2.2.1
  have e1 := isId_n hi
  have ne1 : ¬ bI (decide (¬ nI i < 0 ∧ ¬ (12 : Int32) ≤ nI i)) = 0 := fun z => by rw [e1] at z; exact absurd z (by decide)
  refine s_P_add_0 (rc26 := 2) (rs26 := 798) (bc39 := 1) (bs39 := 12) (rc39 := 1) (rs39 := 786) hI.1 hI.2.2.2.2.2.1 (by omega) (by omega) (by omega) (by omega) (fun _ => c_P_isId _) (fun _ _ => c_Arr_copyOf (N := 12) (k := dr.length) (f := f) (by rw [eu_n (by omega)]; exact q1) hd (by decide)) (fun _ _ => ?_) (fun _ z => absurd z ne1) (fun c => absurd rfl c)
  rintro _ _ _ ⟨rfl, rfl, -, g, hg, rfl⟩
  refine s_P_add_42 (bc42 := 0) (bs42 := 0) (rc42 := 1) (rs42 := 786) (by omega) (by omega) (c_D_init (k0 := 0) (by rw [eu_n (by omega)]; exact eu_y)) ?_
  rintro _ _ _ ⟨rfl, rfl, rfl⟩
  have e : ext F (ev_up (ev_up (ev_up F n (.inr (8, [.int 0, .null]))) (n + 1) (.inl (1, dr.length, .inr (.inl g)))) n (.inr (8, [.int (nI i), .ref (n + 1)]))) := ext_g (ext_g (ext_f n0) n1) n0
  have w1 : ∀ x, x < n → (fun x => if n ≤ x then 0 else ow x) x = ow x := fun x hx => if_neg (by omega)
  obtain ⟨k1, k2⟩ := ps_ext (n' := n + 2) fr0 hI e (by omega) w1
  have hdc : dcW (ev_up (ev_up (ev_up F n (.inr (8, [.int 0, .null]))) (n + 1) (.inl (1, dr.length, .inr (.inl g)))) n (.inr (8, [.int (nI i), .ref (n + 1)]))) (fun x => if n ≤ x then 0 else ow x) n (i, dr) := by
    refine ⟨n + 1, g, eu_y, by rw [eu_n (by omega)]; exact eu_y, fun j hj => ?_, if_pos (Nat.le_refl n), if_pos (by omega), hi, hd⟩
    rw [hg j hj]
    exact q2 j hj
  refine ev_fresh fun fr1 => s_P_add_45 (bc45 := 1) (bs45 := 780) (rc45 := 0) (rs45 := 6) k1.2.2.2.1.1 (by omega) (by omega) (c_Pe_putDocument k1.2.2.2.1 hdc (by omega)) ?_
  rintro _ n2 G2 ⟨rfl, hn2, ow2, u2, hq2, hf2⟩
  obtain ⟨m1, m2⟩ := ps_pe fr1 k1 hn2 u2 hq2 hf2
  obtain ⟨f', r1, r2⟩ := id m1.2.2.1
  refine ev_fresh fun fr2 => ?_
  obtain ⟨o1, o2⟩ := ps_0 (n := n2) (m := 0) (dr' := []) m1 rfl (by simp) ⟨f', r1, fun j hj => absurd hj (Nat.not_lt_zero _)⟩
  exact s_P_add_48 m1.1 m1.2.2.2.1.1 (c_Pe_idCount o1.2.2.2.1) ⟨rfl, ow2, gs, psS_t fr0 k2 (psS_t fr1 m2 o2), o1⟩
theorem c_P_delete_stop {i : Int32} (hI : (psI X F ow p gs dr pd pm sg lv w b true ss h dp wc rs)) : Cal l X M_P_delete 0 0 [.ref p, .int i] n F (psQ X n F ow p gs (.int (-9)) dr pd pm sg lv w b true ss h dp wc rs) := by
  refine Cal.of (by decide) (Nat.le_of_ble_eq_true rfl) (s_P_delete_0 (v14 := 0) (bc27 := 0) (bs27 := 0) (rc27 := 0) (rs27 := 0) (Q27 := fun _ _ _ => False) hI.1 hI.2.2.2.2.2.1 hI.2.2.2.1.1 (by omega) (by omega) ?_ ?_ ?_ ?_ (fun _ => ps_same hI))
  all_goals exact fun c => absurd c (by decide)
theorem c_P_delete_no {i : Int32} (hI : (psI X F ow p gs dr pd pm sg lv w b false ss h dp wc rs)) (hh : i < 0 ∨ 11 < i) : Cal l X M_P_delete 0 0 [.ref p, .int i] n F (psQ X n F ow p gs (.int (-1)) dr pd pm sg lv w b false ss h dp wc rs) := by
  refine Cal.of (by decide) (Nat.le_of_ble_eq_true rfl) (s_P_delete_0 (bc27 := 0) (bs27 := 0) (rc27 := 0) (rs27 := 0) (Q27 := fun _ _ _ => False) hI.1 hI.2.2.2.2.2.1 hI.2.2.2.1.1 (by omega) (by omega) (fun _ => c_P_isId i) (fun _ a => absurd (isId_no hh) a) (fun _ a => absurd (isId_no hh) a) (fun _ _ => ps_same hI) (fun c => absurd rfl c))
theorem c_P_delete_ok {i : Nat} (hI : (psI X F ow p gs dr pd pm sg lv w b false ss h dp wc rs)) (hi : i < 12) : Cal l X M_P_delete 0 0 [.ref p, .int (nI i)] n F (psQ X n F ow p gs (.int (nI (popc (pm ||| 2 ^ i)))) dr (pd.filter (fun y => y.1 != i)) (pm ||| 2 ^ i) sg lv w b false ss h dp wc rs) := by
  have ne1 : ¬ bI (decide (¬ nI i < 0 ∧ ¬ (12 : Int32) ≤ nI i)) = 0 := fun z => by rw [isId_n hi] at z; exact absurd z (by decide)
  refine Cal.of (by decide) (Nat.le_of_ble_eq_true rfl) (ev_fresh fun fr0 => s_P_delete_0 (bc27 := 0) (bs27 := 0) (rc27 := 0) (rs27 := 0) hI.1 hI.2.2.2.2.2.1 hI.2.2.2.1.1 (by omega) (by omega) (fun _ => c_P_isId _) (fun _ _ => c_Pe_putDeletion hI.2.2.2.1 hi) (fun _ _ => ?_) (fun _ z => absurd z ne1) (fun c => absurd rfl c))
  rintro _ n2 G2 ⟨rfl, hn2, ow2, u2, hq2, hf2⟩
  obtain ⟨m1, m2⟩ := ps_pe fr0 hI hn2 u2 hq2 hf2
  exact s_P_delete_30 m1.1 m1.2.2.2.1.1 (c_Pe_idCount m1.2.2.2.1) ⟨rfl, ow2, gs, m2, m1⟩
theorem c_P_fuse_no {i : Int32} (hI : (psI X F ow p gs dr pd pm sg lv w b st ss h dp wc rs)) (hh : st = true ∨ i < 1 ∨ 100 < i) : Cal l X M_P_fuse 0 0 [.ref p, .int i] n F (psQ X n F ow p gs (.int 0) dr pd pm sg lv w b st ss h dp wc rs) := by
  refine Cal.of (by decide) (Nat.le_of_ble_eq_true rfl) (s_P_fuse_0 hI.1 hI.2.2.2.2.2.1 (fun _ => ps_same hI) (fun _ _ => ps_same hI) (fun a c e => ?_) (fun _ _ _ => ps_same hI))
  exfalso
  rcases hh with hh | hh | hh
  · rw [hh] at a
    exact absurd a (by decide)
  · exact c hh
  · exact absurd e (Int32.not_le.mpr hh)
theorem c_P_fuse_ok {k : Nat} (hI : (psI X F ow p gs dr pd pm sg lv w b false ss h dp wc rs)) (h1 : 1 ≤ k) (h2 : k ≤ 100) : Cal l X M_P_fuse 0 0 [.ref p, .int (nI k)] n F (psQ X n F ow p gs (.int 1) dr pd pm sg lv w k false ss h dp wc rs) := by
  obtain ⟨m1, m2⟩ := ps_ma (n := n) (w' := w) (b' := k) (st' := false) hI
  refine Cal.of (by decide) (Nat.le_of_ble_eq_true rfl) (s_P_fuse_0 hI.1 hI.2.2.2.2.2.1 (fun a => absurd rfl a) (fun _ a => ?_) (fun _ _ _ => ⟨rfl, ow, gs, m2, m1⟩) (fun _ _ a => ?_))
  · have := (nI_ltI (b := 1) (by omega) (by decide)).mp a
    omega
  · exact absurd ((nI_leI (b := 100) (by omega) (by decide)).mpr h2) a
theorem c_P_restart (hI : (psI X F ow p gs dr pd pm sg lv w b st ss h dp wc rs)) : Cal l X M_P_restart 0 0 [.ref p] n F (psQ X n F ow p gs (.int (bI st)) dr pd pm sg lv w b false ss h dp wc rs) := by
  obtain ⟨m1, m2⟩ := ps_ma (n := n) (w' := w) (b' := b) (st' := false) hI
  exact Cal.of (by decide) (Nat.le_of_ble_eq_true rfl) (s_P_restart_0 hI.1 hI.2.2.2.2.2.1 ⟨rfl, ow, gs, m2, m1⟩ (bI_nar st))
theorem c_P_result {i : Int32} (hI : (psI X F ow p gs dr pd pm sg lv w b st ss h dp wc rs)) : Cal l X M_P_result 0 0 [.ref p, .int i] n F (psQ X n F ow p gs (.int (if i < 0 ∨ nI rs.length ≤ i then -1 else nI (rs.getD i.toNatClampNeg (0, 0)).1)) dr pd pm sg lv w b st ss h dp wc rs) := by
  obtain ⟨fi, fw, r1, r2, r3, r4, r5⟩ := id hI.2.2.2.2.2.2.2.2.1
  refine Cal.of (by decide) (Nat.le_of_ble_eq_true rfl) (s_P_result_0 hI.1 r1 r2 (c_Re_has hI.2.2.2.2.2.2.2.2.1) (fun a => ?_) (fun a => ?_) (fun a => ?_))
  · have := bI_1.mp a
    rw [decide_eq_false_iff_not] at this
    rw [if_pos (Classical.byContradiction fun z => this ⟨fun q => z (Or.inl q), fun q => z (Or.inr q)⟩)]
    exact ps_same hI
  · have := of_decide_eq_true (bI_n0 a)
    obtain ⟨j, hj, rfl⟩ := nI_of this.1
    have : j < rs.length := Nat.lt_of_not_le fun z => this.2 ((nI_leI (by omega) hj).mpr z)
    exact vp_in_nI (by omega) (by decide)
  · have := of_decide_eq_true (bI_n0 a)
    rw [if_neg (fun z => z.elim this.1 this.2)]
    obtain ⟨j, hj, rfl⟩ := nI_of this.1
    have hl : j < rs.length := Nat.lt_of_not_le fun z => this.2 ((nI_leI (by omega) hj).mpr z)
    rw [nI_clamp (by omega)]
    have e : rs[j]? = some (rs.getD j (0, 0)) := by
      rw [List.getD_eq_getElem?_getD, List.getElem?_eq_getElem hl]
      rfl
    rw [(r5 j _ e).1]
    exact ps_same hI
theorem c_P_weight {i : Int32} (hI : (psI X F ow p gs dr pd pm sg lv w b st ss h dp wc rs)) : Cal l X M_P_weight 0 0 [.ref p, .int i] n F (psQ X n F ow p gs (.int (if i < 0 ∨ nI rs.length ≤ i then -1 else nI (rs.getD i.toNatClampNeg (0, 0)).2)) dr pd pm sg lv w b st ss h dp wc rs) := by
  obtain ⟨fi, fw, r1, r2, r3, r4, r5⟩ := id hI.2.2.2.2.2.2.2.2.1
  refine Cal.of (by decide) (Nat.le_of_ble_eq_true rfl) (s_P_weight_0 hI.1 r1 r3 (c_Re_has hI.2.2.2.2.2.2.2.2.1) (fun a => ?_) (fun a => ?_) (fun a => ?_))
  · have := bI_1.mp a
    rw [decide_eq_false_iff_not] at this
    rw [if_pos (Classical.byContradiction fun z => this ⟨fun q => z (Or.inl q), fun q => z (Or.inr q)⟩)]
    exact ps_same hI
  · have := of_decide_eq_true (bI_n0 a)
    obtain ⟨j, hj, rfl⟩ := nI_of this.1
    have : j < rs.length := Nat.lt_of_not_le fun z => this.2 ((nI_leI (by omega) hj).mpr z)
    exact vp_in_nI (by omega) (by decide)
  · have := of_decide_eq_true (bI_n0 a)
    rw [if_neg (fun z => z.elim this.1 this.2)]
    obtain ⟨j, hj, rfl⟩ := nI_of this.1
    have hl : j < rs.length := Nat.lt_of_not_le fun z => this.2 ((nI_leI (by omega) hj).mpr z)
    rw [nI_clamp (by omega)]
    have e : rs[j]? = some (rs.getD j (0, 0)) := by
      rw [List.getD_eq_getElem?_getD, List.getElem?_eq_getElem hl]
      rfl
    rw [(r5 j _ e).2.1]
    exact ps_same hI
theorem c_P_weighed (hI : (psI X F ow p gs dr pd pm sg lv w b st ss h dp wc rs)) : Cal l X M_P_weighed 0 0 [.ref p] n F (psQ X n F ow p gs (.int (nI wc)) dr pd pm sg lv w b st ss h dp wc rs) := by
  obtain ⟨wf, bf, tc, r1, -⟩ := id hI.2.2.2.2.2.2.2.1
  exact Cal.of (by decide) (Nat.le_of_ble_eq_true rfl) (s_P_weighed_0 hI.1 r1 (ps_same hI))
/-- what size answers -/
def szA (k : Nat) (dr : List Int64) (pm : Nat) (sg : List Seg) (lv : List Doc) (w : Nat) (st : Bool) (h : Nat) : Nat := if k = 0 then lv.length else if k = 1 then sg.length else if k = 2 then sN (fun i => (sAt sg i).1.length) sg.length else if k = 3 then popc pm else if k = 4 then dr.length else if k = 5 then h else if k = 6 then wAll lv else if k = 7 then w else if k = 8 then (if st then 1 else 0) else sN (fun i => segE (sAt sg i)) sg.length
theorem c_P_size_ok {k : Nat} (hI : (psI X F ow p gs dr pd pm sg lv w b st ss h dp wc rs)) (hk : k ≤ 9) : Cal l X M_P_size 0 0 [.ref p, .int (nI k)] n F (psQ X n F ow p gs (.int (nI (szA k dr pm sg lv w st h))) dr pd pm sg lv w b st ss h dp wc rs) := by
  obtain ⟨r1, mc1, q1⟩ := sl_cell hI.2.2.2.2.1.2.1
  obtain ⟨r2, mc2, q2⟩ := dl_cell hI.2.2.2.2.1.2.2.1
  have ne : ∀ j, j ≤ 9 → (nI k = nI j ↔ k = j) := fun j hj => nI_eq (by omega) (by omega)
  have n0 : nI k = 0 ↔ k = 0 := ne 0 (by omega)
  have n1 : nI k = 1 ↔ k = 1 := ne 1 (by omega)
  have n2 : nI k = 2 ↔ k = 2 := ne 2 (by omega)
  have n3 : nI k = 3 ↔ k = 3 := ne 3 (by omega)
  have n4 : nI k = 4 ↔ k = 4 := ne 4 (by omega)
  have n5 : nI k = 5 ↔ k = 5 := ne 5 (by omega)
  have n6 : nI k = 6 ↔ k = 6 := ne 6 (by omega)
  have n7 : nI k = 7 ↔ k = 7 := ne 7 (by omega)
  have n8 : nI k = 8 ↔ k = 8 := ne 8 (by omega)
  have n9 : nI k = 9 ↔ k = 9 := ne 9 (by omega)
  refine Cal.of (by decide) (Nat.le_of_ble_eq_true rfl) (s_P_size_0 hI.1 hI.2.2.2.2.1.1 q2 q1 hI.2.2.2.1.1 hI.2.2.2.2.2.2.1.1 hI.2.2.2.2.2.1 (fun _ => dl_size hI.2.2.2.2.1.2.2.1) (fun a => ?_) (fun _ _ => sl_size hI.2.2.2.2.1.2.1) (fun _ a => ?_) (fun _ _ _ => c_Sh_documentCount hI.2.2.2.2.1) (fun _ _ a => ?_) (fun _ _ _ _ => c_Pe_idCount hI.2.2.2.1) (fun _ _ _ a => ?_) (fun _ _ _ _ a => ?_) (fun _ _ _ _ _ a => ?_) (fun _ _ _ _ _ _ _ => c_P_totalLength hI.2.2.2.2.1.2.2.1) (fun _ _ _ _ _ _ a => ?_) (fun _ _ _ _ _ _ _ a => ?_) (fun _ _ _ _ _ _ _ _ a c => ?_) (fun _ _ _ _ _ _ _ _ a c => ?_) (fun _ _ _ _ _ _ _ _ _ _ => c_Sh_entryCount hI.2.2.2.2.1) (fun _ _ _ _ _ _ _ _ _ a => ?_) (fun a0 a1 a2 a3 a4 a5 a6 a7 a8 a9 => ?_) (fun a0 a1 a2 a3 a4 a5 a6 a7 a8 a9 => ?_))
  · rw [n0.mp a]; exact ps_same hI
  · rw [n1.mp a]; exact ps_same hI
  · rw [n2.mp a]; exact ps_same hI
  · rw [n3.mp a]; exact ps_same hI
  · rw [n4.mp a]; exact ps_same hI
  · rw [n5.mp a]; exact ps_same hI
  · rw [n6.mp a]; exact ps_same hI
  · rw [n7.mp a]; exact ps_same hI
  · rw [n8.mp a]
    have : st = false := bI_1.mp c
    subst this
    exact ps_same hI
  · rw [n8.mp a]
    have : st = true := bI_n0 c
    subst this
    exact ps_same hI
  · rw [n9.mp a]; exact ps_same hI
  · exfalso
    rw [n0] at a0; rw [n1] at a1; rw [n2] at a2; rw [n3] at a3; rw [n4] at a4; rw [n5] at a5; rw [n6] at a6; rw [n7] at a7; rw [n8] at a8; rw [n9] at a9
    omega
  · exfalso
    rw [n0] at a0; rw [n1] at a1; rw [n2] at a2; rw [n3] at a3; rw [n4] at a4; rw [n5] at a5; rw [n6] at a6; rw [n7] at a7; rw [n8] at a8; rw [n9] at a9
    omega
theorem c_P_size_no {i : Int32} (hI : (psI X F ow p gs dr pd pm sg lv w b st ss h dp wc rs)) (hh : i.toInt < 0 ∨ 9 < i.toInt) : Cal l X M_P_size 0 0 [.ref p, .int i] n F (psQ X n F ow p gs (.int (-1)) dr pd pm sg lv w b st ss h dp wc rs) := by
  obtain ⟨r1, mc1, q1⟩ := sl_cell hI.2.2.2.2.1.2.1
  obtain ⟨r2, mc2, q2⟩ := dl_cell hI.2.2.2.2.1.2.2.1
  have nx : ∀ j : Int32, 0 ≤ j.toInt ∧ j.toInt ≤ 9 → ¬ i = j := fun j hj e => by subst e; omega
  refine Cal.of (by decide) (Nat.le_of_ble_eq_true rfl) (s_P_size_0 (v63 := 0) (v74 := 0) (v82 := 0) (v90 := 0) (v114 := 0) (v146 := 0) hI.1 hI.2.2.2.2.1.1 q2 q1 hI.2.2.2.1.1 hI.2.2.2.2.2.2.1.1 hI.2.2.2.2.2.1 (fun a => absurd a (nx 0 (by decide))) (fun a => absurd a (nx 0 (by decide))) (fun _ a => absurd a (nx 1 (by decide))) (fun _ a => absurd a (nx 1 (by decide))) (fun _ _ a => absurd a (nx 2 (by decide))) (fun _ _ a => absurd a (nx 2 (by decide))) (fun _ _ _ a => absurd a (nx 3 (by decide))) (fun _ _ _ a => absurd a (nx 3 (by decide))) (fun _ _ _ _ a => absurd a (nx 4 (by decide))) (fun _ _ _ _ _ a => absurd a (nx 5 (by decide))) (fun _ _ _ _ _ _ a => absurd a (nx 6 (by decide))) (fun _ _ _ _ _ _ a => absurd a (nx 6 (by decide))) (fun _ _ _ _ _ _ _ a => absurd a (nx 7 (by decide))) (fun _ _ _ _ _ _ _ _ a => absurd a (nx 8 (by decide))) (fun _ _ _ _ _ _ _ _ a => absurd a (nx 8 (by decide))) (fun _ _ _ _ _ _ _ _ _ a => absurd a (nx 9 (by decide))) (fun _ _ _ _ _ _ _ _ _ a => absurd a (nx 9 (by decide))) (fun _ _ _ _ _ _ _ _ _ _ => hh) (fun _ _ _ _ _ _ _ _ _ _ => ps_same hI))
end ConP
