/-! the shelf: new segments, joins -/
section Sh3
variable {l : Launch} {X : ev_X} {n : Nat} {F G : ev_H} {ow ow' : Nat → Nat} {s : Nat} {gs : List Nat} {sg : List Seg} {lv : List Doc}
abbrev eL (X : ev_X) : ev_C := .inr (12, [.ref (X.2.2.2.1 1), .int 0, .int 0])
theorem c_Sg_init {r0 : Nat} (h : F r0 = some (.inr (9, [.null, .int 0]))) (hn : n = r0 + 1) : Cal l X M_Sg_init 1 3 [.ref r0] n F (fun v n' F' => v = none ∧ n' = n + 1 ∧ F' = ev_up (ev_up F n (eL X)) r0 (.inr (9, [.ref (r0 + 1), .int 0]))) := by
  subst hn
  refine Cal.of (by decide) (Nat.le_of_ble_eq_true rfl) (s_Sg_initN_0 (rc5 := 0) (rs5 := 0) (bc9 := 0) (bs9 := 0) (rc9 := 0) (rs9 := 0) (by omega) (by omega) (by omega) (by omega) (c_AL_init eu_y) ?_)
  rintro _ _ _ ⟨rfl, rfl, rfl⟩
  rw [ev_uu]
  refine s_Sg_initN_12 (by rw [eu_n (by omega)]; exact h) ⟨rfl, rfl, ?_⟩
  rw [ev_uu]
theorem ls_nil {L : Nat} (h : F L = some (eL X)) : lsI X F ow L [] := ⟨_, 0, h, Or.inl ⟨rfl, rfl⟩⟩
theorem dl_nil {L : Nat} (h : F L = some (eL X)) : dlI X F ow L [] := ⟨[], ls_nil h, rfl, fun i v x hv => by simp at hv⟩
/-- a new segment's cells -/
abbrev nwS (X : ev_X) (n : Nat) (F : ev_H) : ev_H := ev_up (ev_up (ev_up F n (.inr (9, [.null, .int 0]))) (n + 1) (eL X)) n (.inr (9, [.ref (n + 1), .int 0]))
abbrev nwO (n : Nat) (ow : Nat → Nat) : Nat → Nat := fun x => if n ≤ x then 1 else ow x
theorem nw_ext (fr0 : ∀ q : Nat, n ≤ q → F q = none) : ext F (nwS X n F) := ext_g (ext_g (ext_f (fr0 n (Nat.le_refl n))) (fr0 (n + 1) (by omega))) (fr0 n (Nat.le_refl n))
theorem nw_w (fr0 : ∀ q : Nat, n ≤ q → F q = none) : ∀ x c, F x = some c → nwO n ow x = ow x := fun x c hx => if_neg (by have := kn fr0 hx; omega)
theorem nw_seg (h1 : 1 < n) : sgI X (nwS X n F) (nwO n ow) n [] 0 := ⟨eu_y, dl_nil ((eu_n (show n + 1 ≠ n by omega)).trans eu_y), by decide, if_pos (Nat.le_refl n), if_pos (by omega), h1, by simp⟩
theorem dl_isEmpty {L : Nat} {ds : List Doc} (h : dlI X F ow L ds) : Cal l X M_AL_isEmpty 0 0 [.ref L] n F (ev_pure (.int (bI (decide (ds = [])))) n F) := by
  obtain ⟨vs, h1, h2, -⟩ := h
  have : decide (vs = []) = decide (ds = []) := by
    rw [decide_eq_decide, ← List.length_eq_zero_iff, ← List.length_eq_zero_iff, h2]
  rw [← this]
  exact c_AL_isEmpty h1
def shQ (X : ev_X) (n : Nat) (F : ev_H) (ow : Nat → Nat) (s : Nat) (gs : List Nat) (sg : List Seg) (lv : List Doc) : Option Value → Nat → ev_H → Prop := fun v n' F' => v = none ∧ n ≤ n' ∧ ∃ ow' gs', (∀ x, x < n → ow' x = ow x) ∧ shI X F' ow' s gs' sg lv ∧ (∀ g ∈ gs', g ∈ gs ∨ n ≤ g) ∧ kp ow (shC n s gs) F F'
/-- what is known of a shelf's cells -/
theorem sh_lt (fr0 : ∀ q : Nat, n ≤ q → F q = none) (h : shI X F ow s gs sg lv) : s + 2 < n ∧ ∀ g ∈ gs, g + 1 < n ∧ g ≠ s + 1 ∧ g ≠ s + 2 ∧ g ≠ s ∧ 1 < g := by
  obtain ⟨h1, h2, h3, -⟩ := h
  obtain ⟨r1, mc1, q1⟩ := sl_cell h2
  obtain ⟨r2, mc2, q2⟩ := dl_cell h3
  refine ⟨kn fr0 q2, fun g hg => ?_⟩
  obtain ⟨i, y, -, -, b1, b2, b3, b4, b5, b6, b7⟩ := sl_mem h2 hg
  obtain ⟨r3, mc3, q3⟩ := dl_cell b2
  exact ⟨kn fr0 q3, ev_ne_oo b1 q1 rfl, ev_ne_oo b1 q2 rfl, ev_ne_oo b1 h1 rfl, b6⟩
theorem c_Sh_appendSegment {L : Nat} {ds : List Doc} (h : shI X F ow s gs sg lv) (hd : dlI X F ow L ds) (wL : ow L = 1) (hL1 : 1 < L) (nL1 : L ≠ s + 1) (nL2 : L ≠ s + 2) (h5 : sg.length < 6) (h12 : lv.length + ds.length ≤ 12) : Cal l X M_Sh_appendSegment 27 505 [.ref s, .ref L] n F (shQ X n F ow s gs (sg ++ [(ds, 0)]) (insA lv ds)) := by
  refine Cal.of (by decide) (Nat.le_of_ble_eq_true rfl) (ev_fresh fun fr0 => ?_)
  obtain ⟨hs2, hgs⟩ := sh_lt fr0 h
  obtain ⟨eL0, mcL0, cL0⟩ := dl_cell hd
  have hLn : L < n := kn fr0 cL0
  have h1s : 1 < s := h.2.2.2.1.2.2.2
  have key : ∀ (t a : List Doc) (n' : Nat) (G : ev_H) (ow' : Nat → Nat), ds = a ++ t → n + 2 ≤ n' → shI X G ow' s gs sg (insA lv a) → sgI X G ow' n a 0 → dlI X G ow' L ds → (∀ x, x < n → ow' x = ow x) → kp ow (shC n s gs) F G → Ev l X M_Sh_appendSegment (2 * t.length + 1) (40 * t.length + 20) 10 [(0, .ref s), (1, .ref L), (2, .ref n), (3, .int (nI a.length))] [] n' G (ev_mq X (shQ X n F ow s gs (sg ++ [(ds, 0)]) (insA lv ds))) := by
    intro t
    induction t with
    | nil =>
      intro a n' G ow' hds hn hS hN hD u hK
      rw [List.append_nil] at hds
      subst hds
      have hS0 := hS
      obtain ⟨h1, h2, h3, ⟨w0, w1, w2, w3⟩, h5', h6⟩ := hS
      obtain ⟨r1, mc1, q1⟩ := sl_cell h2
      obtain ⟨r2, mc2, q2⟩ := dl_cell h3
      obtain ⟨rL, mcL, cL⟩ := dl_cell hD
      obtain ⟨rN, mcN, cN⟩ := dl_cell hN.2.1
      have hle : nI ds.length ≤ nI ds.length := (nI_leI (by omega) (by omega)).mpr (Nat.le_refl _)
      have hadd : Cal l X M_AL_add 1 20 [.ref (s + 1), .ref n] n' G (lsQ X n' G ow' (s + 1) (gs ++ [n]) (some (.int 1))) := c_AL_addB h2.1 ⟨9, _, hN.1, Or.inr (Or.inl rfl)⟩ (sl_O h2) (by have := h2.2.1; omega) (by omega) (by have := h2.2.1; omega)
      refine s_Sh_appendSegment_10 (bc57 := 1) (bs57 := 20) (rc57 := 0) (rs57 := 0) (v24 := 0) (iv24_id := 0) (v24_terms := 0) (bc30 := 0) (bs30 := 0) (rc30 := 0) (rs30 := 0) (Q30 := fun _ _ _ => False) cL h1 q1 (by simp) (by simp) hN.1 cN (by omega) (by omega) (dl_size hD) (fun _ => hadd) (fun _ => ?_) ?_ ?_ ?_ ?_
      · rintro _ n2 G2 ⟨rfl, hn2, ow2, z1, z2, hq1, hq2⟩
        have hk2 := kp_ls hq2 w1 (by omega)
        have hgl : gs.length = sg.length := h2.2.1
        have hnn : ∀ g ∈ gs, g ≠ n := fun g hg => by have := hgs g hg; omega
        refine s_Sh_appendSegment_60 ⟨rfl, by omega, ow2, gs ++ [n], fun x hx => (z2 x (by omega)).trans (u x hx), ⟨hk2 _ _ h1 (Or.inr (Or.inl ⟨w0, by omega, by omega⟩)), ⟨hq1, by simp [hgl], ?_, ?_⟩, dl_kp h3 hk2 ⟨by omega, by omega⟩ w2 z1, ⟨by rw [z1 _ _ h1]; exact w0, by rw [z1 _ _ q1]; exact w1, by rw [z1 _ _ q2]; exact w2, w3⟩, by simp; omega, h6⟩, ?_, kp_t hK (kp_w hk2 (fun y hy => ⟨hy.1, hy.2.2.1⟩)) (fun y c hy => u y (kn fr0 hy))⟩
        · rw [List.nodup_append]
          refine ⟨h2.2.2.1, by simp, fun a ha b hb => ?_⟩
          rw [List.mem_singleton] at hb
          subst hb
          exact hnn a ha
        · intro i g y hg hy
          by_cases gi : i < gs.length
          · rw [List.getElem?_append_left gi] at hg
            rw [List.getElem?_append_left (by omega)] at hy
            have hm := hgs g (List.mem_of_getElem? hg)
            exact sg_kp (h2.2.2.2 i g y hg hy) hk2 ⟨by omega, by omega⟩ ⟨by omega, by omega⟩ z1
          · rw [List.getElem?_append_right (by omega)] at hg hy
            have e0 : i - gs.length = 0 := by
              have := (List.getElem?_eq_some_iff.mp hg).1
              simp at this
              omega
            rw [← hgl, e0] at hy
            rw [e0] at hg
            cases hg
            cases hy
            exact sg_kp hN hk2 ⟨by omega, by omega⟩ ⟨by omega, by omega⟩ z1
        · intro g hg
          rcases List.mem_append.mp hg with hg | hg
          · exact Or.inl hg
          · rw [List.mem_singleton] at hg
            exact Or.inr (by omega)
      all_goals exact fun z => absurd hle z
    | cons x t ih =>
      intro a n' G ow' hds hn hS hN hD u hK
      have hll : ds.length = a.length + (t.length + 1) := by rw [hds]; simp
      obtain ⟨r1, mc1, q1⟩ := sl_cell hS.2.1
      obtain ⟨rL, mcL, cL⟩ := dl_cell hD
      obtain ⟨rN, mcN, cN⟩ := dl_cell hN.2.1
      have hgt : ¬ nI ds.length ≤ nI a.length := i_ge (by omega) (by omega) (by omega)
      have ha : a.length < ds.length := by omega
      have ex : dAt ds a.length = x := by
        unfold dAt
        rw [List.getD_eq_getElem?_getD, hds, get_mid]
        rfl
      obtain ⟨w, k1, k2⟩ := dl_get (l := l) (n := n') hD ha
      rw [ex] at k2
      have k3 := k2
      obtain ⟨tt, f, d1, -⟩ := k2
      obtain ⟨vs, l1, l2, l3⟩ := hN.2.1
      have hla : (insA lv a).length = lv.length + a.length := by rw [(insA_perm a lv).length_eq, List.length_append]
      have wN : ow' n = 1 := hN.2.2.2.1
      have wN1 : ow' (n + 1) = 1 := hN.2.2.2.2.1
      have wL' : ow' L = 1 := by rw [u L hLn]; exact wL
      refine s_Sh_appendSegment_10 (bc57 := 0) (bs57 := 0) (rc57 := 0) (rs57 := 0) (Q57 := fun _ _ _ => False) (v24 := w) (bc30 := 1) (bs30 := 20) (rc30 := 2 * t.length + 2) (rs30 := 40 * t.length + 40) cL hS.1 q1 (by omega) (by omega) hN.1 cN (by simp; omega) (by simp; omega) (dl_size hD) ?_ ?_ (fun _ => k1) (fun _ => d1) (fun _ => c_AL_addB l1 k3.o (dl_O (X := X) l2 l3) (by omega) (by omega) (by omega)) (fun _ => ?_)
      · exact fun z => absurd z hgt
      · exact fun z => absurd z hgt
      · rintro _ n2 G2 ⟨rfl, hn2, ow2, z1, z2, hq1, hq2⟩
        have hk2 := kp_ls hq2 wN1 (by omega)
        have hS2 : shI X G2 ow2 s gs sg (insA lv a) := sh_kp hS hk2 ⟨by omega, by omega⟩ ⟨by omega, by omega⟩ ⟨by omega, by omega⟩ (fun g hg => ⟨⟨(hgs g hg).2.2.2.2, by have := hgs g hg; omega⟩, ⟨by have := hgs g hg; omega, by have := hgs g hg; omega⟩⟩) z1
        have hN2 : sgI X G2 ow2 n (a ++ [x]) 0 := ⟨hk2 _ _ hN.1 (Or.inr (Or.inl ⟨wN, by omega, by omega⟩)), dl_app l1 (by omega) l2 l3 k3 z1 hq1 hq2, by decide, by rw [z1 _ _ hN.1]; exact wN, by rw [z1 _ _ cN]; exact wN1, by omega, by simp; omega⟩
        have hD2 : dlI X G2 ow2 L ds := dl_kp hD hk2 ⟨hL1, by omega⟩ wL' z1
        have u2 : ∀ x, x < n → ow2 x = ow x := fun y hy => (z2 y (by omega)).trans (u y hy)
        have hK2 : kp ow (shC n s gs) F G2 := kp_t hK (kp_w hk2 (fun y hy => ⟨hy.1, by omega⟩)) (fun y c hy => u y (kn fr0 hy))
        obtain ⟨rL2, mcL2, cL2⟩ := dl_cell hD2
        obtain ⟨w', j1, j2⟩ := dl_get (l := l) (n := n2) hD2 ha
        rw [ex] at j2
        have j3 := j2
        obtain ⟨tt', f', e1, -⟩ := j2
        refine s_Sh_appendSegment_33 (bc43 := 1) (bs43 := 20) (rc43 := 2 * t.length + 1) (rs43 := 40 * t.length + 20) cL2 e1 hS2.1 (by omega) (by omega) j1 (c_Sh_insertLive hS2 j3 (by omega)) ?_
        rintro _ n3 G3 ⟨rfl, hn3, ow3, y1, y2, hS3, hk3⟩
        refine s_Sh_appendSegment_46 ?_
        have e2 : insL x (insA lv a) = insA lv (a ++ [x]) := by simp [insA]
        rw [e2] at hS3
        have w3' : ∀ x c, G2 x = some c → ow3 x = ow2 x := y1
        have hi := ih (a ++ [x]) n3 G3 ow3 (by rw [hds]; simp) (by omega) hS3 (sg_kp hN2 hk3 ⟨by omega, by omega⟩ ⟨by omega, by omega⟩ w3') (dl_kp hD2 hk3 ⟨hL1, nL2⟩ (by rw [u2 L hLn]; exact wL) w3') (fun y hy => (y2 y (by omega)).trans (u2 y hy)) (kp_t hK2 (kp_w hk3 (fun y hy => ⟨hy.1, hy.2.2.2.1⟩)) (fun y c hy => u2 y (kn fr0 hy)))
        rw [nI_1]
        rw [show (a ++ [x]).length = a.length + 1 by simp] at hi
        exact hi
  refine s_Sh_appendSegment_0 (rc0 := 26) (rs0 := 503) (bc4 := 1) (bs4 := 3) (rc4 := 25) (rs4 := 500) (by omega) (by omega) (by omega) (by omega) (c_Sg_init eu_y rfl) ?_
  rintro _ _ _ ⟨rfl, rfl, rfl⟩
  refine s_Sh_appendSegment_7 (Ev.room (by omega) (by omega) (key ds [] (n + 2) (nwS X n F) (nwO n ow) rfl (Nat.le_refl _) (sh_ext h (nw_ext fr0) (nw_w fr0)) (nw_seg (by omega)) (dl_ext hd (nw_ext fr0) (nw_w fr0)) (fun x hx => if_neg (by omega)) (kp_e (nw_ext fr0))))
theorem c_Sh_takeIn {q pm : Nat} {pd : List Doc} (h : shI X F ow s gs sg lv) (hp : peI X F ow q pd pm) (wq : ow (q + 1) = 1) (n1 : q ≠ s + 1 ∧ q ≠ s + 2 ∧ q ∉ gs) (n2 : q + 1 ≠ s + 1 ∧ q + 1 ≠ s + 2 ∧ q + 1 ∉ gs) (h5 : pd ≠ [] → sg.length < 6) (h12 : (lv.filter (fun d => !pm.testBit d.1)).length + pd.length ≤ 12) : Cal l X M_Sh_takeIn 27 505 [.ref s, .ref q] n F (shQ X n F ow s gs (if pd = [] then sg.map (mkS pm) else sg.map (mkS pm) ++ [(pd, 0)]) (insA (lv.filter (fun d => !pm.testBit d.1)) pd)) := by
  refine Cal.of (by decide) (Nat.le_of_ble_eq_true rfl) (ev_fresh fun fr0 => ?_)
  refine s_Sh_takeIn_0 (bc5 := 0) (bs5 := 0) (rc5 := 27) (rs5 := 505) hp.1 h.1 (by omega) (by omega) (c_Sh_markDeleted h hp.2.2.1) ?_
  rintro _ nn G ⟨rfl, rfl, hS, hK⟩
  have hq := hp.2.2.2.2
  obtain ⟨rq, mcq, cq⟩ := dl_cell hp.2.1
  have hp2 : peI X G ow q pd pm := pe_kp hp hK ⟨hq, kn fr0 hp.1, n1⟩ ⟨by omega, kn fr0 cq, n2⟩ wq (fun _ _ _ => rfl)
  obtain ⟨rq2, mcq2, cq2⟩ := dl_cell hp2.2.1
  refine s_Sh_takeIn_8 (v12 := bI (decide (pd = []))) (bc23 := 27) (bs23 := 505) (rc23 := 0) (rs23 := 0) (Q23 := shQ X nn G ow s gs (sg.map (mkS pm) ++ [(pd, 0)]) (insA (lv.filter (fun d => !pm.testBit d.1)) pd)) hp2.1 cq2 hS.1 (by omega) (by omega) (dl_isEmpty hp2.2.1) (fun a => ?_) (fun a => ?_) (fun a => ?_)
  · have e : pd = [] := by simpa using bI_n0 a
    subst e
    exact ⟨rfl, Nat.le_refl _, ow, gs, fun _ _ => rfl, by rw [if_pos rfl]; exact hS, fun g hg => Or.inl hg, hK⟩
  · have e : ¬ pd = [] := by simpa using bI_1.mp a
    exact c_Sh_appendSegment hS hp2.2.1 wq (by omega) n2.1 n2.2.1 (by rw [List.length_map]; exact h5 e) h12
  · have e : ¬ pd = [] := by simpa using bI_1.mp a
    rintro _ n2' G2 ⟨rfl, hn, ow2, gs2, u, hS2, hg2, hk2⟩
    exact s_Sh_takeIn_26 ⟨rfl, hn, ow2, gs2, u, by rw [if_neg e]; exact hS2, hg2, kp_t hK hk2 (fun _ _ _ => rfl)⟩
/-- two segments' live documents in a new one -/
def jnQ (X : ev_X) (n : Nat) (F : ev_H) (ow : Nat → Nat) (s : Nat) (gs : List Nat) (sg : List Seg) (lv J : List Doc) : Option Value → Nat → ev_H → Prop := fun v n' F' => v = some (.ref n) ∧ n + 2 ≤ n' ∧ ∃ ow', (∀ x, x < n → ow' x = ow x) ∧ shI X F' ow' s gs sg lv ∧ sgI X F' ow' n J 0 ∧ kp ow (fun x => 1 < x ∧ x < n) F F'
theorem c_Sh_joinedFrom {A B : List Seg} {y1 y2 : Seg} (h : shI X F ow s gs (A ++ y1 :: y2 :: B) lv) (hJ : (livS y1 ++ livS y2).length ≤ 12) : Cal l X M_Sh_joinedFrom 26 965 [.ref s, .int (nI A.length)] n F (jnQ X n F ow s gs (A ++ y1 :: y2 :: B) lv (livS y1 ++ livS y2)) := by
  refine Cal.of (by decide) (Nat.le_of_ble_eq_true rfl) (ev_fresh fun fr0 => ?_)
  obtain ⟨hs2, hgs⟩ := sh_lt fr0 h
  have h1s : 1 < s := h.2.2.2.1.2.2.2
  have hl6 := h.2.2.2.2.1
  have hll : (A ++ y1 :: y2 :: B).length = A.length + 2 + B.length := by simp; omega
  -- one turn
  have turn : ∀ (k rc rs n' : Nat) (es : List Doc) (y : Seg) (G : ev_H) (ow' : Nat → Nat), k < A.length + 2 → (A ++ y1 :: y2 :: B)[k]? = some y → n + 2 ≤ n' → shI X G ow' s gs (A ++ y1 :: y2 :: B) lv → sgI X G ow' n es 0 → (∀ x, x < n → ow' x = ow x) → kp ow (fun x => 1 < x ∧ x < n) F G → (es ++ livS y).length ≤ 12 →
      (∀ n2 G2 ow2, n + 2 ≤ n2 → shI X G2 ow2 s gs (A ++ y1 :: y2 :: B) lv → sgI X G2 ow2 n (es ++ livS y) 0 → (∀ x, x < n → ow2 x = ow x) → kp ow (fun x => 1 < x ∧ x < n) F G2 → Ev l X M_Sh_joinedFrom rc rs 10 [(0, .ref s), (1, .int (nI A.length)), (2, .ref n), (3, .int (nI (k + 1)))] [] n2 G2 (ev_mq X (jnQ X n F ow s gs (A ++ y1 :: y2 :: B) lv (livS y1 ++ livS y2)))) →
      Ev l X M_Sh_joinedFrom (rc + 12) (rs + 480) 10 [(0, .ref s), (1, .int (nI A.length)), (2, .ref n), (3, .int (nI k))] [] n' G (ev_mq X (jnQ X n F ow s gs (A ++ y1 :: y2 :: B) lv (livS y1 ++ livS y2))) := by
    intro k rc rs n' es y G ow' hk hy hn hS hN u hK hes next
    obtain ⟨r1, mc1, q1⟩ := sl_cell hS.2.1
    obtain ⟨rN, mcN, cN⟩ := dl_cell hN.2.1
    have hgt : ¬ nI (A ++ y1 :: y2 :: B).length ≤ nI k := i_ge (by omega) (by omega) (by omega)
    have hgt2 : ¬ nI A.length + 1 < nI k := fun z => by
      rw [nI_1] at z
      have := (nI_ltI (by omega) (by omega)).mp z
      omega
    obtain ⟨g, hg, k1, k2⟩ := sl_get (l := l) (n := n') hS.2.1 (show k < (A ++ y1 :: y2 :: B).length by omega)
    have ey : sAt (A ++ y1 :: y2 :: B) k = y := by
      unfold sAt
      rw [List.getD_eq_getElem?_getD, hy]
      rfl
    rw [ey] at k2
    have hgm := hgs g (List.mem_of_getElem? hg)
    have hy12 := k2.2.2.2.2.2.2
    have hes2 : es.length ≤ 12 := hN.2.2.2.2.2.2
    refine s_Sh_joinedFrom_10 (v33 := g) (bc43 := 12) (bs43 := 480) (rc43 := rc) (rs43 := rs) hS.1 q1 hN.1 (Nat.le_refl _) (Nat.le_refl _) (sl_size hS.2.1) (fun z => absurd z hgt) (fun _ z => absurd z hgt2) (fun _ _ => k1) (fun _ _ => k2.1) (fun _ _ => c_Sg_copyLive k2 hN.2.1 hN.2.2.2.2.1 (by omega) (by omega) (by omega) (by omega)) (fun _ _ => ?_)
    rintro _ n2 G2 ⟨rfl, hn2, ow2, z1, z2, hD, hk2⟩
    refine s_Sh_joinedFrom_46 ?_
    rw [nI_1]
    refine next n2 G2 ow2 (by omega) (sh_kp hS hk2 ⟨by omega, by omega⟩ ⟨by omega, by omega⟩ ⟨by omega, by omega⟩ (fun g hg => ⟨⟨(hgs g hg).2.2.2.2, by have := hgs g hg; omega⟩, ⟨by have := hgs g hg; omega, by have := hgs g hg; omega⟩⟩) z1) ⟨hk2 _ _ hN.1 (Or.inr (Or.inl ⟨hN.2.2.2.1, hN.2.2.2.2.2.1, by omega⟩)), hD, by decide, by rw [z1 _ _ hN.1]; exact hN.2.2.2.1, by rw [z1 _ _ cN]; exact hN.2.2.2.2.1, hN.2.2.2.2.2.1, hes⟩ (fun x hx => (z2 x (by omega)).trans (u x hx)) (kp_t hK (kp_w hk2 (fun x hx => ⟨hx.1, by omega⟩)) (fun x c hx => u x (kn fr0 hx)))
  have g1 : (A ++ y1 :: y2 :: B)[A.length]? = some y1 := get_mid A y1 (y2 :: B)
  have g2 : (A ++ y1 :: y2 :: B)[A.length + 1]? = some y2 := by
    have := get_mid (A ++ [y1]) y2 B
    simpa using this
  have hJ1 : (livS y1).length ≤ 12 := by rw [List.length_append] at hJ; omega
  refine s_Sh_joinedFrom_0 (rc0 := 25) (rs0 := 963) (bc4 := 1) (bs4 := 3) (rc4 := 24) (rs4 := 960) (by omega) (by omega) (by omega) (by omega) (c_Sg_init eu_y rfl) ?_
  rintro _ _ _ ⟨rfl, rfl, rfl⟩
  refine s_Sh_joinedFrom_7 (turn A.length 12 480 (n + 2) [] y1 (nwS X n F) (nwO n ow) (by omega) g1 (Nat.le_refl _) (sh_ext h (nw_ext fr0) (nw_w fr0)) (nw_seg (by omega)) (fun x hx => if_neg (by omega)) (kp_e (nw_ext fr0)) (by simpa using hJ1) ?_)
  intro n2 G2 ow2 hn2 hS2 hN2 u2 hK2
  refine turn (A.length + 1) 0 0 n2 (livS y1) y2 G2 ow2 (by omega) g2 hn2 hS2 (by simpa using hN2) u2 hK2 hJ ?_
  intro n3 G3 ow3 hn3 hS3 hN3 u3 hK3
  obtain ⟨r1, mc1, q1⟩ := sl_cell hS3.2.1
  have fin : jnQ X n F ow s gs (A ++ y1 :: y2 :: B) lv (livS y1 ++ livS y2) (some (.ref n)) n3 G3 := ⟨rfl, hn3, ow3, u3, hS3, hN3, hK3⟩
  have hlt : nI A.length + 1 < nI (A.length + 1 + 1) := by
    rw [nI_1]
    exact (nI_ltI (by omega) (by omega)).mpr (by omega)
  refine s_Sh_joinedFrom_10 (v33 := 0) (iv33_deletedIds := 0) (bc43 := 0) (bs43 := 0) (rc43 := 0) (rs43 := 0) (Q43 := fun _ _ _ => False) hS3.1 q1 hN3.1 (by omega) (by omega) (sl_size hS3.2.1) (fun _ => fin) (fun _ _ => fin) ?_ ?_ ?_ ?_
  all_goals exact fun _ z => absurd hlt z
/-- the list of segments is another one -/
theorem sh_sl {gs' : List Nat} {sg' : List Seg} (h : shI X F ow s gs sg lv) (k : kp ow (fun x => 1 < x ∧ x ≠ s + 1) F G) (hs : slI X G ow (s + 1) gs' sg') (h6 : sg'.length ≤ 6) : shI X G ow s gs' sg' lv := by
  obtain ⟨h1, h2, h3, ⟨w0, w1, w2, w3⟩, h5, h6'⟩ := h
  exact ⟨k _ _ h1 (Or.inr (Or.inl ⟨w0, by omega, by omega⟩)), hs, dl_kp h3 k ⟨by omega, by omega⟩ w2 (fun _ _ _ => rfl), ⟨w0, w1, w2, w3⟩, h6, h6'⟩
theorem sl_keep {L g : Nat} {y : Seg} (h : shI X F ow s gs sg lv) (k : kp ow (fun x => 1 < x ∧ x ≠ s + 1) F G) (hg : sgI X F ow g y.1 y.2) : sgI X G ow g y.1 y.2 := by
  obtain ⟨r1, mc1, q1⟩ := sl_cell h.2.1
  have n1 : g ≠ s + 1 := ev_ne_oo hg.1 q1 rfl
  have n2 : g ≠ s := ev_ne_oo hg.1 h.1 rfl
  have := hg.2.2.2.2.2.1
  exact sg_kp hg k ⟨this, n1⟩ ⟨by omega, by omega⟩ (fun _ _ _ => rfl)
theorem sl_erase {i : Nat} (h : shI X F ow s gs sg lv) (k : kp ow (fun x => 1 < x ∧ x ≠ s + 1) F G) (hl : lsI X G ow (s + 1) (gs.eraseIdx i)) : slI X G ow (s + 1) (gs.eraseIdx i) (sg.eraseIdx i) := by
  obtain ⟨a1, a2, a3, a4⟩ := h.2.1
  refine ⟨hl, by rw [List.length_eraseIdx, List.length_eraseIdx, a2], a3.sublist (List.eraseIdx_sublist _ _), fun j g y hg hy => ?_⟩
  rw [List.getElem?_eraseIdx] at hg hy
  by_cases c : j < i
  · rw [if_pos c] at hg hy
    exact sl_keep (L := 0) h k (a4 j g y hg hy)
  · rw [if_neg c] at hg hy
    exact sl_keep (L := 0) h k (a4 (j + 1) g y hg hy)
theorem sl_put {i g : Nat} {y : Seg} (h : shI X F ow s gs sg lv) (k : kp ow (fun x => 1 < x ∧ x ≠ s + 1) F G) (hl : lsI X G ow (s + 1) (gs.set i g)) (hg : sgI X F ow g y.1 y.2) (hn : g ∉ gs) : slI X G ow (s + 1) (gs.set i g) (sg.set i y) := by
  obtain ⟨a1, a2, a3, a4⟩ := h.2.1
  refine ⟨hl, by rw [List.length_set, List.length_set, a2], ?_, fun j g' y' hg' hy' => ?_⟩
  · apply List.pairwise_iff_getElem.mpr
    intro p q hp hq hpq
    rw [List.getElem_set, List.getElem_set]
    rw [List.length_set] at hp hq
    have hm : ∀ z (hz : z < gs.length), gs[z] ≠ g := fun z hz e => hn (by rw [← e]; exact List.getElem_mem hz)
    by_cases c1 : i = p
    · have c2 : ¬ i = q := by omega
      rw [if_pos c1, if_neg c2]
      exact fun e => hm q hq e.symm
    · rw [if_neg c1]
      by_cases c2 : i = q
      · rw [if_pos c2]
        exact hm p hp
      · rw [if_neg c2]
        exact List.pairwise_iff_getElem.mp a3 p q hp hq hpq
  · by_cases c : i = j
    · subst c
      have h1 := (List.getElem?_eq_some_iff.mp hg').1
      have h2 := (List.getElem?_eq_some_iff.mp hy').1
      rw [List.length_set] at h1 h2
      rw [List.getElem?_set_self h1] at hg'
      rw [List.getElem?_set_self h2] at hy'
      cases hg'
      cases hy'
      exact sl_keep (L := 0) h k hg
    · rw [List.getElem?_set_ne c] at hg' hy'
      exact sl_keep (L := 0) h k (a4 j g' y' hg' hy')
def rpQ (X : ev_X) (n : Nat) (F : ev_H) (ow : Nat → Nat) (s g : Nat) (gs : List Nat) (sg : List Seg) (lv : List Doc) : Option Value → Nat → ev_H → Prop := fun v n' F' => v = none ∧ n' = n ∧ ∃ gs', shI X F' ow s gs' sg lv ∧ (∀ x ∈ gs', x ∈ gs ∨ x = g) ∧ kp ow (fun x => 1 < x ∧ x ≠ s + 1) F F'
theorem c_Sh_replaceTwo {g : Nat} {A B : List Seg} {y1 y2 : Seg} {J : List Doc} (h : shI X F ow s gs (A ++ y1 :: y2 :: B) lv) (hj : sgI X F ow g J 0) (hg : g ∉ gs) : Cal l X M_Sh_replaceTwo 0 0 [.ref s, .int (nI A.length), .ref g] n F (rpQ X n F ow s g gs (joS A J B) lv) := by
  have hl6 := h.2.2.2.2.1
  have hll : (A ++ y1 :: y2 :: B).length = A.length + 2 + B.length := by simp; omega
  have hgl := h.2.1.2.1
  have hl6' : A.length + 2 + B.length ≤ 6 := by rw [← hll]; exact hl6
  have w1 := h.2.2.2.1.2.1
  have w3 := h.2.2.2.1.2.2.2
  obtain ⟨r1, mc1, q1⟩ := sl_cell h.2.1
  have hi1 : A.length + 1 < gs.length := by omega
  refine Cal.of (by decide) (Nat.le_of_ble_eq_true rfl) (s_Sh_replaceTwo_0 (bc7 := 0) (bs7 := 0) (rc7 := 0) (rs7 := 0) h.1 q1 (by omega) (by omega) (by rw [nI_1]; exact c_AL_remove h.2.1.1 (List.getElem?_eq_getElem hi1) (sl_O h.2.1)) ?_)
  rintro _ _ G ⟨rfl, rfl, hq1, hq2⟩
  have hk := kp_ls hq2 w1 (by omega)
  have hsl := sl_erase h hk hq1
  have ee : (A ++ y1 :: y2 :: B).eraseIdx (A.length + 1) = A ++ y1 :: B := by
    have := erase_mid (A ++ [y1]) y2 B
    simpa using this
  rw [ee] at hsl
  have hS := sh_sl h hk hsl (by simp; omega)
  have hj2 : sgI X G ow g J 0 := sl_keep (L := 0) (y := (J, 0)) h hk hj
  have hg2 : g ∉ gs.eraseIdx (A.length + 1) := fun z => hg (List.mem_of_mem_eraseIdx z)
  obtain ⟨r2, mc2, q2⟩ := sl_cell hS.2.1
  obtain ⟨rJ, mcJ, cJ⟩ := dl_cell hj2.2.1
  have hgl2 := hS.2.1.2.1
  have hi : A.length < (gs.eraseIdx (A.length + 1)).length := by rw [hgl2]; simp
  refine s_Sh_replaceTwo_10 (v15 := bI (decide (J = []))) (bc39 := 0) (bs39 := 0) (rc39 := 0) (rs39 := 0) (bc26 := 0) (bs26 := 0) (rc26 := 0) (rs26 := 0) hj2.1 cJ hS.1 q2 (by omega) (by omega) (by omega) (by omega) (dl_isEmpty hj2.2.1) (fun _ => c_AL_set hS.2.1.1 (List.getElem?_eq_getElem hi) ⟨9, _, hj2.1, Or.inr (Or.inl rfl)⟩) (fun a => ?_) (fun _ => c_AL_remove hS.2.1.1 (List.getElem?_eq_getElem hi) (sl_O hS.2.1)) (fun a => ?_)
  · have e : ¬ J = [] := by simpa using bI_1.mp a
    rintro _ _ G2 ⟨rfl, rfl, hp1, hp2⟩
    have hk2 := kp_ls hp2 w1 (by omega)
    have hsl2 := sl_put (y := (J, 0)) hS hk2 hp1 hj2 hg2
    rw [set_mid] at hsl2
    refine s_Sh_replaceTwo_42 ⟨rfl, rfl, _, by rw [joS, if_neg e]; exact sh_sl hS hk2 hsl2 (by simp; omega), fun x hx => ?_, kp_t hk hk2 (fun _ _ _ => rfl)⟩
    rcases List.mem_or_eq_of_mem_set hx with hx | hx
    · exact Or.inl (List.mem_of_mem_eraseIdx hx)
    · exact Or.inr hx
  · have e : J = [] := by simpa using bI_n0 a
    rintro _ _ G2 ⟨rfl, rfl, hp1, hp2⟩
    have hk2 := kp_ls hp2 w1 (by omega)
    have hsl2 := sl_erase hS hk2 hp1
    rw [erase_mid] at hsl2
    refine s_Sh_replaceTwo_29 ⟨rfl, rfl, _, by rw [joS, if_pos e]; exact sh_sl hS hk2 hsl2 (by simp; omega), fun x hx => Or.inl (List.mem_of_mem_eraseIdx (List.mem_of_mem_eraseIdx hx)), kp_t hk hk2 (fun _ _ _ => rfl)⟩
end Sh3
