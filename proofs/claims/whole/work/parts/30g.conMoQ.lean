/-! the reference: weights and bounds -/
theorem lN_div {a b : Nat} (ha : a < 2 ^ 31) (hb : b < 2 ^ 31) : lN a / lN b = lN (a / b) := by
  apply Int64.toInt_inj.mp
  have hd : a / b < 2 ^ 31 := Nat.lt_of_le_of_lt (Nat.div_le_self _ _) ha
  rw [Int64.toInt_div, lN_toInt ha, lN_toInt hb, lN_toInt hd]
  have : (a : Int).tdiv (b : Int) = ((a / b : Nat) : Int) := by
    rw [Int.tdiv_eq_ediv_of_nonneg (by omega)]
    rfl
  rw [this]
  generalize a / b = c at hd
  exact Int.bmod_eq_of_le (by omega) (by omega)
theorem lc_gt {x y : Int64} : 0 < lg_cmp x y ↔ ¬ x ≤ y := by
  unfold lg_cmp
  by_cases h : x > y
  · rw [if_pos h]
    exact ⟨fun _ => Int64.not_le.mpr h, fun _ => by decide⟩
  · rw [if_neg h]
    have h2 : x ≤ y := Int64.not_lt.mp h
    constructor
    · intro z
      by_cases e : x = y
      · rw [if_pos e] at z; exact absurd z (by decide)
      · rw [if_neg e] at z; exact absurd z (by decide)
    · exact fun z => absurd h2 z
theorem lc_le {x y : Int64} : lg_cmp x y ≤ 0 ↔ x ≤ y := by
  have := lc_gt (x := x) (y := y)
  constructor
  · intro h
    apply Classical.byContradiction
    intro z
    exact absurd h (Int32.not_le.mpr (this.mpr z))
  · intro h
    apply Int32.not_lt.mp
    intro z
    exact this.mp z h
theorem lc_lt {x y : Int64} : lg_cmp x y < 0 ↔ x < y := by
  unfold lg_cmp
  by_cases h : x > y
  · rw [if_pos h]
    exact ⟨fun z => absurd z (by decide), fun z => absurd (Int64.lt_trans z h) (Int64.lt_irrefl)⟩
  · rw [if_neg h]
    by_cases e : x = y
    · rw [if_pos e]
      subst e
      exact ⟨fun z => absurd z (by decide), fun z => absurd z (Int64.lt_irrefl)⟩
    · rw [if_neg e]
      refine ⟨fun _ => ?_, fun _ => by decide⟩
      exact Int64.lt_of_le_of_ne (Int64.not_lt.mp h) e
theorem lc_ge {x y : Int64} : 0 ≤ lg_cmp x y ↔ y ≤ x := by
  have := lc_lt (x := x) (y := y)
  constructor
  · intro h
    apply Int64.not_lt.mp
    intro z
    exact absurd h (Int32.not_le.mpr (this.mpr z))
  · intro h
    apply Int32.not_lt.mp
    intro z
    exact absurd h (Int64.not_le.mpr (this.mp z))
theorem mem_le_sum : ∀ {l : List Nat} {a : Nat}, a ∈ l → a ≤ l.sum
  | x :: t, a, h => by
    rw [List.sum_cons]
    rcases List.mem_cons.mp h with rfl | h
    · omega
    · have := mem_le_sum h
      omega
section MoQ
variable {l : Launch} {X : ev_X} {n : Nat} {B : ev_H} {r : Nat} {d ro se st fu wr to he re we : Int32} {ai : Nat → Nat → Int32} {al : Nat → Nat → Int64}
theorem hol_cnt (lv : List Doc) (t : Int64) : hol lv t lv.length = lv.countP (fun d => decide (0 < dT d.2 t)) := by
  unfold hol dAt
  exact cn_l (fun d : Doc => decide (0 < dT d.2 t)) (0, []) lv
theorem rows_hol {sg : List Seg} {lv : List Doc} {rl : List PRow} (hs : shR sg lv rl) (t : Int64) : rl.countP (fun x => !x.2.2.1 && decide (0 < dT x.2.2.2 t)) = hol lv t lv.length := by
  rw [hol_cnt, ← hs.2.1.countP_eq]
  exact (liv_cnt (fun d => decide (0 < dT d.2 t)) rl).symm
theorem liv_in {sg : List Seg} {lv : List Doc} {rl : List PRow} (hs : shR sg lv rl) {q : Nat} {x : PRow} (hx : rl[q]? = some x) (hl : x.2.2.1 = false) : ((x.1, x.2.2.2) : Doc) ∈ lv := hs.2.1.mem_iff.mp (liv_mem.mpr ⟨x, List.mem_of_getElem? hx, hl, rfl, rfl⟩)
theorem dT_dL {ts : List Int64} {t : Int64} (h : 0 < dT ts t) : 0 < dL ts := by
  unfold dT at h
  unfold dL
  obtain ⟨i, hi, hp⟩ := cn_pos.mp h
  refine cn_pos.mpr ⟨i, hi, ?_⟩
  simp at hp
  simp [hp.2, hp.1]
theorem c_Mo_weightOf {sg : List Seg} {lv : List Doc} {rl : List PRow} {q : Nat} {x : PRow} {t : Int64} (hr : rwR ai al rl) (hs : shR sg lv rl) (h80 : rl.length ≤ 80) (hx : rl[q]? = some x) (hl : x.2.2.1 = false) : Cal l X M_Mo_weightOf 0 0 [.ref r, .int (nI q), .long t] n (moH B r d (nI rl.length) se st fu wr to he re we ai al) (ev_pure (.long (lN (wtL lv x.2.2.2 t))) n (moH B r d (nI rl.length) se st fu wr to he re we ai al)) := by
  have hxa := hr q x hx
  have hq : q < rl.length := (List.getElem?_eq_some_iff.mp hx).1
  have hlv := lv_12 hs
  have hl12 : lv.length ≤ 12 := asc_len hs.2.2.1 (fun y hy => (hlv y hy).1)
  have hmem := liv_in hs hx hl
  obtain ⟨b1, b2, b3, b4, b5, b6, b7, b8⟩ := id hxa
  have hT12 := dT_le x.2.2.2 t
  have hL12 := dL_le x.2.2.2
  have htq : ∀ {y : Int64}, Cal l X M_Mo_times 0 0 [.ref r, .int (nI q), .long y] n (moH B r d (nI rl.length) se st fu wr to he re we ai al) (ev_pure (.int (nI (dT x.2.2.2 y))) n (moH B r d (nI rl.length) se st fu wr to he re we ai al)) := fun {y} => by
    have := c_Mo_times (l := l) (X := X) (n := n) (B := B) (r := r) (d := d) (ro := nI rl.length) (se := se) (st := st) (fu := fu) (wr := wr) (to := to) (he := he) (re := re) (we := we) (ai := ai) (al := al) (t := y) (show q < 80 by omega) b8 b4
    rw [rT_dT hxa] at this
    exact this
  have hlq : Cal l X M_Mo_lengthOf 0 0 [.ref r, .int (nI q)] n (moH B r d (nI rl.length) se st fu wr to he re we ai al) (ev_pure (.int (nI (dL x.2.2.2))) n (moH B r d (nI rl.length) se st fu wr to he re we ai al)) := by
    have := c_Mo_lengthOf (l := l) (X := X) (n := n) (B := B) (r := r) (d := d) (ro := nI rl.length) (se := se) (st := st) (fu := fu) (wr := wr) (to := to) (he := he) (re := re) (we := we) (ai := ai) (al := al) (show q < 80 by omega) b8 b4
    rw [rL_dL hxa] at this
    exact this
  have hH12 : hol lv t lv.length ≤ 12 := Nat.le_trans (cn_le _ _) hl12
  have hsum : wAll lv ≤ 144 := by
    rw [wAll_sum]
    have := sum_le_c (f := fun d : Doc => dL d.2) (b := 12) (l := lv) (fun d hd => Nat.le_trans (dL_le _) (hlv d hd).2)
    omega
  -- the rarity and the end
  have key2 : 0 < dT x.2.2.2 t → ∀ (u e : Nat), e + u = Nat.log2 (rarX lv.length (hol lv t lv.length)) → Ev l X M_Mo_weightOf 0 0 100 [(0, .ref r), (1, .int (nI q)), (2, .long t), (4, .long (lN lv.length)), (6, .long (lN (wAll lv))), (8, .long (lN (hol lv t lv.length))), (10, .long (lN (dT x.2.2.2 t))), (12, .long (lN (rarX lv.length (hol lv t lv.length)))), (14, .int (nI e))] [] n (moH B r d (nI rl.length) se st fu wr to he re we ai al) (ev_mq X (ev_pure (.long (lN (wtL lv x.2.2.2 t))) n (moH B r d (nI rl.length) se st fu wr to he re we ai al))) := by
    intro hT
    have hf0 : 0 < hol lv t lv.length := by
      rw [hol_cnt]
      exact List.countP_pos_iff.mpr ⟨_, hmem, by simpa using hT⟩
    have hw0 : 0 < wAll lv := by
      rw [wAll_sum]
      have h1 := dT_dL hT
      have h2 : dL x.2.2.2 ≤ (lv.map (fun d : Doc => dL d.2)).sum := mem_le_sum (List.mem_map.mpr ⟨_, hmem, rfl⟩)
      omega
    have hx1 : 1 ≤ rarX lv.length (hol lv t lv.length) := (Nat.le_div_iff_mul_le hf0).mpr (by omega)
    have hx2 : rarX lv.length (hol lv t lv.length) ≤ 3328 := Nat.le_trans (Nat.div_le_self _ _) (by omega)
    have hlo := Nat.log2_self_le (show rarX lv.length (hol lv t lv.length) ≠ 0 by omega)
    have hhi := Nat.lt_log2_self (n := rarX lv.length (hol lv t lv.length))
    have hl12' : Nat.log2 (rarX lv.length (hol lv t lv.length)) < 12 := Nat.lt_of_not_le fun z => by
      have := Nat.pow_le_pow_right (show 0 < 2 by decide) z
      have e : 2 ^ 12 = 4096 := by decide
      omega
    have er : rar lv.length (hol lv t lv.length) = 16 * Nat.log2 (rarX lv.length (hol lv t lv.length)) + rarX lv.length (hol lv t lv.length) * 16 / 2 ^ Nat.log2 (rarX lv.length (hol lv t lv.length)) - 16 := if_neg (by omega)
    have sh2 : ∀ e, e < 12 → (2 : Int64) <<< ((nI e).toInt64 &&& 63) = lN (2 ^ (e + 1)) := fun e he => by
      rw [show (2 : Int64) = lN 2 from rfl, wb_shl 2 (by omega), Nat.pow_succ, Nat.mul_comm]
    have sh1 : ∀ e, e < 12 → (1 : Int64) <<< ((nI e).toInt64 &&& 63) = lN (2 ^ e) := fun e he => by
      rw [show (1 : Int64) = lN 1 from rfl, wb_shl 1 (by omega), Nat.one_mul]
    have p12 : ∀ e, e ≤ 12 → 2 ^ e ≤ 4096 := fun e he => Nat.pow_le_pow_right (show 0 < 2 by decide) he
    intro u
    induction u with
    | zero =>
      intro e he
      have e1 : e = Nat.log2 (rarX lv.length (hol lv t lv.length)) := by omega
      have pe := p12 (e + 1) (by omega)
      have pe0 := p12 e (by omega)
      have pp : 0 < 2 ^ e := Nat.pow_pos (by decide)
      have hexit : 0 < lg_cmp ((2 : Int64) <<< ((nI e).toInt64 &&& 63)) (lN (rarX lv.length (hol lv t lv.length))) := by
        rw [sh2 e (by omega), lc_gt, lN_le (by omega) (by omega)]
        rw [e1]
        omega
      have e16 : 16 ≤ rarX lv.length (hol lv t lv.length) * 16 / 2 ^ e := (Nat.le_div_iff_mul_le pp).mpr (by rw [e1]; omega)
      have hrr : ((16 : Int64) * (nI e).toInt64 + (lN (rarX lv.length (hol lv t lv.length)) * 16) / ((1 : Int64) <<< ((nI e).toInt64 &&& 63))) - 16 = lN (rar lv.length (hol lv t lv.length)) := by
        rw [sh1 e (by omega), nI_l (by omega), show (16 : Int64) = lN 16 from rfl, lN_mul, lN_mul, lN_div (by omega) (by omega), lN_add, lN_sub (by omega), er, ← e1]
      have hR := rar_le (N := lv.length) (f := hol lv t lv.length) hl12
      have hmul : rar lv.length (hol lv t lv.length) * dT x.2.2.2 t ≤ 200 * 12 := Nat.mul_le_mul hR (by omega)
      have hm9 : 900 * dL x.2.2.2 * lv.length ≤ 900 * 12 * 12 := Nat.mul_le_mul (Nat.mul_le_mul_left _ (by omega)) hl12
      have hsh : 900 * dL x.2.2.2 * lv.length / wAll lv ≤ 900 * 12 * 12 := Nat.le_trans (Nat.div_le_self _ _) hm9
      have hden : (((1000 : Int64) * lN (dT x.2.2.2 t)) + 300) + ((((900 : Int64) * (nI (dL x.2.2.2)).toInt64) * lN lv.length) / lN (wAll lv)) = lN (1000 * dT x.2.2.2 t + 300 + 900 * dL x.2.2.2 * lv.length / wAll lv) := by
        rw [nI_l (by omega), show (1000 : Int64) = lN 1000 from rfl, show (300 : Int64) = lN 300 from rfl, show (900 : Int64) = lN 900 from rfl, lN_mul, lN_mul, lN_mul, lN_div (by omega) (by omega), lN_add, lN_add]
      obtain ⟨sh, hshe⟩ : ∃ sh, sh = 900 * dL x.2.2.2 * lv.length / wAll lv := ⟨_, rfl⟩
      rw [← hshe] at hsh hden
      refine s_Mo_weightOf_100 mh_0 (fun _ => ?_) (fun _ => hlq) (fun _ => ?_) (fun _ => ?_) (fun _ => ⟨?_, rfl, rfl⟩) (fun z => absurd hexit z)
      · rw [sh1 e (by omega)]
        intro z
        have := (lN_eq (b := 0) (by omega) (by decide)).mp z
        omega
      · intro z
        have := (lN_eq (b := 0) (by omega) (by decide)).mp z
        omega
      · rw [hden]
        intro z
        have := (lN_eq (b := 0) (by omega) (by decide)).mp z
        omega
      · rw [hden, hrr, show (2200 : Int64) = lN 2200 from rfl, lN_mul, lN_mul, lN_div (by omega) (by omega)]
        unfold wtL
        rw [if_neg (by omega), if_neg (by omega), hshe]
    | succ u ih =>
      intro e he
      have pe := p12 (e + 1) (by omega)
      have hle : 2 ^ (e + 1) ≤ 2 ^ Nat.log2 (rarX lv.length (hol lv t lv.length)) := Nat.pow_le_pow_right (show 0 < 2 by decide) (by omega)
      have hno : ¬ 0 < lg_cmp ((2 : Int64) <<< ((nI e).toInt64 &&& 63)) (lN (rarX lv.length (hol lv t lv.length))) := by
        rw [sh2 e (by omega), lc_gt, lN_le (by omega) (by omega)]
        omega
      refine s_Mo_weightOf_100 (v167 := 0) mh_0 (fun z => absurd z hno) (fun z => absurd z hno) (fun z => absurd z hno) (fun z => absurd z hno) (fun z => absurd z hno) (fun _ => ?_)
      rw [nI_1]
      exact ih (e + 1) (by omega)
  -- who holds the term
  have key1 : ∀ (tl a : List PRow), rl = a ++ tl → Ev l X M_Mo_weightOf 0 0 20 [(0, .ref r), (1, .int (nI q)), (2, .long t), (4, .long (lN lv.length)), (6, .long (lN (wAll lv))), (8, .long (lN (a.countP (fun x => !x.2.2.1 && decide (0 < dT x.2.2.2 t))))), (10, .int (nI a.length))] [] n (moH B r d (nI rl.length) se st fu wr to he re we ai al) (ev_mq X (ev_pure (.long (lN (wtL lv x.2.2.2 t))) n (moH B r d (nI rl.length) se st fu wr to he re we ai al))) := by
    intro tl
    induction tl with
    | nil =>
      intro a ha
      rw [List.append_nil] at ha
      subst ha
      have hle : nI rl.length ≤ nI rl.length := (nI_leI (by omega) (by omega)).mpr (Nat.le_refl _)
      rw [rows_hol hs t]
      have c0 : lg_cmp (nI (dT x.2.2.2 t)).toInt64 0 = 0 ↔ dT x.2.2.2 t = 0 := by
        rw [nI_l (by omega)]
        exact lc_eq (b := 0) (by omega) (by decide)
      refine s_Mo_weightOf_20 (v43 := 0) mh_0 mh_7 (fun _ => htq) (fun _ z => ?_) (fun _ z => ?_) (fun _ z => ⟨?_, rfl, rfl⟩) ?_ ?_ ?_ ?_ ?_
      · rw [c0] at z
        intro y
        have hf0 : 0 < hol lv t lv.length := by
          rw [hol_cnt]
          exact List.countP_pos_iff.mpr ⟨_, hmem, by simpa using Nat.pos_of_ne_zero z⟩
        have := (lN_eq (b := 0) (by omega) (by decide)).mp y
        omega
      · rw [c0] at z
        rw [nI_l (by omega), lN_1, show (256 : Int64) = lN 256 from rfl, lN_mul, lN_div (by omega) (by omega)]
        exact key2 (Nat.pos_of_ne_zero z) _ 0 (Nat.zero_add _)
      · rw [c0] at z
        unfold wtL
        rw [if_pos z]
        rfl
      all_goals exact fun c => absurd hle c
    | cons y tl ih =>
      intro a ha
      have hll : rl.length = a.length + (tl.length + 1) := by rw [ha]; simp
      have hgt : ¬ nI rl.length ≤ nI a.length := i_ge (by omega) (by omega) (by omega)
      have ca : (nI a.length).toNatClampNeg = a.length := nI_clamp (by omega)
      have hya := hr a.length y (by rw [ha]; exact get_mid a y tl)
      have htm := c_Mo_times (l := l) (X := X) (n := n) (B := B) (r := r) (d := d) (ro := nI rl.length) (se := se) (st := st) (fu := fu) (wr := wr) (to := to) (he := he) (re := re) (we := we) (ai := ai) (al := al) (t := t) (show a.length < 80 by omega) hya.2.2.2.2.2.2.2 hya.2.2.2.1
      rw [rT_dT hya] at htm
      have hdy := dT_le y.2.2.2 t
      have hy12 := hya.2.2.2.2.2.2.2
      have hih := ih (a ++ [y]) (by rw [ha]; simp)
      rw [List.countP_append, show (a ++ [y]).length = a.length + 1 by simp] at hih
      have no : (!y.2.2.1 && decide (0 < dT y.2.2.2 t)) = false → Ev l X M_Mo_weightOf 0 0 20 [(0, .ref r), (1, .int (nI q)), (2, .long t), (4, .long (lN lv.length)), (6, .long (lN (wAll lv))), (8, .long (lN (a.countP (fun x => !x.2.2.1 && decide (0 < dT x.2.2.2 t))))), (10, .int (nI a.length + 1))] [] n (moH B r d (nI rl.length) se st fu wr to he re we ai al) (ev_mq X (ev_pure (.long (lN (wtL lv x.2.2.2 t))) n (moH B r d (nI rl.length) se st fu wr to he re we ai al))) := fun z => by
        rw [nI_1]
        simpa [List.countP_cons, z] using hih
      refine s_Mo_weightOf_20 (v69 := 0) (v43 := nI (dT y.2.2.2 t)) mh_0 mh_7 (fun c => absurd c hgt) (fun c => absurd c hgt) (fun c => absurd c hgt) (fun c => absurd c hgt) (fun _ => vp_in_nI (by omega) (by decide)) (fun _ z => no ?_) (fun _ _ => htm) (fun _ _ z => no ?_) (fun _ y1 z => ?_)
      · rw [ca, hya.2.2.1] at z
        rw [bI_n0 z]
        rfl
      · have : dT y.2.2.2 t = 0 := by
          have := (nI_leI (b := 0) (by omega) (by decide)).mp z
          omega
        rw [this]
        simp
      · rw [ca, hya.2.2.1] at y1
        have hp : 0 < dT y.2.2.2 t := Nat.pos_of_ne_zero fun e => z (by rw [e]; decide)
        have e1 : (!y.2.2.1 && decide (0 < dT y.2.2.2 t)) = true := by rw [bI_1.mp y1]; simp [hp]
        rw [nI_1, lN_1]
        simpa [List.countP_cons, e1] using hih
  refine Cal.of (by decide) (Nat.le_of_ble_eq_true rfl) (s_Mo_weightOf_0 mh_0 (c_Mo_liveL hr hs h80) (c_Mo_lengthsL hr hs h80) ?_)
  rw [nI_l (by omega), nI_l (by omega)]
  exact key1 rl [] rfl
end MoQ
