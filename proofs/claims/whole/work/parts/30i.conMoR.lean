/-! the reference: bounds, sums, the k-th -/
/-- the largest weight of a term among rows -/
def bR (lv : List Doc) (t : Int64) (a : List PRow) : Nat := a.foldl (fun m x => max m (if x.2.2.1 then 0 else wtL lv x.2.2.2 t)) 0
theorem bR_app (lv : List Doc) (t : Int64) (a : List PRow) (x : PRow) : bR lv t (a ++ [x]) = max (bR lv t a) (if x.2.2.1 then 0 else wtL lv x.2.2.2 t) := by simp [bR]
theorem bR_le (lv : List Doc) (t : Int64) (b : Nat) (a : List PRow) : bR lv t a ≤ b ↔ ∀ x ∈ a, x.2.2.1 = false → wtL lv x.2.2.2 t ≤ b := by
  induction a using rev_ind with
  | h0 => simp [bR]
  | h1 a x ih =>
    rw [bR_app, Nat.max_le, ih]
    constructor
    · rintro ⟨h1, h2⟩ y hy hl
      rcases List.mem_append.mp hy with hy | hy
      · exact h1 y hy hl
      · rw [List.mem_singleton] at hy
        subst hy
        rw [hl] at h2
        simpa using h2
    · intro h
      refine ⟨fun y hy hl => h y (by simp [hy]) hl, ?_⟩
      cases hl : x.2.2.1 with
      | true => simp
      | false => simpa using h x (by simp) hl
theorem bdL_iff (lv : List Doc) (t : Int64) (b : Nat) : ∀ k, k ≤ lv.length → (bdL lv t k ≤ b ↔ ∀ i, i < k → wtL lv (dAt lv i).2 t ≤ b)
  | 0, _ => by simp [bdL]
  | k + 1, h => by
    unfold bdL
    rw [Nat.max_le, bdL_iff lv t b k (by omega)]
    constructor
    · rintro ⟨h1, h2⟩ i hi
      by_cases e : i = k
      · subst e; exact h2
      · exact h1 i (by omega)
    · intro h
      exact ⟨fun i hi => h i (by omega), h k (by omega)⟩
theorem bR_bd {sg : List Seg} {lv : List Doc} {rl : List PRow} (hs : shR sg lv rl) (t : Int64) : bR lv t rl = bdL lv t lv.length := by
  have key : ∀ b, bR lv t rl ≤ b ↔ bdL lv t lv.length ≤ b := fun b => by
    rw [bR_le, bdL_iff lv t b _ (Nat.le_refl _)]
    constructor
    · intro h i hi
      have hm : dAt lv i ∈ lv := by
        have := dAt_g hi
        exact List.mem_of_getElem? this
      obtain ⟨x, hx, a, -, c⟩ := liv_mem.mp (hs.2.1.mem_iff.mpr hm)
      rw [← c]
      exact h x hx a
    · intro h x hx hl
      obtain ⟨i, hi, e⟩ := dAt_of (hs.2.1.mem_iff.mp ((liv_mem (d := (x.1, x.2.2.2))).mpr ⟨x, hx, hl, rfl, rfl⟩))
      have := h i hi
      rw [e] at this
      exact this
  exact Nat.le_antisymm ((key _).mpr (Nat.le_refl _)) ((key _).mp (Nat.le_refl _))
/-- what is taken, with its weight, as a list by rising ids -/
def lO (f : Nat → Option Nat) (k : Nat) : List (Nat × Nat) := (List.range k).filterMap (fun i => (f i).map (fun w => (i, w)))
theorem lO_s (f : Nat → Option Nat) (k : Nat) : lO f (k + 1) = lO f k ++ ((f k).map (fun w => (k, w))).toList := by
  unfold lO
  rw [List.range_succ, List.filterMap_append]
  congr 1
theorem lO_cn (f : Nat → Option Nat) (p : Nat → Bool) : ∀ k, cn (fun q => (f q).any p) k = (lO f k).countP (fun y => p y.2)
  | 0 => rfl
  | k + 1 => by
    have ih := lO_cn f p k
    rw [lO_s, List.countP_append, ← ih]
    show cn (fun q => (f q).any p) k + (if (f k).any p then 1 else 0) = cn (fun q => (f q).any p) k + _
    congr 1
    cases f k with
    | none => rfl
    | some w => simp [List.countP_cons]
theorem lO_asc (f : Nat → Option Nat) : ∀ k, (lO f k).Pairwise (fun a b => a.1 < b.1) ∧ ∀ y ∈ lO f k, y.1 < k
  | 0 => ⟨List.Pairwise.nil, fun y hy => by simp [lO] at hy⟩
  | k + 1 => by
    obtain ⟨h1, h2⟩ := lO_asc f k
    rw [lO_s]
    cases hf : f k with
    | none =>
      simp only [Option.map_none, Option.toList_none, List.append_nil]
      exact ⟨h1, fun y hy => by have := h2 y hy; omega⟩
    | some w =>
      simp only [Option.map_some, Option.toList_some]
      constructor
      · rw [List.pairwise_append]
        refine ⟨h1, by simp, fun a ha b hb => ?_⟩
        rw [List.mem_singleton] at hb
        subst hb
        exact h2 a ha
      · intro y hy
        rcases List.mem_append.mp hy with hy | hy
        · have := h2 y hy; omega
        · rw [List.mem_singleton] at hy
          subst hy
          simp
theorem lO_none {f : Nat → Option Nat} {k : Nat} (h : ∀ q, k ≤ q → f q = none) : ∀ u, lO f (k + u) = lO f k
  | 0 => rfl
  | u + 1 => by
    show lO f (k + u + 1) = _
    rw [lO_s, h (k + u) (by omega), lO_none h u]
    simp
theorem lO_congr {f g : Nat → Option Nat} : ∀ {k : Nat}, (∀ q, q < k → f q = g q) → lO f k = lO g k
  | 0, _ => rfl
  | k + 1, h => by rw [lO_s, lO_s, lO_congr (k := k) (fun q hq => h q (by omega)), h k (by omega)]
theorem lO_mem {f : Nat → Option Nat} {k j w : Nat} : (j, w) ∈ lO f k ↔ j < k ∧ f j = some w := by
  unfold lO
  rw [List.mem_filterMap]
  constructor
  · rintro ⟨i, hi, e⟩
    rw [List.mem_range] at hi
    cases hf : f i with
    | none => rw [hf] at e; cases e
    | some v =>
      rw [hf] at e
      simp at e
      obtain ⟨e1, e2⟩ := e
      subst e1
      subst e2
      exact ⟨hi, hf⟩
  · rintro ⟨h1, h2⟩
    exact ⟨j, List.mem_range.mpr h1, by rw [h2]; rfl⟩
theorem kthL_app (l : List (Nat × Nat)) (k : Nat) (x : Nat × Nat) : ∀ (a : List (Nat × Nat)) (z : Nat), kthL l k (a ++ [x]) z = if abv l x.2 < k ∧ k ≤ abv l x.2 + sam l x.2 then x.2 else kthL l k a z
  | [], z => rfl
  | y :: a, z => by
    rw [List.cons_append]
    show kthL l k (a ++ [x]) _ = _
    rw [kthL_app l k x a]
    rfl
/-- what is taken and its weights, in cells -/
def tkW (ai : Nat → Nat → Int32) (al : Nat → Nat → Int64) (f : Nat → Option Nat) : Prop := ∀ q, q < 12 → ai 19 q = bI (f q).isSome ∧ ∀ w, f q = some w → al 18 q = lN w ∧ w < 2 ^ 30
section MoR
variable {l : Launch} {X : ev_X} {n : Nat} {B : ev_H} {r : Nat} {d ro se st fu wr to he re we : Int32} {ai : Nat → Nat → Int32} {al : Nat → Nat → Int64}
theorem c_Mo_bound {sg : List Seg} {lv : List Doc} {rl : List PRow} {t : Int64} (hr : rwR ai al rl) (hs : shR sg lv rl) (h80 : rl.length ≤ 80) : Cal l X M_Mo_bound 0 0 [.ref r, .long t] n (moH B r d (nI rl.length) se st fu wr to he re we ai al) (ev_pure (.long (lN (bdL lv t lv.length))) n (moH B r d (nI rl.length) se st fu wr to he re we ai al)) := by
  have hlv := lv_12 hs
  have hl12 : lv.length ≤ 12 := asc_len hs.2.2.1 (fun y hy => (hlv y hy).1)
  have hb : ∀ a, (∀ x ∈ a, x ∈ rl) → bR lv t a ≤ 5280000 := fun a ha => (bR_le lv t _ a).mpr fun x hx _ => wtL_le hl12 (hs.2.2.2 x (ha x hx)).2
  have key : ∀ (tl a : List PRow), rl = a ++ tl → Ev l X M_Mo_bound 0 0 5 [(0, .ref r), (1, .long t), (3, .long (lN (bR lv t a))), (5, .int (nI a.length))] [] n (moH B r d (nI rl.length) se st fu wr to he re we ai al) (ev_mq X (ev_pure (.long (lN (bdL lv t lv.length))) n (moH B r d (nI rl.length) se st fu wr to he re we ai al))) := by
    intro tl
    induction tl with
    | nil =>
      intro a ha
      rw [List.append_nil] at ha
      subst ha
      have hle : nI rl.length ≤ nI rl.length := (nI_leI (by omega) (by omega)).mpr (Nat.le_refl _)
      refine s_Mo_bound_5 (v32 := 0) mh_0 mh_7 (fun _ => ⟨by rw [bR_bd hs], rfl, rfl⟩) ?_ ?_ ?_ ?_ ?_ ?_
      all_goals exact fun c => absurd hle c
    | cons y tl ih =>
      intro a ha
      have hll : rl.length = a.length + (tl.length + 1) := by rw [ha]; simp
      have hgt : ¬ nI rl.length ≤ nI a.length := i_ge (by omega) (by omega) (by omega)
      have ca : (nI a.length).toNatClampNeg = a.length := nI_clamp (by omega)
      have hy : rl[a.length]? = some y := by rw [ha]; exact get_mid a y tl
      have hya := hr a.length y hy
      have hba := hb a (fun x hx => by rw [ha]; simp [hx])
      have hwy := wtL_le (lv := lv) (t := t) hl12 hya.2.2.2.2.2.2.2
      have hih := ih (a ++ [y]) (by rw [ha]; simp)
      rw [bR_app, show (a ++ [y]).length = a.length + 1 by simp] at hih
      refine s_Mo_bound_5 (v32 := lN (wtL lv y.2.2.2 t)) mh_0 mh_7 (fun c => absurd c hgt) (fun _ => vp_in_nI (by omega) (by decide)) (fun _ c => ?_) (fun _ c e => ?_) (fun _ c e => ?_) (fun _ c e => ?_) (fun _ c e => ?_)
      · rw [ca, hya.2.2.1] at c
        exact c_Mo_weightOf hr hs h80 hy (bI_1.mp c)
      · rw [ca, hya.2.2.1] at c
        rw [lc_le, lN_le (by omega) (by omega)] at e
        rw [bI_1.mp c, if_neg (by decide), Nat.max_eq_left e] at hih
        rw [nI_1]
        exact hih
      · rw [ca, hya.2.2.1] at c
        rw [lc_le, lN_le (by omega) (by omega)] at e
        rw [bI_1.mp c, if_neg (by decide), Nat.max_eq_right (by omega)] at hih
        rw [nI_1]
        exact hih
      · rw [ca, hya.2.2.1] at c
        rw [bI_n0 c, if_pos rfl, Nat.max_zero] at hih
        rw [nI_1]
        exact hih
      · exfalso
        apply e
        rw [lc_le]
        exact (lN_le (a := 0) (by decide) (by omega)).mpr (Nat.zero_le _)
  exact Cal.of (by decide) (Nat.le_of_ble_eq_true rfl) (s_Mo_bound_0 (key rl [] rfl))
/-- the sum of a document: of weights, or of bounds; -1 when it has no term of the bag -/
def smA (lv : List Doc) (row ts : List Int64) (bb : Bool) : Int64 := if hasT row ts then lN (if bb then sumB lv row ts else sumW lv row ts) else -1
theorem c_Mo_sum {sg : List Seg} {lv : List Doc} {rl : List PRow} {q : Nat} {x : PRow} {row : List Int64} (bb : Bool) (hr : rwR ai al rl) (hs : shR sg lv rl) (h80 : rl.length ≤ 80) (hx : rl[q]? = some x) (hl : x.2.2.1 = false) (hrow : ∀ j, j < row.length → al 11 j = tg row j) (h8 : row.length ≤ 8) : Cal l X M_Mo_sum 0 0 [.ref r, .int (nI q), .int (bI bb)] n (moH B r d (nI rl.length) se st fu wr (nI row.length) he re we ai al) (ev_pure (.long (smA lv row x.2.2.2 bb)) n (moH B r d (nI rl.length) se st fu wr (nI row.length) he re we ai al)) := by
  have hxa := hr q x hx
  have hq : q < rl.length := (List.getElem?_eq_some_iff.mp hx).1
  have h12 := hxa.2.2.2.2.2.2.2
  have efin : smA lv row x.2.2.2 bb = if hasK row x.2.2.2 row.length then lN ((row.take row.length).map (fun t => if 0 < dT x.2.2.2 t then (if bb then bdL lv t lv.length else wtL lv x.2.2.2 t) else 0)).sum else -1 := by
    unfold smA
    rw [hasK_T _ (Nat.le_refl _), List.take_length]
    cases bb <;> rfl
  have key : ∀ (u k : Nat), k + u = row.length → Ev l X M_Mo_sum 0 0 8 [(0, .ref r), (1, .int (nI q)), (2, .int (bI bb)), (3, .long (lN ((row.take k).map (fun t => if 0 < dT x.2.2.2 t then (if bb then bdL lv t lv.length else wtL lv x.2.2.2 t) else 0)).sum)), (5, .int (bI (hasK row x.2.2.2 k))), (6, .int (nI k))] [] n (moH B r d (nI rl.length) se st fu wr (nI row.length) he re we ai al) (ev_mq X (ev_pure (.long (smA lv row x.2.2.2 bb)) n (moH B r d (nI rl.length) se st fu wr (nI row.length) he re we ai al))) := by
    intro u
    induction u with
    | zero =>
      intro k hk
      have e1 : k = row.length := by omega
      subst e1
      have hle : nI row.length ≤ nI row.length := (nI_leI (by omega) (by omega)).mpr (Nat.le_refl _)
      refine s_Mo_sum_8 (v26 := 0) (v63 := 0) (v48 := 0) mh_0 mh_11 (fun _ a => ⟨?_, rfl, rfl⟩) (fun _ a => ⟨?_, rfl, rfl⟩) ?_ ?_ ?_ ?_ ?_ ?_ ?_ ?_ ?_
      · rw [efin, bI_1.mp a]
        rfl
      · rw [efin, bI_n0 a]
        rfl
      all_goals exact fun c => absurd hle c
    | succ u ih =>
      intro k hk
      have hgt : ¬ nI row.length ≤ nI k := i_ge (by omega) (by omega) (by omega)
      have ck : (nI k).toNatClampNeg = k := nI_clamp (by omega)
      have ink : vp_in (nI k) 520 := vp_in_nI (by omega) (by decide)
      have ek := hrow k (by omega)
      have hih := ih (k + 1) (by omega)
      rw [sum_take _ (show k < row.length by omega)] at hih
      have eh : hasK row x.2.2.2 (k + 1) = (hasK row x.2.2.2 k || decide (0 < dT x.2.2.2 (tg row k))) := rfl
      rw [eh] at hih
      have htm := c_Mo_times (l := l) (X := X) (n := n) (B := B) (r := r) (d := d) (ro := nI rl.length) (se := se) (st := st) (fu := fu) (wr := wr) (to := nI row.length) (he := he) (re := re) (we := we) (ai := ai) (al := al) (t := tg row k) (show q < 80 by omega) h12 hxa.2.2.2.1
      rw [rT_dT hxa] at htm
      have hdt := dT_le x.2.2.2 (tg row k)
      refine s_Mo_sum_8 (v26 := nI (dT x.2.2.2 (tg row k))) (v63 := lN (wtL lv x.2.2.2 (tg row k))) (v48 := lN (bdL lv (tg row k) lv.length)) mh_0 mh_11 (fun c => absurd c hgt) (fun c => absurd c hgt) (fun _ => ink) (fun _ => by rw [ck, ek]; exact htm) (fun _ a => ?_) (fun _ _ _ => ink) (fun _ _ _ => by rw [ck, ek]; exact c_Mo_weightOf hr hs h80 hx hl) (fun _ a c => ?_) (fun _ _ _ => ink) (fun _ _ _ => by rw [ck, ek]; exact c_Mo_bound hr hs h80) (fun _ a c => ?_)
      · have z : ¬ 0 < dT x.2.2.2 (tg row k) := fun z => by
          have := (nI_leI (b := 0) (by omega) (by decide)).mp a
          omega
        rw [if_neg z, decide_eq_false z, Bool.or_false, Nat.add_zero] at hih
        rw [nI_1]
        exact hih
      · have z : 0 < dT x.2.2.2 (tg row k) := Nat.pos_of_ne_zero fun z => a (by rw [z]; decide)
        rw [if_pos z, decide_eq_true z, Bool.or_true, bI_1.mp c, if_neg (by decide)] at hih
        rw [nI_1, lN_add, bI_1.mp c]
        exact hih
      · have z : 0 < dT x.2.2.2 (tg row k) := Nat.pos_of_ne_zero fun z => a (by rw [z]; decide)
        rw [if_pos z, decide_eq_true z, Bool.or_true, bI_n0 c, if_pos rfl] at hih
        rw [nI_1, lN_add, bI_n0 c]
        exact hih
  exact Cal.of (by decide) (Nat.le_of_ble_eq_true rfl) (s_Mo_sum_0 (key row.length 0 (by omega)))
theorem c_Mo_least {K : Nat} {f : Nat → Option Nat} (ht : tkW ai al f) (hK : K ≤ 12) : Cal l X M_Mo_least 0 0 [.ref r, .int (nI K)] n (moH B r d ro se st fu wr to he re we ai al) (ev_pure (.long (lN (kthL (lO f 12) K (lO f 12) 0))) n (moH B r d ro se st fu wr to he re we ai al)) := by
  have key : ∀ (u i : Nat), i + u = 12 → Ev l X M_Mo_least 0 0 5 [(0, .ref r), (1, .int (nI K)), (2, .long (lN (kthL (lO f 12) K (lO f i) 0))), (4, .int (nI i))] [] n (moH B r d ro se st fu wr to he re we ai al) (ev_mq X (ev_pure (.long (lN (kthL (lO f 12) K (lO f 12) 0))) n (moH B r d ro se st fu wr to he re we ai al))) := by
    intro u
    induction u with
    | zero =>
      intro i hi
      have e1 : i = 12 := by omega
      subst e1
      exact s_Mo_least_5 (fun _ => ⟨rfl, rfl, rfl⟩) (fun c => absurd (by decide) c)
    | succ u ih =>
      intro i hi
      have hgt : ¬ (12 : Int32) ≤ nI i := i_ge (a := 12) (by decide) (by omega) (by omega)
      have ci : (nI i).toNatClampNeg = i := nI_clamp (by omega)
      have ini : vp_in (nI i) 12 := vp_in_nI (by omega) (by decide)
      obtain ⟨t1, t2⟩ := ht i (by omega)
      have hih := ih (i + 1) (by omega)
      rw [lO_s f i] at hih
      -- the counts
      have inner : ∀ (v j : Nat), j + v = 12 → Ev l X M_Mo_least 0 0 21 [(0, .ref r), (1, .int (nI K)), (2, .long (lN (kthL (lO f 12) K (lO f i) 0))), (4, .int (nI i)), (5, .int (nI (cn (fun q => (f i).any (fun w => (f q).any (fun y => decide (w < y)))) j))), (6, .int (nI (cn (fun q => (f i).any (fun w => (f q).any (fun y => y == w))) j))), (7, .int (nI j))] [] n (moH B r d ro se st fu wr to he re we ai al) (ev_mq X (ev_pure (.long (lN (kthL (lO f 12) K (lO f 12) 0))) n (moH B r d ro se st fu wr to he re we ai al))) := by
        intro v
        induction v with
        | zero =>
          intro j hj
          have e1 : j = 12 := by omega
          subst e1
          have a12 := cn_le (fun q => (f i).any (fun w => (f q).any (fun y => decide (w < y)))) 12
          have s12 := cn_le (fun q => (f i).any (fun w => (f q).any (fun y => y == w))) 12
          cases hf : f i with
          | none =>
            rw [hf] at hih t1
            simp only [Option.map_none, Option.toList_none, List.append_nil] at hih
            have z : ai 19 (nI i).toNatClampNeg = 0 := by rw [ci, t1]; rfl
            refine s_Mo_least_21 mh_0 mh_19 mh_18 (fun _ => ini) (fun _ _ => by rw [nI_1]; exact hih) (fun _ c => absurd z c) (fun _ c => absurd z c) (fun _ c => absurd z c) (fun _ c => absurd z c) ?_ ?_ ?_ ?_ ?_ ?_ ?_ ?_
            all_goals exact fun c => absurd (by decide) c
          | some w =>
            rw [hf] at hih t1 a12 s12
            obtain ⟨w1, w2⟩ := t2 w hf
            simp only [Option.map_some, Option.toList_some] at hih
            rw [kthL_app] at hih
            have ea : cn (fun q => (some w).any (fun w => (f q).any (fun y => decide (w < y)))) 12 = abv (lO f 12) w := lO_cn f (fun y => decide (w < y)) 12
            have es : cn (fun q => (some w).any (fun w => (f q).any (fun y => y == w))) 12 = sam (lO f 12) w := lO_cn f (fun y => y == w) 12
            have z : ¬ ai 19 (nI i).toNatClampNeg = 0 := by rw [ci, t1]; exact bI_ne rfl
            rw [ea] at a12 ⊢
            rw [es] at s12 ⊢
            simp only at hih
            refine s_Mo_least_21 mh_0 mh_19 mh_18 (fun _ => ini) (fun _ c => absurd c z) (fun _ _ c => ?_) (fun _ _ c e => ?_) (fun _ _ _ _ => ini) (fun _ _ c e => ?_) ?_ ?_ ?_ ?_ ?_ ?_ ?_ ?_
            · have := (nI_leI (by omega) (by omega)).mp c
              rw [if_neg (by omega)] at hih
              rw [nI_1]
              exact hih
            · rw [nI_add] at e
              have := (nI_ltI (by omega) (by omega)).mp e
              rw [if_neg (by omega)] at hih
              rw [nI_1]
              exact hih
            · have c1 : ¬ K ≤ abv (lO f 12) w := fun z => c ((nI_leI (by omega) (by omega)).mpr z)
              rw [nI_add] at e
              have e1 : ¬ abv (lO f 12) w + sam (lO f 12) w < K := fun z => e ((nI_ltI (by omega) (by omega)).mpr z)
              rw [if_pos (by omega)] at hih
              rw [nI_1, ci, w1]
              exact hih
            all_goals exact fun c => absurd (by decide) c
        | succ v ihv =>
          intro j hj
          have hgt2 : ¬ (12 : Int32) ≤ nI j := i_ge (a := 12) (by decide) (by omega) (by omega)
          have cj : (nI j).toNatClampNeg = j := nI_clamp (by omega)
          have inj : vp_in (nI j) 12 := vp_in_nI (by omega) (by decide)
          obtain ⟨j1, j2⟩ := ht j (by omega)
          have hiv := ihv (j + 1) (by omega)
          have g124 : ∀ (i6 : Int32) (A S : Nat), A = cn (fun q => (f i).any (fun w => (f q).any (fun y => decide (w < y)))) (j + 1) → S = cn (fun q => (f i).any (fun w => (f q).any (fun y => y == w))) (j + 1) → Ev l X M_Mo_least 0 0 124 [(0, .ref r), (1, .int (nI K)), (2, .long (lN (kthL (lO f 12) K (lO f i) 0))), (4, .int (nI i)), (5, .int (nI A)), (6, .int i6), (7, .int (nI j))] [.int (nI S)] n (moH B r d ro se st fu wr to he re we ai al) (ev_mq X (ev_pure (.long (lN (kthL (lO f 12) K (lO f 12) 0))) n (moH B r d ro se st fu wr to he re we ai al))) := by
            intro i6 A S hA hS
            refine s_Mo_least_124 ?_
            rw [nI_1, hA, hS]
            exact hiv
          have g75 : ∀ (i5 : Int32) (A : Nat), A = cn (fun q => (f i).any (fun w => (f q).any (fun y => decide (w < y)))) (j + 1) → Ev l X M_Mo_least 0 0 75 [(0, .ref r), (1, .int (nI K)), (2, .long (lN (kthL (lO f 12) K (lO f i) 0))), (4, .int (nI i)), (5, .int i5), (6, .int (nI (cn (fun q => (f i).any (fun w => (f q).any (fun y => y == w))) j))), (7, .int (nI j))] [.int (nI A)] n (moH B r d ro se st fu wr to he re we ai al) (ev_mq X (ev_pure (.long (lN (kthL (lO f 12) K (lO f 12) 0))) n (moH B r d ro se st fu wr to he re we ai al))) := by
            intro i5 A hA
            refine s_Mo_least_75 mh_0 mh_19 mh_18 inj (fun c => ?_) (fun _ => ini) (fun c e => ?_) (fun _ _ => inj) (fun _ _ => ini) (fun c e g => ?_) (fun c e g => ?_)
            · rw [cj, j1] at c
              have z : f j = none := by simpa using bI_1.mp c
              exact g124 _ _ _ hA (by rw [cn_n]; rw [z]; cases f i <;> rfl)
            · rw [ci, t1] at e
              have z : f i = none := by simpa using bI_1.mp e
              exact g124 _ _ _ hA (by rw [cn_n]; rw [z]; rfl)
            · rw [cj, j1] at c
              rw [ci, t1] at e
              obtain ⟨y, hy⟩ := Option.isSome_iff_exists.mp (bI_n0 c)
              obtain ⟨w, hw⟩ := Option.isSome_iff_exists.mp (bI_n0 e)
              rw [cj, ci, (j2 y hy).1, (t2 w hw).1] at g
              have : ¬ y = w := fun z => g (by rw [z]; exact (lg_cmp_eq _ _).mpr rfl)
              exact g124 _ _ _ hA (by rw [cn_n]; rw [hy, hw]; simpa using this)
            · rw [cj, j1] at c
              rw [ci, t1] at e
              obtain ⟨y, hy⟩ := Option.isSome_iff_exists.mp (bI_n0 c)
              obtain ⟨w, hw⟩ := Option.isSome_iff_exists.mp (bI_n0 e)
              obtain ⟨y1, y2⟩ := j2 y hy
              obtain ⟨w1, w2⟩ := t2 w hw
              rw [cj, ci, y1, w1, lg_cmp_eq, lN_eq (by omega) (by omega)] at g
              rw [nI_1]
              exact g124 _ _ _ hA (by rw [cn_y]; rw [hy, hw]; simpa using g)
          refine s_Mo_least_21 mh_0 mh_19 mh_18 (fun c => absurd c hgt2) (fun c => absurd c hgt2) (fun c => absurd c hgt2) (fun c => absurd c hgt2) (fun c => absurd c hgt2) (fun c => absurd c hgt2) (fun _ => inj) (fun _ c => ?_) (fun _ _ => ini) (fun _ c e => ?_) (fun _ _ _ => inj) (fun _ _ _ => ini) (fun _ c e g => ?_) (fun _ c e g => ?_)
          · rw [cj, j1] at c
            have z : f j = none := by simpa using bI_1.mp c
            exact g75 _ _ (by rw [cn_n]; rw [z]; cases f i <;> rfl)
          · rw [ci, t1] at e
            have z : f i = none := by simpa using bI_1.mp e
            exact g75 _ _ (by rw [cn_n]; rw [z]; rfl)
          · rw [cj, j1] at c
            rw [ci, t1] at e
            obtain ⟨y, hy⟩ := Option.isSome_iff_exists.mp (bI_n0 c)
            obtain ⟨w, hw⟩ := Option.isSome_iff_exists.mp (bI_n0 e)
            obtain ⟨y1, y2⟩ := j2 y hy
            obtain ⟨w1, w2⟩ := t2 w hw
            rw [cj, ci, y1, w1, lc_le, lN_le (by omega) (by omega)] at g
            exact g75 _ _ (by rw [cn_n]; rw [hy, hw]; simpa using g)
          · rw [cj, j1] at c
            rw [ci, t1] at e
            obtain ⟨y, hy⟩ := Option.isSome_iff_exists.mp (bI_n0 c)
            obtain ⟨w, hw⟩ := Option.isSome_iff_exists.mp (bI_n0 e)
            obtain ⟨y1, y2⟩ := j2 y hy
            obtain ⟨w1, w2⟩ := t2 w hw
            rw [cj, ci, y1, w1, lc_le, lN_le (by omega) (by omega)] at g
            rw [nI_1]
            exact g75 _ _ (by rw [cn_y]; rw [hy, hw]; simpa using (show w < y by omega))
      exact s_Mo_least_5 (fun c => absurd c hgt) (fun _ => inner 12 0 (by omega))
  exact Cal.of (by decide) (Nat.le_of_ble_eq_true rfl) (s_Mo_least_0 (key 12 0 (by omega)))
end MoR
