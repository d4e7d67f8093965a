/-! pure: two segments are joined; what is pending -/
def livS (y : Seg) : List Doc := y.1.filter (fun d => !y.2.testBit d.1)
def joS (A : List Seg) (J : List Doc) (B : List Seg) : List Seg := if J = [] then A ++ B else A ++ (J, 0) :: B
/-- what stays, with its new segment, and then the numbers of those behind -/
def jf1 (i : Nat) (x : PRow) : Option PRow := if x.2.1 = i ∨ x.2.1 = i + 1 then (if x.2.2.1 then none else some (x.1, i, x.2.2.1, x.2.2.2)) else some x
def jf2 (i less : Nat) (x : PRow) : PRow := (x.1, if i + 1 < x.2.1 then x.2.1 - less else x.2.1, x.2.2.1, x.2.2.2)
def jfR (i less : Nat) (rl : List PRow) : List PRow := (rl.filterMap (jf1 i)).map (jf2 i less)
theorem jf_lo (i less : Nat) : ∀ rl : List PRow, (∀ x ∈ rl, x.2.1 < i) → jfR i less rl = rl
  | [], _ => rfl
  | x :: t, h => by
    have hx := h x (by simp)
    have ih := jf_lo i less t (fun y hy => h y (by simp [hy]))
    unfold jfR at ih ⊢
    have e : jf1 i x = some x := if_neg (by omega)
    have e2 : jf2 i less x = x := by unfold jf2; rw [if_neg (by omega)]
    rw [List.filterMap_cons, e]
    simp only [List.map_cons, ih, e2]
theorem jf_hi (i less : Nat) (h2 : less ≤ 2) : ∀ (sg : List Seg) (s : Nat), i + 2 ≤ s → jfR i less (gRw s sg) = gRw (s - less) sg
  | [], _, _ => rfl
  | y :: t, s, hs => by
    have ih := jf_hi i less h2 t (s + 1) (by omega)
    have ea : ∀ a b : List PRow, jfR i less (a ++ b) = jfR i less a ++ jfR i less b := fun a b => by simp [jfR, List.filterMap_append]
    simp only [gRw]
    rw [ea, ih, show s + 1 - less = s - less + 1 by omega]
    congr 1
    unfold jfR sRw
    rw [List.filterMap_map]
    have e : (jf1 i ∘ fun d : Doc => ((d.1, s, y.2.testBit d.1, d.2) : PRow)) = fun d => some (d.1, s, y.2.testBit d.1, d.2) := by
      funext d
      exact if_neg (by simp only; omega)
    rw [e]
    have e3 : ∀ l : List Doc, List.filterMap (fun d : Doc => some ((d.1, s, y.2.testBit d.1, d.2) : PRow)) l = l.map (fun d => (d.1, s, y.2.testBit d.1, d.2)) := fun l => by
      rw [← List.filterMap_eq_map]
      rfl
    rw [e3, List.map_map]
    congr 1
    funext d
    show jf2 i less _ = _
    unfold jf2
    simp only
    rw [if_pos (by omega)]
theorem jf_he (i less s : Nat) (y : Seg) (hs : s = i ∨ s = i + 1) : jfR i less (sRw s y) = sRw i (livS y, 0) := by
  obtain ⟨ds, m⟩ := y
  unfold jfR sRw livS
  simp only
  induction ds with
  | nil => rfl
  | cons d t ih =>
    rw [List.map_cons, List.filterMap_cons, List.filter_cons]
    by_cases g : m.testBit d.1 = true
    · have e : jf1 i ((d.1, s, m.testBit d.1, d.2) : PRow) = none := by
        unfold jf1
        rw [if_pos (by simpa using hs)]
        simp [g]
      rw [e, g]
      exact ih
    · have g' : m.testBit d.1 = false := by simpa using g
      have e : jf1 i ((d.1, s, m.testBit d.1, d.2) : PRow) = some (d.1, i, false, d.2) := by
        unfold jf1
        rw [if_pos (by simpa using hs)]
        simp [g']
      rw [e, g']
      simp only [Bool.not_false, if_true, List.map_cons]
      rw [← ih]
      congr 1
      unfold jf2
      simp
      omega
theorem jf_all {A B : List Seg} {y1 y2 : Seg} {less : Nat} (hl : less = if livS y1 ++ livS y2 = [] then 2 else 1) : jfR A.length less (gRw 0 (A ++ y1 :: y2 :: B)) = gRw 0 (joS A (livS y1 ++ livS y2) B) := by
  have ea : ∀ a b : List PRow, jfR A.length less (a ++ b) = jfR A.length less a ++ jfR A.length less b := fun a b => by simp [jfR, List.filterMap_append]
  have h2 : less ≤ 2 := by rw [hl]; split <;> omega
  rw [gRw_app, ea, jf_lo _ _ _ (fun x hx => by have := gRw_seg A 0 x hx; omega)]
  simp only [gRw]
  rw [ea, ea, jf_he _ _ _ _ (by omega), jf_he _ _ _ _ (by omega), jf_hi _ _ h2 _ _ (by omega)]
  unfold joS
  by_cases g : livS y1 ++ livS y2 = []
  · rw [if_pos g] at hl ⊢
    obtain ⟨g1, g2⟩ := List.append_eq_nil_iff.mp g
    rw [gRw_app, g1, g2]
    simp [sRw, hl]
  · rw [if_neg g] at hl ⊢
    rw [gRw_app]
    simp only [gRw]
    rw [show 0 + A.length + 1 + 1 - less = 0 + A.length + 1 by omega]
    simp [sRw]
theorem jf_liv (i less : Nat) : ∀ rl : List PRow, liv (jfR i less rl) = liv rl
  | [] => rfl
  | x :: t => by
    have ih := jf_liv i less t
    unfold liv jfR at ih ⊢
    rw [List.filterMap_cons, List.filterMap_cons]
    by_cases g : x.2.1 = i ∨ x.2.1 = i + 1
    · by_cases g2 : x.2.2.1 = true
      · simp [jf1, g, g2, ih, liv1]
      · simp [jf1, g, g2, ih, liv1, jf2]
    · by_cases g2 : x.2.2.1 = true
      · simp [jf1, g, g2, ih, liv1, jf2]
      · simp [jf1, g, g2, ih, liv1, jf2]
theorem shR_jo {A B : List Seg} {y1 y2 : Seg} {lv : List Doc} {rl : List PRow} {less : Nat} (h : shR (A ++ y1 :: y2 :: B) lv rl) (hl : less = if livS y1 ++ livS y2 = [] then 2 else 1) : shR (joS A (livS y1 ++ livS y2) B) lv (jfR A.length less rl) := by
  obtain ⟨h1, h2, h3, h4⟩ := h
  refine ⟨?_, ?_, h3, ?_⟩
  · rw [← jf_all hl]
    exact (h1.filterMap _).map _
  · rw [jf_liv]
    exact h2
  · intro x hx
    unfold jfR at hx
    rw [List.mem_map] at hx
    obtain ⟨y, hy, rfl⟩ := hx
    rw [List.mem_filterMap] at hy
    obtain ⟨z, hz, e⟩ := hy
    have hz4 := h4 z hz
    unfold jf1 at e
    split at e
    · split at e
      · cases e
      · cases e
        exact hz4
    · cases e
      exact hz4
/-- how many live rows stand in the two segments -/
def here (i : Nat) (x : PRow) : Bool := decide (x.2.1 = i ∨ x.2.1 = i + 1) && !x.2.2.1
theorem here_s (i s : Nat) (y : Seg) (hs : s = i ∨ s = i + 1) : (sRw s y).countP (here i) = (livS y).length := by
  obtain ⟨ds, m⟩ := y
  unfold sRw livS
  rw [List.countP_map, ← List.countP_eq_length_filter]
  apply List.countP_congr
  intro d _
  simp [here, hs]
theorem here_o (i : Nat) (l : List PRow) (h : ∀ x ∈ l, x.2.1 < i ∨ i + 1 < x.2.1) : l.countP (here i) = 0 := by
  rw [List.countP_eq_zero]
  intro x hx
  have := h x hx
  simp [here]
  omega
theorem here_cnt {A B : List Seg} {y1 y2 : Seg} {lv : List Doc} {rl : List PRow} (h : shR (A ++ y1 :: y2 :: B) lv rl) : rl.countP (here A.length) = (livS y1 ++ livS y2).length := by
  rw [h.1.countP_eq, gRw_app, List.countP_append, here_o _ (gRw 0 A) (fun x hx => by have := gRw_seg A 0 x hx; omega)]
  simp only [gRw]
  rw [List.countP_append, List.countP_append, here_s _ _ _ (by omega), here_s _ _ _ (by omega), here_o _ (gRw _ B) (fun x hx => by have := gRw_seg B _ x hx; omega), List.length_append]
  omega
/-- the joined segment is no larger than what is live -/
theorem jo_le {A B : List Seg} {y1 y2 : Seg} {lv : List Doc} {rl : List PRow} (h : shR (A ++ y1 :: y2 :: B) lv rl) : (livS y1 ++ livS y2).length ≤ lv.length := by
  rw [← here_cnt h, ← h.2.1.length_eq]
  have := liv_cnt (fun _ => true) rl
  rw [List.countP_true] at this
  rw [this]
  apply List.countP_mono_left
  intro x _ hx
  unfold here at hx
  simp at hx ⊢
  exact hx.2
theorem asc_len {lv : List Doc} (h : asc lv) (h12 : ∀ x ∈ lv, x.1 < 12) : lv.length ≤ 12 := by
  have hn : (lv.map (fun x => x.1)).Nodup := by
    unfold List.Nodup
    rw [List.pairwise_map]
    exact h.imp (fun z => by omega)
  have := hn.length_le_of_subset (l₂ := List.range 12) (fun a ha => by
    rw [List.mem_map] at ha
    obtain ⟨x, hx, rfl⟩ := ha
    exact List.mem_range.mpr (h12 x hx))
  simpa using this
theorem lv_12 {sg : List Seg} {lv : List Doc} {rl : List PRow} (h : shR sg lv rl) : ∀ x ∈ lv, x.1 < 12 ∧ x.2.length ≤ 12 := fun x hx => by
  obtain ⟨y, hy, -, e1, e2⟩ := liv_mem.mp (h.2.1.mem_iff.mpr hx)
  rw [← e1, ← e2]
  exact h.2.2.2 y hy
/-- what is pending: pn 0 nothing, 1 a document, 2 a deletion; pt its terms -/
def peR (pd : List Doc) (pm : Nat) (pn : Nat → Nat) (pt : Nat → List Int64) : Prop := (∀ id, id < 12 → pn id = if pm.testBit id then (if pd.any (fun x => x.1 == id) then 1 else 2) else 0) ∧ (∀ x ∈ pd, pm.testBit x.1 = true ∧ x.1 < 12 ∧ x.2.length ≤ 12 ∧ pt x.1 = x.2) ∧ pd.Pairwise (fun a b => a.1 ≠ b.1) ∧ pm < 4096
def upn {α : Type} (f : Nat → α) (i : Nat) (a : α) : Nat → α := fun j => if j = i then a else f j
theorem tb_or (m i j : Nat) : (m ||| 2 ^ i).testBit j = (m.testBit j || decide (i = j)) := by
  rw [Nat.testBit_or, Nat.testBit_two_pow]
theorem or_lt' {m i : Nat} (h : m < 4096) (hi : i < 12) : m ||| 2 ^ i < 4096 := Nat.or_lt_two_pow (n := 12) h (by
  have := Nat.pow_lt_pow_right (show 1 < 2 by decide) hi
  exact this)
theorem any_fi (pd : List Doc) (i j : Nat) : (pd.filter (fun y => y.1 != i)).any (fun x => x.1 == j) = (decide (j ≠ i) && pd.any (fun x => x.1 == j)) := by
  rw [Bool.eq_iff_iff]
  simp only [List.any_eq_true, List.mem_filter, Bool.and_eq_true, decide_eq_true_eq, bne_iff_ne, beq_iff_eq]
  constructor
  · rintro ⟨x, ⟨h1, h2⟩, h3⟩
    exact ⟨by omega, x, h1, h3⟩
  · rintro ⟨h1, x, h2, h3⟩
    exact ⟨x, ⟨h2, by omega⟩, h3⟩
theorem peR_del {pd : List Doc} {pm : Nat} {pn : Nat → Nat} {pt : Nat → List Int64} {i : Nat} (h : peR pd pm pn pt) (hi : i < 12) : peR (pd.filter (fun y => y.1 != i)) (pm ||| 2 ^ i) (upn pn i 2) pt := by
  obtain ⟨h1, h2, h3, h4⟩ := h
  refine ⟨fun j hj => ?_, fun x hx => ?_, h3.filter _, or_lt' h4 hi⟩
  · rw [tb_or, any_fi]
    unfold upn
    by_cases g : j = i
    · subst g
      simp
    · have gd : decide (j ≠ i) = true := decide_eq_true g
      have gd2 : decide (i = j) = false := decide_eq_false fun z => g z.symm
      rw [if_neg g, gd, gd2, h1 j hj, Bool.or_false, Bool.true_and]
  · rw [List.mem_filter] at hx
    obtain ⟨a, b, c, d⟩ := h2 x hx.1
    exact ⟨by rw [tb_or, a]; rfl, b, c, d⟩
theorem peR_add {pd : List Doc} {pm : Nat} {pn : Nat → Nat} {pt : Nat → List Int64} {x : Doc} (h : peR pd pm pn pt) (hi : x.1 < 12) (hl : x.2.length ≤ 12) : peR (pd.filter (fun y => y.1 != x.1) ++ [x]) (pm ||| 2 ^ x.1) (upn pn x.1 1) (upn pt x.1 x.2) := by
  obtain ⟨h1, h2, h3, h4⟩ := h
  refine ⟨fun j hj => ?_, fun y hy => ?_, ?_, or_lt' h4 hi⟩
  · rw [tb_or, List.any_append, any_fi]
    unfold upn
    by_cases g : j = x.1
    · subst g
      simp
    · have gd : decide (j ≠ x.1) = true := decide_eq_true g
      have gd2 : decide (x.1 = j) = false := decide_eq_false fun z => g z.symm
      have gd3 : [x].any (fun y => y.1 == j) = false := by simp; exact fun z => g z.symm
      rw [if_neg g, gd, gd2, gd3, h1 j hj, Bool.or_false, Bool.or_false, Bool.true_and]
  · rcases List.mem_append.mp hy with hy | hy
    · rw [List.mem_filter] at hy
      obtain ⟨a, b, c, d⟩ := h2 y hy.1
      have g : y.1 ≠ x.1 := by simpa using hy.2
      exact ⟨by rw [tb_or, a]; rfl, b, c, by unfold upn; rw [if_neg g]; exact d⟩
    · rw [List.mem_singleton] at hy
      subst hy
      exact ⟨by rw [tb_or]; simp, hi, hl, by unfold upn; rw [if_pos rfl]⟩
  · rw [List.pairwise_append]
    refine ⟨h3.filter _, by simp, fun a ha b hb => ?_⟩
    rw [List.mem_singleton] at hb
    subst hb
    rw [List.mem_filter] at ha
    simpa using ha.2
theorem peR_0 (pt : Nat → List Int64) : peR [] 0 (fun _ => 0) pt := ⟨fun id _ => by simp, fun x hx => by simp at hx, List.Pairwise.nil, by decide⟩
theorem pop_cn (m : Nat) : popc m = cn (fun i => m.testBit i) 12 := by
  simp only [cn, popc, Nat.testBit_eq_decide_div_mod_eq]
  have : ∀ x : Nat, x % 2 = if decide (x % 2 = 1) then 1 else 0 := fun x => by
    have : x % 2 < 2 := Nat.mod_lt _ (by decide)
    by_cases g : x % 2 = 1
    · simp [g]
    · simp [g]
      omega
  simp only [← this]
  simp
theorem cn_not (p : Nat → Bool) : ∀ k, cn p k + cn (fun i => !p i) k = k
  | 0 => rfl
  | k + 1 => by
    have := cn_not p k
    unfold cn
    cases p k <;> simp <;> omega
theorem cn_cong {p q : Nat → Bool} : ∀ {k : Nat}, (∀ i, i < k → p i = q i) → cn p k = cn q k
  | 0, _ => rfl
  | k + 1, h => by
    unfold cn
    rw [cn_cong (k := k) (fun i hi => h i (by omega)), h k (by omega)]
theorem pe_idle {pd : List Doc} {pm : Nat} {pn : Nat → Nat} {pt : Nat → List Int64} (h : peR pd pm pn pt) : 12 - cn (fun i => pn i == 0) 12 = popc pm := by
  rw [pop_cn]
  have := cn_not (fun i => pm.testBit i) 12
  have e : cn (fun i => pn i == 0) 12 = cn (fun i => !pm.testBit i) 12 := cn_cong fun i hi => by
    rw [h.1 i hi]
    cases pm.testBit i
    · rfl
    · simp only [if_true]
      split <;> rfl
  rw [e]
  omega
theorem cn_range (p : Nat → Bool) (k : Nat) : cn p k = ((List.range k).filter p).length := by
  rw [← List.countP_eq_length_filter]
  induction k with
  | zero => rfl
  | succ k ih =>
    rw [List.range_succ, List.countP_append, ← ih]
    simp only [cn, List.countP_cons, List.countP_nil]
    omega
/-- the ids with a document, as the reference goes through them -/
def pdI (pn : Nat → Nat) : List Nat := (List.range 12).filter (fun i => pn i == 1)
theorem pd_perm {pd : List Doc} {pm : Nat} {pn : Nat → Nat} {pt : Nat → List Int64} (h : peR pd pm pn pt) : (pdI pn).Perm (pd.map (fun x => x.1)) := by
  have n1 : (pdI pn).Nodup := List.Pairwise.filter _ List.nodup_range
  have n2 : (pd.map (fun x => x.1)).Nodup := by
    unfold List.Nodup
    rw [List.pairwise_map]
    exact h.2.2.1
  rw [List.perm_ext_iff_of_nodup n1 n2]
  intro a
  unfold pdI
  rw [List.mem_filter, List.mem_range, List.mem_map]
  constructor
  · rintro ⟨ha, hb⟩
    rw [h.1 a ha] at hb
    by_cases g : pm.testBit a = true
    · rw [if_pos g] at hb
      by_cases g2 : pd.any (fun x => x.1 == a) = true
      · rw [List.any_eq_true] at g2
        obtain ⟨x, hx, e⟩ := g2
        exact ⟨x, hx, by simpa using e⟩
      · rw [if_neg g2] at hb
        cases hb
    · rw [if_neg g] at hb
      cases hb
  · rintro ⟨x, hx, rfl⟩
    obtain ⟨a1, a2, -⟩ := h.2.1 x hx
    refine ⟨a2, ?_⟩
    rw [h.1 _ a2, if_pos a1, if_pos (List.any_eq_true.mpr ⟨x, hx, by simp⟩)]
    rfl
theorem pd_len {pd : List Doc} {pm : Nat} {pn : Nat → Nat} {pt : Nat → List Int64} (h : peR pd pm pn pt) : cn (fun i => pn i == 1) 12 = pd.length := by
  rw [cn_range]
  have := (pd_perm h).length_eq
  unfold pdI at this
  rw [this, List.length_map]
theorem pd_new {pd : List Doc} {pm : Nat} {pn : Nat → Nat} {pt : Nat → List Int64} (h : peR pd pm pn pt) (s : Nat) : ((pdI pn).map (fun i => ((i, s, false, pt i) : PRow))).Perm (pd.map (fun d => ((d.1, s, false, d.2) : PRow))) := by
  refine ((pd_perm h).map _).trans ?_
  rw [List.map_map]
  refine List.Perm.of_eq (List.map_congr_left fun x hx => ?_)
  show ((x.1, s, false, pt x.1) : PRow) = _
  rw [(h.2.1 x hx).2.2.2]
/-- does a live row have an id that is pending? -/
theorem hasA_any (lv : List Doc) (m : Nat) : ∀ k, k ≤ lv.length → hasA lv m k = (lv.take k).any (fun d => m.testBit d.1)
  | 0, _ => by simp [hasA]
  | k + 1, hk => by
    have e : lv.take (k + 1) = lv.take k ++ [dAt lv k] := by
      rw [List.take_succ_eq_append_getElem (by omega)]
      congr 2
      unfold dAt
      rw [List.getD_eq_getElem?_getD, List.getElem?_eq_getElem (by omega)]
      rfl
    rw [e, List.any_append, ← hasA_any lv m k (by omega)]
    simp [hasA]
theorem mark_any {sg : List Seg} {lv : List Doc} {rl : List PRow} {pd : List Doc} {pm : Nat} {pn : Nat → Nat} {pt : Nat → List Int64} (h : shR sg lv rl) (hp : peR pd pm pn pt) : rl.any (fun x => !x.2.2.1 && pn x.1 != 0) = hasA lv pm lv.length := by
  rw [hasA_any lv pm _ (Nat.le_refl _), List.take_length, Bool.eq_iff_iff]
  simp only [List.any_eq_true]
  have e : ∀ a, a < 12 → ((pn a != 0) = true ↔ pm.testBit a = true) := fun a ha => by
    rw [hp.1 a ha]
    cases pm.testBit a
    · simp
    · simp
      split <;> simp
  constructor
  · rintro ⟨x, hx, hy⟩
    rw [Bool.and_eq_true] at hy
    refine ⟨(x.1, x.2.2.2), h.2.1.mem_iff.mp (liv_mem.mpr ⟨x, hx, by simpa using hy.1, rfl, rfl⟩), (e _ (h.2.2.2 x hx).1).mp hy.2⟩
  · rintro ⟨d, hd, hy⟩
    obtain ⟨x, hx, a, b, c⟩ := liv_mem.mp (h.2.1.mem_iff.mpr hd)
    refine ⟨x, hx, ?_⟩
    rw [Bool.and_eq_true]
    exact ⟨by rw [a]; rfl, (e _ (h.2.2.2 x hx).1).mpr (by rw [b]; exact hy)⟩
/-- the commit happens -/
theorem shR_commit {sg : List Seg} {lv : List Doc} {rl : List PRow} {pd : List Doc} {pm : Nat} {pn : Nat → Nat} {pt : Nat → List Int64} (h : shR sg lv rl) (hp : peR pd pm pn pt) : shR (sg.map (mkS pm) ++ [(pd, 0)]) (insA (lv.filter (fun d => !pm.testBit d.1)) pd) (rl.map (mkR pm) ++ (pdI pn).map (fun i => ((i, sg.length, false, pt i) : PRow))) := by
  refine shR_app (shR_mk pm h) ?_ ?_ hp.2.2.1 (fun x hx => ⟨(hp.2.1 x hx).2.1, (hp.2.1 x hx).2.2.1⟩)
  · rw [List.length_map]
    exact pd_new hp sg.length
  · intro x hx y hy e
    rw [List.mem_filter] at hy
    have := (hp.2.1 x hx).1
    rw [e, this] at hy
    simp at hy
