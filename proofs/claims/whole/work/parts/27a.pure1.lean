/-! pure: rows, segments, the live list -/
theorem sN_hd (f : Nat → Nat) : ∀ k, sN f (k + 1) = f 0 + sN (fun i => f (i + 1)) k
  | 0 => by simp [sN]
  | k + 1 => by
    have := sN_hd f k
    show sN f (k + 1) + f (k + 1) = f 0 + (sN (fun i => f (i + 1)) k + f (k + 1))
    omega
theorem cn_hd (p : Nat → Bool) : ∀ k, cn p (k + 1) = (if p 0 then 1 else 0) + cn (fun i => p (i + 1)) k
  | 0 => by simp [cn]
  | k + 1 => by
    have := cn_hd p k
    show cn p (k + 1) + (if p (k + 1) then 1 else 0) = (if p 0 then 1 else 0) + (cn (fun i => p (i + 1)) k + (if p (k + 1) then 1 else 0))
    omega
/-- a sum by places is the sum of the list -/
theorem sN_l {α : Type} (f : α → Nat) (z : α) : ∀ l : List α, sN (fun i => f (l.getD i z)) l.length = (l.map f).sum
  | [] => rfl
  | x :: t => by
    rw [List.length_cons, sN_hd]
    simp only [List.getD_cons_zero, List.getD_cons_succ, List.map_cons, List.sum_cons]
    rw [sN_l f z t]
theorem cn_l {α : Type} (p : α → Bool) (z : α) : ∀ l : List α, cn (fun i => p (l.getD i z)) l.length = l.countP p
  | [] => rfl
  | x :: t => by
    rw [List.length_cons, cn_hd]
    simp only [List.getD_cons_zero, List.getD_cons_succ, List.countP_cons]
    rw [cn_l p z t]
    omega
/-- a row of the reference: id, segment, dead, terms -/
abbrev PRow : Type := Nat × Nat × Bool × List Int64
def sRw (s : Nat) (y : Seg) : List PRow := y.1.map (fun d => (d.1, s, y.2.testBit d.1, d.2))
def gRw : Nat → List Seg → List PRow
  | _, [] => []
  | s, y :: t => sRw s y ++ gRw (s + 1) t
def liv1 (x : PRow) : Option Doc := if x.2.2.1 then none else some (x.1, x.2.2.2)
def liv (rl : List PRow) : List Doc := rl.filterMap liv1
theorem gRw_app : ∀ (a b : List Seg) (s : Nat), gRw s (a ++ b) = gRw s a ++ gRw (s + a.length) b
  | [], b, s => by simp [gRw]
  | y :: a, b, s => by
    simp only [List.cons_append, gRw, List.length_cons, List.append_assoc]
    rw [gRw_app a b (s + 1), show s + 1 + a.length = s + (a.length + 1) by omega]
theorem gRw_seg : ∀ (sg : List Seg) (s : Nat) (x : PRow), x ∈ gRw s sg → s ≤ x.2.1 ∧ x.2.1 < s + sg.length
  | [], s, x, h => by simp [gRw] at h
  | y :: t, s, x, h => by
    simp only [gRw, List.mem_append, sRw, List.mem_map] at h
    rcases h with ⟨d, -, rfl⟩ | h
    · simp
    · have := gRw_seg t (s + 1) x h
      simp only [List.length_cons]
      omega
theorem gRw_len : ∀ (sg : List Seg) (s : Nat), (gRw s sg).length = (sg.map (fun y => y.1.length)).sum
  | [], s => rfl
  | y :: t, s => by simp [gRw, sRw, gRw_len t (s + 1)]
theorem gRw_sum (f : Doc → Nat) : ∀ (sg : List Seg) (s : Nat), ((gRw s sg).map (fun x => f (x.1, x.2.2.2))).sum = (sg.map (fun y => (y.1.map f).sum)).sum
  | [], s => rfl
  | y :: t, s => by
    simp only [gRw, List.map_append, List.sum_append_nat, List.map_cons, List.sum_cons, gRw_sum f t (s + 1), sRw, List.map_map]
    rfl
theorem liv_sum (f : Doc → Nat) : ∀ rl : List PRow, ((liv rl).map f).sum = (rl.map (fun x => if x.2.2.1 then 0 else f (x.1, x.2.2.2))).sum
  | [] => rfl
  | x :: t => by
    have h := liv_sum f t
    unfold liv at h ⊢
    rw [List.filterMap_cons]
    by_cases g : x.2.2.1 = true
    · simp [liv1, g, h]
    · simp [liv1, g, h]
theorem liv_cnt (p : Doc → Bool) : ∀ rl : List PRow, (liv rl).countP p = rl.countP (fun x => !x.2.2.1 && p (x.1, x.2.2.2))
  | [] => rfl
  | x :: t => by
    have h := liv_cnt p t
    unfold liv at h ⊢
    rw [List.filterMap_cons]
    by_cases g : x.2.2.1 = true
    · simp [liv1, g, h]
    · simp [liv1, g, h, List.countP_cons]
theorem liv_mem {rl : List PRow} {d : Doc} : d ∈ liv rl ↔ ∃ x ∈ rl, x.2.2.1 = false ∧ x.1 = d.1 ∧ x.2.2.2 = d.2 := by
  unfold liv
  rw [List.mem_filterMap]
  constructor
  · rintro ⟨x, h1, h2⟩
    refine ⟨x, h1, ?_⟩
    unfold liv1 at h2
    by_cases g : x.2.2.1 = true
    · simp [g] at h2
    · simp [g] at h2
      subst h2
      simp [g]
  · rintro ⟨x, h1, h2, h3, h4⟩
    refine ⟨x, h1, ?_⟩
    unfold liv1
    simp [h2, h3, h4]
/-- the live list is by rising ids -/
def asc (lv : List Doc) : Prop := lv.Pairwise (fun a b => a.1 < b.1)
/-- both hold the same documents -/
def shR (sg : List Seg) (lv : List Doc) (rl : List PRow) : Prop := rl.Perm (gRw 0 sg) ∧ (liv rl).Perm lv ∧ asc lv ∧ ∀ x ∈ rl, x.1 < 12 ∧ x.2.2.2.length ≤ 12
/-- the ids of m are marked -/
def mkR (m : Nat) (x : PRow) : PRow := (x.1, x.2.1, x.2.2.1 || m.testBit x.1, x.2.2.2)
def mkS (m : Nat) (y : Seg) : Seg := (y.1, y.2 ||| m)
theorem gRw_mk (m : Nat) : ∀ (sg : List Seg) (s : Nat), gRw s (sg.map (mkS m)) = (gRw s sg).map (mkR m)
  | [], s => rfl
  | y :: t, s => by
    simp only [List.map_cons, gRw, gRw_mk m t (s + 1), List.map_append, sRw, List.map_map]
    congr 1
    simp [mkS, mkR, Nat.testBit_or]
theorem liv_mk (m : Nat) : ∀ rl : List PRow, liv (rl.map (mkR m)) = (liv rl).filter (fun d => !m.testBit d.1)
  | [] => rfl
  | x :: t => by
    have h := liv_mk m t
    unfold liv at h ⊢
    rw [List.map_cons, List.filterMap_cons, List.filterMap_cons]
    by_cases g : x.2.2.1 = true
    · simp [liv1, mkR, g, h]
    · by_cases g2 : m.testBit x.1 = true
      · simp [liv1, mkR, g, g2, h]
      · simp [liv1, mkR, g, g2, h]
theorem shR_mk {sg : List Seg} {lv : List Doc} {rl : List PRow} (m : Nat) (h : shR sg lv rl) : shR (sg.map (mkS m)) (lv.filter (fun d => !m.testBit d.1)) (rl.map (mkR m)) := by
  obtain ⟨h1, h2, h3, h4⟩ := h
  refine ⟨?_, ?_, h3.filter _, ?_⟩
  · rw [gRw_mk]
    exact h1.map _
  · rw [liv_mk]
    exact h2.filter _
  · intro x hx
    rw [List.mem_map] at hx
    obtain ⟨y, hy, rfl⟩ := hx
    exact h4 y hy
/-- one document goes into the live list -/
def insL (x : Doc) : List Doc → List Doc
  | [] => [x]
  | y :: t => if y.1 < x.1 then y :: insL x t else x :: y :: t
theorem insL_perm (x : Doc) : ∀ lv, (insL x lv).Perm (x :: lv)
  | [] => List.Perm.refl _
  | y :: t => by
    unfold insL
    split
    · exact (List.Perm.cons y (insL_perm x t)).trans (List.Perm.swap x y t)
    · exact List.Perm.refl _
theorem insL_asc {x : Doc} : ∀ {lv : List Doc}, asc lv → (∀ y ∈ lv, y.1 ≠ x.1) → asc (insL x lv)
  | [], _, _ => by simp [insL, asc]
  | y :: t, h, hn => by
    unfold asc at h
    rw [List.pairwise_cons] at h
    have hy := hn y (by simp)
    unfold insL
    split
    · rename_i g
      unfold asc
      rw [List.pairwise_cons]
      refine ⟨fun z hz => ?_, insL_asc h.2 (fun z hz => hn z (by simp [hz]))⟩
      rcases List.mem_cons.mp ((insL_perm x t).mem_iff.mp hz) with rfl | hz
      · exact g
      · exact h.1 z hz
    · rename_i g
      unfold asc
      rw [List.pairwise_cons]
      refine ⟨fun z hz => ?_, List.pairwise_cons.mpr h⟩
      rcases List.mem_cons.mp hz with rfl | hz
      · omega
      · have := h.1 z hz
        omega
theorem insL_at {x : Doc} : ∀ {lv : List Doc} {k : Nat}, (∀ j, j < k → (dAt lv j).1 < x.1) → k ≤ lv.length → (k = lv.length ∨ ¬ (dAt lv k).1 < x.1) → insL x lv = lv.take k ++ x :: lv.drop k
  | [], k, _, h2, _ => by
    have : k = 0 := by simpa using h2
    subst this
    rfl
  | y :: t, 0, _, _, h3 => by
    have : ¬ y.1 < x.1 := by
      rcases h3 with h3 | h3
      · cases h3
      · exact h3
    simp [insL, this]
  | y :: t, k + 1, h1, h2, h3 => by
    have hy : y.1 < x.1 := h1 0 (by omega)
    have := insL_at (x := x) (lv := t) (k := k) (fun j hj => h1 (j + 1) (by omega)) (by simpa using h2) (by
      rcases h3 with h3 | h3
      · left; simpa using h3
      · right; exact h3)
    simp [insL, hy, this]
def insA (lv : List Doc) (ds : List Doc) : List Doc := ds.foldl (fun a x => insL x a) lv
theorem insA_perm : ∀ (ds lv : List Doc), (insA lv ds).Perm (lv ++ ds)
  | [], lv => by simp [insA]
  | x :: t, lv => by
    have h := insA_perm t (insL x lv)
    unfold insA at h ⊢
    rw [List.foldl_cons]
    refine h.trans (((insL_perm x lv).append_right t).trans ?_)
    exact List.perm_middle.symm
theorem insA_asc : ∀ (ds lv : List Doc), asc lv → (∀ x ∈ ds, ∀ y ∈ lv, y.1 ≠ x.1) → ds.Pairwise (fun a b => a.1 ≠ b.1) → asc (insA lv ds)
  | [], lv, h, _, _ => h
  | x :: t, lv, h, hn, hp => by
    rw [List.pairwise_cons] at hp
    unfold insA
    rw [List.foldl_cons]
    refine insA_asc t (insL x lv) (insL_asc h (hn x (by simp))) (fun z hz y hy => ?_) hp.2
    rcases List.mem_cons.mp ((insL_perm x lv).mem_iff.mp hy) with rfl | hy
    · exact hp.1 z hz
    · exact hn z (by simp [hz]) y hy
theorem liv_new (k : Nat) : ∀ ds : List Doc, liv (ds.map (fun d => ((d.1, k, false, d.2) : PRow))) = ds
  | [] => rfl
  | d :: t => by
    have h := liv_new k t
    unfold liv at h ⊢
    rw [List.map_cons, List.filterMap_cons]
    simp [liv1, h]
/-- a new segment -/
theorem shR_app {sg : List Seg} {lv : List Doc} {rl nw : List PRow} {ds : List Doc} (h : shR sg lv rl) (hn : nw.Perm (ds.map (fun d => ((d.1, sg.length, false, d.2) : PRow)))) (hd : ∀ x ∈ ds, ∀ y ∈ lv, y.1 ≠ x.1) (hp : ds.Pairwise (fun a b => a.1 ≠ b.1)) (hb : ∀ x ∈ ds, x.1 < 12 ∧ x.2.length ≤ 12) : shR (sg ++ [(ds, 0)]) (insA lv ds) (rl ++ nw) := by
  obtain ⟨h1, h2, h3, h4⟩ := h
  refine ⟨?_, ?_, insA_asc ds lv h3 hd hp, ?_⟩
  · rw [gRw_app, Nat.zero_add]
    refine h1.append (hn.trans ?_)
    simp [gRw, sRw]
  · refine List.Perm.trans ?_ (insA_perm ds lv).symm
    show (liv (rl ++ nw)).Perm _
    have e : liv (rl ++ nw) = liv rl ++ liv nw := by unfold liv; rw [List.filterMap_append]
    rw [e]
    refine h2.append ?_
    have := hn.filterMap liv1
    have e2 := liv_new sg.length ds
    unfold liv at e2 ⊢
    rw [e2] at this
    exact this
  · intro x hx
    rcases List.mem_append.mp hx with hx | hx
    · exact h4 x hx
    · have := hn.mem_iff.mp hx
      rw [List.mem_map] at this
      obtain ⟨d, hd1, rfl⟩ := this
      exact hb d hd1
