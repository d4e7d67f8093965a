/-! pure: the live documents by their ids; what is found; the best -/
def lvF (lv : List Doc) (id : Nat) : Option Doc := lv.find? (fun x => x.1 == id)
theorem fm_cong {α β : Type} {f g : α → Option β} : ∀ {l : List α}, (∀ i ∈ l, f i = g i) → l.filterMap f = l.filterMap g
  | [], _ => rfl
  | x :: t, h => by rw [List.filterMap_cons, List.filterMap_cons, h x (by simp), fm_cong (l := t) (fun i hi => h i (by simp [hi]))]
theorem lv_rg : ∀ (n a : Nat) (lv : List Doc), asc lv → (∀ x ∈ lv, a ≤ x.1 ∧ x.1 < a + n) → (List.range' a n).filterMap (lvF lv) = lv
  | 0, a, lv, h, h2 => by
    match lv, h2 with
    | [], _ => rfl
    | x :: t, h2 => have := h2 x (by simp); omega
  | n + 1, a, lv, h, h2 => by
    rw [List.range'_succ, List.filterMap_cons]
    match lv, h, h2 with
    | [], _, _ =>
      simp [lvF]
    | x :: t, h, h2 =>
      unfold asc at h
      rw [List.pairwise_cons] at h
      by_cases g : x.1 = a
      · have e : lvF (x :: t) a = some x := by simp [lvF, g]
        rw [e]
        simp only
        congr 1
        have e2 : ∀ l : List Nat, (∀ i ∈ l, a < i) → l.filterMap (lvF (x :: t)) = l.filterMap (lvF t) := fun l hl => by
          refine fm_cong fun i hi => ?_
          have := hl i hi
          have : (x.1 == i) = false := by simp; omega
          simp [lvF, List.find?_cons, this]
        rw [e2 _ (fun i hi => by rw [List.mem_range'_1] at hi; omega)]
        exact lv_rg n (a + 1) t h.2 (fun y hy => ⟨by have := h.1 y hy; omega, by have := h2 y (by simp [hy]); omega⟩)
      · have hx := h2 x (by simp)
        have e : lvF (x :: t) a = none := by
          unfold lvF
          rw [List.find?_eq_none]
          intro y hy
          rcases List.mem_cons.mp hy with rfl | hy
          · simpa using g
          · have := h.1 y hy
            simp
            omega
        rw [e]
        simp only
        refine lv_rg n (a + 1) (x :: t) (List.pairwise_cons.mpr h) (fun y hy => ⟨?_, by have := h2 y hy; omega⟩)
        rcases List.mem_cons.mp hy with rfl | hy
        · omega
        · have := h.1 y hy
          omega
theorem lv_range {lv : List Doc} (h : asc lv) (h12 : ∀ x ∈ lv, x.1 < 12) : (List.range 12).filterMap (lvF lv) = lv := by
  rw [List.range_eq_range']
  exact lv_rg 12 0 lv h (fun x hx => ⟨by omega, by have := h12 x hx; omega⟩)
theorem lvF_id {lv : List Doc} {id : Nat} {d : Doc} (h : lvF lv id = some d) : d.1 = id ∧ d ∈ lv := by
  unfold lvF at h
  exact ⟨by simpa using List.find?_some h, List.mem_of_find?_eq_some h⟩
theorem lvF_mem : ∀ {lv : List Doc} {d : Doc}, asc lv → d ∈ lv → lvF lv d.1 = some d
  | x :: t, d, h, hd => by
    unfold asc at h
    rw [List.pairwise_cons] at h
    unfold lvF
    rw [List.find?_cons]
    rcases List.mem_cons.mp hd with rfl | hd
    · simp
    · have := h.1 d hd
      have e : (x.1 == d.1) = false := by simp; omega
      rw [e]
      exact lvF_mem h.2 hd
/-- the last live row of an id, of the first k -/
def lkN (rl : List PRow) (id : Nat) : Nat → Option Nat
  | 0 => none
  | k + 1 => if (rl.getD k (0, 0, true, [])).2.2.1 = false ∧ (rl.getD k (0, 0, true, [])).1 = id then some k else lkN rl id k
theorem lkN_s {rl : List PRow} {id : Nat} : ∀ {k q : Nat}, lkN rl id k = some q → q < k ∧ (rl.getD q (0, 0, true, [])).2.2.1 = false ∧ (rl.getD q (0, 0, true, [])).1 = id
  | 0, q, h => by cases h
  | k + 1, q, h => by
    unfold lkN at h
    split at h
    · rename_i g
      cases h
      exact ⟨by omega, g⟩
    · have := lkN_s h
      exact ⟨by omega, this.2⟩
theorem lkN_n {rl : List PRow} {id : Nat} : ∀ {k : Nat}, lkN rl id k = none → ∀ q, q < k → ¬ ((rl.getD q (0, 0, true, [])).2.2.1 = false ∧ (rl.getD q (0, 0, true, [])).1 = id)
  | 0, _, q, hq => by omega
  | k + 1, h, q, hq => by
    unfold lkN at h
    split at h
    · cases h
    · rename_i g
      by_cases e : q = k
      · subst e
        exact g
      · exact lkN_n h q (by omega)
theorem lkN_ok {sg : List Seg} {lv : List Doc} {rl : List PRow} (h : shR sg lv rl) (id : Nat) : (∃ q x, lkN rl id rl.length = some q ∧ rl[q]? = some x ∧ x.2.2.1 = false ∧ x.1 = id ∧ lvF lv id = some (id, x.2.2.2)) ∨ (lkN rl id rl.length = none ∧ lvF lv id = none) := by
  cases hk : lkN rl id rl.length with
  | some q =>
    left
    obtain ⟨a, b, c⟩ := lkN_s hk
    have e : rl[q]? = some (rl.getD q (0, 0, true, [])) := by
      rw [List.getD_eq_getElem?_getD, List.getElem?_eq_getElem a]
      rfl
    refine ⟨q, _, rfl, e, b, c, ?_⟩
    have hm : ((id, (rl.getD q (0, 0, true, [])).2.2.2) : Doc) ∈ lv := h.2.1.mem_iff.mp (liv_mem.mpr ⟨_, List.mem_of_getElem? e, b, c, rfl⟩)
    exact lvF_mem h.2.2.1 hm
  | none =>
    right
    refine ⟨rfl, ?_⟩
    unfold lvF
    rw [List.find?_eq_none]
    intro d hd hi
    obtain ⟨x, hx, a, b, c⟩ := liv_mem.mp (h.2.1.mem_iff.mpr hd)
    obtain ⟨q, hq⟩ := List.getElem?_of_mem hx
    have hlt := (List.getElem?_eq_some_iff.mp hq).1
    have e : rl.getD q (0, 0, true, []) = x := by
      rw [List.getD_eq_getElem?_getD, hq]
      rfl
    refine lkN_n hk q hlt ?_
    rw [e]
    exact ⟨a, by rw [b]; simpa using hi⟩
/-- a document of weight 0 goes to the end -/
theorem rAt_0 (rs : List (Nat × Nat)) : ∀ k, rAt rs 0 k = k
  | 0 => rfl
  | k + 1 => by
    unfold rAt
    rw [if_neg (by omega)]
theorem rIns_0 {rs : List (Nat × Nat)} {id : Nat} (h : rs.length < 12) : rIns rs id 0 12 = rs ++ [(id, 0)] := by
  unfold rIns
  rw [rAt_0, List.take_length, List.drop_length]
  exact List.take_of_length_le (by simp; omega)
/-- put in behind those of the same weight -/
def insW (x : Nat × Nat) : List (Nat × Nat) → List (Nat × Nat)
  | [] => [x]
  | y :: t => if y.2 < x.2 then x :: y :: t else y :: insW x t
theorem insW_take (x : Nat × Nat) : ∀ (l : List (Nat × Nat)) (k : Nat), (insW x (l.take k)).take k = (insW x l).take k
  | [], k => by simp
  | y :: t, 0 => by simp
  | y :: t, k + 1 => by
    rw [List.take_succ_cons]
    unfold insW
    split
    · cases k with
      | zero => simp
      | succ k => simp [List.take_take]
    · rw [List.take_succ_cons, List.take_succ_cons, insW_take x t k]
abbrev dsc (l : List (Nat × Nat)) : Prop := l.Pairwise (fun a b => b.2 ≤ a.2)
theorem rAt_all {rs : List (Nat × Nat)} {w : Nat} : ∀ {k : Nat}, k ≤ rs.length → dsc rs → (∃ j, j < k ∧ (rs.getD j (0, 0)).2 < w ∧ ∀ i, i < j → w ≤ (rs.getD i (0, 0)).2) → ∃ j, rAt rs w k = j ∧ j < k ∧ (rs.getD j (0, 0)).2 < w ∧ ∀ i, i < j → w ≤ (rs.getD i (0, 0)).2
  | 0, _, _, ⟨j, a, _⟩ => by omega
  | k + 1, hk, hd, ⟨j, a, b, c⟩ => by
    refine ⟨j, ?_, a, b, c⟩
    unfold rAt
    have hg : ∀ i, i < rs.length → rs.getD i (0, 0) = rs[i]! := fun i hi => by simp [List.getD_eq_getElem?_getD, hi]
    by_cases e : j = k
    · subst e
      rw [if_pos b]
      clear hk a b hd hg
      induction j with
      | zero => rfl
      | succ j ih =>
        unfold rAt
        have := c j (by omega)
        rw [if_neg (by omega)]
    · have hkj : (rs.getD k (0, 0)).2 ≤ (rs.getD j (0, 0)).2 := by
        have := List.pairwise_iff_getElem.mp hd j k (by omega) (by omega) (by omega)
        simpa [List.getD_eq_getElem?_getD, show j < rs.length by omega, show k < rs.length by omega] using this
      rw [if_pos (by omega)]
      obtain ⟨j', e1, e2, e3, e4⟩ := rAt_all (k := k) (by omega) hd ⟨j, by omega, b, c⟩
      rw [e1]
      rcases Nat.lt_trichotomy j j' with g | g | g
      · have := e4 j g; omega
      · exact g.symm
      · have := c j' g; omega
theorem rAt_no {rs : List (Nat × Nat)} {w : Nat} : ∀ {k : Nat}, (∀ i, i < k → w ≤ (rs.getD i (0, 0)).2) → rAt rs w k = k
  | 0, _ => rfl
  | k + 1, h => by
    unfold rAt
    have := h k (by omega)
    rw [if_neg (by omega)]
theorem insW_at {x : Nat × Nat} : ∀ {l : List (Nat × Nat)} {j : Nat}, j ≤ l.length → (∀ i, i < j → x.2 ≤ (l.getD i (0, 0)).2) → (j = l.length ∨ (l.getD j (0, 0)).2 < x.2) → insW x l = l.take j ++ x :: l.drop j
  | [], j, h, _, _ => by
    have : j = 0 := by simpa using h
    subst this
    rfl
  | y :: t, 0, _, _, h3 => by
    have : y.2 < x.2 := by
      rcases h3 with h3 | h3
      · cases h3
      · simpa using h3
    simp [insW, this]
  | y :: t, j + 1, h1, h2, h3 => by
    have hy : x.2 ≤ y.2 := by simpa using h2 0 (by omega)
    have := insW_at (x := x) (l := t) (j := j) (by simpa using h1) (fun i hi => by simpa using h2 (i + 1) (by omega)) (by
      rcases h3 with h3 | h3
      · left; simpa using h3
      · right; simpa using h3)
    unfold insW
    rw [if_neg (by omega), this]
    rfl
theorem rIns_W {rs : List (Nat × Nat)} {id w k : Nat} (hd : dsc rs) : rIns rs id w k = (insW (id, w) rs).take k := by
  unfold rIns
  congr 1
  by_cases g : ∃ j, j < rs.length ∧ (rs.getD j (0, 0)).2 < w ∧ ∀ i, i < j → w ≤ (rs.getD i (0, 0)).2
  · obtain ⟨j, e1, e2, e3, e4⟩ := rAt_all (Nat.le_refl _) hd g
    rw [e1]
    exact (insW_at (x := (id, w)) (by omega) e4 (Or.inr e3)).symm
  · have hall : ∀ i, i < rs.length → w ≤ (rs.getD i (0, 0)).2 := by
      intro i
      induction i using Nat.strongRecOn with
      | _ i ih =>
        intro hi
        apply Nat.le_of_not_lt
        intro z
        exact g ⟨i, hi, z, fun j hj => ih j hj (by omega)⟩
    rw [rAt_no hall]
    exact (insW_at (x := (id, w)) (Nat.le_refl _) hall (Or.inl rfl)).symm
theorem insW_perm (x : Nat × Nat) : ∀ l, (insW x l).Perm (x :: l)
  | [] => List.Perm.refl _
  | y :: t => by
    unfold insW
    split
    · exact List.Perm.refl _
    · exact (List.Perm.cons y (insW_perm x t)).trans (List.Perm.swap x y t)
/-- the better of two: more weight, or the smaller id -/
def lt2 (a b : Nat × Nat) : Prop := b.2 < a.2 ∨ (a.2 = b.2 ∧ a.1 < b.1)
theorem lt2_dsc {l : List (Nat × Nat)} (h : l.Pairwise lt2) : dsc l := h.imp fun {a b} z => by
  unfold lt2 at z
  omega
theorem insW_lt2 {x : Nat × Nat} : ∀ {l : List (Nat × Nat)}, l.Pairwise lt2 → (∀ y ∈ l, y.1 < x.1) → (insW x l).Pairwise lt2
  | [], _, _ => by simp [insW]
  | y :: t, h, hn => by
    rw [List.pairwise_cons] at h
    have hy := hn y (by simp)
    unfold insW
    split
    · rename_i g
      rw [List.pairwise_cons]
      refine ⟨fun z hz => ?_, List.pairwise_cons.mpr h⟩
      rcases List.mem_cons.mp hz with rfl | hz
      · exact Or.inl g
      · have := h.1 z hz
        unfold lt2 at this ⊢
        omega
    · rename_i g
      rw [List.pairwise_cons]
      refine ⟨fun z hz => ?_, insW_lt2 h.2 (fun z hz => hn z (by simp [hz]))⟩
      rcases List.mem_cons.mp ((insW_perm x t).mem_iff.mp hz) with rfl | hz
      · unfold lt2
        omega
      · exact h.1 z hz
def srtW (l : List (Nat × Nat)) : List (Nat × Nat) := l.foldl (fun a x => insW x a) []
theorem srt_app (l : List (Nat × Nat)) (x : Nat × Nat) : srtW (l ++ [x]) = insW x (srtW l) := by simp [srtW]
theorem rev_ind {α : Type} {P : List α → Prop} (h0 : P []) (h1 : ∀ l x, P l → P (l ++ [x])) : ∀ l, P l := fun l => by
  have : ∀ r : List α, P r.reverse := fun r => by
    induction r with
    | nil => exact h0
    | cons x t ih => rw [List.reverse_cons]; exact h1 _ _ ih
  have := this l.reverse
  rwa [List.reverse_reverse] at this
theorem srt_perm (l : List (Nat × Nat)) : (srtW l).Perm l := by
  induction l using rev_ind with
  | h0 => exact List.Perm.refl _
  | h1 l x ih =>
    rw [srt_app]
    exact (insW_perm x _).trans ((List.Perm.cons x ih).trans (List.perm_append_comm (l₁ := [x])))
theorem srt_lt2 {l : List (Nat × Nat)} (h : l.Pairwise (fun a b => a.1 < b.1)) : (srtW l).Pairwise lt2 := by
  induction l using rev_ind with
  | h0 => exact List.Pairwise.nil
  | h1 l x ih =>
    rw [List.pairwise_append] at h
    rw [srt_app]
    exact insW_lt2 (ih h.1) (fun y hy => h.2.2 y ((srt_perm l).mem_iff.mp hy) x (by simp))
theorem srt_len (l : List (Nat × Nat)) : (srtW l).length = l.length := (srt_perm l).length_eq
def lastW (rs : List (Nat × Nat)) : Nat := if rs.length = 0 then 0 else (rs.getD (rs.length - 1) (0, 0)).2
/-- a candidate: id, weight, bound; those that are weighed, in their order -/
def wlS (k : Nat) (wl : List (Nat × Nat)) (x : Nat × Nat × Nat) : List (Nat × Nat) := if wl.length < k ∨ lastW ((srtW wl).take k) < x.2.2 then wl ++ [(x.1, x.2.1)] else wl
def wlF (k : Nat) (cs : List (Nat × Nat × Nat)) : List (Nat × Nat) := cs.foldl (wlS k) []
theorem wlF_app (k : Nat) (cs : List (Nat × Nat × Nat)) (x : Nat × Nat × Nat) : wlF k (cs ++ [x]) = wlS k (wlF k cs) x := by simp [wlF]
theorem wlF_sub (k : Nat) (cs : List (Nat × Nat × Nat)) : (wlF k cs).Sublist (cs.map (fun x => (x.1, x.2.1))) := by
  induction cs using rev_ind with
  | h0 => exact List.Sublist.refl _
  | h1 l x ih =>
    rw [wlF_app, List.map_append]
    unfold wlS
    split
    · exact ih.append (List.Sublist.refl _)
    · exact ih.trans (List.sublist_append_left _ _)
/-- the step: an insertion into the first k -/
theorem wlS_ins {k : Nat} {wl : List (Nat × Nat)} (hp : wl.Pairwise (fun a b => a.1 < b.1)) (id w : Nat) : rIns ((srtW wl).take k) id w k = (srtW (wl ++ [(id, w)])).take k := by
  rw [rIns_W (lt2_dsc ((srt_lt2 hp).sublist (List.take_sublist _ _))), insW_take, srt_app]
theorem insW_end {x : Nat × Nat} : ∀ {l : List (Nat × Nat)}, (∀ y ∈ l, x.2 ≤ y.2) → insW x l = l ++ [x]
  | [], _ => rfl
  | y :: t, h => by
    have := h y (by simp)
    unfold insW
    rw [if_neg (by omega), insW_end (fun z hz => h z (by simp [hz]))]
    rfl
/-- who isn't weighed isn't among the best -/
theorem wlF_best {k : Nat} (hk : 1 ≤ k) {cs : List (Nat × Nat × Nat)} (hp : cs.Pairwise (fun a b => a.1 < b.1)) (hb : ∀ x ∈ cs, x.2.1 ≤ x.2.2) : (srtW (wlF k cs)).take k = (srtW (cs.map (fun x => (x.1, x.2.1)))).take k := by
  induction cs using rev_ind with
  | h0 => rfl
  | h1 l x ih =>
    rw [List.pairwise_append] at hp
    have ih' := ih hp.1 (fun y hy => hb y (by simp [hy]))
    have hx := hb x (by simp)
    have hpm : (l.map (fun x => (x.1, x.2.1))).Pairwise (fun a b : Nat × Nat => a.1 < b.1) := by
      rw [List.pairwise_map]
      exact hp.1
    have hpw : (wlF k l).Pairwise (fun a b : Nat × Nat => a.1 < b.1) := hpm.sublist (wlF_sub k l)
    rw [wlF_app, List.map_append, List.map_singleton, ← wlS_ins hpm, ← ih']
    unfold wlS
    split
    · rw [wlS_ins hpw]
    · rename_i g
      have g1 : k ≤ (wlF k l).length := by omega
      have g2 : x.2.2 ≤ lastW ((srtW (wlF k l)).take k) := by omega
      have hl : ((srtW (wlF k l)).take k).length = k := by rw [List.length_take, srt_len]; omega
      have hd : dsc ((srtW (wlF k l)).take k) := lt2_dsc ((srt_lt2 hpw).sublist (List.take_sublist _ _))
      rw [rIns_W hd]
      have hall : ∀ y ∈ (srtW (wlF k l)).take k, x.2.1 ≤ y.2 := by
        intro y hy
        obtain ⟨i, hi⟩ := List.getElem?_of_mem hy
        have hlt := (List.getElem?_eq_some_iff.mp hi).1
        have e : lastW ((srtW (wlF k l)).take k) ≤ y.2 := by
          unfold lastW
          rw [if_neg (by omega), hl]
          rw [List.getD_eq_getElem?_getD, List.getElem?_eq_getElem (by omega)]
          have hy' : y = ((srtW (wlF k l)).take k)[i] := by
            rw [List.getElem?_eq_getElem hlt] at hi
            cases hi
            rfl
          by_cases e : i = k - 1
          · subst e
            rw [hy']
            exact Nat.le_refl _
          · have := List.pairwise_iff_getElem.mp hd i (k - 1) hlt (by omega) (by omega)
            rw [hy']
            exact this
        omega
      rw [insW_end hall, List.take_append_of_le_length (Nat.le_of_eq hl.symm), List.take_take, Nat.min_self]
/-- how many are above, how many the same: the k-th -/
def abv (l : List (Nat × Nat)) (v : Nat) : Nat := l.countP (fun y => decide (v < y.2))
def sam (l : List (Nat × Nat)) (v : Nat) : Nat := l.countP (fun y => y.2 == v)
theorem abv_sam (l : List (Nat × Nat)) (v : Nat) : abv l v + sam l v = l.countP (fun y => decide (v ≤ y.2)) := by
  unfold abv sam
  induction l with
  | nil => rfl
  | cons y t ih =>
    simp only [List.countP_cons]
    rw [← ih]
    by_cases g : v < y.2
    · have h2 : ¬ y.2 = v := by omega
      simp [g, h2, show v ≤ y.2 by omega]
      omega
    · by_cases g2 : y.2 = v
      · simp [g2]
        omega
      · simp [g, g2, show ¬ v ≤ y.2 by omega]
theorem cnt_lo {S : List (Nat × Nat)} {p : Nat × Nat → Bool} {i : Nat} (h : ∀ y ∈ S.drop i, p y = false) : S.countP p ≤ i := by
  have e : S.countP p = (S.take i).countP p + (S.drop i).countP p := by rw [← List.countP_append, List.take_append_drop]
  have : (S.drop i).countP p = 0 := by
    rw [List.countP_eq_zero]
    intro y hy
    rw [h y hy]
    simp
  have h2 : (S.take i).countP p ≤ (S.take i).length := List.countP_le_length
  rw [List.length_take] at h2
  omega
theorem cnt_hi {S : List (Nat × Nat)} {p : Nat × Nat → Bool} {i : Nat} (hi : i ≤ S.length) (h : ∀ y ∈ S.take i, p y = true) : i ≤ S.countP p := by
  have e : S.countP p = (S.take i).countP p + (S.drop i).countP p := by rw [← List.countP_append, List.take_append_drop]
  have : (S.take i).countP p = (S.take i).length := List.countP_eq_length.mpr h
  rw [List.length_take] at this
  omega
theorem kth_ok {S : List (Nat × Nat)} {k : Nat} (hd : dsc S) (hk : 1 ≤ k) (hl : k ≤ S.length) (v : Nat) : (abv S v < k ∧ k ≤ abv S v + sam S v) ↔ v = lastW (S.take k) ∨ (abv S v < k ∧ k ≤ abv S v + sam S v ∧ False) := by
  have hlen : (S.take k).length = k := by rw [List.length_take]; omega
  have hL : lastW (S.take k) = (S[k - 1]'(by omega)).2 := by
    unfold lastW
    rw [if_neg (by omega), hlen, List.getD_eq_getElem?_getD, List.getElem?_take, if_pos (by omega), List.getElem?_eq_getElem (by omega)]
    rfl
  have top : ∀ y ∈ S.take k, (S[k - 1]'(by omega)).2 ≤ y.2 := fun y hy => by
    obtain ⟨i, hi, e⟩ := List.mem_take_iff_getElem.mp hy
    subst e
    by_cases e2 : i = k - 1
    · subst e2; exact Nat.le_refl _
    · exact List.pairwise_iff_getElem.mp hd i (k - 1) (by omega) (by omega) (by omega)
  have bot : ∀ y ∈ S.drop (k - 1), y.2 ≤ (S[k - 1]'(by omega)).2 := fun y hy => by
    obtain ⟨i, hi, e⟩ := List.mem_drop_iff_getElem.mp hy
    subst e
    by_cases e2 : i = 0
    · subst e2; simp
    · exact List.pairwise_iff_getElem.mp hd (k - 1) (k - 1 + i) (by omega) (by omega) (by omega)
  rw [hL, abv_sam]
  constructor
  · rintro ⟨h1, h2⟩
    left
    rcases Nat.lt_trichotomy v (S[k - 1]'(by omega)).2 with g | g | g
    · exfalso
      have := cnt_hi (p := fun y => decide (v < y.2)) hl (fun y hy => by have := top y hy; simp; omega)
      unfold abv at h1
      omega
    · exact g
    · exfalso
      have := cnt_lo (S := S) (p := fun y => decide (v ≤ y.2)) (i := k - 1) (fun y hy => by have := bot y hy; simp; omega)
      omega
  · rintro (rfl | ⟨-, -, h⟩)
    · constructor
      · have := cnt_lo (S := S) (p := fun y => decide ((S[k - 1]'(by omega)).2 < y.2)) (i := k - 1) (fun y hy => by have := bot y hy; simp; omega)
        unfold abv
        omega
      · exact cnt_hi hl (fun y hy => by have := top y hy; simp; omega)
    · exact h.elim
/-- the reference's walk through what is weighed: the last that is the k-th -/
def kthL (l : List (Nat × Nat)) (k : Nat) : List (Nat × Nat) → Nat → Nat
  | [], z => z
  | x :: t, z => kthL l k t (if abv l x.2 < k ∧ k ≤ abv l x.2 + sam l x.2 then x.2 else z)
theorem kthL_ok {l : List (Nat × Nat)} {k : Nat} (hp : l.Pairwise (fun a b => a.1 < b.1)) (hk : 1 ≤ k) (hl : k ≤ l.length) : ∀ (m : List (Nat × Nat)) (z : Nat), (z = lastW ((srtW l).take k) ∨ ∃ x ∈ m, x.2 = lastW ((srtW l).take k)) → kthL l k m z = lastW ((srtW l).take k)
  | [], z, h => by
    rcases h with h | ⟨x, hx, -⟩
    · exact h
    · simp at hx
  | x :: t, z, h => by
    unfold kthL
    apply kthL_ok hp hk hl t
    have ea : ∀ v, abv l v = abv (srtW l) v := fun v => ((srt_perm l).countP_eq _).symm
    have es : ∀ v, sam l v = sam (srtW l) v := fun v => ((srt_perm l).countP_eq _).symm
    have key := kth_ok (lt2_dsc (srt_lt2 hp)) hk (by rw [srt_len]; exact hl) x.2
    rw [← ea, ← es] at key
    by_cases g : abv l x.2 < k ∧ k ≤ abv l x.2 + sam l x.2
    · rw [if_pos g]
      left
      rcases key.mp g with h | ⟨-, -, h⟩
      · exact h
      · exact h.elim
    · rw [if_neg g]
      have hne : x.2 ≠ lastW ((srtW l).take k) := fun z => g (key.mpr (Or.inl z))
      rcases h with h | ⟨y, hy, e⟩
      · exact Or.inl h
      · rcases List.mem_cons.mp hy with rfl | hy
        · exact absurd e hne
        · exact Or.inr ⟨y, hy, e⟩
theorem kthL_all {l : List (Nat × Nat)} {k : Nat} (hp : l.Pairwise (fun a b => a.1 < b.1)) (hk : 1 ≤ k) (hl : k ≤ l.length) : kthL l k l 0 = lastW ((srtW l).take k) := by
  apply kthL_ok hp hk hl
  right
  have hlen : ((srtW l).take k).length = k := by rw [List.length_take, srt_len]; omega
  refine ⟨((srtW l).take k).getD (k - 1) (0, 0), ?_, ?_⟩
  · apply (srt_perm l).mem_iff.mp
    apply List.mem_of_mem_take (i := k)
    rw [List.getD_eq_getElem?_getD, List.getElem?_eq_getElem (by omega)]
    exact List.getElem_mem _
  · unfold lastW
    rw [if_neg (by omega), hlen]
/-- the reference's choice: the first of the most weight -/
def bsc (f : Nat → Option Nat) : Nat → Option (Nat × Nat)
  | 0 => none
  | k + 1 => match f k with
    | none => bsc f k
    | some w => match bsc f k with
      | none => some (k, w)
      | some b => if b.2 < w then some (k, w) else some b
theorem bsc_n {f : Nat → Option Nat} : ∀ {k : Nat}, bsc f k = none → ∀ j, j < k → f j = none
  | 0, _, j, hj => by omega
  | k + 1, h, j, hj => by
    unfold bsc at h
    cases hf : f k with
    | none =>
      rw [hf] at h
      by_cases e : j = k
      · subst e; exact hf
      · exact bsc_n h j (by omega)
    | some w =>
      rw [hf] at h
      cases hb : bsc f k with
      | none => rw [hb] at h; cases h
      | some b =>
        rw [hb] at h
        simp only at h
        split at h <;> cases h
theorem bsc_s {f : Nat → Option Nat} : ∀ {k : Nat} {b : Nat × Nat}, bsc f k = some b → b.1 < k ∧ f b.1 = some b.2 ∧ ∀ j w, j < k → f j = some w → (j, w) = b ∨ lt2 b (j, w)
  | 0, b, h => by cases h
  | k + 1, b, h => by
    unfold bsc at h
    cases hf : f k with
    | none =>
      rw [hf] at h
      obtain ⟨i1, i2, i3⟩ := bsc_s h
      refine ⟨by omega, i2, fun j w hj hw => ?_⟩
      by_cases e : j = k
      · subst e; rw [hf] at hw; cases hw
      · exact i3 j w (by omega) hw
    | some w0 =>
      rw [hf] at h
      cases hb : bsc f k with
      | none =>
        rw [hb] at h
        cases h
        refine ⟨by simp, hf, fun j w hj hw => ?_⟩
        by_cases e : j = k
        · subst e; rw [hf] at hw; cases hw; exact Or.inl rfl
        · rw [bsc_n hb j (by omega)] at hw; cases hw
      | some c =>
        rw [hb] at h
        obtain ⟨i1, i2, i3⟩ := bsc_s hb
        simp only at h
        split at h
        · rename_i g
          cases h
          refine ⟨by simp, hf, fun j w hj hw => ?_⟩
          by_cases e : j = k
          · subst e; rw [hf] at hw; cases hw; exact Or.inl rfl
          · right
            rcases i3 j w (by omega) hw with e2 | e2
            · rw [← e2] at g
              exact Or.inl g
            · unfold lt2 at e2 ⊢
              simp only at e2 ⊢
              omega
        · rename_i g
          cases h
          refine ⟨by omega, i2, fun j w hj hw => ?_⟩
          by_cases e : j = k
          · subst e
            rw [hf] at hw
            cases hw
            right
            unfold lt2
            simp only
            omega
          · exact i3 j w (by omega) hw
/-- the choice is the next of the sorted ones -/
theorem bsc_next {f : Nat → Option Nat} {S : List (Nat × Nat)} {n : Nat} (hS : S.Pairwise lt2) (hf : ∀ j w, (j < 12 ∧ f j = some w) ↔ (j, w) ∈ S.drop n) : bsc f 12 = S[n]? := by
  cases hb : bsc f 12 with
  | none =>
    have := bsc_n hb
    symm
    rw [List.getElem?_eq_none_iff]
    apply Nat.le_of_not_lt
    intro hn
    have hm : S[n] ∈ S.drop n := by rw [List.drop_eq_getElem_cons hn]; exact List.mem_cons_self
    have := (hf S[n].1 S[n].2).mpr hm
    rw [bsc_n hb _ this.1] at this
    cases this.2
  | some b =>
    obtain ⟨i1, i2, i3⟩ := bsc_s hb
    have hm := (hf b.1 b.2).mp ⟨i1, i2⟩
    have hn : n < S.length := by
      apply Nat.lt_of_not_le
      intro z
      rw [List.drop_eq_nil_of_le z] at hm
      simp at hm
    rw [List.getElem?_eq_getElem hn]
    congr 1
    rw [List.drop_eq_getElem_cons hn] at hm
    rcases List.mem_cons.mp hm with e | e
    · exact e
    · exfalso
      have hd : (S[n] :: S.drop (n + 1)).Pairwise lt2 := by
        rw [← List.drop_eq_getElem_cons hn]
        exact hS.sublist (List.drop_sublist _ _)
      have h1 := (List.pairwise_cons.mp hd).1 _ e
      have h2 := (hf S[n].1 S[n].2).mpr (by rw [List.drop_eq_getElem_cons hn]; exact List.mem_cons_self)
      rcases i3 _ _ h2.1 h2.2 with e2 | e2
      · have : S[n] = b := e2
        rw [this] at h1
        unfold lt2 at h1
        omega
      · unfold lt2 at h1 e2
        omega
