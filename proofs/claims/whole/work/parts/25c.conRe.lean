/-! the results: insert -/
/-- what stands from j + 1 to c - 1 was shifted up by one -/
def shF (f : Nat → Int32) (c j : Nat) : Nat → Int32 := fun q => if j < q ∧ q < c then f (q - 1) else f q
theorem shF_0 (f : Nat → Int32) (c : Nat) : shF f c (c - 1) = f := funext fun q => by
  unfold shF
  rw [if_neg (by omega)]
theorem shF_s {f : Nat → Int32} {c j : Nat} (h0 : 0 < j) (h : j < c) : upd (shF f c j) j (shF f c j (j - 1)) = shF f c (j - 1) := funext fun q => by
  unfold upd
  by_cases e : q = j
  · subst e
    rw [if_pos rfl]
    unfold shF
    rw [if_neg (by omega), if_pos (by omega)]
  · rw [if_neg e]
    unfold shF
    by_cases g : j < q ∧ q < c
    · rw [if_pos g, if_pos (by omega)]
    · rw [if_neg g, if_neg (by omega)]
theorem ins2 {α : Type} {rs : List α} {x : α} {at_ mx : Nat} (ha : at_ ≤ rs.length) (i : Nat) (hi : i < mx) : ((rs.take at_ ++ x :: rs.drop at_).take mx)[i]? = if i < at_ then rs[i]? else if i = at_ then some x else rs[i - 1]? := by
  rw [List.getElem?_take, if_pos hi]
  have hl : (rs.take at_).length = at_ := by simp; omega
  by_cases g : i < at_
  · rw [if_pos g, List.getElem?_append_left (by omega), List.getElem?_take, if_pos g]
  · rw [if_neg g, List.getElem?_append_right (by omega), hl]
    by_cases e : i = at_
    · subst e
      simp
    · obtain ⟨d, rfl⟩ : ∃ d, i = at_ + (d + 1) := ⟨i - at_ - 1, by omega⟩
      rw [if_neg e, show at_ + (d + 1) - at_ = d + 1 by omega, List.getElem?_cons_succ, List.getElem?_drop, show at_ + (d + 1) - 1 = at_ + d by omega]
theorem rIns_len {rs : List (Nat × Nat)} {id w mx : Nat} : (rIns rs id w mx).length = min mx (rs.length + 1) := by
  have := rAt_le rs w rs.length
  unfold rIns
  simp
  omega
section ConRe2
variable {l : Launch} {X : ev_X} {n : Nat} {F : ev_H} {r : Nat} {rs : List (Nat × Nat)}
theorem c_Re_insert {id w mx : Nat} (h : reI F r rs) (hw : w < 2 ^ 30) (h1 : 1 ≤ mx) (hmx : mx ≤ 12) (hlen : rs.length ≤ mx) : Cal l X M_Re_insert 0 0 [.ref r, .int (nI id), .int (nI w), .int (nI mx)] n F (reQ n F r (rIns rs id w mx)) := by
  have hI := h
  obtain ⟨fi, fw, g1, g2, g3, g4, g5⟩ := h
  have hat := rAt_le rs w rs.length
  have gd : ∀ i, i < rs.length → rs[i]? = some (rs.getD i (0, 0)) := fun i hi => by
    rw [List.getD_eq_getElem?_getD, List.getElem?_eq_getElem hi]
    rfl
  -- the end: nothing is put down
  have keep : mx ≤ rAt rs w rs.length → rIns rs id w mx = rs := fun z => by
    have e : rAt rs w rs.length = rs.length := by omega
    have e2 : mx = rs.length := by omega
    unfold rIns
    rw [e, e2]
    simp
  have w43 : mx ≤ rAt rs w rs.length → ∀ a : Int32, Ev l X M_Re_insert 0 0 43 [(0, .ref r), (1, .int (nI id)), (2, .int (nI w)), (3, .int (nI mx)), (4, .int a)] [] n F (ev_mq X (reQ n F r (rIns rs id w mx))) := fun z a => by
    refine s_Re_insert_43 ⟨rfl, rfl, ?_, ag_r _ _ _⟩
    rw [keep z]
    exact hI
  -- the shift
  have w71 : ∀ (at_ c : Nat), at_ = rAt rs w rs.length → c = min mx (rs.length + 1) → at_ < mx → ∀ (d j : Nat), j = at_ + d → j < c → ∀ G : ev_H, G r = some (.inr (7, [.ref (r + 1), .ref (r + 2), .int (nI c)])) → G (r + 1) = some (.inl (0, 12, .inl (shF fi c j))) → G (r + 2) = some (.inl (0, 12, .inl (shF fw c j))) → ag F G r (r + 3) → Ev l X M_Re_insert 0 0 71 [(0, .ref r), (1, .int (nI id)), (2, .int (nI w)), (3, .int (nI mx)), (4, .int (nI at_)), (5, .int (nI j))] [] n G (ev_mq X (reQ n F r (rIns rs id w mx))) := by
    intro at_ c ha hc hlt d
    induction d with
    | zero =>
      intro j hj hjc G k1 k2 k3 kA
      have e1 : j = at_ := by omega
      have hle : nI j ≤ nI at_ := (nI_leI (by omega) (by omega)).mpr (by omega)
      refine s_Re_insert_71 k1 k2 k3 (fun _ => vp_in_nI (by omega) (by decide)) (fun _ => vp_in_nI (by omega) (by decide)) (fun _ => ⟨rfl, rfl, ⟨upd (shF fi c j) at_ (nI id), upd (shF fw c j) at_ (nI w), ?_, ?_, ?_, ?_, ?_⟩, ?_⟩) ?_ ?_ ?_ ?_ ?_
      · rw [eu_n (by omega), eu_n (by omega), rIns_len, ← hc]
        exact k1
      · rw [eu_n (by omega), nI_clamp (by omega)]
        exact eu_y
      · rw [nI_clamp (by omega)]
        exact eu_y
      · rw [rIns_len]
        omega
      · intro i x hx
        have hi : i < mx := by
          have := (List.getElem?_eq_some_iff.mp hx).1
          rw [rIns_len] at this
          omega
        have hi2 : i < c := by
          have := (List.getElem?_eq_some_iff.mp hx).1
          rw [rIns_len] at this
          omega
        unfold rIns at hx
        rw [← ha, ins2 (by omega) i hi] at hx
        by_cases q1 : i < at_
        · rw [if_pos q1] at hx
          have q2 : ¬ i = at_ := by omega
          have q3 : ¬ (j < i ∧ i < c) := by omega
          simp only [upd, shF, if_neg q2, if_neg q3]
          exact g5 i x hx
        · rw [if_neg q1] at hx
          by_cases q2 : i = at_
          · rw [if_pos q2] at hx
            cases hx
            simp only [upd, if_pos q2]
            exact ⟨trivial, trivial, hw⟩
          · rw [if_neg q2] at hx
            have q3 : j < i ∧ i < c := by omega
            simp only [upd, shF, if_neg q2, if_pos q3]
            exact g5 (i - 1) x hx
      · exact ag_u (ag_u kA (by omega) (by omega)) (by omega) (by omega)
      all_goals exact fun z => absurd hle z
    | succ d ih =>
      intro j hj hjc G k1 k2 k3 kA
      have hgt : ¬ nI j ≤ nI at_ := i_ge (by omega) (by omega) (by omega)
      have s1 : nI j - 1 = nI (j - 1) := pk_sub (b := 1) (by omega)
      have i1 : vp_in (nI j - 1) 12 := by rw [s1]; exact vp_in_nI (by omega) (by decide)
      have i2 : vp_in (nI j) 12 := vp_in_nI (by omega) (by decide)
      refine s_Re_insert_71 k1 k2 k3 (fun z => absurd z hgt) (fun z => absurd z hgt) (fun z => absurd z hgt) (fun _ => i1) (fun _ => i2) (fun _ => i1) (fun _ => i2) (fun _ => ?_)
      rw [x_m1 j (by omega), s1, nI_clamp (by omega), nI_clamp (by omega), shF_s (by omega) hjc, shF_s (by omega) hjc]
      refine ih (j - 1) (by omega) (by omega) _ ?_ ?_ ?_ (ag_u (ag_u kA (by omega) (by omega)) (by omega) (by omega))
      · rw [eu_n (by omega), eu_n (by omega)]
        exact k1
      · rw [eu_n (by omega)]
        exact eu_y
      · exact eu_y
  -- the place is known
  have w30 : Ev l X M_Re_insert 0 0 30 [(0, .ref r), (1, .int (nI id)), (2, .int (nI w)), (3, .int (nI mx)), (4, .int (nI (rAt rs w rs.length)))] [] n F (ev_mq X (reQ n F r (rIns rs id w mx))) := by
    refine s_Re_insert_30 g1 (fun a => w43 ((nI_leI (by omega) (by omega)).mp a) _) (fun a b => ?_) (fun a b => ?_)
    · have hlt : rAt rs w rs.length < mx := Nat.lt_of_not_le fun z => a ((nI_leI (by omega) (by omega)).mpr z)
      have e1 : (if (12 : Int32) < nI mx then (12 : Int32) else nI mx) = nI mx := if_neg fun z => by
        have := (nI_ltI (a := 12) (by decide) (by omega)).mp z
        omega
      have e2 : (if nI mx < nI rs.length + 1 then nI mx else nI rs.length + 1) = nI (min mx (rs.length + 1)) := by
        rw [nI_1]
        by_cases q : mx < rs.length + 1
        · rw [if_pos ((nI_ltI (by omega) (by omega)).mpr q), Nat.min_eq_left (by omega)]
        · rw [if_neg (fun z => q ((nI_ltI (by omega) (by omega)).mp z)), Nat.min_eq_right (by omega)]
      rw [e1, e2, show nI (min mx (rs.length + 1)) - 1 = nI (min mx (rs.length + 1) - 1) from pk_sub (b := 1) (by omega)]
      refine w71 _ _ rfl rfl hlt (min mx (rs.length + 1) - 1 - rAt rs w rs.length) _ (by omega) (by omega) _ eu_y ?_ ?_ (ag_u (ag_r _ _ _) (by omega) (by omega))
      · rw [eu_n (by omega), shF_0]
        exact g2
      · rw [eu_n (by omega), shF_0]
        exact g3
    · exact absurd ((nI_ltI (b := 12) (by omega) (by decide)).mpr (by
        have hlt : rAt rs w rs.length < mx := Nat.lt_of_not_le fun z => a ((nI_leI (by omega) (by omega)).mpr z)
        omega)) b
  -- the place is sought
  have w6 : ∀ k, k ≤ rs.length → rAt rs w rs.length = rAt rs w k → Ev l X M_Re_insert 0 0 6 [(0, .ref r), (1, .int (nI id)), (2, .int (nI w)), (3, .int (nI mx)), (4, .int (nI k))] [] n F (ev_mq X (reQ n F r (rIns rs id w mx))) := by
    intro k
    induction k with
    | zero =>
      intro hk e
      have e0 : rAt rs w rs.length = 0 := e
      rw [e0] at w30
      refine s_Re_insert_6 g1 g3 (fun _ => w30) ?_ ?_ ?_
      all_goals exact fun z => absurd (by decide) z
    | succ k ih =>
      intro hk e
      have s1 : nI (k + 1) - 1 = nI k := pk_sub (a := k + 1) (b := 1) (by omega)
      have hp : ¬ nI (k + 1) ≤ 0 := fun z => by
        have := (nI_leI (b := 0) (by omega) (by decide)).mp z
        omega
      have hx := g5 k _ (gd k (by omega))
      have hr : rAt rs w (k + 1) = if (rs.getD k (0, 0)).2 < w then rAt rs w k else k + 1 := rfl
      refine s_Re_insert_6 g1 g3 (fun z => absurd z hp) (fun _ => by rw [s1]; exact vp_in_nI (by omega) (by decide)) (fun _ a => ?_) (fun _ a => ?_)
      · rw [s1, nI_clamp (by omega), hx.2.1] at a
        have := (nI_leI (by omega) (by omega)).mp a
        rw [if_neg (by omega)] at hr
        rw [e, hr] at w30
        exact w30
      · rw [s1, nI_clamp (by omega), hx.2.1] at a
        have : (rs.getD k (0, 0)).2 < w := Nat.lt_of_not_le fun z => a ((nI_leI (by omega) (by omega)).mpr z)
        rw [if_pos this] at hr
        rw [x_m1 (k + 1) (by omega), s1]
        exact ih (by omega) (by rw [e, hr])
  exact Cal.of (by decide) (Nat.le_of_ble_eq_true rfl) (s_Re_insert_0 g1 (w6 rs.length (Nat.le_refl _) rfl))
end ConRe2
