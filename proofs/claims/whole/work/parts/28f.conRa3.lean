/-! the ranking: the best are chosen; what a query finds -/
section Ra3
variable {l : Launch} {X : ev_X} {n : Nat} {F G : ev_H} {ow ow' : Nat → Nat} {r rr L K wc : Nat} {lv : List Doc} {row : List Int64}
theorem re_kp {C : Nat → Prop} {rs : List (Nat × Nat)} (h : reI F rr rs) (k : kp ow C F G) (hw : ∀ i, i < 3 → ow (rr + i) = 1 ∧ C (rr + i)) : reI G rr rs := by
  obtain ⟨fi, fw, h1, h2, h3, h4⟩ := h
  exact ⟨fi, fw, k _ _ h1 (Or.inr (Or.inl (hw 0 (by omega)))), k _ _ h2 (Or.inr (Or.inl (hw 1 (by omega)))), k _ _ h3 (Or.inr (Or.inl (hw 2 (by omega)))), h4⟩
theorem rk_kp {C : Nat → Prop} (h : rkI F r lv row wc) (k : kp ow C F G) (hw : ∀ i, i < 11 → ow (r + i) = 1 ∧ C (r + i)) : rkI G r lv row wc := by
  obtain ⟨wf, bf, h1, h2⟩ := h
  exact ⟨wf, bf, ra_kp h1 k hw, h2⟩
abbrev rbC (r rr : Nat) : Nat → Prop := fun x => 1 < x ∧ (x < r ∨ r + 11 ≤ x) ∧ (x < rr ∨ rr + 3 ≤ x)
def cbQ (n : Nat) (F : ev_H) (ow : Nat → Nat) (r rr : Nat) (lv : List Doc) (row : List Int64) (K : Nat) : Option Value → Nat → ev_H → Prop := fun v n' F' => v = none ∧ n' = n ∧ rkI F' r lv row (wlF K (candO lv row lv)).length ∧ reI F' rr (rkR lv row K) ∧ kp ow (rbC r rr) F F'
theorem take_dAt {lv : List Doc} {k : Nat} (h : k < lv.length) : lv.take (k + 1) = lv.take k ++ [dAt lv k] := by
  rw [List.take_succ_eq_append_getElem h]
  congr 2
  unfold dAt
  rw [List.getD_eq_getElem?_getD, List.getElem?_eq_getElem h]
  rfl
theorem c_Ra_chooseBest (h : rkI F r lv row 0) (hre : reI F rr []) (hl : dlI X F ow L lv) (h12 : lv.length ≤ 12) (hlv : ∀ x ∈ lv, x.1 < 12 ∧ x.2.length ≤ 12) (hasc : asc lv) (h8 : row.length ≤ 8) (h1K : 1 ≤ K) (hK : K ≤ 12) (wL : ow L = 1) (cL : rbC r rr L) (hw : ∀ i, i < 11 → ow (r + i) = 1) (hwr : ∀ i, i < 3 → ow (rr + i) = 1) (hd : r + 11 ≤ rr) (h1r : 1 < r) : Cal l X M_Ra_chooseBest 0 0 [.ref r, .int (nI K), .ref L, .ref rr] n F (cbQ n F ow r rr lv row K) := by
  have key : ∀ (d k : Nat), k + d = lv.length → ∀ (G : ev_H), rkI G r lv row (wlF K (candO lv row (lv.take k))).length → reI G rr ((srtW (wlF K (candO lv row (lv.take k)))).take K) → kp ow (rbC r rr) F G → Ev l X M_Ra_chooseBest 0 0 3 [(0, .ref r), (1, .int (nI K)), (2, .ref L), (3, .ref rr), (4, .int (nI k))] [] n G (ev_mq X (cbQ n F ow r rr lv row K)) := by
    intro d
    induction d with
    | zero =>
      intro k hk G hR hS hKp
      have e1 : k = lv.length := by omega
      subst e1
      rw [List.take_length] at hR hS
      have hlG : dlI X G ow L lv := dl_kp hl hKp cL wL (fun _ _ _ => rfl)
      obtain ⟨e, mc, c1⟩ := dl_cell hlG
      obtain ⟨wf, bf, ⟨g1, -⟩, -⟩ := id hR
      obtain ⟨fi, fw, s1, -⟩ := id hS
      have hle : nI lv.length ≤ nI lv.length := (nI_leI (by omega) (by omega)).mpr (Nat.le_refl _)
      have hfin : cbQ n F ow r rr lv row K none n G := ⟨rfl, rfl, hR, by rw [← rk_ok h1K hasc]; exact hS, hKp⟩
      refine s_Ra_chooseBest_3 (v22 := 0) (v39 := 0) (v43 := 0) c1 g1 s1 (dl_size hlG) (fun _ => hfin) ?_ ?_ ?_ ?_ ?_ ?_ ?_ ?_
      all_goals exact fun c => absurd hle c
    | succ d ih =>
      intro k hk G hR hS hKp
      have hkl : k < lv.length := by omega
      have hlG : dlI X G ow L lv := dl_kp hl hKp cL wL (fun _ _ _ => rfl)
      obtain ⟨e, mc, c1⟩ := dl_cell hlG
      obtain ⟨wf, bf, hra, hW, hB⟩ := id hR
      obtain ⟨fi, fw, s1, -⟩ := id hS
      have hts := dAt_12 hlv k
      have hgt : ¬ nI lv.length ≤ nI k := i_ge (by omega) (by omega) (by omega)
      have hgt2 : ¬ (12 : Int32) ≤ nI k := i_ge (a := 12) (by decide) (by omega) (by omega)
      have hih := ih (k + 1) (by omega)
      rw [take_dAt hkl, cand_app] at hih
      have hp : (wlF K (candO lv row (lv.take k))).Pairwise (fun a b : Nat × Nat => a.1 < b.1) := wl_asc (hasc.sublist (List.take_sublist _ _))
      have hwl : (wlF K (candO lv row (lv.take k))).length ≤ 12 := by
        have h1 := (wlF_sub K (candO lv row (lv.take k))).length_le
        rw [List.length_map] at h1
        have h2 : (candO lv row (lv.take k)).length ≤ (lv.take k).length := by
          unfold candO
          rw [List.length_map]
          exact List.length_filter_le _ _
        rw [List.length_take] at h2
        omega
      have hb27 := sumB_lt (lv := lv) (row := row) (ts := (dAt lv k).2) h12 (fun i => dAt_12 hlv i) h8
      have hw27 := sumW_lt (lv := lv) (row := row) (ts := (dAt lv k).2) h12 hts h8
      have hlw : lastW ((srtW (wlF K (candO lv row (lv.take k)))).take K) < 2 ^ 30 := by
        obtain ⟨fi', fw', -, -, -, s4, s5⟩ := id hS
        unfold lastW
        split
        · decide
        · rename_i z
          have hlt : ((srtW (wlF K (candO lv row (lv.take k)))).take K).length - 1 < ((srtW (wlF K (candO lv row (lv.take k)))).take K).length := by omega
          have := s5 _ _ (List.getElem?_eq_getElem hlt)
          rw [List.getD_eq_getElem?_getD, List.getElem?_eq_getElem hlt]
          exact this.2.2
      -- it isn't weighed
      have skip : (hasT row (dAt lv k).2 = false ∨ ¬ ((wlF K (candO lv row (lv.take k))).length < K ∨ lastW ((srtW (wlF K (candO lv row (lv.take k)))).take K) < sumB lv row (dAt lv k).2)) → Ev l X M_Ra_chooseBest 0 0 82 [(0, .ref r), (1, .int (nI K)), (2, .ref L), (3, .ref rr), (4, .int (nI k))] [] n G (ev_mq X (cbQ n F ow r rr lv row K)) := by
        intro z
        refine s_Ra_chooseBest_82 ?_
        rw [nI_1]
        by_cases g : hasT row (dAt lv k).2 = true
        · rw [if_pos g, wlF_app] at hih
          have z2 : ¬ ((wlF K (candO lv row (lv.take k))).length < K ∨ lastW ((srtW (wlF K (candO lv row (lv.take k)))).take K) < sumB lv row (dAt lv k).2) := by
            rcases z with z | z
            · rw [g] at z; cases z
            · exact z
          have e0 : wlS K (wlF K (candO lv row (lv.take k))) ((dAt lv k).1, sumW lv row (dAt lv k).2, sumB lv row (dAt lv k).2) = wlF K (candO lv row (lv.take k)) := if_neg z2
          rw [e0] at hih
          exact hih G hR hS hKp
        · rw [if_neg g] at hih
          exact hih G hR hS hKp
      -- it is weighed
      have take1 : hasT row (dAt lv k).2 = true → ((wlF K (candO lv row (lv.take k))).length < K ∨ lastW ((srtW (wlF K (candO lv row (lv.take k)))).take K) < sumB lv row (dAt lv k).2) → Ev l X M_Ra_chooseBest 0 0 49 [(0, .ref r), (1, .int (nI K)), (2, .ref L), (3, .ref rr), (4, .int (nI k))] [] n G (ev_mq X (cbQ n F ow r rr lv row K)) := by
        intro g z
        rw [if_pos g, wlF_app] at hih
        have e0 : wlS K (wlF K (candO lv row (lv.take k))) ((dAt lv k).1, sumW lv row (dAt lv k).2, sumB lv row (dAt lv k).2) = wlF K (candO lv row (lv.take k)) ++ [((dAt lv k).1, sumW lv row (dAt lv k).2)] := if_pos z
        rw [e0] at hih
        obtain ⟨g1, ⟨rf, g2, g3⟩, g4, g5⟩ := hra
        have hk1 : kp ow (rbC r rr) G (ev_up G r (.inr (6, [.ref (r + 1), .ref (r + 10), .int (nI row.length), .int (nI (wlF K (candO lv row (lv.take k))).length + 1)]))) := kp_u kp_r (hw 0 (by omega)) (fun q => by omega) (fun q => by omega)
        have hR1 : rkI (ev_up G r (.inr (6, [.ref (r + 1), .ref (r + 10), .int (nI row.length), .int (nI (wlF K (candO lv row (lv.take k))).length + 1)]))) r lv row ((wlF K (candO lv row (lv.take k))).length + 1) := ⟨wf, bf, ⟨by rw [eu_y, nI_1], ⟨rf, by rw [eu_n (by omega)]; exact g2, g3⟩, fun i hi => by rw [eu_n (by omega)]; exact g4 i hi, by rw [eu_n (by omega)]; exact g5⟩, hW, hB⟩
        have hS1 : reI (ev_up G r (.inr (6, [.ref (r + 1), .ref (r + 10), .int (nI row.length), .int (nI (wlF K (candO lv row (lv.take k))).length + 1)]))) rr ((srtW (wlF K (candO lv row (lv.take k)))).take K) := by
          refine re_kp (C := fun x => 1 < x ∧ x ≠ r) hS (kp_u kp_r (hw 0 (by omega)) (fun q => q.2 rfl) (fun q => by omega)) (fun i hi => ⟨hwr i hi, by have := cL; omega, by omega⟩)
        have hl1 := dl_kp hlG hk1 cL wL (fun _ _ _ => rfl)
        obtain ⟨v, k1, k2⟩ := dl_get (l := l) (n := n) hl1 hkl
        obtain ⟨tt, f, d1, d2, d3, d4, d5, d6, d7⟩ := k2
        have hd1 : G v = some (.inr (8, [.int (nI (dAt lv k).1), .ref tt])) := by
          rw [eu_n (fun q => by subst q; rw [eu_y] at d1; cases d1)] at d1
          exact d1
        refine s_Ra_chooseBest_49 (bc79 := 0) (bs79 := 0) (rc79 := 0) (rs79 := 0) g1 c1 hd1 s1 (by omega) (by omega) k1 (c_Ra_weightOf hR1 hkl h12 hts h8) (c_Re_insert hS1 (by omega) h1K hK (by rw [List.length_take]; omega)) ?_
        rintro _ _ G2 ⟨rfl, rfl, hS2, hA⟩
        rw [wlS_ins hp] at hS2
        have hk2 : kp ow (rbC r rr) (ev_up G r (.inr (6, [.ref (r + 1), .ref (r + 10), .int (nI row.length), .int (nI (wlF K (candO lv row (lv.take k))).length + 1)]))) G2 := kp_ag hA (fun x h1 h2 => by
          have := hwr (x - rr) (by omega)
          rw [show rr + (x - rr) = x by omega] at this
          exact ⟨this, fun q => by omega⟩) (fun q => by omega)
        refine s_Ra_chooseBest_82 ?_
        rw [nI_1]
        refine hih G2 ?_ hS2 (kp_t (kp_t hKp hk1 (fun _ _ _ => rfl)) hk2 (fun _ _ _ => rfl))
        rw [List.length_append]
        have hA2 : kp ow (fun x => 1 < x ∧ (x < rr ∨ rr + 3 ≤ x)) (ev_up G r (.inr (6, [.ref (r + 1), .ref (r + 10), .int (nI row.length), .int (nI (wlF K (candO lv row (lv.take k))).length + 1)]))) G2 := kp_ag hA (fun x h1 h2 => by
          have := hwr (x - rr) (by omega)
          rw [show rr + (x - rr) = x by omega] at this
          exact ⟨this, fun q => by omega⟩) (fun q => by omega)
        exact rk_kp hR1 hA2 (fun i hi => ⟨hw i hi, by have := cL; omega, by omega⟩)
      refine s_Ra_chooseBest_3 (v22 := bI (hasT row (dAt lv k).2)) c1 hra.1 s1 (dl_size hlG) (fun c => absurd c hgt) (fun _ c => absurd c hgt2) (fun _ _ => c_Ra_hasTermOfBag hR hkl h12 hts h8) (fun _ _ a => skip (Or.inl (bI_1.mp a))) (fun _ _ a b => take1 (bI_n0 a) (Or.inl ((nI_ltI (by omega) (by omega)).mp b))) (fun _ _ _ _ => c_Ra_boundOf hR hkl h12 hts h8) (fun _ _ _ _ => c_Re_leastWeight hS) (fun _ _ a b c => skip (Or.inr ?_)) (fun _ _ a b c => take1 (bI_n0 a) (Or.inr ?_))
      · have hb1 : ¬ (wlF K (candO lv row (lv.take k))).length < K := fun q => b ((nI_ltI (by omega) (by omega)).mpr q)
        have hc1 := (nI_leI (a := sumB lv row (dAt lv k).2) (b := lastW ((srtW (wlF K (candO lv row (lv.take k)))).take K)) (by omega) (by omega)).mp c
        omega
      · exact Nat.lt_of_not_le fun q => c ((nI_leI (a := sumB lv row (dAt lv k).2) (b := lastW ((srtW (wlF K (candO lv row (lv.take k)))).take K)) (by omega) (by omega)).mpr q)
  refine Cal.of (by decide) (Nat.le_of_ble_eq_true rfl) (s_Ra_chooseBest_0 (key lv.length 0 (by omega) F ?_ ?_ kp_r))
  · rw [List.take_zero]
    exact h
  · have e : (srtW (wlF K (candO lv row (lv.take 0)))).take K = [] := by simp [candO, wlF, srtW]
    rw [e]
    exact hre
end Ra3
