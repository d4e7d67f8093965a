/-! commit and merge, of both -/
section BQ
variable {l : Launch} {X : ev_X} {p r c n : Nat} {F : ev_H}
theorem pn_bit {pd : List Doc} {pm : Nat} {pn : Nat → Nat} {pt : Nat → List Int64} (h : peR pd pm pn pt) {i : Nat} (hi : i < 12) : (pn i != 0) = pm.testBit i := by
  rw [h.1 i hi]
  cases pm.testBit i with
  | false => rfl
  | true =>
    simp only [if_true]
    split <;> rfl
theorem cmR_eq {sg : List Seg} {lv : List Doc} {rl : List PRow} {pd : List Doc} {pm : Nat} {pn : Nat → Nat} {pt : Nat → List Int64} (a : shR sg lv rl) (h : peR pd pm pn pt) (s : Nat) : cmR rl pn pt s = rl.map (mkR pm) ++ (pdI pn).map (fun i => ((i, s, false, pt i) : PRow)) := by
  unfold cmR
  congr 1
  apply List.map_congr_left
  intro x hx
  unfold mkB mkR
  show (x.1, x.2.1, x.2.2.1 || (pn x.1 != 0), x.2.2.2) = _
  rw [pn_bit h (a.2.2.2 x hx).1]
theorem cm_ok {sg : List Seg} {lv : List Doc} {rl : List PRow} {pd : List Doc} {pm : Nat} {pn : Nat → Nat} {pt : Nat → List Int64} (a : shR sg lv rl) (h : peR pd pm pn pt) : shR (cmS pd pm sg) (cmL pd pm lv) (cmR rl pn pt sg.length) ∧ cmN pn pt sg.length = (cmS pd pm sg).length := by
  rw [cmR_eq a h]
  have hp := pd_perm h
  have en : nwR pn pt sg.length 12 = (pdI pn).map (fun i => ((i, sg.length, false, pt i) : PRow)) := rfl
  unfold cmS cmL cmN
  rw [en]
  by_cases g : pd = []
  · subst g
    have e : pdI pn = [] := List.Perm.eq_nil hp
    rw [e]
    simp only [if_true, List.map_nil, List.append_nil]
    refine ⟨shR_mk pm a, ?_⟩
    simp
  · rw [if_neg g]
    have e : ¬ (pdI pn).map (fun i => ((i, sg.length, false, pt i) : PRow)) = [] := fun q => by
      rw [List.map_eq_nil_iff] at q
      rw [q] at hp
      have := hp.length_eq
      rw [List.length_map] at this
      exact g (List.eq_nil_of_length_eq_zero this.symm)
    rw [if_neg e]
    refine ⟨shR_commit a h, ?_⟩
    simp
theorem b_commit (hc : c < 512) (H : BI X p r c n F) : bothI l X M_P_commit M_Mo_commit 27 505 [] p r c n F := by
  obtain ⟨ow, gs, dr, pd, pm, sg, lv, w, b, st, ss, h, dp, wc, rs, ai, al, rl, tk, hI, hF, hL, hR⟩ := H
  cases st with
  | true => exact both_sm hI hF hL hR (c_P_commit_stop hI) (fun n1 B => c_Mo_commit_stop (by decide))
  | false =>
    obtain ⟨-, s6, -, -, -, -, s12, -⟩ := ps_bd hI
    have hRR := hR
    obtain ⟨⟨a1, a2⟩, ⟨pn, pt, b1, b2⟩, a3, ⟨a4, a5, a6⟩, a7, a8, a9, a10⟩ := hR
    have hid := pe_idle b1
    have hcn : cn (fun i => ai 2 i == 0) 12 = cn (fun i => pn i == 0) 12 := pd_cn b2 rfl (by omega)
    have hc12 := cn_le (fun i => pn i == 0) 12
    have hrl := rl_len a1 s12
    by_cases g0 : popc pm = 0
    · exact both_sm hI hF hL hRR (c_P_commit_none hI g0) (fun n1 B => c_Mo_commit_none rfl (by omega))
    have hidle : ¬ cn (fun i => ai 2 i == 0) 12 = 12 := by omega
    have hc1 : cn (fun i => ai 2 i == 1) 12 = cn (fun i => pn i == 1) 12 := pd_cn b2 rfl (by omega)
    have hpl := pd_len b1
    by_cases g1 : ¬ pd = [] ∧ sg.length = 6
    · refine both_sm hI hF hL hRR (c_P_commit_full hI g0 g1.1 g1.2) (fun n1 B => ?_)
      rw [g1.2]
      refine c_Mo_commit_full rfl hidle ?_
      rw [hc1, hpl]
      exact Nat.pos_of_ne_zero fun z => g1.1 (List.eq_nil_of_length_eq_zero z)
    have h6 : pd ≠ [] → sg.length < 6 := fun q => by
      have : ¬ sg.length = 6 := fun z => g1 ⟨q, z⟩
      omega
    obtain ⟨hS, hN⟩ := cm_ok a1 b1
    have hl12 := asc_len hS.2.2.1 (fun x hx => (lv_12 hS x hx).1)
    have h12 : (lv.filter (fun d => !pm.testBit d.1)).length + pd.length ≤ 12 := by
      have e : (cmL pd pm lv).length = _ := (insA_perm pd (lv.filter (fun d => !pm.testBit d.1))).length_eq
      rw [List.length_append] at e
      omega
    have eK : cn (fun i => pn i == 1) 12 + (if rl.any (fun x => !x.2.2.1 && pn x.1 != 0) then 2 else 1) = cmK pd pm lv := by
      rw [hpl, mark_any a1 b1]
      unfold cmK
      split <;> omega
    have hK : cmK pd pm lv ≤ 14 := by
      unfold cmK
      split <;> omega
    have hP := c_P_commit_ok (l := l) (n := n) hI g0 h6 h12 a8
    have hM := fun n1 B => c_Mo_commit_ok (l := l) (X := X) (n := n1) (B := B) (r := r) (d := nI dr.length) (to := nI tk.length) (he := nI h) (re := nI rs.length) (we := nI wc) (s := sg.length) (f := b) (w := w) a2 b2 (by omega) (by omega) hidle (fun q => by
      have q2 : pd ≠ [] := fun z => by
        rw [hpl, z] at q
        simp at q
      have := h6 q2
      omega) a8 (by omega)
    rw [eK] at hM
    by_cases gc : 0 < b ∧ b ≤ cmK pd pm lv
    · by_cases ge : b = cmK pd pm lv
      · refine both_mk hI hF hL (hP.mono fun v' n' F' q => q.2.1 gc ge) (fun n1 B => (hM n1 B).mono ?_)
        rintro v n2 F2 ⟨e1, -, q, -⟩
        obtain ⟨e2, ai', al', e3, f1, f2, f3, f4⟩ := q gc ge
        rw [hN] at e3
        exact ⟨e2, e1, ai', al', _, [], e3, ⟨hS, f3⟩, ⟨_, pt, peR_0 pt, pd_0 pt f4⟩, fun j hj => absurd hj (by simp), ⟨qR_0 dp, fun j x hx => by simp at hx, fun i hi => by omega⟩, rs_c a7 (f1 15 (by omega) (by omega) (by omega) (by omega) (by omega)) (f2 16 (by omega)), by omega, by omega, by simp⟩
      · refine both_mk hI hF hL (hP.mono fun v' n' F' q => q.2.2 gc ge) (fun n1 B => (hM n1 B).mono ?_)
        rintro v n2 F2 ⟨e1, -, -, q⟩
        obtain ⟨e2, e3⟩ := q gc ge
        exact ⟨e2, e1, _, _, rl, [], e3, ⟨a1, rw_c a2 rfl rfl rfl rfl rfl⟩, ⟨_, pt, peR_0 pt, pd_0 pt (fun i hi => zf_at (ai 2) hi)⟩, fun j hj => absurd hj (by simp), ⟨qR_0 dp, fun j x hx => by simp at hx, fun i hi => by omega⟩, rs_c a7 rfl rfl, by omega, by omega, by simp⟩
    · refine both_mk hI hF hL (hP.mono fun v' n' F' q => q.1 gc) (fun n1 B => (hM n1 B).mono ?_)
      rintro v n2 F2 ⟨e1, q, -⟩
      obtain ⟨e2, ai', al', e3, f1, f2, f3, f4⟩ := q gc
      rw [hN] at e3
      rw [hS.2.1.length_eq] at e2
      exact ⟨e2, e1, ai', al', _, tk, e3, ⟨hS, f3⟩, ⟨_, pt, peR_0 pt, pd_0 pt f4⟩, fun j hj => by rw [f2 1 (by omega)]; exact a3 j hj, ⟨a4, tk_c a5 (f1 10 (by omega) (by omega) (by omega) (by omega) (by omega)) (f2 11 (by omega)), fun i hi => by rw [f1 12 (by omega) (by omega) (by omega) (by omega) (by omega), f1 13 (by omega) (by omega) (by omega) (by omega) (by omega)]; exact a6 i hi⟩, rs_c a7 (f1 15 (by omega) (by omega) (by omega) (by omega) (by omega)) (f2 16 (by omega)), by omega, by omega, by omega⟩
theorem split2 {sg : List Seg} {k : Nat} (h : k + 1 < sg.length) : ∃ A y1 y2 B, sg = A ++ y1 :: y2 :: B ∧ A.length = k := by
  refine ⟨sg.take k, sg[k], sg[k + 1], sg.drop (k + 2), ?_, by rw [List.length_take]; omega⟩
  conv => lhs; rw [← List.take_append_drop k sg]
  rw [List.drop_eq_getElem_cons (show k < sg.length by omega), List.drop_eq_getElem_cons h]
theorem jo_len {A B : List Seg} {y1 y2 : Seg} {J : List Doc} : (joS A J B).length = (A ++ y1 :: y2 :: B).length - (if J = [] then 2 else 1) := by
  unfold joS
  by_cases g : J = []
  · rw [if_pos g, if_pos g]
    simp only [List.length_append, List.length_cons]
    omega
  · rw [if_neg g, if_neg g]
    simp only [List.length_append, List.length_cons]
    omega
theorem b_merge {i : Int32} (hc : c < 512) (H : BI X p r c n F) : bothI l X M_P_merge M_Mo_merge 26 965 [.int i] p r c n F := by
  obtain ⟨ow, gs, dr, pd, pm, sg, lv, w, b, st, ss, h, dp, wc, rs, ai, al, rl, tk, hI, hF, hL, hR⟩ := H
  cases st with
  | true => exact both_sm hI hF hL hR (c_P_merge_stop hI) (fun n1 B => c_Mo_merge_stop (by decide))
  | false =>
    obtain ⟨-, s6, s12l, -, -, -, s12, -⟩ := ps_bd hI
    have hrl := rl_len hR.1.1 s12
    by_cases gn : i < 0 ∨ ¬ i < nI sg.length - 1
    · exact both_sm hI hF hL hR (c_P_merge_no hI gn) (fun n1 B => c_Mo_merge_no rfl gn)
    have gi : ∃ k, k + 1 < sg.length ∧ i = nI k := by
      have g1 : ¬ i < 0 := fun q => gn (Or.inl q)
      have g2 : i < nI sg.length - 1 := Classical.byContradiction fun q => gn (Or.inr q)
      rcases Nat.eq_zero_or_pos sg.length with e | e
      · rw [e] at g2
        rw [Int32.lt_iff_toInt_lt] at g1 g2
        have z1 : (0 : Int32).toInt = 0 := by decide
        have z2 : (nI 0 - 1).toInt = -1 := by decide
        omega
      · obtain ⟨S, hS⟩ : ∃ S, sg.length = S + 1 := ⟨sg.length - 1, by omega⟩
        rw [hS, nI_pred] at g2
        rcases pk_ix i (n := S) (by omega) with g | g | ⟨k, hk, rfl⟩
        · exact absurd g g1
        · exact absurd g2 (Int32.not_lt.mpr g)
        · exact ⟨k, by omega, rfl⟩
    obtain ⟨k, hk, rfl⟩ := gi
    obtain ⟨A, y1, y2, B, e, rfl⟩ := split2 hk
    subst e
    obtain ⟨⟨a1, a2⟩, ⟨pn, pt, b1, b2⟩, a3, ⟨a4, a5, a6⟩, a7, a8, a9, a10⟩ := hR
    have hcnt := here_cnt a1
    have hless : (if livS y1 ++ livS y2 = [] then 2 else 1) = (if rl.countP (here A.length) = 0 then 2 else 1) := by
      rw [hcnt]
      by_cases g : livS y1 ++ livS y2 = []
      · rw [if_pos g, if_pos (by rw [g]; rfl)]
      · rw [if_neg g, if_neg (fun z => g (List.length_eq_zero_iff.mp z))]
    have hJ : (livS y1 ++ livS y2).length ≤ 12 := Nat.le_trans (jo_le a1) s12l
    have hS := shR_jo a1 rfl
    have hP := c_P_merge_ok (l := l) (n := n) hI hJ a8
    have hM := fun n1 B1 => c_Mo_merge_ok (l := l) (X := X) (n := n1) (B := B1) (r := r) (d := nI dr.length) (to := nI tk.length) (he := nI h) (re := nI rs.length) (we := nI wc) (i := A.length) (S := (A ++ y1 :: y2 :: B).length) (less := if livS y1 ++ livS y2 = [] then 2 else 1) (f := b) (w := w) a2 (by omega) hk (by omega) hless a8 (by omega)
    rw [hcnt] at hM
    have hN := jo_len (A := A) (B := B) (y1 := y1) (y2 := y2) (J := livS y1 ++ livS y2)
    by_cases gc : 0 < b ∧ b ≤ (livS y1 ++ livS y2).length + 1
    · by_cases ge : b = (livS y1 ++ livS y2).length + 1
      · refine both_mk hI hF hL (hP.mono fun v' n' F' q => q.2.1 gc ge) (fun n1 B1 => (hM n1 B1).mono ?_)
        rintro v n2 F2 ⟨e1, -, q, -⟩
        obtain ⟨e2, ai', al', e3, f1, f2, f3⟩ := q gc ge
        rw [← hN] at e3
        exact ⟨e2, e1, _, al', _, [], e3, ⟨hS, rw_c f3 rfl rfl rfl rfl rfl⟩, ⟨_, pt, peR_0 pt, pd_0 pt (fun i hi => zf_at (ai' 2) hi)⟩, fun j hj => absurd hj (by simp), ⟨qR_0 dp, fun j x hx => by simp at hx, fun i hi => by omega⟩, rs_c a7 (show ai' 15 = ai 15 from f1 15 (by omega) (by omega) (by omega) (by omega)) (f2 16 (by omega)), by omega, by omega, by simp⟩
      · refine both_mk hI hF hL (hP.mono fun v' n' F' q => q.2.2 gc ge) (fun n1 B1 => (hM n1 B1).mono ?_)
        rintro v n2 F2 ⟨e1, -, -, q⟩
        obtain ⟨e2, e3⟩ := q gc ge
        exact ⟨e2, e1, _, _, rl, [], e3, ⟨a1, rw_c a2 rfl rfl rfl rfl rfl⟩, ⟨_, pt, peR_0 pt, pd_0 pt (fun i hi => zf_at (ai 2) hi)⟩, fun j hj => absurd hj (by simp), ⟨qR_0 dp, fun j x hx => by simp at hx, fun i hi => by omega⟩, rs_c a7 rfl rfl, by omega, by omega, by simp⟩
    · refine both_mk hI hF hL (hP.mono fun v' n' F' q => q.1 gc) (fun n1 B1 => (hM n1 B1).mono ?_)
      rintro v n2 F2 ⟨e1, q, -⟩
      obtain ⟨e2, ai', al', e3, f1, f2, f3⟩ := q gc
      rw [← hN] at e2 e3
      exact ⟨e2, e1, ai', al', _, tk, e3, ⟨hS, f3⟩, ⟨pn, pt, b1, pd_c b2 (f1 2 (by omega) (by omega) (by omega) (by omega)) (f1 3 (by omega) (by omega) (by omega) (by omega)) (f2 4 (by omega))⟩, fun j hj => by rw [f2 1 (by omega)]; exact a3 j hj, ⟨a4, tk_c a5 (f1 10 (by omega) (by omega) (by omega) (by omega)) (f2 11 (by omega)), fun i hi => by rw [f1 12 (by omega) (by omega) (by omega) (by omega), f1 13 (by omega) (by omega) (by omega) (by omega)]; exact a6 i hi⟩, rs_c a7 (f1 15 (by omega) (by omega) (by omega) (by omega)) (f2 16 (by omega)), by omega, by omega, by omega⟩
end BQ
