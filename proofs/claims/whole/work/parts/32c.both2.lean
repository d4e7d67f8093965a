/-! the query's calls, of both -/
section BP
variable {l : Launch} {X : ev_X} {p r c n : Nat} {F : ev_H} {ai ai' : Nat → Nat → Int32} {al al' : Nat → Nat → Int64} {tk : List PTok}
theorem tk_push (h : tkA ai al tk) (k : Nat) (t : Int64) (e1 : ai' 10 = upd (ai 10) tk.length (nI k)) (e2 : al' 11 = vp_updL (al 11) tk.length t) : tkA ai' al' (tk ++ [(k, t)]) := fun j x hx => by
  rw [e1, e2]
  show (if j = tk.length then nI k else ai 10 j) = nI x.1 ∧ (if j = tk.length then t else al 11 j) = x.2
  by_cases g : j < tk.length
  · rw [List.getElem?_append_left g] at hx
    rw [if_neg (by omega), if_neg (by omega)]
    exact h j x hx
  · rw [List.getElem?_append_right (by omega)] at hx
    have hj : j = tk.length := by
      have := (List.getElem?_eq_some_iff.mp hx).1
      simp at this
      omega
    subst hj
    simp at hx
    subst hx
    simp
theorem dp_push {dp : Nat → Nat} {m : Nat} (h : ∀ i, i < m → ai 12 i = bI (decide (dp i = 0)) ∧ ai 13 i = nI (dp i)) (x : Nat) (e1 : ai' 12 = upd (ai 12) m (bI (decide (x = 0)))) (e2 : ai' 13 = upd (ai 13) m (nI x)) : ∀ i, i < m + 1 → ai' 12 i = bI (decide (upn dp m x i = 0)) ∧ ai' 13 i = nI (upn dp m x i) := fun i hi => by
  rw [e1, e2]
  show (if i = m then bI (decide (x = 0)) else ai 12 i) = bI (decide ((if i = m then x else dp i) = 0)) ∧ (if i = m then nI x else ai 13 i) = nI (if i = m then x else dp i)
  by_cases g : i = m
  · simp only [if_pos g, true_and]
  · simp only [if_neg g]
    exact h i (by omega)
theorem b_term {t : Int64} (hc : c < 512) (H : BI X p r c n F) : bothI l X M_P_term M_Mo_term 3 783 [.long t] p r c n F := by
  obtain ⟨ow, gs, dr, pd, pm, sg, lv, w, b, st, ss, h, dp, wc, rs, ai, al, rl, tk, hI, hF, hL, hR⟩ := H
  cases st with
  | true => exact both_sm hI hF hL hR (c_P_term_stop hI) (fun n1 B => c_Mo_term_stop (by decide))
  | false =>
    by_cases g : isw t = false ∨ h = 8
    · exact both_sm hI hF hL hR (c_P_term_no hI g) (fun n1 B => c_Mo_term_no rfl (g.imp id (fun e => by rw [e]; rfl)))
    · have g1 : isw t = true := by
        cases e : isw t with
        | true => rfl
        | false => exact absurd (Or.inl e) g
      have g2 : h < 8 := by
        have := (ps_bd hI).2.2.2.1
        have : ¬ h = 8 := fun e => g (Or.inr e)
        omega
      obtain ⟨⟨a1, a2⟩, ⟨pn, pt, b1, b2⟩, a3, ⟨a4, a5, a6⟩, a7, a8, a9, a10⟩ := hR
      have hl := qR_len a4
      have hR2 : RR (c + 1) dr pd pm sg lv w b (ss ++ [(3, [lN (tm t)])]) (h + 1) (va_up dp h 0) rs (puI ai tk.length h 0 true) (va_up al 11 (vp_updL (al 11) tk.length (lN (tm t)))) rl (tk ++ [(0, lN (tm t))]) :=
        ⟨⟨a1, rw_c a2 rfl rfl rfl rfl rfl⟩, ⟨pn, pt, b1, pd_c b2 rfl rfl rfl⟩, a3, ⟨qR_term (lN (tm t)) a4 g2, tk_push a5 0 (lN (tm t)) rfl rfl, dp_push a6 0 rfl rfl⟩, rs_c a7 rfl rfl, a8, by omega, by rw [List.length_append]; show tk.length + 1 ≤ c + 1; omega⟩
      exact both_mk hI hF hL (c_P_term_ok hI g1 g2 (by omega)) (fun n1 B => (c_Mo_term_ok rfl g1 (by omega) g2).mono (fun v n2 F2 e => ⟨e.1, e.2.1, _, _, rl, tk ++ [(0, lN (tm t))], by rw [e.2.2, List.length_append]; rfl, hR2⟩))
theorem b_phrase {i : Int32} (hc : c < 512) (H : BI X p r c n F) : bothI l X M_P_phrase M_Mo_phrase 3 800 [.int i] p r c n F := by
  obtain ⟨ow, gs, dr, pd, pm, sg, lv, w, b, st, ss, h, dp, wc, rs, ai, al, rl, tk, hI, hF, hL, hR⟩ := H
  cases st with
  | true => exact both_sm hI hF hL hR (c_P_phrase_stop hI) (fun n1 B => c_Mo_phrase_stop (by decide))
  | false =>
    have h8 := (ps_bd hI).2.2.2.1
    by_cases g0 : i < 2
    · exact both_sm hI hF hL hR (c_P_phrase_ref hI (Or.inl g0)) (fun n1 B => c_Mo_phrase_ref rfl (Or.inl g0))
    by_cases g1 : nI h < i
    · exact both_sm hI hF hL hR (c_P_phrase_ref hI (Or.inr g1)) (fun n1 B => c_Mo_phrase_ref rfl (Or.inr (Int32.not_le.mpr g1)))
    rcases pk_ix i (n := h + 1) (by omega) with g | g | ⟨k, hk, rfl⟩
    · exact absurd (i_dn (m := 2) g (by omega) (by omega)) g0
    · exact absurd (i_up (m := h) g (by omega)) g1
    have h2 : 2 ≤ k := by
      rcases Nat.lt_or_ge k 2 with e | e
      · exact absurd (show nI k < nI 2 from nI_lt e (by omega)) g0
      · exact e
    by_cases gm : mxd dp (h - k) h = 0
    · have hz := mxd_0.mp gm
      obtain ⟨⟨a1, a2⟩, ⟨pn, pt, b1, b2⟩, a3, ⟨a4, a5, a6⟩, a7, a8, a9, a10⟩ := hR
      have hl := qR_len a4
      obtain ⟨s0, row, e1, e2, e3, e4⟩ := qR_split a4 (show k ≤ h by omega) hz
      subst e1
      have hR2 : RR (c + 1) dr pd pm sg lv w b (s0 ++ [(3, row)]) (h - k + 1) (va_up dp (h - k) 1) rs (puI ai tk.length (h - k) 1 false) (va_up al 11 (vp_updL (al 11) tk.length (nI k).toInt64)) rl (tk ++ [(1, (nI k).toInt64)]) :=
        ⟨⟨a1, rw_c a2 rfl rfl rfl rfl rfl⟩, ⟨pn, pt, b1, pd_c b2 rfl rfl rfl⟩, a3, ⟨qR_phrase (by omega) h2 h8 e2 e3 e4, tk_push a5 1 _ rfl rfl, dp_push (fun i hi => a6 i (by omega)) 1 rfl rfl⟩, rs_c a7 rfl rfl, a8, by omega, by rw [List.length_append]; show tk.length + 1 ≤ c + 1; omega⟩
      exact both_mk hI hF hL (c_P_phrase_ok hI e2 h2 (by omega) gm (by omega)) (fun n1 B => (c_Mo_phrase_ok (ai := ai) rfl h2 (by omega) h8 (by omega) (fun j h1 h2 => by rw [(a6 j h2).1, hz j h1 h2]; decide)).mono (fun v n2 F2 e => ⟨e.1, e.2.1, _, _, rl, tk ++ [(1, (nI k).toInt64)], by rw [e.2.2, List.length_append]; rfl, hR2⟩))
    · have hex : ∃ j, h - k ≤ j ∧ j < h ∧ ai 12 j = 0 := by
        refine Classical.byContradiction fun q => gm (mxd_0.mpr fun j h1 h2 => Classical.byContradiction fun z => q ⟨j, h1, h2, ?_⟩)
        rw [(hR.2.2.2.1.2.2 j h2).1, decide_eq_false z]
        rfl
      exact both_sm hI hF hL hR (c_P_phrase_no hI h2 (by omega) gm) (fun n1 B => c_Mo_phrase_no rfl h2 (by omega) h8 hex)
theorem mo2_x {f : Nat → Int32} {dp : Nat → Nat} {h k : Nat} (hk : k ≤ 2) (hn : need k ≤ h) (hf : ∀ i, i < h → f i = nI (dp i)) (hd : ∀ i, i < h → dp i ≤ 6) : mo2 f h k = nI (mxd dp (h - need k) h) := by
  unfold mo2 need at *
  by_cases g : k = 2
  · rw [if_pos g] at hn ⊢
    rw [if_pos g, hf _ (by omega), mxd_1 hn]
  · rw [if_neg g] at hn ⊢
    rw [if_neg g, hf _ (by omega), hf _ (by omega), mxd_2 hn]
    have d1 := hd (h - 2) (by omega)
    have d2 := hd (h - 1) (by omega)
    by_cases q : dp (h - 2) ≤ dp (h - 1)
    · rw [if_pos ((nI_leI (by omega) (by omega)).mpr q), Nat.max_eq_right q]
    · rw [if_neg (fun z => q ((nI_leI (by omega) (by omega)).mp z)), Nat.max_eq_left (by omega)]
theorem b_join {i : Int32} (hc : c < 512) (H : BI X p r c n F) : bothI l X M_P_join M_Mo_join 3 783 [.int i] p r c n F := by
  obtain ⟨ow, gs, dr, pd, pm, sg, lv, w, b, st, ss, h, dp, wc, rs, ai, al, rl, tk, hI, hF, hL, hR⟩ := H
  cases st with
  | true => exact both_sm hI hF hL hR (c_P_join_stop hI) (fun n1 B => c_Mo_join_stop (by decide))
  | false =>
    obtain ⟨-, -, -, h8, hdp, -⟩ := ps_bd hI
    rcases pk_ix i (n := 3) (by omega) with g | g | ⟨k, hk, rfl⟩
    · exact both_sm hI hF hL hR (c_P_join_how hI (Or.inl g)) (fun n1 B => c_Mo_join_how rfl (Or.inl g))
    · exact both_sm hI hF hL hR (c_P_join_how hI (Or.inr (i_up (m := 2) g (by omega)))) (fun n1 B => c_Mo_join_how rfl (Or.inr (i_up (m := 2) g (by omega))))
    by_cases gn : h < need k
    · exact both_sm hI hF hL hR (c_P_join_few hI (by omega) gn) (fun n1 B => c_Mo_join_few rfl (by omega) gn)
    have e2 : mo2 (ai 13) h k = nI (mxd dp (h - need k) h) := mo2_x (by omega) (by omega) (fun i hi => (hR.2.2.2.1.2.2 i hi).2) hdp
    have m6 : mxd dp (h - need k) h ≤ 6 := mxd_le hdp
    by_cases gd : mxd dp (h - need k) h < 6
    · obtain ⟨⟨a1, a2⟩, ⟨pn, pt, b1, b2⟩, a3, ⟨a4, a5, a6⟩, a7, a8, a9, a10⟩ := hR
      have hl := qR_len a4
      have n6 : ¬ mo2 (ai 13) h k = 6 := by
        rw [e2]
        intro q
        have := (nI_eq (a := mxd dp (h - need k) h) (b := 6) (by omega) (by omega)).mp q
        omega
      have hq : qR (ss ++ [(k, [])]) (h - need k + 1) (upn dp (h - need k) (mxd dp (h - need k) h + 1)) (tk ++ [(2 + k, 0)]) := by
        unfold need at *
        by_cases g : k = 2
        · subst g
          rw [if_pos rfl] at *
          rw [mxd_1 (by omega)]
          exact qR_not a4 (by omega)
        · rw [if_neg g] at *
          rw [mxd_2 (by omega)]
          exact qR_two a4 (by omega) (by omega)
      have hR2 : RR (c + 1) dr pd pm sg lv w b (ss ++ [(k, [])]) (h - need k + 1) (va_up dp (h - need k) (mxd dp (h - need k) h + 1)) rs (va_up (puI ai tk.length (h - need k) (nI (2 + k)) false) 13 (upd (puI ai tk.length (h - need k) (nI (2 + k)) false 13) (h - need k) (mo2 (ai 13) h k + 1))) (va_up al 11 (vp_updL (al 11) tk.length 0)) rl (tk ++ [(2 + k, 0)]) := by
        refine ⟨⟨a1, rw_c a2 rfl rfl rfl rfl rfl⟩, ⟨pn, pt, b1, pd_c b2 rfl rfl rfl⟩, a3, ⟨hq, tk_push a5 (2 + k) 0 rfl rfl, dp_push (fun i hi => a6 i (by omega)) (mxd dp (h - need k) h + 1) ?_ ?_⟩, rs_c a7 rfl rfl, a8, by omega, by rw [List.length_append]; show tk.length + 1 ≤ c + 1; omega⟩
        · rw [decide_eq_false (by omega)]
          rfl
        · show upd (upd (ai 13) (h - need k) 1) (h - need k) (mo2 (ai 13) h k + 1) = _
          rw [e2, nI_1]
          funext j
          unfold upd
          by_cases q : j = h - need k
          · simp [q]
          · simp [q]
      exact both_mk hI hF hL (c_P_join_ok hI (by omega) (by omega) gd (by omega)) (fun n1 B => (c_Mo_join_ok rfl (by omega) (by omega) h8 (by omega) n6).mono (fun v n2 F2 e => ⟨e.1, e.2.1, _, _, rl, tk ++ [(2 + k, 0)], by rw [e.2.2, List.length_append]; rfl, hR2⟩))
    · have n6 : mo2 (ai 13) h k = 6 := by
        rw [e2, show mxd dp (h - need k) h = 6 by omega]
        rfl
      exact both_sm hI hF hL hR (c_P_join_deep hI (by omega) (by omega) gd) (fun n1 B => c_Mo_join_deep rfl (by omega) (by omega) h8 n6)
theorem b_find (H : BI X p r c n F) (hc : c < 512) : bothI l X M_P_find M_Mo_find 0 0 [] p r c n F := by
  obtain ⟨ow, gs, dr, pd, pm, sg, lv, w, b, st, ss, h, dp, wc, rs, ai, al, rl, tk, hI, hF, hL, hR⟩ := H
  cases st with
  | true => exact both_sm hI hF hL hR (c_P_find_stop hI) (fun n1 B => c_Mo_find_stop (by decide))
  | false =>
    obtain ⟨-, s6, -, -, -, -, s12, -⟩ := ps_bd hI
    have h80 : rl.length ≤ 80 := by
      have := rl_len hR.1.1 s12
      omega
    obtain ⟨⟨a1, a2⟩, ⟨pn, pt, b1, b2⟩, a3, ⟨a4, a5, a6⟩, a7, a8, a9, a10⟩ := hR
    refine both_mk hI hF hL (c_P_find hI (fun _ ts => (qR_ans ts a4).1)) (fun n1 B => (c_Mo_find a2 a1 h80 a5 a4 (by omega)).mono ?_)
    rintro v n2 F2 ⟨e1, e2, ai', al', e3, f1, f2, f3⟩
    exact ⟨e1, e2, ai', al', rl, [], e3, ⟨a1, rw_c a2 (f1 5 (by omega) (by omega) (by omega)) (f1 6 (by omega) (by omega) (by omega)) (f1 7 (by omega) (by omega) (by omega)) (f1 8 (by omega) (by omega) (by omega)) (f2 9 (by omega))⟩, ⟨pn, pt, b1, pd_c b2 (f1 2 (by omega) (by omega) (by omega)) (f1 3 (by omega) (by omega) (by omega)) (f2 4 (by omega))⟩, fun j hj => by rw [f2 1 (by omega)]; exact a3 j hj, ⟨qR_0 dp, fun j x hx => by simp at hx, fun i hi => by omega⟩, f3, a8, by omega, by simp⟩
theorem b_rank {i : Int32} (H : BI X p r c n F) : bothI l X M_P_rank M_Mo_rank 0 0 [.int i] p r c n F := by
  obtain ⟨ow, gs, dr, pd, pm, sg, lv, w, b, st, ss, h, dp, wc, rs, ai, al, rl, tk, hI, hF, hL, hR⟩ := H
  cases st with
  | true => exact both_sm hI hF hL hR (c_P_rank_stop hI) (fun n1 B => c_Mo_rank_stop (by decide))
  | false =>
    obtain ⟨-, s6, -, h8, -, -, s12, -⟩ := ps_bd hI
    have h80 : rl.length ≤ 80 := by
      have := rl_len hR.1.1 s12
      omega
    by_cases g0 : i < 1
    · exact both_sm hI hF hL hR (c_P_rank_no hI (Or.inl g0)) (fun n1 B => c_Mo_rank_no rfl (Or.inl g0))
    rcases pk_ix i (n := 6) (by omega) with g | g | ⟨k, hk, rfl⟩
    · exact absurd (i_dn (m := 1) g (by omega) (by omega)) g0
    · exact both_sm hI hF hL hR (c_P_rank_no hI (Or.inr (i_up (m := 5) g (by omega)))) (fun n1 B => c_Mo_rank_no rfl (Or.inr (i_up (m := 5) g (by omega))))
    have h1 : 1 ≤ k := by
      rcases Nat.eq_zero_or_pos k with e | e
      · subst e
        exact absurd (by decide) g0
      · exact e
    obtain ⟨⟨a1, a2⟩, ⟨pn, pt, b1, b2⟩, a3, ⟨a4, a5, a6⟩, a7, a8, a9, a10⟩ := hR
    by_cases gb : h = 0 ∨ ¬ mxd dp 0 h = 0
    · have hg : gdK h dp h = false := by
        cases q : gdK h dp h with
        | false => rfl
        | true =>
          obtain ⟨z1, z2⟩ := gdK_t.mp q
          rcases gb with e | e
          · omega
          · exact absurd (mxd_0.mpr fun j _ hj => z2 j hj) e
      exact both_mk hI hF hL (c_P_rank_bad hI h1 (by omega) gb) (fun n1 B => (c_Mo_rank_bad (ai := ai) rfl h1 (by omega) h8 (fun j hj => (a6 j hj).1) hg).mono (fun v n2 F2 e => ⟨e.1, e.2.1, ai, al, rl, [], e.2.2, ⟨a1, a2⟩, ⟨pn, pt, b1, b2⟩, a3, ⟨qR_0 dp, fun j x hx => by simp at hx, fun i hi => by omega⟩, fun j x hx => by simp at hx, a8, by omega, by simp⟩))
    · have hm : mxd dp 0 h = 0 := Classical.byContradiction fun z => gb (Or.inr z)
      have hz : ∀ j, j < h → dp j = 0 := fun j hj => mxd_0.mp hm j (Nat.zero_le j) hj
      have h0 : 0 < h := Nat.pos_of_ne_zero fun z => gb (Or.inl z)
      obtain ⟨row, e1, e2, e3⟩ := qR_bag a4 hz
      subst e1
      subst e2
      subst e3
      refine both_mk hI hF hL (c_P_rank_ok hI h1 (by omega) h0 hm (lv_12 a1) a1.2.2.1) (fun n1 B => ?_)
      rw [List.length_map]
      refine (c_Mo_rank_ok (dp := dp) a2 a1 h80 (fun j hj => ?_) h8 rfl h1 (by omega) (fun j hj => (a6 j hj).1) (gdK_t.mpr ⟨h0, hz⟩)).mono ?_
      · have hx : (row.map (fun t => ((0, t) : PTok)))[j]? = some (0, tg row j) := by
          rw [List.getElem?_map, List.getElem?_eq_getElem hj]
          simp [tg, hj]
        exact (a5 j _ hx).2
      · rintro v n2 F2 ⟨e1, e2, ai', al', e3, f1, f2, f3⟩
        exact ⟨e1, e2, ai', al', rl, [], e3, ⟨a1, rw_c a2 (f1 5 (by omega) (by omega) (by omega)) (f1 6 (by omega) (by omega) (by omega)) (f1 7 (by omega) (by omega) (by omega)) (f1 8 (by omega) (by omega) (by omega)) (f2 9 (by omega) (by omega))⟩, ⟨pn, pt, b1, pd_c b2 (f1 2 (by omega) (by omega) (by omega)) (f1 3 (by omega) (by omega) (by omega)) (f2 4 (by omega) (by omega))⟩, fun j hj => by rw [f2 1 (by omega) (by omega)]; exact a3 j hj, ⟨qR_0 dp, fun j x hx => by simp at hx, fun i hi => by omega⟩, f3, a8, by omega, by simp⟩
end BP
