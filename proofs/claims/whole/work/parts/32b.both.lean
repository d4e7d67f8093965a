/-! each call, of both: equal answers, and in step again -/
section BO
variable {l : Launch} {X : ev_X} {p r c n : Nat} {F : ev_H}
theorem b_stem {t : Int64} (H : BI X p r c n F) : bothL l X M_P_stem M_Mo_stem 0 0 [.long t] p r c n F := by
  obtain ⟨ow, gs, dr, pd, pm, sg, lv, w, b, st, ss, h, dp, wc, rs, ai, al, rl, tk, hI, hF, hL, hR⟩ := H
  exact ⟨_, c_P_stem hI, fun v n1 F1 hq => ⟨_, both_x hI hF hL (fun n1 B => c_Mo_stem.mono (fun v n2 F2 e => ⟨e.1, e.2.1, _, _, _, _, e.2.2, RR_1 hR⟩)) v n1 F1 hq⟩⟩
theorem b_feed {t : Int64} (H : BI X p r c n F) : bothI l X M_P_feed M_Mo_feed 0 0 [.long t] p r c n F := by
  obtain ⟨ow, gs, dr, pd, pm, sg, lv, w, b, st, ss, h, dp, wc, rs, ai, al, rl, tk, hI, hF, hL, hR⟩ := H
  cases st with
  | true => exact both_sm hI hF hL hR (c_P_feed_stop hI) (fun n1 B => c_Mo_feed_stop (by decide))
  | false =>
    by_cases g : isw t = false ∨ dr.length = 12
    · exact both_sm hI hF hL hR (c_P_feed_no hI g) (fun n1 B => c_Mo_feed_no rfl (g.imp id (fun e => by rw [e]; rfl)))
    · have g1 : isw t = true := by
        cases e : isw t with
        | true => rfl
        | false => exact absurd (Or.inl e) g
      have g2 : dr.length < 12 := by
        have := (ps_bd hI).1
        have : ¬ dr.length = 12 := fun e => g (Or.inr e)
        omega
      have hR2 : RR (c + 1) (dr ++ [lN (tm t)]) pd pm sg lv w b ss h dp rs ai (va_up al 1 (vp_updL (al 1) dr.length (lN (tm t)))) rl tk := by
        obtain ⟨⟨a1, a2⟩, ⟨pn, pt, b1, b2⟩, a3, ⟨a4, a5, a6⟩, a7, a8, a9, a10⟩ := hR
        refine ⟨⟨a1, rw_c a2 rfl rfl rfl rfl rfl⟩, ⟨pn, pt, b1, pd_c b2 rfl rfl rfl⟩, fun j hj => ?_, ⟨a4, tk_c a5 rfl rfl, a6⟩, rs_c a7 rfl rfl, a8, by omega, by omega⟩
        show (if j = dr.length then lN (tm t) else al 1 j) = (dr ++ [lN (tm t)]).getD j 0
        rw [List.length_append] at hj
        replace hj : j < dr.length + 1 := hj
        by_cases e : j = dr.length
        · subst e
          rw [if_pos rfl]
          simp
        · rw [if_neg e, a3 j (by omega)]
          unfold tg
          simp [List.getElem?_append_left (show j < dr.length by omega)]
      exact both_mk hI hF hL (c_P_feed_ok hI g1 g2) (fun n1 B => (c_Mo_feed_ok rfl g1 g2).mono (fun v n2 F2 e => ⟨e.1, e.2.1, _, _, rl, tk, by rw [e.2.2, List.length_append]; rfl, hR2⟩))
theorem b_add {i : Int32} (H : BI X p r c n F) : bothI l X M_P_add M_Mo_add 3 800 [.int i] p r c n F := by
  obtain ⟨ow, gs, dr, pd, pm, sg, lv, w, b, st, ss, h, dp, wc, rs, ai, al, rl, tk, hI, hF, hL, hR⟩ := H
  cases st with
  | true => exact both_sm hI hF hL hR (c_P_add_stop hI) (fun n1 B => c_Mo_add_stop (by decide))
  | false =>
    rcases pk_ix i (n := 12) (by omega) with g | g | ⟨k, hk, rfl⟩
    · exact both_sm hI hF hL hR (c_P_add_no hI (Or.inl g)) (fun n1 B => c_Mo_add_no rfl (Or.inl g))
    · exact both_sm hI hF hL hR (c_P_add_no hI (Or.inr (i_up (m := 11) g (by omega)))) (fun n1 B => c_Mo_add_no rfl (Or.inr (i_up (m := 11) g (by omega))))
    · obtain ⟨⟨a1, a2⟩, ⟨pn, pt, b1, b2⟩, a3, ⟨a4, a5, a6⟩, a7, a8, a9, a10⟩ := hR
      have hd := (ps_bd hI).1
      have hpd : pd.length ≤ 12 := by
        rw [← pd_len b1]
        exact cn_le _ 12
      have hp2 : peR (pd.filter (fun y => y.1 != k) ++ [(k, dr)]) (pm ||| 2 ^ k) (upn pn k 1) (upn pt k dr) := peR_add (x := (k, dr)) b1 hk hd
      have hq : pdA (va_up (va_up ai 2 (upd (ai 2) k 1)) 3 (upd (ai 3) k (nI dr.length))) (va_up al 4 (cpyF (al 1) (al 4) (12 * k) dr.length)) (upn pn k 1) (upn pt k dr) := fun j hj => by
        show (if j = k then (1 : Int32) else ai 2 j) = nI (if j = k then 1 else pn j) ∧ (if j = k then 1 else pn j) ≤ 2 ∧ ((if j = k then 1 else pn j) = 1 → (if j = k then nI dr.length else ai 3 j) = nI (if j = k then dr else pt j).length ∧ (if j = k then dr else pt j).length ≤ 12 ∧ ∀ q, q < (if j = k then dr else pt j).length → (if 12 * k ≤ 12 * j + q ∧ 12 * j + q < 12 * k + dr.length then al 1 (12 * j + q - 12 * k) else al 4 (12 * j + q)) = tg (if j = k then dr else pt j) q)
        by_cases e : j = k
        · rw [if_pos e, if_pos e, if_pos e, if_pos e]
          refine ⟨rfl, by omega, fun _ => ⟨rfl, hd, fun q hq => ?_⟩⟩
          rw [if_pos (by omega), show 12 * j + q - 12 * k = q by omega]
          exact a3 q hq
        · rw [if_neg e, if_neg e, if_neg e, if_neg e]
          obtain ⟨z1, z2, z3⟩ := b2 j hj
          refine ⟨z1, z2, fun hz => ⟨(z3 hz).1, (z3 hz).2.1, fun q hq => ?_⟩⟩
          have := (z3 hz).2.1
          rw [if_neg (by omega)]
          exact (z3 hz).2.2 q hq
      have hans : 12 - cn (fun j => upd (ai 2) k 1 j == 0) 12 = popc (pm ||| 2 ^ k) := by
        have e2 : (va_up (va_up ai 2 (upd (ai 2) k 1)) 3 (upd (ai 3) k (nI dr.length))) 2 = upd (ai 2) k 1 := rfl
        have e3 := pd_cn hq (z := 0) (k := 0) rfl (by omega)
        rw [e2] at e3
        rw [← pe_idle hp2, e3]
      have hR2 : RR (c + 1) [] (pd.filter (fun y => y.1 != k) ++ [(k, dr)]) (pm ||| 2 ^ k) sg lv w b ss h dp rs (va_up (va_up ai 2 (upd (ai 2) k 1)) 3 (upd (ai 3) k (nI dr.length))) (va_up al 4 (cpyF (al 1) (al 4) (12 * k) dr.length)) rl tk :=
        ⟨⟨a1, rw_c a2 rfl rfl rfl rfl rfl⟩, ⟨_, _, hp2, hq⟩, fun j hj => absurd hj (by simp), ⟨a4, tk_c a5 rfl rfl, a6⟩, rs_c a7 rfl rfl, a8, by omega, by omega⟩
      refine both_mk hI hF hL (c_P_add_ok hI hk hpd) (fun n1 B => (c_Mo_add_ok rfl hk hd).mono (fun v n2 F2 e => ⟨by rw [e.1, hans], e.2.1, _, _, rl, tk, e.2.2, hR2⟩))
theorem b_delete {i : Int32} (H : BI X p r c n F) : bothI l X M_P_delete M_Mo_delete 0 0 [.int i] p r c n F := by
  obtain ⟨ow, gs, dr, pd, pm, sg, lv, w, b, st, ss, h, dp, wc, rs, ai, al, rl, tk, hI, hF, hL, hR⟩ := H
  cases st with
  | true => exact both_sm hI hF hL hR (c_P_delete_stop hI) (fun n1 B => c_Mo_delete_stop (by decide))
  | false =>
    rcases pk_ix i (n := 12) (by omega) with g | g | ⟨k, hk, rfl⟩
    · exact both_sm hI hF hL hR (c_P_delete_no hI (Or.inl g)) (fun n1 B => c_Mo_delete_no rfl (Or.inl g))
    · exact both_sm hI hF hL hR (c_P_delete_no hI (Or.inr (i_up (m := 11) g (by omega)))) (fun n1 B => c_Mo_delete_no rfl (Or.inr (i_up (m := 11) g (by omega))))
    · obtain ⟨⟨a1, a2⟩, ⟨pn, pt, b1, b2⟩, a3, ⟨a4, a5, a6⟩, a7, a8, a9, a10⟩ := hR
      have hp2 := peR_del b1 hk
      have hq : pdA (va_up ai 2 (upd (ai 2) k 2)) al (upn pn k 2) pt := fun j hj => by
        show (if j = k then (2 : Int32) else ai 2 j) = nI (if j = k then 2 else pn j) ∧ (if j = k then 2 else pn j) ≤ 2 ∧ ((if j = k then 2 else pn j) = 1 → ai 3 j = nI (pt j).length ∧ (pt j).length ≤ 12 ∧ ∀ q, q < (pt j).length → al 4 (12 * j + q) = tg (pt j) q)
        by_cases e : j = k
        · rw [if_pos e, if_pos e]
          exact ⟨rfl, by omega, fun q => by omega⟩
        · rw [if_neg e, if_neg e]
          exact b2 j hj
      have hans : 12 - cn (fun j => upd (ai 2) k 2 j == 0) 12 = popc (pm ||| 2 ^ k) := by
        have e2 : (va_up ai 2 (upd (ai 2) k 2)) 2 = upd (ai 2) k 2 := rfl
        have e3 := pd_cn hq (z := 0) (k := 0) rfl (by omega)
        rw [e2] at e3
        rw [← pe_idle hp2, e3]
      have hR2 : RR (c + 1) dr (pd.filter (fun y => y.1 != k)) (pm ||| 2 ^ k) sg lv w b ss h dp rs (va_up ai 2 (upd (ai 2) k 2)) al rl tk :=
        ⟨⟨a1, rw_c a2 rfl rfl rfl rfl rfl⟩, ⟨_, _, hp2, hq⟩, a3, ⟨a4, tk_c a5 rfl rfl, a6⟩, rs_c a7 rfl rfl, a8, by omega, by omega⟩
      refine both_mk hI hF hL (c_P_delete_ok hI hk) (fun n1 B => (c_Mo_delete_ok rfl hk).mono (fun v n2 F2 e => ⟨by rw [e.1, hans], e.2.1, _, _, rl, tk, e.2.2, hR2⟩))
theorem b_fuse {i : Int32} (H : BI X p r c n F) : bothI l X M_P_fuse M_Mo_fuse 0 0 [.int i] p r c n F := by
  obtain ⟨ow, gs, dr, pd, pm, sg, lv, w, b, st, ss, h, dp, wc, rs, ai, al, rl, tk, hI, hF, hL, hR⟩ := H
  cases st with
  | true => exact both_sm hI hF hL hR (c_P_fuse_no hI (Or.inl rfl)) (fun n1 B => c_Mo_fuse_no (Or.inl (by decide)))
  | false =>
    by_cases g0 : i < 1
    · exact both_sm hI hF hL hR (c_P_fuse_no hI (Or.inr (Or.inl g0))) (fun n1 B => c_Mo_fuse_no (Or.inr (Or.inl g0)))
    rcases pk_ix i (n := 101) (by omega) with g | g | ⟨k, hk, rfl⟩
    · exact absurd (i_dn (m := 1) g (by omega) (by omega)) g0
    · exact both_sm hI hF hL hR (c_P_fuse_no hI (Or.inr (Or.inr (i_up (m := 100) g (by omega))))) (fun n1 B => c_Mo_fuse_no (Or.inr (Or.inr (i_up (m := 100) g (by omega)))))
    · have h1 : 1 ≤ k := by
        rcases Nat.eq_zero_or_pos k with e | e
        · subst e
          exact absurd (by decide) g0
        · exact e
      have hR2 : RR (c + 1) dr pd pm sg lv w k ss h dp rs ai al rl tk := ⟨hR.1, hR.2.1, hR.2.2.1, hR.2.2.2.1, hR.2.2.2.2.1, by omega, by have := hR.2.2.2.2.2.2.1; omega, by have := hR.2.2.2.2.2.2.2; omega⟩
      exact both_mk hI hF hL (c_P_fuse_ok hI h1 (by omega)) (fun n1 B => (c_Mo_fuse_ok rfl h1 (by omega)).mono (fun v n2 F2 e => ⟨e.1, e.2.1, _, _, rl, tk, e.2.2, hR2⟩))
theorem b_restart (H : BI X p r c n F) : bothI l X M_P_restart M_Mo_restart 0 0 [] p r c n F := by
  obtain ⟨ow, gs, dr, pd, pm, sg, lv, w, b, st, ss, h, dp, wc, rs, ai, al, rl, tk, hI, hF, hL, hR⟩ := H
  exact both_mk hI hF hL (c_P_restart hI) (fun n1 B => c_Mo_restart.mono (fun v n2 F2 e => ⟨e.1, e.2.1, _, _, rl, tk, e.2.2, RR_1 hR⟩))
theorem b_weighed (H : BI X p r c n F) : bothI l X M_P_weighed M_Mo_weighed 0 0 [] p r c n F := by
  obtain ⟨ow, gs, dr, pd, pm, sg, lv, w, b, st, ss, h, dp, wc, rs, ai, al, rl, tk, hI, hF, hL, hR⟩ := H
  exact both_sm hI hF hL hR (c_P_weighed hI) (fun n1 B => c_Mo_weighed)
theorem b_result {i : Int32} (H : BI X p r c n F) : bothI l X M_P_result M_Mo_result 0 0 [.int i] p r c n F := by
  obtain ⟨ow, gs, dr, pd, pm, sg, lv, w, b, st, ss, h, dp, wc, rs, ai, al, rl, tk, hI, hF, hL, hR⟩ := H
  have h12 := (ps_bd hI).2.2.2.2.2.1
  have e : (if i < 0 ∨ nI rs.length ≤ i then -1 else ai 15 i.toNatClampNeg) = (if i < 0 ∨ nI rs.length ≤ i then -1 else nI (rs.getD i.toNatClampNeg (0, 0)).1) := by
    rcases pk_ix i (n := rs.length) (by omega) with g | g | ⟨k, hk, rfl⟩
    · rw [if_pos (Or.inl g), if_pos (Or.inl g)]
    · rw [if_pos (Or.inr g), if_pos (Or.inr g)]
    · have hx : rs[k]? = some rs[k] := List.getElem?_eq_getElem hk
      rw [nI_clamp (by omega), (hR.2.2.2.2.1 k _ hx).1, List.getD_eq_getElem?_getD, hx]
      rfl
  have hM := fun n1 B => c_Mo_result (l := l) (X := X) (n := n1) (B := B) (r := r) (d := nI dr.length) (ro := nI rl.length) (se := nI sg.length) (st := bI st) (fu := nI b) (wr := nI w) (to := nI tk.length) (he := nI h) (we := nI wc) (ai := ai) (al := al) (i := i) h12
  rw [e] at hM
  exact both_sm hI hF hL hR (c_P_result hI) hM
theorem b_weight {i : Int32} (H : BI X p r c n F) : bothI l X M_P_weight M_Mo_weight 0 0 [.int i] p r c n F := by
  obtain ⟨ow, gs, dr, pd, pm, sg, lv, w, b, st, ss, h, dp, wc, rs, ai, al, rl, tk, hI, hF, hL, hR⟩ := H
  have h12 := (ps_bd hI).2.2.2.2.2.1
  have e : (if i < 0 ∨ nI rs.length ≤ i then -1 else (al 16 i.toNatClampNeg).toInt32) = (if i < 0 ∨ nI rs.length ≤ i then -1 else nI (rs.getD i.toNatClampNeg (0, 0)).2) := by
    rcases pk_ix i (n := rs.length) (by omega) with g | g | ⟨k, hk, rfl⟩
    · rw [if_pos (Or.inl g), if_pos (Or.inl g)]
    · rw [if_pos (Or.inr g), if_pos (Or.inr g)]
    · have hx : rs[k]? = some rs[k] := List.getElem?_eq_getElem hk
      rw [nI_clamp (by omega), (hR.2.2.2.2.1 k _ hx).2, List.getD_eq_getElem?_getD, hx, lN_i]
      rfl
  have hM := fun n1 B => c_Mo_weight (l := l) (X := X) (n := n1) (B := B) (r := r) (d := nI dr.length) (ro := nI rl.length) (se := nI sg.length) (st := bI st) (fu := nI b) (wr := nI w) (to := nI tk.length) (he := nI h) (we := nI wc) (ai := ai) (al := al) (i := i) h12
  rw [e] at hM
  exact both_sm hI hF hL hR (c_P_weight hI) hM
theorem b_size {i : Int32} (H : BI X p r c n F) : bothI l X M_P_size M_Mo_size 0 0 [.int i] p r c n F := by
  obtain ⟨ow, gs, dr, pd, pm, sg, lv, w, b, st, ss, h, dp, wc, rs, ai, al, rl, tk, hI, hF, hL, hR⟩ := H
  obtain ⟨-, s6, -, -, -, -, s12, -⟩ := ps_bd hI
  have h80 : rl.length ≤ 80 := by
    have := rl_len hR.1.1 s12
    omega
  rcases pk_ix i (n := 10) (by omega) with g | g | ⟨k, hk, rfl⟩
  · have g2 : i.toInt < 0 := by
      rw [Int32.lt_iff_toInt_lt] at g
      have : (0 : Int32).toInt = 0 := by decide
      omega
    exact both_sm hI hF hL hR (c_P_size_no hI (Or.inl g2)) (fun n1 B => c_Mo_size_no hR.1.2 h80 (Or.inl g2))
  · have g2 : 9 < i.toInt := by
      rw [Int32.le_iff_toInt_le, nI_toInt (by omega)] at g
      omega
    exact both_sm hI hF hL hR (c_P_size_no hI (Or.inr g2)) (fun n1 B => c_Mo_size_no hR.1.2 h80 (Or.inr g2))
  · obtain ⟨pn, pt, b1, b2⟩ := hR.2.1
    exact both_sm hI hF hL hR (c_P_size_ok hI (by omega)) (fun n1 B => c_Mo_size_ok hR.1.2 hR.1.1 h80 (by omega) (by rw [← pe_idle b1]; exact congrArg (12 - ·) (pd_cn b2 rfl (by omega))))
end BO
