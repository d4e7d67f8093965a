/-! the reference: size -/
section MoP
variable {l : Launch} {X : ev_X} {n : Nat} {B : ev_H} {r : Nat} {d ro se st fu wr to he re we : Int32} {ai : Nat → Nat → Int32} {al : Nat → Nat → Int64}
theorem rF_dG {q p : Nat} {x : PRow} (hx : rA ai al q x) (hp : p < x.2.2.2.length) : ∀ k, k ≤ p → rF (al 9) q p k = (tg x.2.2.2 p != 0 && dG x.2.2.2 p k)
  | 0, _ => by
    unfold rF dG
    rw [hx.2.2.2.2.1 p hp, Bool.and_true]
  | k + 1, h => by
    unfold rF dG
    rw [rF_dG hx hp k (by omega), hx.2.2.2.2.1 p hp, hx.2.2.2.2.1 k (by omega), Bool.and_assoc]
theorem rD_dD {q : Nat} {x : PRow} (hx : rA ai al q x) : rD (al 9) q x.2.2.2.length = dD x.2.2.2 := by
  unfold rD dD
  apply cn_congr
  intro p hp
  exact rF_dG hx hp p (Nat.le_refl _)
theorem segE_sum (y : Seg) : segE y = (y.1.map (fun d => dD d.2)).sum := by
  unfold segE dAt
  exact sN_l (fun d : Doc => dD d.2) (0, []) y.1
theorem wAll_sum (lv : List Doc) : wAll lv = (lv.map (fun d => dL d.2)).sum := by
  unfold wAll dAt
  exact sN_l (fun d : Doc => dL d.2) (0, []) lv
theorem rows_ent {sg : List Seg} {lv : List Doc} {rl : List PRow} (hs : shR sg lv rl) : sN (fun q => dD (rl.getD q (0, 0, true, [])).2.2.2) rl.length = sN (fun i => segE (sAt sg i)) sg.length := by
  have e1 := sN_l (fun x : PRow => dD x.2.2.2) (0, 0, true, []) rl
  have e2 : sN (fun i => segE (sAt sg i)) sg.length = (sg.map segE).sum := by
    unfold sAt
    exact sN_l segE ([], 0) sg
  rw [e1, e2]
  have e3 := gRw_sum (fun d => dD d.2) sg 0
  have e4 : (sg.map (fun y => (y.1.map (fun d => dD d.2)).sum)) = sg.map segE := List.map_congr_left fun y _ => (segE_sum y).symm
  rw [e4] at e3
  rw [← e3]
  exact (hs.1.map _).sum_nat
theorem rows_len {sg : List Seg} {lv : List Doc} {rl : List PRow} (hr : rwR ai al rl) (hs : shR sg lv rl) : sN (fun q => if ai 7 q == 0 then rL (al 9) q (rl.getD q (0, 0, true, [])).2.2.2.length else 0) rl.length = wAll lv := by
  have e1 : sN (fun q => if ai 7 q == 0 then rL (al 9) q (rl.getD q (0, 0, true, [])).2.2.2.length else 0) rl.length = sN (fun q => (fun x : PRow => if x.2.2.1 then 0 else dL x.2.2.2) (rl.getD q (0, 0, true, []))) rl.length := sN_congr fun q hq => by
    have h := rw_at hr hq
    generalize rl.getD q (0, 0, true, []) = x at h ⊢
    rw [h.2.2.1, bI_eq0, rL_dL h]
    by_cases g : x.2.2.1 = true
    · simp [g]
    · simp [g]
  rw [e1, sN_l (fun x : PRow => if x.2.2.1 then 0 else dL x.2.2.2) (0, 0, true, []) rl, wAll_sum]
  have := liv_sum (fun d => dL d.2) rl
  rw [← this]
  exact (hs.2.1.map _).sum_nat
theorem rows_cnt {sg : List Seg} {lv : List Doc} {rl : List PRow} (hs : shR sg lv rl) : rl.length = sN (fun i => (sAt sg i).1.length) sg.length := by
  have e2 : sN (fun i => (sAt sg i).1.length) sg.length = (sg.map (fun y => y.1.length)).sum := by
    unfold sAt
    exact sN_l (fun y : Seg => y.1.length) ([], 0) sg
  rw [e2, hs.1.length_eq, gRw_len]
theorem c_Mo_lengthsL {sg : List Seg} {lv : List Doc} {rl : List PRow} (hr : rwR ai al rl) (hs : shR sg lv rl) (h80 : rl.length ≤ 80) : Cal l X M_Mo_lengths 0 0 [.ref r] n (moH B r d (nI rl.length) se st fu wr to he re we ai al) (ev_pure (.int (nI (wAll lv))) n (moH B r d (nI rl.length) se st fu wr to he re we ai al)) := by
  have := c_Mo_lengths (l := l) (X := X) (n := n) (B := B) (r := r) (d := d) (se := se) (st := st) (fu := fu) (wr := wr) (to := to) (he := he) (re := re) (we := we) (ai := ai) (al := al) (R := rl.length) (sz := fun q => (rl.getD q (0, 0, true, [])).2.2.2.length) h80 (fun q hq => ⟨(rw_at hr hq).2.2.2.1, (rw_at hr hq).2.2.2.2.2.2.2⟩)
  rw [rows_len hr hs] at this
  exact this
theorem c_Mo_liveL {sg : List Seg} {lv : List Doc} {rl : List PRow} (hr : rwR ai al rl) (hs : shR sg lv rl) (h80 : rl.length ≤ 80) : Cal l X M_Mo_live 0 0 [.ref r] n (moH B r d (nI rl.length) se st fu wr to he re we ai al) (ev_pure (.int (nI lv.length)) n (moH B r d (nI rl.length) se st fu wr to he re we ai al)) := by
  have := c_Mo_live (l := l) (X := X) (n := n) (B := B) (r := r) (d := d) (se := se) (st := st) (fu := fu) (wr := wr) (to := to) (he := he) (re := re) (we := we) (ai := ai) (al := al) (R := rl.length) h80
  rw [rw_live hr, hs.2.1.length_eq] at this
  exact this
/-- the loop over the entries -/
theorem e_Mo_size {rl : List PRow} {i : Int32} {Q : Option Value → Nat → ev_H → Prop} (hr : rwR ai al rl) (h80 : rl.length ≤ 80) (go : Ev l X M_Mo_size 0 0 4 [(0, .ref r), (1, .int i), (2, .int (nI (sN (fun q => dD (rl.getD q (0, 0, true, [])).2.2.2) rl.length))), (3, .int (nI rl.length))] [] n (moH B r d (nI rl.length) se st fu wr to he re we ai al) (ev_mq X Q)) : Cal l X M_Mo_size 0 0 [.ref r, .int i] n (moH B r d (nI rl.length) se st fu wr to he re we ai al) Q := by
  have key : ∀ (u k : Nat), k + u = rl.length → Ev l X M_Mo_size 0 0 4 [(0, .ref r), (1, .int i), (2, .int (nI (sN (fun q => dD (rl.getD q (0, 0, true, [])).2.2.2) k))), (3, .int (nI k))] [] n (moH B r d (nI rl.length) se st fu wr to he re we ai al) (ev_mq X Q) := by
    intro u
    induction u with
    | zero =>
      intro k hk
      have e1 : k = rl.length := by omega
      subst e1
      exact go
    | succ u ih =>
      intro k hk
      have hgt : ¬ nI rl.length ≤ nI k := i_ge (by omega) (by omega) (by omega)
      have hx := rw_at hr (show k < rl.length by omega)
      have hd := c_Mo_different (l := l) (X := X) (n := n) (B := B) (r := r) (d := d) (ro := nI rl.length) (se := se) (st := st) (fu := fu) (wr := wr) (to := to) (he := he) (re := re) (we := we) (ai := ai) (al := al) (show k < 80 by omega) hx.2.2.2.2.2.2.2 hx.2.2.2.1
      rw [rD_dD hx] at hd
      have hi := ih (k + 1) (by omega)
      refine s_Mo_size_4 (v81 := 0) (v98 := 0) (v114 := 0) mh_0 (fun c => absurd c hgt) (fun c => absurd c hgt) (fun c => absurd c hgt) (fun c => absurd c hgt) (fun c => absurd c hgt) (fun c => absurd c hgt) (fun c => absurd c hgt) (fun c => absurd c hgt) (fun c => absurd c hgt) (fun c => absurd c hgt) (fun c => absurd c hgt) (fun c => absurd c hgt) (fun c => absurd c hgt) (fun c => absurd c hgt) (fun c => absurd c hgt) (fun c => absurd c hgt) (fun _ => hd) (fun _ => ?_)
      rw [nI_1, nI_add]
      exact hi
  exact Cal.of (by decide) (Nat.le_of_ble_eq_true rfl) (s_Mo_size_0 (key rl.length 0 (by omega)))
theorem c_Mo_size_ok {sg : List Seg} {lv : List Doc} {rl : List PRow} {dr : List Int64} {pm k w h : Nat} {b : Bool} (hr : rwR ai al rl) (hs : shR sg lv rl) (h80 : rl.length ≤ 80) (hk : k ≤ 9) (hpm : 12 - cn (fun i => ai 2 i == 0) 12 = popc pm) : Cal l X M_Mo_size 0 0 [.ref r, .int (nI k)] n (moH B r (nI dr.length) (nI rl.length) (nI sg.length) (bI b) fu (nI w) to (nI h) re we ai al) (ev_pure (.int (nI (szA k dr pm sg lv w b h))) n (moH B r (nI dr.length) (nI rl.length) (nI sg.length) (bI b) fu (nI w) to (nI h) re we ai al)) := by
  have hle : nI rl.length ≤ nI rl.length := (nI_leI (by omega) (by omega)).mpr (Nat.le_refl _)
  have ne : ∀ j, j ≤ 9 → (nI k = nI j ↔ k = j) := fun j hj => nI_eq (by omega) (by omega)
  have n0 : nI k = 0 ↔ k = 0 := ne 0 (by omega)
  have n1 : nI k = 1 ↔ k = 1 := ne 1 (by omega)
  have n2 : nI k = 2 ↔ k = 2 := ne 2 (by omega)
  have n3 : nI k = 3 ↔ k = 3 := ne 3 (by omega)
  have n4 : nI k = 4 ↔ k = 4 := ne 4 (by omega)
  have n5 : nI k = 5 ↔ k = 5 := ne 5 (by omega)
  have n6 : nI k = 6 ↔ k = 6 := ne 6 (by omega)
  have n7 : nI k = 7 ↔ k = 7 := ne 7 (by omega)
  have n8 : nI k = 8 ↔ k = 8 := ne 8 (by omega)
  have n9 : nI k = 9 ↔ k = 9 := ne 9 (by omega)
  refine e_Mo_size hr h80 ?_
  refine s_Mo_size_4 (v15 := 0) mh_0 (fun _ _ => c_Mo_liveL hr hs h80) (fun _ a => ⟨?_, rfl, rfl⟩) (fun _ _ a => ⟨?_, rfl, rfl⟩) (fun _ _ _ a => ⟨?_, rfl, rfl⟩) (fun _ _ _ _ _ => c_Mo_idle) (fun _ _ _ _ a => ⟨?_, rfl, rfl⟩) (fun _ _ _ _ _ a => ⟨?_, rfl, rfl⟩) (fun _ _ _ _ _ _ a => ⟨?_, rfl, rfl⟩) (fun _ _ _ _ _ _ _ _ => c_Mo_lengthsL hr hs h80) (fun _ _ _ _ _ _ _ a => ⟨?_, rfl, rfl⟩) (fun _ _ _ _ _ _ _ _ a => ⟨?_, rfl, rfl⟩) (fun _ _ _ _ _ _ _ _ _ a c => ⟨?_, rfl, rfl⟩) (fun _ _ _ _ _ _ _ _ _ a c => ⟨?_, rfl, rfl⟩) (fun _ _ _ _ _ _ _ _ _ _ a => ⟨?_, rfl, rfl⟩) (fun _ a0 a1 a2 a3 a4 a5 a6 a7 a8 a9 => ?_) (fun _ a0 a1 a2 a3 a4 a5 a6 a7 a8 a9 => ?_) (fun c => absurd hle c) (fun c => absurd hle c)
  · rw [n0.mp a]; rfl
  · rw [n1.mp a]; rfl
  · rw [n2.mp a, rows_cnt hs]; rfl
  · rw [n3.mp a, show (12 : Int32) = nI 12 from rfl, pk_sub (cn_le _ _), hpm]; rfl
  · rw [n4.mp a]; rfl
  · rw [n5.mp a]; rfl
  · rw [n6.mp a]; rfl
  · rw [n7.mp a]; rfl
  · rw [n8.mp a]
    have : b = false := bI_1.mp c
    subst this
    rfl
  · rw [n8.mp a]
    have : b = true := bI_n0 c
    subst this
    rfl
  · rw [n9.mp a, rows_ent hs]; rfl
  · exfalso
    rw [n0] at a0; rw [n1] at a1; rw [n2] at a2; rw [n3] at a3; rw [n4] at a4; rw [n5] at a5; rw [n6] at a6; rw [n7] at a7; rw [n8] at a8; rw [n9] at a9
    omega
  · exfalso
    rw [n0] at a0; rw [n1] at a1; rw [n2] at a2; rw [n3] at a3; rw [n4] at a4; rw [n5] at a5; rw [n6] at a6; rw [n7] at a7; rw [n8] at a8; rw [n9] at a9
    omega
theorem c_Mo_size_no {rl : List PRow} {i : Int32} (hr : rwR ai al rl) (h80 : rl.length ≤ 80) (h : i.toInt < 0 ∨ 9 < i.toInt) : Cal l X M_Mo_size 0 0 [.ref r, .int i] n (moH B r d (nI rl.length) se st fu wr to he re we ai al) (ev_pure (.int (-1)) n (moH B r d (nI rl.length) se st fu wr to he re we ai al)) := by
  have hle : nI rl.length ≤ nI rl.length := (nI_leI (by omega) (by omega)).mpr (Nat.le_refl _)
  have nx : ∀ j : Int32, 0 ≤ j.toInt ∧ j.toInt ≤ 9 → ¬ i = j := fun j hj e => by subst e; omega
  refine e_Mo_size hr h80 ?_
  refine s_Mo_size_4 (v81 := 0) (v98 := 0) (v114 := 0) (v15 := 0) mh_0 (fun _ a => absurd a (nx 0 (by decide))) (fun _ a => absurd a (nx 0 (by decide))) (fun _ _ a => absurd a (nx 1 (by decide))) (fun _ _ _ a => absurd a (nx 2 (by decide))) (fun _ _ _ _ a => absurd a (nx 3 (by decide))) (fun _ _ _ _ a => absurd a (nx 3 (by decide))) (fun _ _ _ _ _ a => absurd a (nx 4 (by decide))) (fun _ _ _ _ _ _ a => absurd a (nx 5 (by decide))) (fun _ _ _ _ _ _ _ a => absurd a (nx 6 (by decide))) (fun _ _ _ _ _ _ _ a => absurd a (nx 6 (by decide))) (fun _ _ _ _ _ _ _ _ a => absurd a (nx 7 (by decide))) (fun _ _ _ _ _ _ _ _ _ a => absurd a (nx 8 (by decide))) (fun _ _ _ _ _ _ _ _ _ a => absurd a (nx 8 (by decide))) (fun _ _ _ _ _ _ _ _ _ _ a => absurd a (nx 9 (by decide))) (fun _ _ _ _ _ _ _ _ _ _ _ => h) (fun _ _ _ _ _ _ _ _ _ _ _ => ⟨rfl, rfl, rfl⟩) (fun c => absurd hle c) (fun c => absurd hle c)
end MoP
