/-! the reference: the bag is weighed, the best are chosen -/
/-- the candidate of an id -/
def cdO (lv : List Doc) (row : List Int64) (i : Nat) : Option Nat := match lvF lv i with | some d => if hasT row d.2 then some (sumW lv row d.2) else none | none => none
section MoS
variable {l : Launch} {X : ev_X} {n : Nat} {B : ev_H} {r : Nat} {d ro se st fu wr to he re we : Int32} {ai : Nat → Nat → Int32} {al : Nat → Nat → Int64}
theorem smA_neg {lv : List Doc} {row ts : List Int64} {bb : Bool} (hW : sumW lv row ts < 2 ^ 27) (hB : sumB lv row ts < 2 ^ 27) : lg_cmp (smA lv row ts bb) 0 < 0 ↔ hasT row ts = false := by
  unfold smA
  cases h : hasT row ts with
  | true =>
    rw [if_pos rfl, lc_lt]
    constructor
    · intro z
      have h0 : (0 : Int64) ≤ lN (if bb then sumB lv row ts else sumW lv row ts) := (lN_le (a := 0) (by decide) (by split <;> omega)).mpr (Nat.zero_le _)
      exact absurd z (Int64.not_lt.mpr h0)
    · intro z
      cases z
  | false =>
    rw [if_neg (by decide)]
    exact ⟨fun _ => rfl, fun _ => by decide⟩
/-- candidates by ids -/
theorem cand_rg {lv : List Doc} {row : List Int64} (k : Nat) : candO lv row ((List.range (k + 1)).filterMap (lvF lv)) = (match lvF lv k with | some d => if hasT row d.2 then candO lv row ((List.range k).filterMap (lvF lv)) ++ [(d.1, sumW lv row d.2, sumB lv row d.2)] else candO lv row ((List.range k).filterMap (lvF lv)) | none => candO lv row ((List.range k).filterMap (lvF lv))) := by
  rw [List.range_succ, List.filterMap_append]
  cases h : lvF lv k with
  | none => simp [h]
  | some d =>
    have e : List.filterMap (lvF lv) [k] = [d] := by simp [h]
    rw [e, cand_app]
theorem cand_lO {lv : List Doc} {row : List Int64} : ∀ k, (candO lv row ((List.range k).filterMap (lvF lv))).map (fun x => (x.1, x.2.1)) = lO (cdO lv row) k
  | 0 => rfl
  | k + 1 => by
    rw [cand_rg, lO_s, ← cand_lO k]
    unfold cdO
    cases h : lvF lv k with
    | none => simp
    | some d =>
      have hd := (lvF_id h).1
      by_cases g : hasT row d.2 = true
      · simp [g, hd]
      · simp [g]
def waQ (n : Nat) (B : ev_H) (r : Nat) (d ro se st fu wr to he re : Int32) (ai : Nat → Nat → Int32) (al : Nat → Nat → Int64) (c : Nat) : Option Value → Nat → ev_H → Prop := fun v n' F' => v = none ∧ n' = n ∧ ∃ ai' al', F' = (moH B r d ro se st fu wr to he re (nI c) ai' al') ∧ (∀ k, k ≠ 19 → ai' k = ai k) ∧ ∀ k, k ≠ 18 → al' k = al k
theorem c_Mo_weighAll {sg : List Seg} {lv : List Doc} {rl : List PRow} {row : List Int64} {K : Nat} (hr : rwR ai al rl) (hs : shR sg lv rl) (h80 : rl.length ≤ 80) (hrow : ∀ j, j < row.length → al 11 j = tg row j) (h8 : row.length ≤ 8) (h17 : ∀ id, id < 12 → (∃ q x, ai 17 id = nI q ∧ q < rl.length ∧ rl[q]? = some x ∧ x.2.2.1 = false ∧ lvF lv id = some (id, x.2.2.2)) ∨ (ai 17 id = -1 ∧ lvF lv id = none)) (h1K : 1 ≤ K) (hK : K ≤ 12) : Cal l X M_Mo_weighAll 0 0 [.ref r, .int (nI K)] n (moH B r d (nI rl.length) se st fu wr (nI row.length) he re we ai al) (waQ n B r d (nI rl.length) se st fu wr (nI row.length) he re ai al (wlF K (candO lv row lv)).length) := by
  have hlv := lv_12 hs
  have hlv12 : ∀ x ∈ lv, x.1 < 12 := fun x hx => (hlv x hx).1
  have hl12 : lv.length ≤ 12 := asc_len hs.2.2.1 hlv12
  have e12 : (List.range 12).filterMap (lvF lv) = lv := lv_range hs.2.2.1 hlv12
  have key2 : ∀ (u k : Nat), k + u = 12 → ∀ (ai' : Nat → Nat → Int32) (al' : Nat → Nat → Int64) (f : Nat → Option Nat), (∀ k, k ≠ 19 → ai' k = ai k) → (∀ k, k ≠ 18 → al' k = al k) → tkW ai' al' f → (∀ q, k ≤ q → f q = none) → lO f 12 = wlF K (candO lv row ((List.range k).filterMap (lvF lv))) → Ev l X M_Mo_weighAll 0 0 28 [(0, .ref r), (1, .int (nI K)), (2, .int (nI k))] [] n (moH B r d (nI rl.length) se st fu wr (nI row.length) he re (nI (wlF K (candO lv row ((List.range k).filterMap (lvF lv)))).length) ai' al') (ev_mq X (waQ n B r d (nI rl.length) se st fu wr (nI row.length) he re ai al (wlF K (candO lv row lv)).length)) := by
    intro u
    induction u with
    | zero =>
      intro k hk ai' al' f hI hL ht hn hw
      have e1 : k = 12 := by omega
      subst e1
      rw [e12]
      refine s_Mo_weighAll_28 (v57 := 0) (v83 := 0) (v88 := 0) (v83_2 := 0) (v88_2 := 0) mh_0 mh_17 mh_18 mh_19 (fun _ => ⟨rfl, rfl, ai', al', rfl, hI, hL⟩) ?_ ?_ ?_ ?_ ?_ ?_ ?_ ?_ ?_ ?_ ?_ ?_ ?_ ?_ ?_ ?_ ?_ ?_ ?_ ?_ ?_ ?_ ?_ ?_ ?_
      all_goals exact fun c => absurd (by decide) c
    | succ u ih =>
      intro k hk ai' al' f hI hL ht hn hw
      have hgt : ¬ (12 : Int32) ≤ nI k := i_ge (a := 12) (by decide) (by omega) (by omega)
      have ck : (nI k).toNatClampNeg = k := nI_clamp (by omega)
      have ink : vp_in (nI k) 12 := vp_in_nI (by omega) (by decide)
      have e17 : ai' 17 = ai 17 := hI 17 (by decide)
      have hm1 : lg_cmp (-1) 0 < 0 := by decide
      have hih := ih (k + 1) (by omega)
      rw [cand_rg] at hih
      have hr' : rwR ai' al' rl := fun q x hx => rA_k (hr q x hx) (by rw [hI 5 (by decide)]) (by rw [hI 6 (by decide)]) (by rw [hI 7 (by decide)]) (by rw [hI 8 (by decide)]) (fun _ _ => by rw [hL 9 (by decide)])
      have hrow' : ∀ j, j < row.length → al' 11 j = tg row j := fun j hj => by rw [hL 11 (by decide)]; exact hrow j hj
      have hwl : (wlF K (candO lv row ((List.range k).filterMap (lvF lv)))).length ≤ 12 := by
        rw [← hw]
        unfold lO
        refine Nat.le_trans (List.length_filterMap_le _ _) ?_
        simp
      rcases h17 k (by omega) with ⟨q, x, a1, a2, a3, a4, a5⟩ | ⟨a1, a5⟩
      · rw [a5] at hih
        simp only at hih
        have hge : 0 ≤ ai' 17 (nI k).toNatClampNeg := by
          rw [ck, e17, a1]
          exact (nI_leI (a := 0) (by decide) (by omega)).mpr (Nat.zero_le _)
        have hx12 := (hs.2.2.2 x (List.mem_of_getElem? a3)).2
        have hW := sumW_lt (lv := lv) (row := row) (ts := x.2.2.2) hl12 hx12 h8
        have hB := sumB_lt (lv := lv) (row := row) (ts := x.2.2.2) hl12 (fun i => dAt_12 hlv i) h8
        have csum : ∀ bb : Bool, Cal l X M_Mo_sum 0 0 [.ref r, .int (ai' 17 (nI k).toNatClampNeg), .int (bI bb)] n (moH B r d (nI rl.length) se st fu wr (nI row.length) he re (nI (wlF K (candO lv row ((List.range k).filterMap (lvF lv)))).length) ai' al') (ev_pure (.long (smA lv row x.2.2.2 bb)) n (moH B r d (nI rl.length) se st fu wr (nI row.length) he re (nI (wlF K (candO lv row ((List.range k).filterMap (lvF lv)))).length) ai' al')) := fun bb => by
          rw [ck, e17, a1]
          exact c_Mo_sum bb hr' hs h80 a3 a4 hrow' h8
        cases hh : hasT row x.2.2.2 with
        | false =>
          rw [hh] at hih
          simp only [Bool.false_eq_true, if_false] at hih
          have hneg : lg_cmp (smA lv row x.2.2.2 false) 0 < 0 := (smA_neg hW hB).mpr hh
          refine s_Mo_weighAll_28 (v83 := 0) (v88 := 0) (v83_2 := 0) (v88_2 := 0) mh_0 mh_17 mh_18 mh_19 (fun c => absurd c hgt) (fun _ => ink) (fun _ _ => ink) (fun _ _ => csum false) (fun _ _ _ => ?_) (fun _ _ z => absurd hneg z) (fun _ _ z => absurd hneg z) (fun _ _ z => absurd hneg z) (fun _ _ z => absurd hneg z) (fun _ _ z => absurd hneg z) (fun _ _ z => absurd hneg z) (fun _ _ z => absurd hneg z) (fun _ _ z => absurd hneg z) (fun _ _ z => absurd hneg z) (fun _ _ z => absurd hneg z) (fun _ z => absurd hge z) (fun _ z => absurd hge z) (fun _ z => absurd hge z) (fun _ z => absurd hge z) (fun _ z => absurd hge z) (fun _ z => absurd hge z) (fun _ z => absurd hge z) (fun _ z => absurd hge z) (fun _ z => absurd hge z) (fun _ z => absurd hge z) (fun _ z => absurd hge z)
          rw [nI_1]
          exact hih ai' al' f hI hL ht (fun q hq => hn q (by omega)) hw
        | true =>
          rw [hh] at hih
          simp only [if_true] at hih
          rw [wlF_app] at hih
          have hpos : ¬ lg_cmp (smA lv row x.2.2.2 false) 0 < 0 := fun z => by
            have := (smA_neg hW hB).mp z
            rw [hh] at this
            cases this
          have es : smA lv row x.2.2.2 false = lN (sumW lv row x.2.2.2) := by unfold smA; rw [hh]; rfl
          have esb : smA lv row x.2.2.2 true = lN (sumB lv row x.2.2.2) := by unfold smA; rw [hh]; rfl
          have hlst := c_Mo_least (l := l) (X := X) (n := n) (B := B) (r := r) (d := d) (ro := nI rl.length) (se := se) (st := st) (fu := fu) (wr := wr) (to := nI row.length) (he := he) (re := re) (we := nI (wlF K (candO lv row ((List.range k).filterMap (lvF lv)))).length) (ai := ai') (al := al') ht hK
          -- it is taken
          have tk1 : ((wlF K (candO lv row ((List.range k).filterMap (lvF lv)))).length < K ∨ lastW ((srtW (wlF K (candO lv row ((List.range k).filterMap (lvF lv))))).take K) < sumB lv row x.2.2.2) → Ev l X M_Mo_weighAll 0 0 28 [(0, .ref r), (1, .int (nI K)), (2, .int (nI (k + 1)))] [] n (ev_up (ev_up (ev_up (moH B r d (nI rl.length) se st fu wr (nI row.length) he re (nI (wlF K (candO lv row ((List.range k).filterMap (lvF lv)))).length) ai' al') (r + 18) (.inl (1, 12, .inr (.inl (vp_updL (al' 18) k (smA lv row x.2.2.2 false)))))) (r + 19) (.inl (2, 12, .inl (upd (ai' 19) k 1)))) r (moO r d (nI rl.length) se st fu wr (nI row.length) he re (nI (wlF K (candO lv row ((List.range k).filterMap (lvF lv)))).length + 1))) (ev_mq X (waQ n B r d (nI rl.length) se st fu wr (nI row.length) he re ai al (wlF K (candO lv row lv)).length)) := by
            intro hc
            have ews : wlS K (wlF K (candO lv row ((List.range k).filterMap (lvF lv)))) (k, sumW lv row x.2.2.2, sumB lv row x.2.2.2) = wlF K (candO lv row ((List.range k).filterMap (lvF lv))) ++ [(k, sumW lv row x.2.2.2)] := if_pos hc
            rw [ews, List.length_append] at hih
            rw [mu_18, mu_19, mu_o, nI_1]
            refine hih _ _ (upn f k (some (sumW lv row x.2.2.2))) (fun q hq => ?_) (fun q hq => ?_) (fun q hq => ?_) (fun q hq => ?_) ?_
            · rw [← hI q hq]; simp [va_up, hq]
            · rw [← hL q hq]; simp [va_up, hq]
            · obtain ⟨t1, t2⟩ := ht q hq
              by_cases z : q = k
              · subst z
                refine ⟨by simp [va_up, upd, upn]; rfl, fun w hw => ?_⟩
                simp [upn] at hw
                subst hw
                refine ⟨by simp [va_up, vp_updL, es], by omega⟩
              · refine ⟨by simp [va_up, upd, upn, z, t1], fun w hw => ?_⟩
                simp [upn, z] at hw
                obtain ⟨t3, t4⟩ := t2 w hw
                exact ⟨by simp [va_up, vp_updL, z, t3], t4⟩
            · unfold upn
              rw [if_neg (by omega)]
              exact hn q (by omega)
            · have ea : lO (upn f k (some (sumW lv row x.2.2.2))) 12 = lO (upn f k (some (sumW lv row x.2.2.2))) (k + 1) := by
                have := lO_none (f := upn f k (some (sumW lv row x.2.2.2))) (k := k + 1) (fun q hq => by unfold upn; rw [if_neg (by omega)]; exact hn q (by omega)) u
                rwa [show k + 1 + u = 12 by omega] at this
              have eb : lO f 12 = lO f k := by
                have := lO_none (f := f) (k := k) hn (u + 1)
                rwa [show k + (u + 1) = 12 by omega] at this
              rw [ea, lO_s, ← hw, eb]
              congr 1
              · exact lO_congr fun q hq => by unfold upn; rw [if_neg (by omega)]
              · simp [upn]
          refine s_Mo_weighAll_28 (v57 := smA lv row x.2.2.2 false) (v83_2 := 0) (v88_2 := 0) mh_0 mh_17 mh_18 mh_19 (fun c => absurd c hgt) (fun _ => ink) (fun _ _ => ink) (fun _ _ => csum false) (fun _ _ z => absurd z hpos) (fun _ _ _ _ => ink) (fun _ _ _ _ => ink) (fun _ _ _ z => ?_) (fun _ _ _ _ => ink) (fun _ _ _ _ => csum true) (fun _ _ _ _ => hlst) (fun _ _ _ z y => ?_) (fun _ _ _ _ _ => ink) (fun _ _ _ _ _ => ink) (fun _ _ _ z y => ?_) (fun _ z => absurd hge z) (fun _ z => absurd hge z) (fun _ z => absurd hge z) (fun _ z => absurd hge z) (fun _ z => absurd hge z) (fun _ z => absurd hge z) (fun _ z => absurd hge z) (fun _ z => absurd hge z) (fun _ z => absurd hge z) (fun _ z => absurd hge z) (fun _ z => absurd hge z)
          · rw [ck, nI_1 k]
            exact tk1 (Or.inl ((nI_ltI (by omega) (by omega)).mp z))
          · have hz : ¬ (wlF K (candO lv row ((List.range k).filterMap (lvF lv)))).length < K := fun q => z ((nI_ltI (by omega) (by omega)).mpr q)
            have hp : (wlF K (candO lv row ((List.range k).filterMap (lvF lv)))).Pairwise (fun a b : Nat × Nat => a.1 < b.1) := by rw [← hw]; exact (lO_asc f 12).1
            have ekth : kthL (lO f 12) K (lO f 12) 0 = lastW ((srtW (wlF K (candO lv row ((List.range k).filterMap (lvF lv))))).take K) := by
              rw [hw]
              exact kthL_all hp h1K (by omega)
            have hlw : lastW ((srtW (wlF K (candO lv row ((List.range k).filterMap (lvF lv))))).take K) < 2 ^ 30 := by
              unfold lastW
              split
              · decide
              · rename_i hne
                have hlt : ((srtW (wlF K (candO lv row ((List.range k).filterMap (lvF lv))))).take K).length - 1 < ((srtW (wlF K (candO lv row ((List.range k).filterMap (lvF lv))))).take K).length := by omega
                rw [List.getD_eq_getElem?_getD, List.getElem?_eq_getElem hlt]
                have hm : ((srtW (wlF K (candO lv row ((List.range k).filterMap (lvF lv))))).take K)[((srtW (wlF K (candO lv row ((List.range k).filterMap (lvF lv))))).take K).length - 1] ∈ lO f 12 := by
                  rw [hw]
                  exact (srt_perm _).mem_iff.mp (List.mem_of_mem_take (List.getElem_mem hlt))
                obtain ⟨m1, m2⟩ := (lO_mem (j := _) (w := _)).mp hm
                exact ((ht _ m1).2 _ m2).2
            rw [ekth, esb, lc_le, lN_le (by omega) (by omega)] at y
            have ews : wlS K (wlF K (candO lv row ((List.range k).filterMap (lvF lv)))) (k, sumW lv row x.2.2.2, sumB lv row x.2.2.2) = wlF K (candO lv row ((List.range k).filterMap (lvF lv))) := if_neg (by simp only; omega)
            rw [ews] at hih
            rw [nI_1]
            exact hih ai' al' f hI hL ht (fun q hq => hn q (by omega)) hw
          · have hz : ¬ (wlF K (candO lv row ((List.range k).filterMap (lvF lv)))).length < K := fun q => z ((nI_ltI (by omega) (by omega)).mpr q)
            have hp : (wlF K (candO lv row ((List.range k).filterMap (lvF lv)))).Pairwise (fun a b : Nat × Nat => a.1 < b.1) := by rw [← hw]; exact (lO_asc f 12).1
            have ekth : kthL (lO f 12) K (lO f 12) 0 = lastW ((srtW (wlF K (candO lv row ((List.range k).filterMap (lvF lv))))).take K) := by
              rw [hw]
              exact kthL_all hp h1K (by omega)
            have hlw : lastW ((srtW (wlF K (candO lv row ((List.range k).filterMap (lvF lv))))).take K) < 2 ^ 30 := by
              unfold lastW
              split
              · decide
              · rename_i hne
                have hlt : ((srtW (wlF K (candO lv row ((List.range k).filterMap (lvF lv))))).take K).length - 1 < ((srtW (wlF K (candO lv row ((List.range k).filterMap (lvF lv))))).take K).length := by omega
                rw [List.getD_eq_getElem?_getD, List.getElem?_eq_getElem hlt]
                have hm : ((srtW (wlF K (candO lv row ((List.range k).filterMap (lvF lv))))).take K)[((srtW (wlF K (candO lv row ((List.range k).filterMap (lvF lv))))).take K).length - 1] ∈ lO f 12 := by
                  rw [hw]
                  exact (srt_perm _).mem_iff.mp (List.mem_of_mem_take (List.getElem_mem hlt))
                obtain ⟨m1, m2⟩ := (lO_mem (j := _) (w := _)).mp hm
                exact ((ht _ m1).2 _ m2).2
            rw [ekth, esb, lc_le, lN_le (by omega) (by omega)] at y
            rw [ck, nI_1 k]
            exact tk1 (Or.inr (by omega))
      · rw [a5] at hih
        simp only at hih
        have hlt : ¬ 0 ≤ ai' 17 (nI k).toNatClampNeg := by
          rw [ck, e17, a1]
          decide
        refine s_Mo_weighAll_28 (v57 := 0) (v83 := 0) (v88 := 0) (v83_2 := 0) (v88_2 := 0) mh_0 mh_17 mh_18 mh_19 (fun c => absurd c hgt) (fun _ => ink) (fun _ z => absurd z hlt) (fun _ z => absurd z hlt) (fun _ z => absurd z hlt) (fun _ z => absurd z hlt) (fun _ z => absurd z hlt) (fun _ z => absurd z hlt) (fun _ z => absurd z hlt) (fun _ z => absurd z hlt) (fun _ z => absurd z hlt) (fun _ z => absurd z hlt) (fun _ z => absurd z hlt) (fun _ z => absurd z hlt) (fun _ z => absurd z hlt) (fun _ _ _ => ?_) (fun _ _ z => absurd hm1 z) (fun _ _ z => absurd hm1 z) (fun _ _ z => absurd hm1 z) (fun _ _ z => absurd hm1 z) (fun _ _ z => absurd hm1 z) (fun _ _ z => absurd hm1 z) (fun _ _ z => absurd hm1 z) (fun _ _ z => absurd hm1 z) (fun _ _ z => absurd hm1 z) (fun _ _ z => absurd hm1 z)
        rw [nI_1]
        exact hih ai' al' f hI hL ht (fun q hq => hn q (by omega)) hw
  -- nothing is taken at first
  have key1 : ∀ (u k : Nat), k + u = 12 → ∀ (ai' : Nat → Nat → Int32), (∀ k, k ≠ 19 → ai' k = ai k) → (∀ q, q < k → ai' 19 q = 0) → Ev l X M_Mo_weighAll 0 0 7 [(0, .ref r), (1, .int (nI K)), (2, .int (nI k))] [] n (moH B r d (nI rl.length) se st fu wr (nI row.length) he re 0 ai' al) (ev_mq X (waQ n B r d (nI rl.length) se st fu wr (nI row.length) he re ai al (wlF K (candO lv row lv)).length)) := by
    intro u
    induction u with
    | zero =>
      intro k hk ai' hI hz
      have e1 : k = 12 := by omega
      subst e1
      refine s_Mo_weighAll_7 mh_0 mh_19 (fun _ => ?_) ?_ ?_
      · exact key2 12 0 rfl ai' al (fun _ => none) hI (fun _ _ => rfl) (fun q hq => ⟨by rw [hz q hq]; rfl, fun w hw => by cases hw⟩) (fun _ _ => rfl) (by
          have := lO_none (f := fun _ => none) (k := 0) (fun _ _ => rfl) 12
          rw [Nat.zero_add] at this
          rw [this]
          rfl)
      all_goals exact fun c => absurd (by decide) c
    | succ u ih =>
      intro k hk ai' hI hz
      have hgt : ¬ (12 : Int32) ≤ nI k := i_ge (a := 12) (by decide) (by omega) (by omega)
      have ck : (nI k).toNatClampNeg = k := nI_clamp (by omega)
      refine s_Mo_weighAll_7 mh_0 mh_19 (fun c => absurd c hgt) (fun _ => vp_in_nI (by omega) (by decide)) (fun _ => ?_)
      rw [ck, mu_19, nI_1]
      refine ih (k + 1) (by omega) _ (fun q hq => by rw [← hI q hq]; simp [va_up, hq]) (fun q hq => ?_)
      by_cases z : q = k
      · simp [va_up, upd, z]
      · simp [va_up, upd, z, hz q (by omega)]
  refine Cal.of (by decide) (Nat.le_of_ble_eq_true rfl) (s_Mo_weighAll_0 mh_0 ?_)
  rw [mu_o]
  exact key1 12 0 rfl ai (fun _ _ => rfl) (fun q hq => absurd hq (Nat.not_lt_zero _))
end MoS
