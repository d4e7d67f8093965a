/-! the reference: find and size -/
theorem lkR_N {ids : Nat → Nat} {dead f : Nat → Int32} {rl : List PRow} {id : Nat} : ∀ {k : Nat}, (∀ q, q < k → ids q = (rl.getD q (0, 0, true, [])).1 ∧ dead q = bI (rl.getD q (0, 0, true, [])).2.2.1) → lkR ids dead f k id = (match lkN rl id k with | some q => nI q | none => f id)
  | 0, _ => rfl
  | k + 1, h => by
    have ih := lkR_N (ids := ids) (dead := dead) (f := f) (rl := rl) (id := id) (k := k) (fun q hq => h q (by omega))
    obtain ⟨h1, h2⟩ := h k (by omega)
    unfold lkR lkN
    rw [h2]
    cases hd : (rl.getD k (0, 0, true, [])).2.2.1 with
    | true =>
      rw [if_neg (show ¬ bI true = 0 by decide), if_neg (fun z => by cases z.1)]
      exact ih
    | false =>
      rw [if_pos (show bI false = 0 by decide), h1]
      by_cases e : (rl.getD k (0, 0, true, [])).1 = id
      · rw [if_pos ⟨rfl, e⟩]
        unfold upd
        rw [if_pos e.symm]
      · rw [if_neg (fun z => e z.2)]
        have e2 : id ≠ (rl.getD k (0, 0, true, [])).1 := fun z => e z.symm
        unfold upd
        rw [if_neg e2]
        exact ih
def rsA (ai : Nat → Nat → Int32) (al : Nat → Nat → Int64) (rs : List (Nat × Nat)) : Prop := ∀ i x, rs[i]? = some x → ai 15 i = nI x.1 ∧ al 16 i = lN x.2
section MoO
variable {l : Launch} {X : ev_X} {n : Nat} {B : ev_H} {r : Nat} {d ro se st fu wr to he re we : Int32} {ai : Nat → Nat → Int32} {al : Nat → Nat → Int64}
theorem c_Mo_find_stop (hs : ¬ st = 0) : Cal l X M_Mo_find 0 0 [.ref r] n (moH B r d ro se st fu wr to he re we ai al) (ev_pure (.int (-9)) n (moH B r d ro se st fu wr to he re we ai al)) := by
  refine Cal.of (by decide) (Nat.le_of_ble_eq_true rfl) (s_Mo_find_0 (bc30 := 0) (bs30 := 0) (rc30 := 0) (rs30 := 0) (Q30 := fun _ _ _ => False) (bc30_2 := 0) (bs30_2 := 0) (rc30_2 := 0) (rs30_2 := 0) (Q30_2 := fun _ _ _ => False) mh_0 (by omega) (by omega) (by omega) (by omega) ?_ ?_ ?_ ?_ (fun _ => ⟨rfl, rfl, rfl⟩))
  all_goals exact fun c => absurd c hs
/-- the table of live rows -/
def lkT (ai : Nat → Nat → Int32) (rl : List PRow) : Nat → Int32 := lkR (fun q => (rl.getD q (0, 0, true, [])).1) (ai 7) (lkZ (ai 17) 12) rl.length
theorem lkT_at {sg : List Seg} {lv : List Doc} {rl : List PRow} (hr : rwR ai al rl) (hs : shR sg lv rl) {id : Nat} (h : id < 12) : (∃ q x, lkT ai rl id = nI q ∧ q < rl.length ∧ rl[q]? = some x ∧ lvF lv id = some (id, x.2.2.2)) ∨ (lkT ai rl id = -1 ∧ lvF lv id = none) := by
  have e : lkT ai rl id = (match lkN rl id rl.length with | some q => nI q | none => lkZ (ai 17) 12 id) := lkR_N (fun q hq => ⟨rfl, (rw_at hr hq).2.2.1⟩)
  rcases lkN_ok hs id with ⟨q, x, a1, a2, a3, a4, a5⟩ | ⟨a1, a2⟩
  · left
    rw [a1] at e
    exact ⟨q, x, e, (List.getElem?_eq_some_iff.mp a2).1, a2, a5⟩
  · right
    rw [a1] at e
    refine ⟨?_, a2⟩
    rw [e]
    simp [lkZ, h]
theorem c_Mo_find {sg : List Seg} {lv : List Doc} {rl : List PRow} {ss : List QStep} {h : Nat} {dp : Nat → Nat} {tk : List PTok} (hr : rwR ai al rl) (hsh : shR sg lv rl) (h80 : rl.length ≤ 80) (ht : tkA ai al tk) (hq : qR ss h dp tk) (hT : tk.length ≤ 520) : Cal l X M_Mo_find 0 0 [.ref r] n (moH B r d (nI rl.length) se 0 fu wr (nI tk.length) (nI h) re we ai al) (fun v n' F' => v = some (.int (if h = 1 then nI (fnd ss lv).length else -3)) ∧ n' = n ∧ ∃ ai' al', F' = (moH B r d (nI rl.length) se 0 fu wr 0 0 (nI (if h = 1 then fnd ss lv else []).length) we ai' al') ∧ (∀ k, k ≠ 14 → k ≠ 15 → k ≠ 17 → ai' k = ai k) ∧ (∀ k, k ≠ 16 → al' k = al k) ∧ rsA ai' al' (if h = 1 then fnd ss lv else [])) := by
  have h8 : h ≤ 8 := hq.2.2
  have hlv := lv_12 hsh
  have hlv12 : ∀ x ∈ lv, x.1 < 12 := fun x hx => (hlv x hx).1
  have e12 : fnd ss ((List.range 12).filterMap (lvF lv)) = fnd ss lv := by rw [lv_range hsh.2.2.1 hlv12]
  generalize hQ : (fun (v : Option Value) (n' : Nat) (F' : ev_H) => v = some (.int (if h = 1 then nI (fnd ss lv).length else -3)) ∧ n' = n ∧ ∃ ai' al', F' = (moH B r d (nI rl.length) se 0 fu wr 0 0 (nI (if h = 1 then fnd ss lv else []).length) we ai' al') ∧ (∀ k, k ≠ 14 → k ≠ 15 → k ≠ 17 → ai' k = ai k) ∧ (∀ k, k ≠ 16 → al' k = al k) ∧ rsA ai' al' (if h = 1 then fnd ss lv else [])) = Q
  have hlk : Cal l X M_Mo_lookUp 0 0 [.ref r] n (moH B r d (nI rl.length) se 0 fu wr (nI tk.length) (nI h) 0 we ai al) (ev_void n (moH B r d (nI rl.length) se 0 fu wr (nI tk.length) (nI h) 0 we (va_up ai 17 (lkT ai rl)) al)) := c_Mo_lookUp (ids := fun q => (rl.getD q (0, 0, true, [])).1) h80 (fun q hq => ⟨(rw_at hr hq).1, (rw_at hr hq).2.2.2.2.2.1⟩)
  have key : h = 1 → ∀ (u k : Nat), k + u = 12 → ∀ (ai' : Nat → Nat → Int32) (al' : Nat → Nat → Int64), (∀ k, k ≠ 14 → k ≠ 15 → k ≠ 17 → ai' k = ai k) → (∀ k, k ≠ 16 → al' k = al k) → ai' 17 = lkT ai rl → rsA ai' al' (fnd ss ((List.range k).filterMap (lvF lv))) → Ev l X M_Mo_find 0 0 35 [(0, .ref r), (1, .int 1), (2, .int (nI k))] [] n (moH B r d (nI rl.length) se 0 fu wr (nI tk.length) (nI h) (nI (fnd ss ((List.range k).filterMap (lvF lv))).length) we ai' al') (ev_mq X Q) := by
    intro h1 u
    induction u with
    | zero =>
      intro k hk ai' al' hI hL h17 hR
      have e1 : k = 12 := by omega
      subst e1
      rw [e12] at hR ⊢
      refine s_Mo_find_35 (bc61 := 0) (bs61 := 0) (rc61 := 0) (rs61 := 0) (Q61 := fun _ _ _ => False) mh_0 mh_17 (by omega) (by omega) (fun _ z => absurd z (by decide)) (fun _ _ => ?_) ?_ ?_ ?_ ?_ ?_ ?_ ?_
      · rw [mu_o, mu_o, ← hQ, if_pos h1, if_pos h1]
        exact ⟨rfl, rfl, ai', al', rfl, hI, hL, hR⟩
      all_goals exact fun c => absurd (by decide) c
    | succ u ih =>
      intro k hk ai' al' hI hL h17 hR
      have hgt : ¬ (12 : Int32) ≤ nI k := i_ge (a := 12) (by decide) (by omega) (by omega)
      have ck : (nI k).toNatClampNeg = k := nI_clamp (by omega)
      have ink : vp_in (nI k) 12 := vp_in_nI (by omega) (by decide)
      have n1 : ¬ (1 : Int32) = 0 := by decide
      have hih := ih (k + 1) (by omega)
      have erg : (List.range (k + 1)).filterMap (lvF lv) = (List.range k).filterMap (lvF lv) ++ (lvF lv k).toList := by
        rw [List.range_succ, List.filterMap_append]
        congr 1
      have hfl : (fnd ss ((List.range k).filterMap (lvF lv))).length ≤ k := by
        unfold fnd
        rw [List.length_map]
        refine Nat.le_trans (List.length_filter_le _ _) (Nat.le_trans (List.length_filterMap_le _ _) ?_)
        simp
      rw [erg] at hih
      rcases lkT_at hr hsh (show k < 12 by omega) with ⟨q, x, a1, a2, a3, a4⟩ | ⟨a1, a2⟩
      · have hx := hr q x a3
        have hx' : rA ai' al' q x := rA_k hx (by rw [hI 5 (by decide) (by decide) (by decide)]) (by rw [hI 6 (by decide) (by decide) (by decide)]) (by rw [hI 7 (by decide) (by decide) (by decide)]) (by rw [hI 8 (by decide) (by decide) (by decide)]) (fun _ _ => by rw [hL 9 (by decide)])
        have ht' : tkA ai' al' tk := fun j y hy => by rw [hI 10 (by decide) (by decide) (by decide), hL 11 (by decide)]; exact ht j y hy
        rw [a4] at hih
        have hnn : ¬ ai' 17 (nI k).toNatClampNeg < 0 := by
          rw [ck, h17, a1]
          exact nI_pos (by omega)
        refine s_Mo_find_35 (bc61 := 0) (bs61 := 0) (rc61 := 0) (rs61 := 0) mh_0 mh_17 (by omega) (by omega) (fun c => absurd c hgt) (fun c => absurd c hgt) (fun _ z => absurd z n1) (fun _ z => absurd z n1) (fun _ _ => ink) (fun _ _ z => absurd z hnn) (fun _ _ _ => ink) (fun _ _ _ => by rw [ck, h17, a1]; exact c_Mo_matches hx' (by omega) hq.1 ht' hT (by rw [← dpL_len dp h] at h1; exact hq.2.1) (by rw [dpL_len]; exact h1)) (fun _ _ _ => ?_)
        rintro _ _ _ ⟨rfl, b, g, hb, rfl, rfl⟩
        obtain ⟨-, hans⟩ := qR_ans x.2.2.2 hq
        obtain ⟨b', hb', hm⟩ := hans h1
        rw [hb] at hb'
        cases hb'
        have hmt : mtc ss (k, x.2.2.2) = b := hm
        have cf : (nI (fnd ss ((List.range k).filterMap (lvF lv))).length).toNatClampNeg = (fnd ss ((List.range k).filterMap (lvF lv))).length := nI_clamp (by omega)
        have inf : vp_in (nI (fnd ss ((List.range k).filterMap (lvF lv))).length) 12 := vp_in_nI (by omega) (by decide)
        refine s_Mo_find_64 mh_0 mh_15 mh_16 (fun z => ?_) (fun _ => inf) (fun _ => inf) (fun z => ?_)
        · have e : b = false := bI_1.mp z
          have ef : fnd ss ((List.range k).filterMap (lvF lv) ++ (some (k, x.2.2.2)).toList) = fnd ss ((List.range k).filterMap (lvF lv)) := by
            unfold fnd
            rw [List.filter_append]
            simp [hmt, e]
          rw [ef] at hih
          rw [nI_1]
          refine hih _ _ (fun j a14 a15 a17 => ?_) hL ?_ (fun i y hy => ?_)
          · rw [← hI j a14 a15 a17]
            simp [va_up, a14]
          · rw [← h17]
            simp [va_up]
          · have := hR i y hy
            simpa [va_up] using this
        · have e : b = true := bI_n0 z
          have ef : fnd ss ((List.range k).filterMap (lvF lv) ++ (some (k, x.2.2.2)).toList) = fnd ss ((List.range k).filterMap (lvF lv)) ++ [(k, 0)] := by
            unfold fnd
            rw [List.filter_append, List.map_append]
            simp [hmt, e]
          rw [ef] at hih
          rw [cf, nI_1, nI_1, mu_15, mu_16, mu_o]
          rw [List.length_append] at hih
          refine hih _ _ (fun j a14 a15 a17 => ?_) (fun j a16 => ?_) ?_ (fun i y hy => ?_)
          · rw [← hI j a14 a15 a17]
            simp [va_up, a14, a15]
          · rw [← hL j a16]
            simp [va_up, a16]
          · rw [← h17]
            simp [va_up]
          · by_cases gi : i < (fnd ss ((List.range k).filterMap (lvF lv))).length
            · rw [List.getElem?_append_left gi] at hy
              have := hR i y hy
              have hne : i ≠ (fnd ss ((List.range k).filterMap (lvF lv))).length := by omega
              simpa [va_up, upd, vp_updL, hne] using this
            · rw [List.getElem?_append_right (by omega)] at hy
              have e0 : i - (fnd ss ((List.range k).filterMap (lvF lv))).length = 0 := by
                have := (List.getElem?_eq_some_iff.mp hy).1
                simp at this
                omega
              rw [e0] at hy
              cases hy
              have e3 : i = (fnd ss ((List.range k).filterMap (lvF lv))).length := by omega
              subst e3
              simp [va_up, upd, vp_updL]
              rfl
      · rw [a2] at hih
        have hneg : ai' 17 (nI k).toNatClampNeg < 0 := by
          rw [ck, h17, a1]
          decide
        refine s_Mo_find_35 (bc61 := 0) (bs61 := 0) (rc61 := 0) (rs61 := 0) (Q61 := fun _ _ _ => False) mh_0 mh_17 (by omega) (by omega) (fun c => absurd c hgt) (fun c => absurd c hgt) (fun _ z => absurd z n1) (fun _ z => absurd z n1) (fun _ _ => ink) (fun _ _ _ => ?_) (fun _ _ z => absurd hneg z) (fun _ _ z => absurd hneg z) (fun _ _ z => absurd hneg z)
        rw [nI_1]
        have := hih ai' al' hI hL h17 (by simpa using hR)
        simpa using this
  refine Cal.of (by decide) (Nat.le_of_ble_eq_true rfl) (s_Mo_find_0 (bc30 := 0) (bs30 := 0) (rc30 := 0) (rs30 := 0) (bc30_2 := 0) (bs30_2 := 0) (rc30_2 := 0) (rs30_2 := 0) mh_0 (by omega) (by omega) (by omega) (by omega) (fun _ _ => by rw [mu_o]; exact hlk) (fun _ a => ?_) (fun _ _ => by rw [mu_o]; exact hlk) (fun _ a => ?_) (fun a => absurd rfl a))
  · have e : ¬ h = 1 := fun z => a (by rw [z]; rfl)
    rintro _ nn _ ⟨rfl, rfl, rfl⟩
    have fin : Q (some (.int (-3))) nn (moH B r d (nI rl.length) se 0 fu wr 0 0 0 we (va_up ai 17 (lkT ai rl)) al) := by
      rw [← hQ, if_neg e, if_neg e]
      exact ⟨rfl, rfl, _, al, rfl, fun k a14 a15 a17 => by simp [va_up, a17], fun _ _ => rfl, fun i x hx => by simp at hx⟩
    have n12 : ¬ (12 : Int32) ≤ 0 := by decide
    refine s_Mo_find_33 (s_Mo_find_35 (bc61 := 0) (bs61 := 0) (rc61 := 0) (rs61 := 0) (Q61 := fun _ _ _ => False) mh_0 mh_17 (by omega) (by omega) (fun z => absurd z n12) (fun z => absurd z n12) (fun _ _ _ => ?_) (fun _ _ z => absurd rfl z) (fun _ z => absurd rfl z) (fun _ z => absurd rfl z) (fun _ z => absurd rfl z) (fun _ z => absurd rfl z) (fun _ z => absurd rfl z))
    rw [mu_o, mu_o]
    exact fin
  · have e : h = 1 := (nI_eq (b := 1) (by omega) (by decide)).mp a
    rintro _ _ _ ⟨rfl, rfl, rfl⟩
    refine s_Mo_find_33 (key e 12 0 rfl (va_up ai 17 (lkT ai rl)) al (fun k a14 a15 a17 => by simp [va_up, a17]) (fun _ _ => rfl) (by simp [va_up]) (fun i x hx => ?_))
    simp [fnd] at hx
end MoO
