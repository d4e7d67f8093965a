/-! the reference: the best, rank -/
/-- who isn't taken, with his weight, in cells -/
def unR (ai : Nat → Nat → Int32) (al : Nat → Nat → Int64) (f : Nat → Option Nat) (k : Nat) : Prop := ∀ q, q < k → ai 19 q = bI (f q).isNone ∧ ∀ w, f q = some w → al 18 q = lN w ∧ w < 2 ^ 30
def bz (o : Option (Nat × Nat)) : Int32 := match o with | none => -1 | some b => nI b.1
def gdK (h : Nat) (dp : Nat → Nat) : Nat → Bool
  | 0 => decide (0 < h)
  | k + 1 => gdK h dp k && decide (dp k = 0)
theorem gdK_t {h : Nat} {dp : Nat → Nat} : ∀ {k : Nat}, gdK h dp k = true ↔ 0 < h ∧ ∀ j, j < k → dp j = 0
  | 0 => by simp [gdK]
  | k + 1 => by
    unfold gdK
    rw [Bool.and_eq_true, gdK_t (k := k), decide_eq_true_eq]
    constructor
    · rintro ⟨⟨a, b⟩, c⟩
      refine ⟨a, fun j hj => ?_⟩
      by_cases e : j = k
      · subst e; exact c
      · exact b j (by omega)
    · rintro ⟨a, b⟩
      exact ⟨⟨a, fun j hj => b j (by omega)⟩, b k (by omega)⟩
section MoT
variable {l : Launch} {X : ev_X} {n : Nat} {B : ev_H} {r : Nat} {d ro se st fu wr to he re we : Int32} {ai : Nat → Nat → Int32} {al : Nat → Nat → Int64}
def beQ (n : Nat) (B : ev_H) (r : Nat) (d ro se st fu wr to he we : Int32) (ai : Nat → Nat → Int32) (al : Nat → Nat → Int64) (rs : List (Nat × Nat)) : Option Value → Nat → ev_H → Prop := fun v n' F' => v = none ∧ n' = n ∧ ∃ ai' al', F' = (moH B r d ro se st fu wr to he (nI rs.length) we ai' al') ∧ (∀ k, k ≠ 15 → k ≠ 19 → ai' k = ai k) ∧ (∀ k, k ≠ 16 → k ≠ 18 → al' k = al k) ∧ rsA ai' al' rs
theorem c_Mo_best {sg : List Seg} {lv : List Doc} {rl : List PRow} {row : List Int64} {K : Nat} (hr : rwR ai al rl) (hs : shR sg lv rl) (h80 : rl.length ≤ 80) (hrow : ∀ j, j < row.length → al 11 j = tg row j) (h8 : row.length ≤ 8) (h17 : ∀ id, id < 12 → (∃ q x, ai 17 id = nI q ∧ q < rl.length ∧ rl[q]? = some x ∧ x.2.2.1 = false ∧ lvF lv id = some (id, x.2.2.2)) ∨ (ai 17 id = -1 ∧ lvF lv id = none)) (hK : K ≤ 12) : Cal l X M_Mo_best 0 0 [.ref r, .int (nI K)] n (moH B r d (nI rl.length) se st fu wr (nI row.length) he 0 we ai al) (beQ n B r d (nI rl.length) se st fu wr (nI row.length) he we ai al (rkR lv row K)) := by
  have hlv := lv_12 hs
  have hlv12 : ∀ x ∈ lv, x.1 < 12 := fun x hx => (hlv x hx).1
  have hl12 : lv.length ≤ 12 := asc_len hs.2.2.1 hlv12
  have e12 : (List.range 12).filterMap (lvF lv) = lv := lv_range hs.2.2.1 hlv12
  have ecl : (candO lv row lv).map (fun x => (x.1, x.2.1)) = lO (cdO lv row) 12 := by
    rw [← cand_lO, e12]
  generalize hQ : beQ n B r d (nI rl.length) se st fu wr (nI row.length) he we ai al (rkR lv row K) = Q
  have hrk : rkR lv row K = (srtW (lO (cdO lv row) 12)).take K := by unfold rkR; rw [ecl]
  generalize hSd : srtW (lO (cdO lv row) 12) = S at hrk
  have hSl : S.Pairwise lt2 := by rw [← hSd]; exact srt_lt2 (lO_asc _ 12).1
  have hSlen : S.length ≤ 12 := by
    rw [← hSd, srt_len]
    unfold lO
    refine Nat.le_trans (List.length_filterMap_le _ _) ?_
    simp
  -- the choices
  have key2 : ∀ (u m : Nat), m + u = K → ∀ (ai' : Nat → Nat → Int32) (al' : Nat → Nat → Int64) (f : Nat → Option Nat), (∀ k, k ≠ 15 → k ≠ 19 → ai' k = ai k) → (∀ k, k ≠ 16 → k ≠ 18 → al' k = al k) → unR ai' al' f 12 → (∀ j w, (j < 12 ∧ f j = some w) ↔ (j, w) ∈ S.drop m) → rsA ai' al' (S.take m) → Ev l X M_Mo_best 0 0 70 [(0, .ref r), (1, .int (nI K)), (2, .int (nI m))] [] n (moH B r d (nI rl.length) se st fu wr (nI row.length) he (nI (S.take m).length) we ai' al') (ev_mq X Q) := by
    intro u
    induction u with
    | zero =>
      intro m hm ai' al' f hI hL hU hf hR
      have e1 : m = K := by omega
      subst e1
      have hle : nI m ≤ nI m := (nI_leI (by omega) (by omega)).mpr (Nat.le_refl _)
      refine s_Mo_best_70 (fun _ => ?_) (fun c => absurd hle c)
      rw [← hQ, hrk]
      exact ⟨rfl, rfl, ai', al', rfl, hI, hL, hR⟩
    | succ u ih =>
      intro m hm ai' al' f hI hL hU hf hR
      have hgt : ¬ nI K ≤ nI m := i_ge (by omega) (by omega) (by omega)
      have hbn := bsc_next hSl hf
      have hih := ih (m + 1) (by omega)
      have htl : (S.take m).length ≤ m := by rw [List.length_take]; omega
      have inner : ∀ (v j : Nat), j + v = 12 → Ev l X M_Mo_best 0 0 80 [(0, .ref r), (1, .int (nI K)), (2, .int (nI m)), (3, .int (bz (bsc f j))), (4, .int (nI j))] [] n (moH B r d (nI rl.length) se st fu wr (nI row.length) he (nI (S.take m).length) we ai' al') (ev_mq X Q) := by
        intro v
        induction v with
        | zero =>
          intro j hj
          have e1 : j = 12 := by omega
          subst e1
          rw [hbn]
          cases hS : S[m]? with
          | none =>
            have hlen : S.length ≤ m := List.getElem?_eq_none_iff.mp hS
            have et : S.take (m + 1) = S.take m := by rw [List.take_of_length_le (by omega), List.take_of_length_le hlen]
            have ed : S.drop (m + 1) = S.drop m := by rw [List.drop_eq_nil_of_le (by omega), List.drop_eq_nil_of_le hlen]
            rw [et, ed] at hih
            have hneg : bz none < 0 := by decide
            refine s_Mo_best_80 mh_0 mh_19 mh_15 mh_18 mh_16 (fun _ _ => ?_) (fun _ z => absurd hneg z) (fun _ z => absurd hneg z) (fun _ z => absurd hneg z) (fun _ z => absurd hneg z) (fun _ z => absurd hneg z) ?_ ?_ ?_ ?_ ?_ ?_ ?_
            · rw [nI_1]
              exact hih ai' al' f hI hL hU hf hR
            all_goals exact fun c => absurd (by decide) c
          | some b =>
            have hlt : m < S.length := (List.getElem?_eq_some_iff.mp hS).1
            have eS : S[m] = b := by
              have := hS
              rw [List.getElem?_eq_getElem hlt] at this
              exact Option.some.inj this
            obtain ⟨i1, i2⟩ := (hf b.1 b.2).mpr (by
              rw [List.drop_eq_getElem_cons hlt, eS]
              exact List.mem_cons_self)
            have et : S.take (m + 1) = S.take m ++ [b] := by rw [List.take_succ_eq_append_getElem hlt, eS]
            have elm : (S.take m).length = m := by rw [List.length_take]; omega
            rw [et] at hih
            have cb : (nI b.1).toNatClampNeg = b.1 := nI_clamp (by omega)
            have inb : vp_in (nI b.1) 12 := vp_in_nI i1 (by decide)
            have inm : vp_in (nI (S.take m).length) 12 := vp_in_nI (by omega) (by decide)
            have cm : (nI (S.take m).length).toNatClampNeg = m := by rw [elm]; exact nI_clamp (by omega)
            have hnn : ¬ bz (some b) < 0 := nI_pos (by omega)
            obtain ⟨w1, w2⟩ := (hU b.1 i1).2 b.2 i2
            refine s_Mo_best_80 mh_0 mh_19 mh_15 mh_18 mh_16 (fun _ z => absurd z hnn) (fun _ _ => inb) (fun _ _ => inm) (fun _ _ => inb) (fun _ _ => inm) (fun _ _ => ?_) ?_ ?_ ?_ ?_ ?_ ?_ ?_
            · show Ev l X M_Mo_best 0 0 70 [(0, .ref r), (1, .int (nI K)), (2, .int (nI m + 1))] [] n (ev_up (ev_up (ev_up (ev_up (moH B r d (nI rl.length) se st fu wr (nI row.length) he (nI (S.take m).length) we ai' al') (r + 19) (.inl (2, 12, .inl (upd (ai' 19) (nI b.1).toNatClampNeg 1)))) (r + 15) (.inl (0, 12, .inl (upd (ai' 15) (nI (S.take m).length).toNatClampNeg (nI b.1))))) (r + 16) (.inl (1, 12, .inr (.inl (vp_updL (al' 16) (nI (S.take m).length).toNatClampNeg (al' 18 (nI b.1).toNatClampNeg)))))) r (moO r d (nI rl.length) se st fu wr (nI row.length) he (nI (S.take m).length + 1) we)) (ev_mq X Q)
              rw [cb, cm, mu_19, mu_15, mu_16, mu_o, nI_1, nI_1, w1]
              rw [List.length_append] at hih
              have k19 : va_up (va_up ai' 19 (upd (ai' 19) b.1 1)) 15 (upd (ai' 15) m (nI b.1)) 19 = upd (ai' 19) b.1 1 := by simp [va_up]
              have k15 : va_up ai' 19 (upd (ai' 19) b.1 1) 15 = ai' 15 := by simp [va_up]
              refine hih _ _ (upn f b.1 none) (fun q a15 a19 => by rw [← hI q a15 a19]; simp [va_up, a15, a19]) (fun q a16 a18 => by rw [← hL q a16 a18]; simp [va_up, a16]) (fun q hq => ?_) (fun j w => ?_) (fun i y hy => ?_)
              · obtain ⟨t1, t2⟩ := hU q hq
                by_cases z : q = b.1
                · refine ⟨by simp [va_up, upd, upn, z]; rfl, fun w hw => ?_⟩
                  simp [upn, z] at hw
                · refine ⟨by simp [va_up, upd, upn, z, t1], fun w hw => ?_⟩
                  simp [upn, z] at hw
                  obtain ⟨t3, t4⟩ := t2 w hw
                  exact ⟨by simp [va_up, t3], t4⟩
              · have hdc : S.drop m = b :: S.drop (m + 1) := by rw [List.drop_eq_getElem_cons hlt, eS]
                have hpd : (b :: S.drop (m + 1)).Pairwise lt2 := by
                  rw [← hdc]
                  exact hSl.sublist (List.drop_sublist _ _)
                unfold upn
                constructor
                · rintro ⟨h1, h2⟩
                  by_cases z : j = b.1
                  · rw [if_pos z] at h2
                    cases h2
                  · rw [if_neg z] at h2
                    have := (hf j w).mp ⟨h1, h2⟩
                    rw [hdc] at this
                    rcases List.mem_cons.mp this with e | e
                    · exact absurd (by rw [← e]) z
                    · exact e
                · intro hm2
                  have h3 := (hf j w).mpr (by rw [hdc]; exact List.mem_cons_of_mem _ hm2)
                  have z : j ≠ b.1 := fun z => by
                    subst z
                    rw [i2] at h3
                    have : w = b.2 := (Option.some.inj h3.2).symm
                    subst this
                    have := (List.pairwise_cons.mp hpd).1 _ hm2
                    unfold lt2 at this
                    omega
                  rw [if_neg z]
                  exact h3
              · by_cases gi : i < (S.take m).length
                · rw [List.getElem?_append_left gi] at hy
                  have := hR i y hy
                  have hne : i ≠ m := by omega
                  simpa [va_up, upd, vp_updL, hne] using this
                · rw [List.getElem?_append_right (by omega)] at hy
                  have e0 : i - (S.take m).length = 0 := by
                    have := (List.getElem?_eq_some_iff.mp hy).1
                    simp only [List.length_singleton] at this
                    omega
                  rw [e0] at hy
                  cases hy
                  have e3 : i = m := by omega
                  subst e3
                  simp [va_up, upd, vp_updL]
            all_goals exact fun c => absurd (by decide) c
        | succ v ihv =>
          intro j hj
          have hgt2 : ¬ (12 : Int32) ≤ nI j := i_ge (a := 12) (by decide) (by omega) (by omega)
          have cj : (nI j).toNatClampNeg = j := nI_clamp (by omega)
          have inj : vp_in (nI j) 12 := vp_in_nI (by omega) (by decide)
          obtain ⟨t1, t2⟩ := hU j (by omega)
          have hiv := ihv (j + 1) (by omega)
          have nx : ∀ (i3 z : Int32), z = bz (bsc f (j + 1)) → Ev l X M_Mo_best 0 0 124 [(0, .ref r), (1, .int (nI K)), (2, .int (nI m)), (3, .int i3), (4, .int (nI j))] [.int z] n (moH B r d (nI rl.length) se st fu wr (nI row.length) he (nI (S.take m).length) we ai' al') (ev_mq X Q) := by
            intro i3 z hz
            refine s_Mo_best_124 ?_
            rw [nI_1, hz]
            exact hiv
          refine s_Mo_best_80 mh_0 mh_19 mh_15 mh_18 mh_16 (fun c => absurd c hgt2) (fun c => absurd c hgt2) (fun c => absurd c hgt2) (fun c => absurd c hgt2) (fun c => absurd c hgt2) (fun c => absurd c hgt2) (fun _ => inj) (fun _ c => nx _ _ ?_) (fun _ c e => nx _ _ ?_) (fun _ _ _ => inj) (fun _ c e => ?_) (fun _ c e g => nx _ _ ?_) (fun _ c e g => nx _ _ ?_)
          · rw [cj, t1] at c
            have z : f j = none := by simpa using bI_n0 c
            simp [bsc, z]
          · rw [cj, t1] at c
            have z : (f j).isNone = false := bI_1.mp c
            obtain ⟨w, hw⟩ : ∃ w, f j = some w := by
              cases hfj : f j with
              | none => rw [hfj] at z; cases z
              | some w => exact ⟨w, rfl⟩
            cases hb : bsc f j with
            | none => simp [bsc, hw, hb, bz]
            | some b =>
              rw [hb] at e
              have := bsc_s hb
              exact absurd e (nI_pos (by omega))
          · cases hb : bsc f j with
            | none => rw [hb] at e; exact absurd (by decide) e
            | some b =>
              have := (bsc_s hb).1
              exact vp_in_nI (by omega) (by decide)
          · rw [cj, t1] at c
            have z : (f j).isNone = false := bI_1.mp c
            obtain ⟨w, hw⟩ : ∃ w, f j = some w := by
              cases hfj : f j with
              | none => rw [hfj] at z; cases z
              | some w => exact ⟨w, rfl⟩
            cases hb : bsc f j with
            | none => rw [hb] at e; exact absurd (by decide) e
            | some b =>
              rw [hb] at g
              obtain ⟨b1, b2, -⟩ := bsc_s hb
              have cb : (bz (some b)).toNatClampNeg = b.1 := nI_clamp (by omega)
              obtain ⟨w1, w2⟩ := t2 w hw
              obtain ⟨v1, v2⟩ := (hU b.1 (by omega)).2 b.2 b2
              rw [cj, cb, w1, v1, lc_le, lN_le (by omega) (by omega)] at g
              simp [bsc, hw, hb, show ¬ b.2 < w by omega]
          · rw [cj, t1] at c
            have z : (f j).isNone = false := bI_1.mp c
            obtain ⟨w, hw⟩ : ∃ w, f j = some w := by
              cases hfj : f j with
              | none => rw [hfj] at z; cases z
              | some w => exact ⟨w, rfl⟩
            cases hb : bsc f j with
            | none => rw [hb] at e; exact absurd (by decide) e
            | some b =>
              rw [hb] at g
              obtain ⟨b1, b2, -⟩ := bsc_s hb
              have cb : (bz (some b)).toNatClampNeg = b.1 := nI_clamp (by omega)
              obtain ⟨w1, w2⟩ := t2 w hw
              obtain ⟨v1, v2⟩ := (hU b.1 (by omega)).2 b.2 b2
              rw [cj, cb, w1, v1, lc_le, lN_le (by omega) (by omega)] at g
              simp [bsc, hw, hb, show b.2 < w by omega, bz]
      exact s_Mo_best_70 (fun c => absurd c hgt) (fun _ => inner 12 0 (by omega))
  -- the weights
  have key1 : ∀ (u k : Nat), k + u = 12 → ∀ (ai' : Nat → Nat → Int32) (al' : Nat → Nat → Int64), (∀ k, k ≠ 15 → k ≠ 19 → ai' k = ai k) → (∀ k, k ≠ 16 → k ≠ 18 → al' k = al k) → unR ai' al' (cdO lv row) k → Ev l X M_Mo_best 0 0 2 [(0, .ref r), (1, .int (nI K)), (2, .int (nI k))] [] n (moH B r d (nI rl.length) se st fu wr (nI row.length) he 0 we ai' al') (ev_mq X Q) := by
    intro u
    induction u with
    | zero =>
      intro k hk ai' al' hI hL hU
      have e1 : k = 12 := by omega
      subst e1
      refine s_Mo_best_2 (v36 := 0) mh_0 mh_17 (fun _ => ?_) ?_ ?_ ?_ ?_ ?_
      · refine key2 K 0 (by omega) ai' al' (cdO lv row) hI hL hU (fun j w => ?_) (fun i y hy => by simp at hy)
        rw [List.drop_zero, ← hSd, (srt_perm _).mem_iff, lO_mem]
      all_goals exact fun c => absurd (by decide) c
    | succ u ih =>
      intro k hk ai' al' hI hL hU
      have hgt : ¬ (12 : Int32) ≤ nI k := i_ge (a := 12) (by decide) (by omega) (by omega)
      have ck : (nI k).toNatClampNeg = k := nI_clamp (by omega)
      have ink : vp_in (nI k) 12 := vp_in_nI (by omega) (by decide)
      have e17 : ai' 17 = ai 17 := hI 17 (by decide) (by decide)
      have hih := ih (k + 1) (by omega)
      have nx : ∀ (w : Int64), (∀ v, cdO lv row k = some v → w = lN v ∧ v < 2 ^ 30) → (cdO lv row k = none → w = -1) → Ev l X M_Mo_best 0 0 39 [(0, .ref r), (1, .int (nI K)), (2, .int (nI k))] [.long w, .int (nI k), .ref (r + 18)] n (moH B r d (nI rl.length) se st fu wr (nI row.length) he 0 we ai' al') (ev_mq X Q) := by
        intro w hw1 hw2
        have ew : vp_updL (al' 18) (nI k).toNatClampNeg w (nI k).toNatClampNeg = w := by simp [vp_updL]
        have fin : ∀ bb : Bool, bb = (cdO lv row k).isNone → Ev l X M_Mo_best 0 0 2 [(0, .ref r), (1, .int (nI K)), (2, .int (nI (k + 1)))] [] n (moH B r d (nI rl.length) se st fu wr (nI row.length) he 0 we (va_up ai' 19 (upd (ai' 19) k (bI bb))) (va_up al' 18 (vp_updL (al' 18) k w))) (ev_mq X Q) := by
          intro bb hbb
          refine hih _ _ (fun q a15 a19 => by rw [← hI q a15 a19]; simp [va_up, a19]) (fun q a16 a18 => by rw [← hL q a16 a18]; simp [va_up, a18]) (fun q hq => ?_)
          by_cases z : q = k
          · subst z
            refine ⟨by simp [va_up, upd, hbb], fun v hv => ?_⟩
            obtain ⟨x1, x2⟩ := hw1 v hv
            exact ⟨by simp [va_up, vp_updL, x1], x2⟩
          · obtain ⟨t1, t2⟩ := hU q (by omega)
            refine ⟨by simp [va_up, upd, z, t1], fun v hv => ?_⟩
            obtain ⟨t3, t4⟩ := t2 v hv
            exact ⟨by simp [va_up, vp_updL, z, t3], t4⟩
        refine s_Mo_bestN_39 mh_18 mh_0 mh_19 ink ink (fun _ => ink) (fun z => ?_) (fun _ => ink) (fun z => ?_)
        · rw [ew, lc_ge] at z
          rw [ck, mu_18, mu_19, nI_1]
          refine fin false ?_
          cases hc : cdO lv row k with
          | none => rw [hw2 hc] at z; exact absurd z (by decide)
          | some v => rfl
        · rw [ew, lc_ge] at z
          rw [ck, mu_18, mu_19, nI_1]
          refine fin true ?_
          cases hc : cdO lv row k with
          | none => rfl
          | some v =>
            obtain ⟨x1, x2⟩ := hw1 v hc
            rw [x1] at z
            exact absurd ((lN_le (a := 0) (by decide) (by omega)).mpr (Nat.zero_le _)) z
      have hr' : rwR ai' al' rl := fun q x hx => rA_k (hr q x hx) (by rw [hI 5 (by decide) (by decide)]) (by rw [hI 6 (by decide) (by decide)]) (by rw [hI 7 (by decide) (by decide)]) (by rw [hI 8 (by decide) (by decide)]) (fun _ _ => by rw [hL 9 (by decide) (by decide)])
      have hrow' : ∀ j, j < row.length → al' 11 j = tg row j := fun j hj => by rw [hL 11 (by decide) (by decide)]; exact hrow j hj
      rcases h17 k (by omega) with ⟨q, x, a1, a2, a3, a4, a5⟩ | ⟨a1, a5⟩
      · have hge : 0 ≤ ai' 17 (nI k).toNatClampNeg := by
          rw [ck, e17, a1]
          exact (nI_leI (a := 0) (by decide) (by omega)).mpr (Nat.zero_le _)
        have hx12 := (hs.2.2.2 x (List.mem_of_getElem? a3)).2
        have hW := sumW_lt (lv := lv) (row := row) (ts := x.2.2.2) hl12 hx12 h8
        have ecd : cdO lv row k = if hasT row x.2.2.2 then some (sumW lv row x.2.2.2) else none := by unfold cdO; rw [a5]
        refine s_Mo_best_2 (v36 := smA lv row x.2.2.2 false) mh_0 mh_17 (fun c => absurd c hgt) (fun _ => ink) (fun _ _ => ink) (fun _ _ => ?_) (fun _ _ => nx _ (fun v hv => ?_) (fun hv => ?_)) (fun _ z => absurd hge z)
        · rw [ck, e17, a1]
          exact c_Mo_sum false hr' hs h80 a3 a4 hrow' h8
        · rw [ecd] at hv
          cases hh : hasT row x.2.2.2 with
          | true =>
            rw [hh] at hv
            simp at hv
            subst hv
            refine ⟨by unfold smA; rw [hh]; rfl, by omega⟩
          | false => rw [hh] at hv; simp at hv
        · rw [ecd] at hv
          cases hh : hasT row x.2.2.2 with
          | true => rw [hh] at hv; simp at hv
          | false => unfold smA; rw [hh]; rfl
      · have hlt : ¬ 0 ≤ ai' 17 (nI k).toNatClampNeg := by
          rw [ck, e17, a1]
          decide
        have ecd : cdO lv row k = none := by unfold cdO; rw [a5]
        refine s_Mo_best_2 (v36 := 0) mh_0 mh_17 (fun c => absurd c hgt) (fun _ => ink) (fun _ z => absurd z hlt) (fun _ z => absurd z hlt) (fun _ z => absurd z hlt) (fun _ _ => nx _ (fun v hv => ?_) (fun _ => rfl))
        rw [ecd] at hv
        cases hv
  exact Cal.of (by decide) (Nat.le_of_ble_eq_true rfl) (s_Mo_best_0 (key1 12 0 rfl ai al (fun _ _ _ => rfl) (fun _ _ _ => rfl) (fun q hq => absurd hq (Nat.not_lt_zero _))))
theorem c_Mo_rank_stop {i : Int32} (hs : ¬ st = 0) : Cal l X M_Mo_rank 0 0 [.ref r, .int i] n (moH B r d ro se st fu wr to he re we ai al) (ev_pure (.int (-9)) n (moH B r d ro se st fu wr to he re we ai al)) := by
  refine Cal.of (by decide) (Nat.le_of_ble_eq_true rfl) (s_Mo_rank_0 mh_0 ?_ ?_ ?_ ?_ (fun _ => ⟨rfl, rfl, rfl⟩))
  all_goals exact fun c => absurd c hs
theorem c_Mo_rank_no {i : Int32} (hs : st = 0) (h : i < 1 ∨ 5 < i) : Cal l X M_Mo_rank 0 0 [.ref r, .int i] n (moH B r d ro se st fu wr to he re we ai al) (ev_pure (.int (-1)) n (moH B r d ro se st fu wr to he re we ai al)) := by
  have hx : ∀ {A : Prop}, ¬ i < 1 → i ≤ 5 → A := fun a c => h.elim (fun z => absurd z a) (fun z => absurd c (Int32.not_le.mpr z))
  exact Cal.of (by decide) (Nat.le_of_ble_eq_true rfl) (s_Mo_rank_0 mh_0 (fun _ _ => s_Mo_rank_20 ⟨rfl, rfl, rfl⟩) (fun _ a c => hx a c) (fun _ a c => hx a c) (fun _ _ _ => s_Mo_rank_20 ⟨rfl, rfl, rfl⟩) (fun c => absurd hs c))
/-- is the stack a bag? -/
theorem e_Mo_rank {K h : Nat} {dp : Nat → Nat} {Q : Option Value → Nat → ev_H → Prop} (hs : st = 0) (h1 : 1 ≤ K) (h5 : K ≤ 5) (h8 : h ≤ 8) (hd : ∀ j, j < h → ai 12 j = bI (decide (dp j = 0))) (go : Ev l X M_Mo_rank 0 0 37 [(0, .ref r), (1, .int (nI K)), (2, .int (bI (gdK h dp h))), (3, .int (nI h))] [] n (moH B r d ro se st fu wr to (nI h) re we ai al) (ev_mq X Q)) : Cal l X M_Mo_rank 0 0 [.ref r, .int (nI K)] n (moH B r d ro se st fu wr to (nI h) re we ai al) Q := by
  have key : ∀ (u k : Nat), k + u = h → Ev l X M_Mo_rank 0 0 37 [(0, .ref r), (1, .int (nI K)), (2, .int (bI (gdK h dp k))), (3, .int (nI k))] [] n (moH B r d ro se st fu wr to (nI h) re we ai al) (ev_mq X Q) := by
    intro u
    induction u with
    | zero =>
      intro k hk
      have e1 : k = h := by omega
      subst e1
      exact go
    | succ u ih =>
      intro k hk
      have hgt : ¬ nI h ≤ nI k := i_ge (by omega) (by omega) (by omega)
      have ck : (nI k).toNatClampNeg = k := nI_clamp (by omega)
      have hih := ih (k + 1) (by omega)
      have nx : ∀ (i2 : Int32) (bb : Bool), bb = gdK h dp (k + 1) → Ev l X M_Mo_rank 0 0 63 [(0, .ref r), (1, .int (nI K)), (2, .int i2), (3, .int (nI k))] [.int (bI bb)] n (moH B r d ro se st fu wr to (nI h) re we ai al) (ev_mq X Q) := by
        intro i2 bb hb
        refine s_Mo_rank_63 ?_
        rw [nI_1, hb]
        exact hih
      have eg : gdK h dp (k + 1) = (gdK h dp k && decide (dp k = 0)) := rfl
      refine s_Mo_rank_37 (bc85 := 0) (bs85 := 0) (rc85 := 0) (rs85 := 0) (Q85 := fun _ _ _ => False) mh_0 (by omega) (by omega) mh_12 (fun c => absurd c hgt) (fun c => absurd c hgt) (fun c => absurd c hgt) (fun c => absurd c hgt) (fun _ a => nx _ false (by rw [eg, bI_1.mp a]; rfl)) (fun _ _ => vp_in_nI (by omega) (by decide)) (fun _ a c => nx _ false ?_) (fun _ a c => nx _ true ?_)
      · rw [ck, hd k (by omega)] at c
        rw [eg, bI_1.mp c, Bool.and_false]
      · rw [ck, hd k (by omega)] at c
        rw [eg, bI_n0 a, bI_n0 c]
        rfl
  have a1 : ¬ nI K < 1 := fun z => by
    have := (nI_ltI (b := 1) (by omega) (by decide)).mp z
    omega
  have a5 : nI K ≤ 5 := (nI_leI (b := 5) (by omega) (by decide)).mpr h5
  have h0 := key h 0 (by omega)
  refine Cal.of (by decide) (Nat.le_of_ble_eq_true rfl) (s_Mo_rank_0 mh_0 (fun _ a => absurd a a1) (fun _ _ _ a => ?_) (fun _ _ _ a => ?_) (fun _ _ a => absurd a5 a) (fun c => absurd hs c))
  · have z : gdK h dp 0 = false := by
      have := (nI_leI (b := 0) (by omega) (by decide)).mp a
      unfold gdK
      rw [decide_eq_false]
      omega
    rw [z] at h0
    exact h0
  · have z : gdK h dp 0 = true := by
      unfold gdK
      rw [decide_eq_true]
      exact Nat.pos_of_ne_zero fun e => a (by rw [e]; decide)
    rw [z] at h0
    exact h0
theorem c_Mo_rank_bad {K h : Nat} {dp : Nat → Nat} (hs : st = 0) (h1 : 1 ≤ K) (h5 : K ≤ 5) (h8 : h ≤ 8) (hd : ∀ j, j < h → ai 12 j = bI (decide (dp j = 0))) (hg : gdK h dp h = false) : Cal l X M_Mo_rank 0 0 [.ref r, .int (nI K)] n (moH B r d ro se st fu wr to (nI h) re we ai al) (ev_pure (.int (-3)) n (moH B r d ro se st fu wr 0 0 0 0 ai al)) := by
  refine e_Mo_rank hs h1 h5 h8 hd ?_
  have hle : nI h ≤ nI h := (nI_leI (by omega) (by omega)).mpr (Nat.le_refl _)
  have e0 : bI (gdK h dp h) = 0 := bI_1.mpr hg
  refine s_Mo_rank_37 (bc85 := 0) (bs85 := 0) (rc85 := 0) (rs85 := 0) (Q85 := fun _ _ _ => False) mh_0 (by omega) (by omega) mh_12 (fun _ _ _ => ?_) (fun _ a c => absurd a c) (fun _ a => absurd e0 a) (fun _ a => absurd e0 a) (fun c => absurd hle c) (fun c => absurd hle c) (fun c => absurd hle c) (fun c => absurd hle c)
  rw [mu_o, mu_o, mu_o, mu_o]
  exact ⟨rfl, rfl, rfl⟩
def rkQ (n : Nat) (B : ev_H) (r : Nat) (d ro se st fu wr : Int32) (ai : Nat → Nat → Int32) (al : Nat → Nat → Int64) (rs : List (Nat × Nat)) (c : Nat) : Option Value → Nat → ev_H → Prop := fun v n' F' => v = some (.int (nI rs.length)) ∧ n' = n ∧ ∃ ai' al', F' = (moH B r d ro se st fu wr 0 0 (nI rs.length) (nI c) ai' al') ∧ (∀ k, k ≠ 15 → k ≠ 17 → k ≠ 19 → ai' k = ai k) ∧ (∀ k, k ≠ 16 → k ≠ 18 → al' k = al k) ∧ rsA ai' al' rs
theorem c_Mo_rank_ok {sg : List Seg} {lv : List Doc} {rl : List PRow} {row : List Int64} {K : Nat} {dp : Nat → Nat} (hr : rwR ai al rl) (hsh : shR sg lv rl) (h80 : rl.length ≤ 80) (hrow : ∀ j, j < row.length → al 11 j = tg row j) (h8 : row.length ≤ 8) (hs : st = 0) (h1 : 1 ≤ K) (h5 : K ≤ 5) (hd : ∀ j, j < row.length → ai 12 j = bI (decide (dp j = 0))) (hg : gdK row.length dp row.length = true) : Cal l X M_Mo_rank 0 0 [.ref r, .int (nI K)] n (moH B r d (nI rl.length) se st fu wr (nI row.length) (nI row.length) re we ai al) (rkQ n B r d (nI rl.length) se st fu wr ai al (rkR lv row K) (wlF K (candO lv row lv)).length) := by
  refine e_Mo_rank hs h1 h5 h8 hd ?_
  have hle : nI row.length ≤ nI row.length := (nI_leI (by omega) (by omega)).mpr (Nat.le_refl _)
  have e1 : ¬ bI (gdK row.length dp row.length) = 0 := bI_ne hg
  have hlk : Cal l X M_Mo_lookUp 0 0 [.ref r] n (moH B r d (nI rl.length) se st fu wr (nI row.length) (nI row.length) 0 0 ai al) (ev_void n (moH B r d (nI rl.length) se st fu wr (nI row.length) (nI row.length) 0 0 (va_up ai 17 (lkT ai rl)) al)) := c_Mo_lookUp (ids := fun q => (rl.getD q (0, 0, true, [])).1) h80 (fun q hq => ⟨(rw_at hr hq).1, (rw_at hr hq).2.2.2.2.2.1⟩)
  have h17 : ∀ id, id < 12 → (∃ q x, lkT ai rl id = nI q ∧ q < rl.length ∧ rl[q]? = some x ∧ x.2.2.1 = false ∧ lvF lv id = some (id, x.2.2.2)) ∨ (lkT ai rl id = -1 ∧ lvF lv id = none) := fun id hid => by
    have e : lkT ai rl id = (match lkN rl id rl.length with | some q => nI q | none => lkZ (ai 17) 12 id) := lkR_N (fun q hq => ⟨rfl, (rw_at hr hq).2.2.1⟩)
    rcases lkN_ok hsh id with ⟨q, x, a1, a2, a3, a4, a5⟩ | ⟨a1, a2⟩
    · left
      rw [a1] at e
      exact ⟨q, x, e, (List.getElem?_eq_some_iff.mp a2).1, a2, a3, a5⟩
    · right
      rw [a1] at e
      refine ⟨?_, a2⟩
      rw [e]
      simp [lkZ, hid]
  refine s_Mo_rank_37 (bc85 := 0) (bs85 := 0) (rc85 := 0) (rs85 := 0) mh_0 (by omega) (by omega) mh_12 (fun _ a => absurd a e1) (fun _ a => absurd a e1) (fun _ _ => by rw [mu_o, mu_o]; exact hlk) (fun _ _ => ?_) (fun c => absurd hle c) (fun c => absurd hle c) (fun c => absurd hle c) (fun c => absurd hle c)
  rintro _ nn _ ⟨rfl, rfl, rfl⟩
  have hr1 : rwR (va_up ai 17 (lkT ai rl)) al rl := fun q x hx => rA_k (hr q x hx) (by simp [va_up]) (by simp [va_up]) (by simp [va_up]) (by simp [va_up]) (fun _ _ => rfl)
  refine s_Mo_rank_88 (bc90 := 0) (bs90 := 0) (rc90 := 0) (rs90 := 0) mh_0 (by omega) (by omega) (c_Mo_weighAll hr1 hsh h80 hrow h8 (by simpa [va_up] using h17) h1 (by omega)) ?_
  rintro _ nn _ ⟨rfl, rfl, ai1, al1, rfl, hI1, hL1⟩
  have hr2 : rwR ai1 al1 rl := fun q x hx => rA_k (hr1 q x hx) (by rw [hI1 5 (by decide)]) (by rw [hI1 6 (by decide)]) (by rw [hI1 7 (by decide)]) (by rw [hI1 8 (by decide)]) (fun _ _ => by rw [hL1 9 (by decide)])
  refine s_Mo_rank_93 (bc95 := 0) (bs95 := 0) (rc95 := 0) (rs95 := 0) mh_0 (by omega) (by omega) (c_Mo_best hr2 hsh h80 (fun j hj => by rw [hL1 11 (by decide)]; exact hrow j hj) h8 (by rw [hI1 17 (by decide)]; simpa [va_up] using h17) (show K ≤ 12 by omega)) ?_
  rintro _ nn _ ⟨rfl, rfl, ai2, al2, rfl, hI2, hL2, hR2⟩
  refine s_Mo_rank_98 mh_0 (fun a => absurd a e1) (fun _ => ?_)
  rw [mu_o, mu_o]
  refine ⟨rfl, rfl, ai2, al2, rfl, fun k a15 a17 a19 => ?_, fun k a16 a18 => ?_, hR2⟩
  · rw [hI2 k a15 a19, hI1 k a19]
    simp [va_up, a17]
  · rw [hL2 k a16 a18, hL1 k a18]
end MoT
