/-! the reference: merge and commit -/
theorem rw_at {ai : Nat → Nat → Int32} {al : Nat → Nat → Int64} {rl : List PRow} (h : rwR ai al rl) {q : Nat} (hq : q < rl.length) : rA ai al q (rl.getD q (0, 0, true, [])) := h q _ (by
  rw [List.getD_eq_getElem?_getD, List.getElem?_eq_getElem hq]
  rfl)
theorem bI_eq0 (b : Bool) : (bI b == 0) = !b := by cases b <;> rfl
theorem rw_live {ai : Nat → Nat → Int32} {al : Nat → Nat → Int64} {rl : List PRow} (h : rwR ai al rl) : cn (fun q => ai 7 q == 0) rl.length = (liv rl).length := by
  have h1 := liv_cnt (fun _ => true) rl
  rw [List.countP_true] at h1
  rw [h1, ← cn_l _ (0, 0, true, []) rl]
  apply cn_congr
  intro q hq
  rw [(rw_at h hq).2.2.1, bI_eq0]
  simp
section MoM
variable {l : Launch} {X : ev_X} {n : Nat} {B : ev_H} {r : Nat} {d ro se st fu wr to he re we : Int32} {ai : Nat → Nat → Int32} {al : Nat → Nat → Int64}
def mgQ (n : Nat) (B : ev_H) (r : Nat) (d : Int32) (re we to he : Int32) (ai : Nat → Nat → Int32) (al : Nat → Nat → Int64) (rl : List PRow) (i S less f w K : Nat) : Option Value → Nat → ev_H → Prop := fun v n' F' =>
  n' = n ∧ (¬ (0 < f ∧ f ≤ K) → v = some (.int (nI (S - less))) ∧ ∃ ai' al', F' = (moH B r d (nI (jfR i less rl).length) (nI (S - less)) 0 (nI (f - K)) (nI (w + K)) to he re we ai' al') ∧ fI ai ai' ∧ fL al al' ∧ rwR ai' al' (jfR i less rl)) ∧
  ((0 < f ∧ f ≤ K) → f = K → v = some (.int (-9)) ∧ ∃ ai' al', F' = (moH B r 0 (nI (jfR i less rl).length) (nI (S - less)) 1 0 (nI (w + f)) 0 0 re we (va_up ai' 2 (zf (ai' 2) 12)) al') ∧ fI ai ai' ∧ fL al al' ∧ rwR ai' al' (jfR i less rl)) ∧
  ((0 < f ∧ f ≤ K) → ¬ f = K → v = some (.int (-9)) ∧ F' = (moH B r 0 (nI rl.length) (nI S) 1 0 (nI (w + f)) 0 0 re we (va_up ai 2 (zf (ai 2) 12)) al))
theorem c_Mo_merge_stop {i : Int32} (hs : ¬ st = 0) : Cal l X M_Mo_merge 0 0 [.ref r, .int i] n (moH B r d ro se st fu wr to he re we ai al) (ev_pure (.int (-9)) n (moH B r d ro se st fu wr to he re we ai al)) := by
  refine Cal.of (by decide) (Nat.le_of_ble_eq_true rfl) (s_Mo_merge_0 mh_0 ?_ ?_ ?_ (fun _ => ⟨rfl, rfl, rfl⟩))
  all_goals exact fun c => absurd c hs
theorem c_Mo_merge_no {i : Int32} (hs : st = 0) (h : i < 0 ∨ ¬ i < se - 1) : Cal l X M_Mo_merge 0 0 [.ref r, .int i] n (moH B r d ro se st fu wr to he re we ai al) (ev_pure (.int (-1)) n (moH B r d ro se st fu wr to he re we ai al)) := by
  have hx : ∀ {A : Prop}, ¬ i < 0 → i < se - 1 → A := fun a c => h.elim (fun z => absurd z a) (fun z => absurd c z)
  exact Cal.of (by decide) (Nat.le_of_ble_eq_true rfl) (s_Mo_merge_0 mh_0 (fun _ _ => ⟨rfl, rfl, rfl⟩) (fun _ a c => hx a c) (fun _ _ _ => ⟨rfl, rfl, rfl⟩) (fun c => absurd hs c))
theorem c_Mo_merge_ok {rl : List PRow} {i S less f w : Nat} (hr : rwR ai al rl) (h80 : rl.length ≤ 80) (hi : i + 1 < S) (hS : S < 8) (hless : less = if rl.countP (here i) = 0 then 2 else 1) (hf : f ≤ 100) (hw : w < 2 ^ 30) : Cal l X M_Mo_merge 0 0 [.ref r, .int (nI i)] n (moH B r d (nI rl.length) (nI S) 0 (nI f) (nI w) to he re we ai al) (mgQ n B r d re we to he ai al rl i S less f w (rl.countP (here i) + 1)) := by
  have hc : rl.countP (here i) ≤ 80 := Nat.le_trans List.countP_le_length h80
  have hl2 : less ≤ 2 ∧ 1 ≤ less := by rw [hless]; split <;> omega
  have e1i : nI i + 1 = nI (i + 1) := nI_1 i
  generalize hQ : mgQ n B r d re we to he ai al rl i S less f w (rl.countP (here i) + 1) = Q
  have fin : ∀ (i3 : Int32) (bb : Bool), bb = decide (¬ (0 < f ∧ f ≤ rl.countP (here i) + 1)) → Ev l X M_Mo_merge 0 0 115 [(0, .ref r), (1, .int (nI i)), (2, .int (nI (rl.countP (here i) + 1))), (3, .int i3)] [.int (bI bb)] n (moH B r d (nI rl.length) (nI S) 0 (nI f) (nI w) to he re we ai al) (ev_mq X Q) := by
    intro i3 bb hbb
    generalize hK : rl.countP (here i) + 1 = K at *
    refine s_Mo_merge_115 (bc118 := 0) (bs118 := 0) (rc118 := 0) (rs118 := 0) mh_0 (by omega) (by omega) (c_Mo_write hf hw (by omega)) ?_
    rintro _ _ _ ⟨rfl, rfl, rfl⟩
    by_cases c : 0 < f ∧ f ≤ K
    · rw [if_pos c, if_pos c]
      have hb0 : bI bb = 0 := by rw [hbb, decide_eq_false (fun z => z c)]; rfl
      by_cases e : f = K
      · refine s_Mo_merge_121 (bc135 := 0) (bs135 := 0) (rc135 := 0) (rs135 := 0) (Q135 := fun _ _ _ => False) (bc127 := 0) (bs127 := 0) (rc127 := 0) (rs127 := 0) mh_0 (by omega) (by omega) (by omega) (by omega) (fun z => absurd (by rw [e]) z) (fun z => absurd (by rw [e]) z) (fun z => absurd (by rw [e]) z) (fun _ => c_Mo_join2 hr h80 (by omega) ⟨by omega, hS⟩ hless) (fun _ => ?_)
        rintro _ _ _ ⟨rfl, rfl, ai', al', rfl, hI, hL, hR⟩
        refine s_Mo_merge_130 (bc135 := 0) (bs135 := 0) (rc135 := 0) (rs135 := 0) mh_0 (by omega) (by omega) (fun z => absurd hb0 z) (fun _ => c_Mo_stop) (fun _ => ?_)
        rintro _ _ _ ⟨rfl, rfl, rfl⟩
        refine s_Mo_merge_138 ?_
        rw [← hQ]
        exact ⟨rfl, fun z => absurd c z, fun _ _ => ⟨rfl, ai', al', rfl, hI, hL, hR⟩, fun _ z => absurd e z⟩
      · have hne : ¬ nI f = nI K := fun z => e ((nI_eq (by omega) (by omega)).mp z)
        refine s_Mo_merge_121 (bc135 := 0) (bs135 := 0) (rc135 := 0) (rs135 := 0) (bc127 := 0) (bs127 := 0) (rc127 := 0) (rs127 := 0) (Q127 := fun _ _ _ => False) mh_0 (by omega) (by omega) (by omega) (by omega) (fun _ z => absurd hb0 z) (fun _ _ => c_Mo_stop) (fun _ _ => ?_) (fun z => absurd z hne) (fun z => absurd z hne)
        rintro _ _ _ ⟨rfl, rfl, rfl⟩
        refine s_Mo_merge_138 ?_
        rw [← hQ]
        exact ⟨rfl, fun z => absurd c z, fun _ z => absurd z e, fun _ _ => ⟨rfl, rfl⟩⟩
    · rw [if_neg c, if_neg c]
      have hb1 : ¬ bI bb = 0 := by rw [hbb, decide_eq_true c]; decide
      refine s_Mo_merge_121 (bc135 := 0) (bs135 := 0) (rc135 := 0) (rs135 := 0) (Q135 := fun _ _ _ => False) (bc127 := 0) (bs127 := 0) (rc127 := 0) (rs127 := 0) mh_0 (by omega) (by omega) (by omega) (by omega) (fun z => absurd rfl z) (fun z => absurd rfl z) (fun z => absurd rfl z) (fun _ => c_Mo_join2 hr h80 (by omega) ⟨by omega, hS⟩ hless) (fun _ => ?_)
      rintro _ _ _ ⟨rfl, rfl, ai', al', rfl, hI, hL, hR⟩
      refine s_Mo_merge_130 (bc135 := 0) (bs135 := 0) (rc135 := 0) (rs135 := 0) (Q135 := fun _ _ _ => False) mh_0 (by omega) (by omega) (fun _ => ?_) (fun z => absurd z hb1) (fun z => absurd z hb1)
      rw [← hQ]
      exact ⟨rfl, fun _ => ⟨rfl, ai', al', rfl, hI, hL, hR⟩, fun z => absurd z c, fun z => absurd z c⟩
  have key : ∀ (t a : List PRow), rl = a ++ t → Ev l X M_Mo_merge 0 0 30 [(0, .ref r), (1, .int (nI i)), (2, .int (nI (a.countP (here i) + 1))), (3, .int (nI a.length))] [] n (moH B r d (nI rl.length) (nI S) 0 (nI f) (nI w) to he re we ai al) (ev_mq X Q) := by
    intro t
    induction t with
    | nil =>
      intro a hl
      rw [List.append_nil] at hl
      subst hl
      have hle : nI rl.length ≤ nI rl.length := (nI_leI (by omega) (by omega)).mpr (Nat.le_refl _)
      have f0 : nI f = 0 ↔ f = 0 := nI_eq (b := 0) (by omega) (by decide)
      have fk : nI f ≤ nI (rl.countP (here i) + 1) ↔ f ≤ rl.countP (here i) + 1 := nI_leI (by omega) (by omega)
      refine s_Mo_merge_30 mh_0 mh_6 (fun _ a => ?_) (fun _ a c => ?_) (fun _ a c => ?_) ?_ ?_ ?_ ?_ ?_
      · rw [f0] at a
        exact fin _ true (by rw [decide_eq_true]; omega)
      · rw [f0] at a
        rw [fk] at c
        exact fin _ false (by rw [decide_eq_false]; omega)
      · rw [fk] at c
        exact fin _ true (by rw [decide_eq_true]; omega)
      all_goals exact fun c => absurd hle c
    | cons x t ih =>
      intro a hl
      have hll : rl.length = a.length + (t.length + 1) := by rw [hl]; simp
      have hgt : ¬ nI rl.length ≤ nI a.length := i_ge (by omega) (by omega) (by omega)
      have ca : (nI a.length).toNatClampNeg = a.length := nI_clamp (by omega)
      have ina : vp_in (nI a.length) 80 := vp_in_nI (by omega) (by decide)
      obtain ⟨b1, b2, b3, b4, b5, b6, b7, b8⟩ := hr a.length x (by rw [hl]; exact get_mid a x t)
      have ecn : (a ++ [x]).countP (here i) = a.countP (here i) + (if here i x then 1 else 0) := by
        rw [List.countP_append]
        simp [List.countP_cons]
      have hih := ih (a ++ [x]) (by rw [hl]; simp)
      rw [ecn, show (a ++ [x]).length = a.length + 1 by simp] at hih
      have in65 : ∀ is0 : Nat, is0 ≤ 1 → (is0 = 1 ↔ (x.2.1 = i ∨ x.2.1 = i + 1)) → Ev l X M_Mo_merge 0 0 65 [(0, .ref r), (1, .int (nI i)), (2, .int (nI (a.countP (here i) + 1))), (3, .int (nI a.length))] [.int (nI is0)] n (moH B r d (nI rl.length) (nI S) 0 (nI f) (nI w) to he re we ai al) (ev_mq X Q) := by
        intro is0 h1 his
        have z0 : nI is0 = 0 ↔ is0 = 0 := nI_eq (b := 0) (by omega) (by decide)
        have no : here i x = false → Ev l X M_Mo_merge 0 0 88 [(0, .ref r), (1, .int (nI i)), (2, .int (nI (a.countP (here i) + 1))), (3, .int (nI a.length)), (4, .int (nI is0))] [.int (nI (a.countP (here i) + 1))] n (moH B r d (nI rl.length) (nI S) 0 (nI f) (nI w) to he re we ai al) (ev_mq X Q) := fun hh => by
          refine s_Mo_merge_88 ?_
          rw [nI_1]
          rw [hh] at hih
          simpa using hih
        refine s_Mo_merge_65 mh_0 mh_7 (fun z => ?_) (fun _ => ina) (fun z c => ?_) (fun z c => ?_)
        · have hn : ¬ (x.2.1 = i ∨ x.2.1 = i + 1) := fun q => by
            have := his.mpr q
            have := z0.mp z
            omega
          exact no (by simp only [here, hn, decide_false, Bool.false_and])
        · rw [ca, b3] at c
          exact no (by simp [here, bI_n0 c])
        · have hp : x.2.1 = i ∨ x.2.1 = i + 1 := his.mp (by rw [z0] at z; omega)
          rw [ca, b3] at c
          have hh : here i x = true := by simp only [here, hp, decide_true, bI_1.mp c, Bool.not_false, Bool.and_self]
          refine s_Mo_merge_88 ?_
          rw [nI_1, nI_1]
          rw [hh] at hih
          rw [if_pos rfl] at hih
          exact hih
      have ei : ai 6 a.length = nI i ↔ x.2.1 = i := by rw [b2]; exact nI_eq (by omega) (by omega)
      have ei1 : ai 6 a.length = nI i + 1 ↔ x.2.1 = i + 1 := by rw [b2, e1i]; exact nI_eq (by omega) (by omega)
      refine s_Mo_merge_30 mh_0 mh_6 (fun c => absurd c hgt) (fun c => absurd c hgt) (fun c => absurd c hgt) (fun _ => ina) (fun _ c => ?_) (fun _ _ => ina) (fun _ c e => ?_) (fun _ c e => ?_)
      · rw [ca, ei] at c
        exact in65 1 (Nat.le_refl _) ⟨fun _ => Or.inl c, fun _ => rfl⟩
      · rw [ca, ei] at c
        rw [ca, ei1] at e
        exact in65 0 (by omega) ⟨fun q => by omega, fun q => by omega⟩
      · rw [ca, ei1] at e
        exact in65 1 (Nat.le_refl _) ⟨fun _ => Or.inr e, fun _ => rfl⟩
  have lt1 : nI i < nI S - 1 := by
    have : nI S - 1 = nI (S - 1) := pk_sub (a := S) (b := 1) (by omega)
    rw [this]
    exact (nI_ltI (by omega) (by omega)).mpr (by omega)
  refine Cal.of (by decide) (Nat.le_of_ble_eq_true rfl) (s_Mo_merge_0 mh_0 (fun _ a => absurd a (nI_pos (by omega))) (fun _ _ _ => ?_) (fun _ _ a => absurd lt1 a) (fun a => absurd rfl a))
  exact key rl [] rfl
theorem c_Mo_commit_stop (hs : ¬ st = 0) : Cal l X M_Mo_commit 0 0 [.ref r] n (moH B r d ro se st fu wr to he re we ai al) (ev_pure (.int (-9)) n (moH B r d ro se st fu wr to he re we ai al)) := by
  refine Cal.of (by decide) (Nat.le_of_ble_eq_true rfl) (s_Mo_commit_0 (v11 := 0) (v22 := 0) mh_0 ?_ ?_ ?_ ?_ ?_ ?_ (fun _ => ⟨rfl, rfl, rfl⟩))
  all_goals exact fun c => absurd c hs
theorem c_Mo_commit_none (hs : st = 0) (h : cn (fun i => ai 2 i == 0) 12 = 12) : Cal l X M_Mo_commit 0 0 [.ref r] n (moH B r d ro se st fu wr to he re we ai al) (ev_pure (.int (-1)) n (moH B r d ro se st fu wr to he re we ai al)) := by
  have e : nI (cn (fun i => ai 2 i == 0) 12) = 12 := by rw [h]; rfl
  exact Cal.of (by decide) (Nat.le_of_ble_eq_true rfl) (s_Mo_commit_0 (v22 := 0) mh_0 (fun _ => c_Mo_idle) (fun _ a => absurd e a) (fun _ a => absurd e a) (fun _ a => absurd e a) (fun _ a => absurd e a) (fun _ _ => ⟨rfl, rfl, rfl⟩) (fun c => absurd hs c))
theorem c_Mo_commit_full (hs : st = 0) (h : ¬ cn (fun i => ai 2 i == 0) 12 = 12) (hd : 0 < cn (fun i => ai 2 i == 1) 12) : Cal l X M_Mo_commit 0 0 [.ref r] n (moH B r d ro 6 st fu wr to he re we ai al) (ev_pure (.int (-2)) n (moH B r d ro 6 st fu wr to he re we ai al)) := by
  have e : ¬ nI (cn (fun i => ai 2 i == 0) 12) = 12 := fun z => h ((nI_eq (b := 12) (by have := cn_le (fun i => ai 2 i == 0) 12; omega) (by decide)).mp z)
  have e2 : ¬ nI (cn (fun i => ai 2 i == 1) 12) ≤ 0 := fun z => by
    have := (nI_leI (b := 0) (by have := cn_le (fun i => ai 2 i == 1) 12; omega) (by decide)).mp z
    omega
  exact Cal.of (by decide) (Nat.le_of_ble_eq_true rfl) (s_Mo_commit_0 mh_0 (fun _ => c_Mo_idle) (fun _ _ => c_Mo_documents) (fun _ _ a => absurd a e2) (fun _ _ _ a => absurd rfl a) (fun _ _ _ _ => ⟨rfl, rfl, rfl⟩) (fun _ a => absurd a e) (fun c => absurd hs c))
/-- the rows behind a commit -/
def cmR (rl : List PRow) (pn : Nat → Nat) (pt : Nat → List Int64) (s : Nat) : List PRow := rl.map (mkB (fun i => pn i != 0)) ++ nwR pn pt s 12
def cmN (pn : Nat → Nat) (pt : Nat → List Int64) (s : Nat) : Nat := if nwR pn pt s 12 = [] then s else s + 1
abbrev fI2 (ai ai' : Nat → Nat → Int32) : Prop := ∀ k, k ≠ 2 → k ≠ 5 → k ≠ 6 → k ≠ 7 → k ≠ 8 → ai' k = ai k
def coQ (n : Nat) (B : ev_H) (r : Nat) (d : Int32) (re we to he : Int32) (ai : Nat → Nat → Int32) (al : Nat → Nat → Int64) (rl : List PRow) (pn : Nat → Nat) (pt : Nat → List Int64) (s f w K : Nat) : Option Value → Nat → ev_H → Prop := fun v n' F' =>
  n' = n ∧ (¬ (0 < f ∧ f ≤ K) → v = some (.int (nI (liv (cmR rl pn pt s)).length)) ∧ ∃ ai' al', F' = (moH B r d (nI (cmR rl pn pt s).length) (nI (cmN pn pt s)) 0 (nI (f - K)) (nI (w + K)) to he re we ai' al') ∧ fI2 ai ai' ∧ fL al al' ∧ rwR ai' al' (cmR rl pn pt s) ∧ ∀ i, i < 12 → ai' 2 i = 0) ∧
  ((0 < f ∧ f ≤ K) → f = K → v = some (.int (-9)) ∧ ∃ ai' al', F' = (moH B r 0 (nI (cmR rl pn pt s).length) (nI (cmN pn pt s)) 1 0 (nI (w + f)) 0 0 re we ai' al') ∧ fI2 ai ai' ∧ fL al al' ∧ rwR ai' al' (cmR rl pn pt s) ∧ ∀ i, i < 12 → ai' 2 i = 0) ∧
  ((0 < f ∧ f ≤ K) → ¬ f = K → v = some (.int (-9)) ∧ F' = (moH B r 0 (nI rl.length) (nI s) 1 0 (nI (w + f)) 0 0 re we (va_up ai 2 (zf (ai 2) 12)) al))
theorem zf_at (f : Nat → Int32) {i : Nat} (h : i < 12) : zf f 12 i = 0 := by
  unfold zf
  rw [if_pos h]
theorem c_Mo_commit_ok {rl : List PRow} {s f w : Nat} {pn : Nat → Nat} {pt : Nat → List Int64} (hr : rwR ai al rl) (hp : pdA ai al pn pt) (h72 : rl.length ≤ 72) (hs : s < 7) (hn : ¬ cn (fun i => ai 2 i == 0) 12 = 12) (h6 : 0 < cn (fun i => pn i == 1) 12 → s < 6 ∧ rl.length ≤ 60) (hf : f ≤ 100) (hw : w < 2 ^ 30) : Cal l X M_Mo_commit 0 0 [.ref r] n (moH B r d (nI rl.length) (nI s) 0 (nI f) (nI w) to he re we ai al) (coQ n B r d re we to he ai al rl pn pt s f w (cn (fun i => pn i == 1) 12 + (if rl.any (fun x => !x.2.2.1 && pn x.1 != 0) then 2 else 1))) := by
  have ed : cn (fun i => ai 2 i == 1) 12 = cn (fun i => pn i == 1) 12 := cn_congr fun i hi => by
    obtain ⟨p1, p2, -⟩ := hp i hi
    rw [p1, Bool.eq_iff_iff, beq_iff_eq, beq_iff_eq]
    exact nI_eq (b := 1) (by omega) (by decide)
  have hd12 := cn_le (fun i => pn i == 1) 12
  have h66 : ∀ i, i < 12 → pn i = 1 → rl.length ≤ 66 := fun i hi h => by
    have : 0 < cn (fun i => pn i == 1) 12 := cn_pos.mpr ⟨i, hi, by simp [h]⟩
    have := h6 this
    omega
  generalize hQ : coQ n B r d re we to he ai al rl pn pt s f w (cn (fun i => pn i == 1) 12 + (if rl.any (fun x => !x.2.2.1 && pn x.1 != 0) then 2 else 1)) = Q
  generalize hDc : cn (fun i => pn i == 1) 12 = D at *
  have hlen : (cmR rl pn pt s).length ≤ 84 := by
    unfold cmR
    have := nwR_len pn pt s 12
    rw [List.length_append, List.length_map]
    omega
  have hlen80 : (cmR rl pn pt s).length ≤ 80 := by
    unfold cmR
    rw [List.length_append, List.length_map]
    by_cases z : 0 < D
    · have := h6 z
      have := nwR_len pn pt s 12
      omega
    · have : (nwR pn pt s 12).length = 0 := by
        unfold nwR
        rw [List.length_map, ← cn_range, hDc]
        omega
      omega
  have fin : ∀ (K : Nat) (i1 i2 : Int32) (bb : Bool), K = D + (if rl.any (fun x => !x.2.2.1 && pn x.1 != 0) then 2 else 1) → bb = decide (¬ (0 < f ∧ f ≤ K)) → Ev l X M_Mo_commit 0 0 125 [(0, .ref r), (1, .int i1), (2, .int i2), (3, .int (nI K))] [.int (bI bb)] n (moH B r d (nI rl.length) (nI s) 0 (nI f) (nI w) to he re we ai al) (ev_mq X Q) := by
    intro K i1 i2 bb hK hbb
    have hK2 : K ≤ 14 := by rw [hK]; split <;> omega
    rw [← hK] at hQ
    refine s_Mo_commit_125 (bc129 := 0) (bs129 := 0) (rc129 := 0) (rs129 := 0) mh_0 (by omega) (by omega) (c_Mo_write hf hw (by omega)) ?_
    rintro _ _ _ ⟨rfl, rfl, rfl⟩
    by_cases c : 0 < f ∧ f ≤ K
    · rw [if_pos c, if_pos c]
      have hb0 : bI bb = 0 := by rw [hbb, decide_eq_false (fun z => z c)]; rfl
      by_cases e : f = K
      · refine s_Mo_commit_132 (v153 := 0) (bc146 := 0) (bs146 := 0) (rc146 := 0) (rs146 := 0) (Q146 := fun _ _ _ => False) (bc137 := 0) (bs137 := 0) (rc137 := 0) (rs137 := 0) mh_0 (by omega) (by omega) (by omega) (by omega) (fun z => absurd (by rw [e]) z) (fun z => absurd (by rw [e]) z) (fun z => absurd (by rw [e]) z) (fun z => absurd (by rw [e]) z) (fun _ => c_Mo_happen hr hp (by omega) h66 (by omega)) (fun _ => ?_)
        rintro _ _ _ ⟨rfl, rfl, ai', al', rfl, hI, hL, hR, hz⟩
        refine s_Mo_commit_140 (v153 := 0) (bc146 := 0) (bs146 := 0) (rc146 := 0) (rs146 := 0) mh_0 (by omega) (by omega) (fun z => absurd hb0 z) (fun z => absurd hb0 z) (fun _ => c_Mo_stop) (fun _ => ?_)
        rintro _ _ _ ⟨rfl, rfl, rfl⟩
        refine s_Mo_commit_149 ?_
        rw [← hQ]
        refine ⟨rfl, fun z => absurd c z, fun _ _ => ⟨rfl, _, al', rfl, fun k h2 h5 h6 h7 h8 => ?_, hL, fun q x hx => ?_, fun i hi => ?_⟩, fun _ z => absurd e z⟩
        · rw [← hI k h2 h5 h6 h7 h8]
          simp [va_up, h2]
        · exact rA_k (hR q x hx) (by simp [va_up]) (by simp [va_up]) (by simp [va_up]) (by simp [va_up]) (fun _ _ => rfl)
        · simp only [va_up, if_true]
          exact zf_at _ hi
      · have hne : ¬ nI f = nI K := fun z => e ((nI_eq (by omega) (by omega)).mp z)
        refine s_Mo_commit_132 (v153 := 0) (bc146 := 0) (bs146 := 0) (rc146 := 0) (rs146 := 0) (bc137 := 0) (bs137 := 0) (rc137 := 0) (rs137 := 0) (Q137 := fun _ _ _ => False) mh_0 (by omega) (by omega) (by omega) (by omega) (fun _ z => absurd hb0 z) (fun _ z => absurd hb0 z) (fun _ _ => c_Mo_stop) (fun _ _ => ?_) (fun z => absurd z hne) (fun z => absurd z hne)
        rintro _ _ _ ⟨rfl, rfl, rfl⟩
        refine s_Mo_commit_149 ?_
        rw [← hQ]
        exact ⟨rfl, fun z => absurd c z, fun _ z => absurd z e, fun _ _ => ⟨rfl, rfl⟩⟩
    · rw [if_neg c, if_neg c]
      have hb1 : ¬ bI bb = 0 := by rw [hbb, decide_eq_true c]; decide
      refine s_Mo_commit_132 (v153 := 0) (bc146 := 0) (bs146 := 0) (rc146 := 0) (rs146 := 0) (Q146 := fun _ _ _ => False) (bc137 := 0) (bs137 := 0) (rc137 := 0) (rs137 := 0) mh_0 (by omega) (by omega) (by omega) (by omega) (fun z => absurd rfl z) (fun z => absurd rfl z) (fun z => absurd rfl z) (fun z => absurd rfl z) (fun _ => c_Mo_happen hr hp (by omega) h66 (by omega)) (fun _ => ?_)
      rintro _ nn _ ⟨rfl, rfl, ai', al', rfl, hI, hL, hR, hz⟩
      have hlv := c_Mo_live (l := l) (X := X) (n := nn) (B := B) (r := r) (d := d) (se := nI (if nwR pn pt s 12 = [] then s else s + 1)) (st := 0) (fu := nI (f - K)) (wr := nI (w + K)) (to := to) (he := he) (re := re) (we := we) (ai := ai') (al := al') (R := (cmR rl pn pt s).length) hlen80
      rw [rw_live (rl := cmR rl pn pt s) hR] at hlv
      refine s_Mo_commit_140 (bc146 := 0) (bs146 := 0) (rc146 := 0) (rs146 := 0) (Q146 := fun _ _ _ => False) mh_0 (by omega) (by omega) (fun _ => hlv) (fun _ => ?_) (fun z => absurd z hb1) (fun z => absurd z hb1)
      rw [← hQ]
      exact ⟨rfl, fun _ => ⟨rfl, ai', al', rfl, hI, hL, hR, hz⟩, fun z => absurd z c, fun z => absurd z c⟩
  have f0 : nI f = 0 ↔ f = 0 := nI_eq (b := 0) (by omega) (by decide)
  have go103 : ∀ (mk : Bool) (i1 i2 i3 : Int32), mk = rl.any (fun x => !x.2.2.1 && pn x.1 != 0) → Ev l X M_Mo_commit 0 0 103 [(0, .ref r), (1, .int i1), (2, .int i2), (3, .int i3)] [.int (nI (if mk then 2 else 1)), .int (nI D)] n (moH B r d (nI rl.length) (nI s) 0 (nI f) (nI w) to he re we ai al) (ev_mq X Q) := by
    intro mk i1 i2 i3 hmk
    have h2 : (if mk then 2 else 1) ≤ 2 := by split <;> omega
    have fk : nI f ≤ nI (D + (if mk then 2 else 1)) ↔ f ≤ D + (if mk then 2 else 1) := nI_leI (by omega) (by omega)
    refine s_Mo_commit_103 mh_0 (fun a => ?_) (fun a c => ?_) (fun a c => ?_)
    · rw [f0] at a
      rw [nI_add]
      exact fin _ _ _ true (by rw [hmk]) (by rw [decide_eq_true]; omega)
    · rw [f0] at a
      rw [nI_add] at c ⊢
      rw [fk] at c
      exact fin _ _ _ false (by rw [hmk]) (by rw [decide_eq_false]; omega)
    · rw [nI_add] at c ⊢
      rw [fk] at c
      exact fin _ _ _ true (by rw [hmk]) (by rw [decide_eq_true]; omega)
  have key : ∀ (t a : List PRow), rl = a ++ t → Ev l X M_Mo_commit 0 0 46 [(0, .ref r), (1, .int (nI D)), (2, .int (bI (a.any (fun x => !x.2.2.1 && pn x.1 != 0)))), (3, .int (nI a.length))] [] n (moH B r d (nI rl.length) (nI s) 0 (nI f) (nI w) to he re we ai al) (ev_mq X Q) := by
    intro t
    induction t with
    | nil =>
      intro a hl
      rw [List.append_nil] at hl
      subst hl
      have hle : nI rl.length ≤ nI rl.length := (nI_leI (by omega) (by omega)).mpr (Nat.le_refl _)
      refine s_Mo_commit_46 mh_0 mh_7 mh_5 mh_2 (fun _ a => ?_) (fun _ a => ?_) ?_ ?_ ?_ ?_ ?_ ?_ ?_
      · exact go103 false _ _ _ (bI_1.mp a).symm
      · exact go103 true _ _ _ (bI_n0 a).symm
      all_goals exact fun c => absurd hle c
    | cons x t ih =>
      intro a hl
      have hll : rl.length = a.length + (t.length + 1) := by rw [hl]; simp
      have hgt : ¬ nI rl.length ≤ nI a.length := i_ge (by omega) (by omega) (by omega)
      have ca : (nI a.length).toNatClampNeg = a.length := nI_clamp (by omega)
      have ina : vp_in (nI a.length) 80 := vp_in_nI (by omega) (by decide)
      obtain ⟨b1, b2, b3, b4, b5, b6, b7, b8⟩ := hr a.length x (by rw [hl]; exact get_mid a x t)
      obtain ⟨p1, p2, -⟩ := hp x.1 b6
      have hih := ih (a ++ [x]) (by rw [hl]; simp)
      rw [List.any_append, show (a ++ [x]).length = a.length + 1 by simp] at hih
      have go : ∀ (is2 : Int32) (bb : Bool), bb = (a.any (fun x => !x.2.2.1 && pn x.1 != 0) || (!x.2.2.1 && pn x.1 != 0)) → Ev l X M_Mo_commit 0 0 86 [(0, .ref r), (1, .int (nI D)), (2, .int is2), (3, .int (nI a.length))] [.int (bI bb)] n (moH B r d (nI rl.length) (nI s) 0 (nI f) (nI w) to he re we ai al) (ev_mq X Q) := by
        intro is2 bb hbb
        refine s_Mo_commit_86 ?_
        rw [nI_1, hbb]
        simpa using hih
      refine s_Mo_commit_46 mh_0 mh_7 mh_5 mh_2 (fun c => absurd c hgt) (fun c => absurd c hgt) (fun _ c => ?_) (fun _ _ => ina) (fun _ c e => ?_) (fun _ _ _ => ina) (fun _ _ _ => by rw [ca, b1]; exact vp_in_nI b6 (by decide)) (fun _ c e g => ?_) (fun _ c e g => ?_)
      · exact go _ true (by rw [bI_n0 c]; rfl)
      · rw [ca, b3] at e
        exact go _ false (by rw [bI_1.mp c, bI_n0 e]; rfl)
      · rw [ca, b1, nI_clamp (by omega), p1] at g
        have e0 : pn x.1 = 0 := (nI_eq (b := 0) (by omega) (by decide)).mp g
        exact go _ false (by rw [bI_1.mp c, e0]; simp)
      · rw [ca, b3] at e
        rw [ca, b1, nI_clamp (by omega), p1] at g
        have e0 : ¬ pn x.1 = 0 := fun z => g (by rw [z]; rfl)
        exact go _ true (by rw [bI_1.mp c, bI_1.mp e]; simp [e0])
  have e : ¬ nI (cn (fun i => ai 2 i == 0) 12) = 12 := fun z => hn ((nI_eq (b := 12) (by have := cn_le (fun i => ai 2 i == 0) 12; omega) (by decide)).mp z)
  have hdoc := c_Mo_documents (l := l) (X := X) (n := n) (B := B) (r := r) (d := d) (ro := nI rl.length) (se := nI s) (st := 0) (fu := nI f) (wr := nI w) (to := to) (he := he) (re := re) (we := we) (ai := ai) (al := al)
  rw [ed] at hdoc
  refine Cal.of (by decide) (Nat.le_of_ble_eq_true rfl) (s_Mo_commit_0 mh_0 (fun _ => c_Mo_idle) (fun _ _ => hdoc) (fun _ _ _ => key rl [] rfl) (fun _ _ _ _ => key rl [] rfl) (fun _ _ a c => ?_) (fun _ a => absurd a e) (fun a => absurd rfl a))
  exfalso
  have : 0 < D := Nat.pos_of_ne_zero fun z => a (by rw [z]; decide)
  have h6' := (h6 this).1
  have := (nI_eq (b := 6) (by omega) (by decide)).mp c
  omega
end MoM
