/-! documents: contracts -/
/-- the term at place j -/
def tg (ts : List Int64) (j : Nat) : Int64 := ts.getD j 0
/-- at d stands the document of that id with those terms -/
def dcI (F : ev_H) (d id : Nat) (ts : List Int64) : Prop := ∃ t f, F d = some (.inr (8, [.int (nI id), .ref t])) ∧ F t = some (.inl (1, ts.length, .inr (.inl f))) ∧ ∀ j, j < ts.length → f j = tg ts j
def dL (ts : List Int64) : Nat := cn (fun p => tg ts p != 0) ts.length
def dT (ts : List Int64) (t : Int64) : Nat := cn (fun p => t != 0 && tg ts p == t) ts.length
def dG (ts : List Int64) (p : Nat) : Nat → Bool
  | 0 => true
  | k + 1 => dG ts p k && tg ts k != tg ts p
def dD (ts : List Int64) : Nat := cn (fun p => tg ts p != 0 && dG ts p p) ts.length
/-- the first k of the row stand at place p -/
def dQ (ts row : List Int64) (p : Nat) : Nat → Bool
  | 0 => true
  | k + 1 => dQ ts row p k && (tg row k != 0 && tg row k == tg ts (p + k))
/-- the row stands at one of the first k places -/
def dX (ts row : List Int64) : Nat → Bool
  | 0 => false
  | k + 1 => dX ts row k || dQ ts row k row.length
def dP (ts row : List Int64) : Bool := dX ts row (ts.length + 1 - row.length)
theorem dL_le (ts : List Int64) : dL ts ≤ ts.length := cn_le _ _
theorem dT_le (ts : List Int64) (t : Int64) : dT ts t ≤ ts.length := cn_le _ _
theorem dD_le (ts : List Int64) : dD ts ≤ ts.length := cn_le _ _
theorem dG_f {ts : List Int64} {p : Nat} : ∀ (d k : Nat), dG ts p k = false → dG ts p (k + d) = false
  | 0, _, h => h
  | d + 1, k, h => by
    show (dG ts p (k + d) && _) = false
    rw [dG_f d k h]
    rfl
theorem dQ_f {ts row : List Int64} {p : Nat} : ∀ (d k : Nat), dQ ts row p k = false → dQ ts row p (k + d) = false
  | 0, _, h => h
  | d + 1, k, h => by
    show (dQ ts row p (k + d) && _) = false
    rw [dQ_f d k h]
    rfl
theorem dX_t {ts row : List Int64} : ∀ (d k : Nat), dX ts row k = true → dX ts row (k + d) = true
  | 0, _, h => h
  | d + 1, k, h => by
    show (dX ts row (k + d) || _) = true
    rw [dX_t d k h]
    rfl
section ConDoc
variable {l : Launch} {X : ev_X} {n : Nat} {F : ev_H} {d id : Nat} {ts : List Int64}
theorem c_D_length (h : dcI F d id ts) (hl : ts.length ≤ 600) : Cal l X M_D_length 0 0 [.ref d] n F (ev_pure (.int (nI (dL ts))) n F) := by
  obtain ⟨t, f, h1, h2, h3⟩ := h
  have key : ∀ (e k : Nat), k + e = ts.length → Ev l X M_D_length 0 0 4 [(0, .ref d), (1, .int (nI (cn (fun p => tg ts p != 0) k))), (2, .int (nI k))] [] n F (ev_mq X (ev_pure (.int (nI (dL ts))) n F)) := by
    intro e
    induction e with
    | zero =>
      intro k hk
      have e1 : k = ts.length := by omega
      subst e1
      have hle : nI ts.length ≤ nI ts.length := (nI_leI (by omega) (by omega)).mpr (Nat.le_refl _)
      refine s_D_length_4 h1 h2 (fun _ => ⟨rfl, rfl, rfl⟩) ?_ ?_ ?_
      all_goals exact fun c => absurd hle c
    | succ e ih =>
      intro k hk
      have hgt : ¬ nI ts.length ≤ nI k := i_ge (by omega) (by omega) (by omega)
      have hi := ih (k + 1) (by omega)
      refine s_D_length_4 h1 h2 (fun c => absurd c hgt) (fun _ => vp_in_nI (by omega) (by omega)) (fun _ a => ?_) (fun _ a => ?_)
      · rw [nI_clamp (by omega), lg_cmp_eq, h3 k (by omega)] at a
        rw [nI_1]
        rw [cn_n (by simp [a])] at hi
        exact hi
      · rw [nI_clamp (by omega), lg_cmp_eq, h3 k (by omega)] at a
        rw [nI_1, nI_1]
        rw [cn_y (by simp [a])] at hi
        exact hi
  exact Cal.of (by decide) (Nat.le_of_ble_eq_true rfl) (s_D_length_0 (key ts.length 0 (by omega)))
theorem c_D_timesOf {t : Int64} (h : dcI F d id ts) (hl : ts.length ≤ 600) : Cal l X M_D_timesOf 0 0 [.ref d, .long t] n F (ev_pure (.int (nI (dT ts t))) n F) := by
  obtain ⟨tt, f, h1, h2, h3⟩ := h
  have key : ∀ (e k : Nat), k + e = ts.length → Ev l X M_D_timesOf 0 0 5 [(0, .ref d), (1, .long t), (3, .int (nI (cn (fun p => t != 0 && tg ts p == t) k))), (4, .int (nI k))] [] n F (ev_mq X (ev_pure (.int (nI (dT ts t))) n F)) := by
    intro e
    induction e with
    | zero =>
      intro k hk
      have e1 : k = ts.length := by omega
      subst e1
      have hle : nI ts.length ≤ nI ts.length := (nI_leI (by omega) (by omega)).mpr (Nat.le_refl _)
      refine s_D_timesOf_5 h1 h2 (fun _ => ⟨rfl, rfl, rfl⟩) ?_ ?_ ?_ ?_
      all_goals exact fun c => absurd hle c
    | succ e ih =>
      intro k hk
      have hgt : ¬ nI ts.length ≤ nI k := i_ge (by omega) (by omega) (by omega)
      have hi := ih (k + 1) (by omega)
      refine s_D_timesOf_5 h1 h2 (fun c => absurd c hgt) (fun _ => vp_in_nI (by omega) (by omega)) (fun _ a => ?_) (fun _ a b => ?_) (fun _ a b => ?_)
      · rw [nI_clamp (by omega), lg_cmp_eq, h3 k (by omega)] at a
        rw [nI_1]
        rw [cn_n (by simp [a])] at hi
        exact hi
      · rw [lg_cmp_eq] at b
        rw [nI_1]
        rw [cn_n (by simp [b])] at hi
        exact hi
      · rw [nI_clamp (by omega), lg_cmp_eq, h3 k (by omega)] at a
        rw [lg_cmp_eq] at b
        rw [nI_1, nI_1]
        rw [cn_y (by simp [a, b])] at hi
        exact hi
  exact Cal.of (by decide) (Nat.le_of_ble_eq_true rfl) (s_D_timesOf_0 (key ts.length 0 (by omega)))
theorem c_D_isFirst {p : Nat} (h : dcI F d id ts) (hl : ts.length ≤ 600) (hp : p < ts.length) : Cal l X M_D_isFirst 0 0 [.ref d, .int (nI p)] n F (ev_pure (.int (bI (dG ts p p))) n F) := by
  obtain ⟨tt, f, h1, h2, h3⟩ := h
  have key : ∀ (e k : Nat), k + e = p → dG ts p k = true → Ev l X M_D_isFirst 0 0 2 [(0, .ref d), (1, .int (nI p)), (2, .int (nI k))] [] n F (ev_mq X (ev_pure (.int (bI (dG ts p p))) n F)) := by
    intro e
    induction e with
    | zero =>
      intro k hk ht
      have e1 : k = p := by omega
      subst e1
      have hle : nI k ≤ nI k := (nI_leI (by omega) (by omega)).mpr (Nat.le_refl _)
      refine s_D_isFirst_2 h1 h2 (fun _ => ⟨by rw [ht]; rfl, rfl, rfl⟩) ?_ ?_ ?_ ?_
      all_goals exact fun c => absurd hle c
    | succ e ih =>
      intro k hk ht
      have hgt : ¬ nI p ≤ nI k := i_ge (by omega) (by omega) (by omega)
      refine s_D_isFirst_2 h1 h2 (fun c => absurd c hgt) (fun _ => vp_in_nI (by omega) (by omega)) (fun _ => vp_in_nI (by omega) (by omega)) (fun _ a => ?_) (fun _ a => ⟨?_, rfl, rfl⟩)
      · rw [nI_clamp (by omega), nI_clamp (by omega), lg_cmp_eq, h3 k (by omega), h3 p hp] at a
        rw [nI_1]
        refine ih (k + 1) (by omega) ?_
        simp [dG, ht, a]
      · rw [nI_clamp (by omega), nI_clamp (by omega), lg_cmp_eq, h3 k (by omega), h3 p hp] at a
        have hf : dG ts p (k + 1) = false := by simp [dG, a]
        have := dG_f e (k + 1) hf
        rw [show k + 1 + e = p by omega] at this
        rw [this]
        rfl
  exact Cal.of (by decide) (Nat.le_of_ble_eq_true rfl) (s_D_isFirst_0 (key p 0 (by omega) rfl))
theorem c_D_differentTerms (h : dcI F d id ts) (hl : ts.length ≤ 600) : Cal l X M_D_differentTerms 0 0 [.ref d] n F (ev_pure (.int (nI (dD ts))) n F) := by
  have hh := h
  obtain ⟨tt, f, h1, h2, h3⟩ := h
  have key : ∀ (e k : Nat), k + e = ts.length → Ev l X M_D_differentTerms 0 0 4 [(0, .ref d), (1, .int (nI (cn (fun p => tg ts p != 0 && dG ts p p) k))), (2, .int (nI k))] [] n F (ev_mq X (ev_pure (.int (nI (dD ts))) n F)) := by
    intro e
    induction e with
    | zero =>
      intro k hk
      have e1 : k = ts.length := by omega
      subst e1
      have hle : nI ts.length ≤ nI ts.length := (nI_leI (by omega) (by omega)).mpr (Nat.le_refl _)
      refine s_D_differentTerms_4 (v26 := 0) h1 h2 (fun _ => ⟨rfl, rfl, rfl⟩) ?_ ?_ ?_ ?_ ?_
      all_goals exact fun c => absurd hle c
    | succ e ih =>
      intro k hk
      have hgt : ¬ nI ts.length ≤ nI k := i_ge (by omega) (by omega) (by omega)
      have hi := ih (k + 1) (by omega)
      refine s_D_differentTerms_4 (v26 := bI (dG ts k k)) h1 h2 (fun c => absurd c hgt) (fun _ => vp_in_nI (by omega) (by omega)) (fun _ a => ?_) (fun _ _ => c_D_isFirst hh hl (by omega)) (fun _ a b => ?_) (fun _ a b => ?_)
      · rw [nI_clamp (by omega), lg_cmp_eq, h3 k (by omega)] at a
        rw [nI_1]
        rw [cn_n (by simp [a])] at hi
        exact hi
      · rw [nI_1]
        rw [cn_n (by simp [bI_1.mp b])] at hi
        exact hi
      · rw [nI_clamp (by omega), lg_cmp_eq, h3 k (by omega)] at a
        rw [nI_1, nI_1]
        rw [cn_y (by simp [a, bI_n0 b])] at hi
        exact hi
  exact Cal.of (by decide) (Nat.le_of_ble_eq_true rfl) (s_D_differentTerms_0 (key ts.length 0 (by omega)))
/-- a row of terms at w -/
def rwI (F : ev_H) (w : Nat) (row : List Int64) : Prop := ∃ f, F w = some (.inl (1, row.length, .inr (.inl f))) ∧ ∀ j, j < row.length → f j = tg row j
theorem c_D_hasRowAt {w p : Nat} {row : List Int64} (h : dcI F d id ts) (hw : rwI F w row) (hl : ts.length ≤ 600) (hp : p + row.length ≤ ts.length) : Cal l X M_D_hasRowAt 0 0 [.ref d, .int (nI p), .ref w] n F (ev_pure (.int (bI (dQ ts row p row.length))) n F) := by
  obtain ⟨tt, f, h1, h2, h3⟩ := h
  obtain ⟨g, g1, g2⟩ := hw
  have key : ∀ (e k : Nat), k + e = row.length → dQ ts row p k = true → Ev l X M_D_hasRowAt 0 0 2 [(0, .ref d), (1, .int (nI p)), (2, .ref w), (3, .int (nI k))] [] n F (ev_mq X (ev_pure (.int (bI (dQ ts row p row.length))) n F)) := by
    intro e
    induction e with
    | zero =>
      intro k hk ht
      have e1 : k = row.length := by omega
      have hle : nI row.length ≤ nI k := (nI_leI (by omega) (by omega)).mpr (by omega)
      refine s_D_hasRowAt_2 g1 h1 h2 (fun _ => ⟨by rw [← e1, ht]; rfl, rfl, rfl⟩) ?_ ?_ ?_ ?_ ?_ ?_
      all_goals exact fun c => absurd hle c
    | succ e ih =>
      intro k hk ht
      have hgt : ¬ nI row.length ≤ nI k := i_ge (by omega) (by omega) (by omega)
      have no : dQ ts row p (k + 1) = false → dQ ts row p row.length = false := fun hf => by
        have := dQ_f e (k + 1) hf
        rw [show k + 1 + e = row.length by omega] at this
        exact this
      refine s_D_hasRowAt_2 g1 h1 h2 (fun c => absurd c hgt) (fun _ => vp_in_nI (by omega) (by omega)) (fun _ a => ⟨?_, rfl, rfl⟩) (fun _ _ => vp_in_nI (by omega) (by omega)) (fun _ _ => ?_) (fun _ a b => ?_) (fun _ a b => ⟨?_, rfl, rfl⟩)
      · rw [nI_clamp (by omega), lg_cmp_eq, g2 k (by omega)] at a
        rw [no (by simp [dQ, a])]
        rfl
      · rw [nI_add]
        exact vp_in_nI (by omega) (by omega)
      · rw [nI_clamp (by omega), lg_cmp_eq, g2 k (by omega)] at a
        rw [nI_add, nI_clamp (by omega), nI_clamp (by omega), lg_cmp_eq, g2 k (by omega), h3 (p + k) (by omega)] at b
        rw [nI_1]
        refine ih (k + 1) (by omega) ?_
        have a' : ¬ tg ts (p + k) = 0 := by rw [← b]; exact a
        simp [dQ, ht, b, a']
      · rw [nI_add, nI_clamp (by omega), nI_clamp (by omega), lg_cmp_eq, g2 k (by omega), h3 (p + k) (by omega)] at b
        rw [no (by simp [dQ, b])]
        rfl
  exact Cal.of (by decide) (Nat.le_of_ble_eq_true rfl) (s_D_hasRowAt_0 (key row.length 0 (by omega) rfl))
theorem c_D_hasRow {w : Nat} {row : List Int64} (h : dcI F d id ts) (hw : rwI F w row) (hl : ts.length ≤ 600) (hr : row.length ≤ 600) : Cal l X M_D_hasRow 0 0 [.ref d, .ref w] n F (ev_pure (.int (bI (dP ts row))) n F) := by
  have hh := h
  have hw' := hw
  obtain ⟨tt, f, h1, h2, h3⟩ := h
  obtain ⟨g, g1, g2⟩ := hw
  have key : ∀ (e k : Nat), k + e = ts.length + 1 - row.length → dX ts row k = false → Ev l X M_D_hasRow 0 0 2 [(0, .ref d), (1, .ref w), (2, .int (nI k))] [] n F (ev_mq X (ev_pure (.int (bI (dP ts row))) n F)) := by
    intro e
    induction e with
    | zero =>
      intro k hk ht
      have e1 : k = ts.length + 1 - row.length := by omega
      have hle : nI ts.length < nI k + nI row.length := by
        rw [nI_add]
        exact (nI_ltI (by omega) (by omega)).mpr (by omega)
      refine s_D_hasRow_2 (v17 := 0) g1 h1 h2 (fun _ => ⟨by rw [dP, ← e1, ht]; rfl, rfl, rfl⟩) ?_ ?_ ?_
      all_goals exact fun c => absurd hle c
    | succ e ih =>
      intro k hk ht
      have hgt : ¬ nI ts.length < nI k + nI row.length := fun z => by
        rw [nI_add] at z
        have := (nI_ltI (by omega) (by omega)).mp z
        omega
      refine s_D_hasRow_2 (v17 := bI (dQ ts row k row.length)) g1 h1 h2 (fun c => absurd c hgt) (fun _ => c_D_hasRowAt hh hw' hl (by omega)) (fun _ a => ?_) (fun _ a => ⟨?_, rfl, rfl⟩)
      · rw [nI_1]
        refine ih (k + 1) (by omega) ?_
        simp [dX, ht, bI_1.mp a]
      · have hf : dX ts row (k + 1) = true := by simp [dX, bI_n0 a]
        have := dX_t e (k + 1) hf
        rw [show k + 1 + e = ts.length + 1 - row.length by omega] at this
        rw [dP, this]
        rfl
  exact Cal.of (by decide) (Nat.le_of_ble_eq_true rfl) (s_D_hasRow_0 (key _ 0 (Nat.zero_add _) rfl))
end ConDoc
