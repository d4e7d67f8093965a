/-! the stack of queries: what only reads -/
/-- a step: its kind and its terms -/
abbrev QStep : Type := Nat × List Int64
def pAt (ss : List QStep) (i : Nat) : QStep := ss.getD i (0, [])
theorem pAt_g {ss : List QStep} {i : Nat} (h : i < ss.length) : ss[i]? = some (pAt ss i) := by
  unfold pAt
  rw [List.getD_eq_getElem?_getD, List.getElem?_eq_getElem h]
  rfl
/-- a step that never changes -/
def spW (F : ev_H) (ow : Nat → Nat) (v : Nat) (x : QStep) : Prop := ∃ t f, F v = some (.inr (10, [.int (nI x.1), .ref t])) ∧ F t = some (.inl (1, x.2.length, .inr (.inl f))) ∧ (∀ j, j < x.2.length → f j = tg x.2 j) ∧ ow v = 0 ∧ ow t = 0 ∧ x.1 ≤ 3 ∧ x.2.length ≤ 8
def plI (X : ev_X) (F : ev_H) (ow : Nat → Nat) (L : Nat) (ss : List QStep) : Prop := ∃ vs, lsI X F ow L vs ∧ vs.length = ss.length ∧ ∀ (i v : Nat) (x : QStep), vs[i]? = some v → ss[i]? = some x → spW F ow v x
/-- the stack at q: its steps, the depths of its h queries -/
def qsI (X : ev_X) (F : ev_H) (ow : Nat → Nat) (q : Nat) (ss : List QStep) (h : Nat) (dp : Nat → Nat) : Prop := F q = some (.inr (5, [.ref (q + 1), .ref (q + 2), .int (nI h)])) ∧ plI X F ow (q + 1) ss ∧ (∃ f, F (q + 2) = some (.inl (0, 8, .inl f)) ∧ ∀ i, i < h → f i = nI (dp i) ∧ dp i ≤ 6) ∧ h ≤ 8 ∧ (ow q = 1 ∧ ow (q + 1) = 1 ∧ ow (q + 2) = 1 ∧ 1 < q)
/-- the deepest of those from a on, below k -/
def mxd (dp : Nat → Nat) (a : Nat) : Nat → Nat
  | 0 => 0
  | k + 1 => if a ≤ k then max (mxd dp a k) (dp k) else 0
theorem mxd_le {dp : Nat → Nat} {a b : Nat} : ∀ {k : Nat}, (∀ i, i < k → dp i ≤ b) → mxd dp a k ≤ b
  | 0, _ => Nat.zero_le _
  | k + 1, h => by
    have := mxd_le (dp := dp) (a := a) (b := b) (k := k) (fun i hi => h i (by omega))
    have := h k (by omega)
    unfold mxd
    split <;> omega
theorem mxd_z {dp : Nat → Nat} {a : Nat} : ∀ {k : Nat}, k ≤ a → mxd dp a k = 0
  | 0, _ => rfl
  | k + 1, h => by
    unfold mxd
    rw [if_neg (by omega)]
/-- the answers behind a step, as bits -/
def ansB (kind a : Nat) (b : Bool) : Nat := if kind = 0 then a / 4 * 2 + (a / 2 % 2) * (a % 2) else if kind = 1 then a / 4 * 2 + max (a / 2 % 2) (a % 2) else if kind = 2 then a / 2 * 2 + (1 - a % 2) else 2 * a + (if b then 1 else 0)
theorem an_0 : ∀ a, a < 512 → (nI a >>> (1 &&& 31)) &&& (nI a ||| (-2)) = nI (ansB 0 a false) := by decide +kernel
theorem an_1 : ∀ a, a < 512 → (nI a >>> (1 &&& 31)) ||| (nI a &&& 1) = nI (ansB 1 a false) := by decide +kernel
theorem an_2 : ∀ a, a < 512 → nI a ^^^ 1 = nI (ansB 2 a false) := by decide +kernel
theorem an_30 : ∀ a, a < 512 → (nI a <<< (1 &&& 31)) ||| 0 = nI (2 * a + 0) := by decide +kernel
theorem an_31 : ∀ a, a < 512 → (nI a <<< (1 &&& 31)) ||| 1 = nI (2 * a + 1) := by decide +kernel
/-- the answers behind the first k steps -/
def ansK (ss : List QStep) (ts : List Int64) : Nat → Nat
  | 0 => 0
  | k + 1 => ansB (pAt ss k).1 (ansK ss ts k) (dP ts (pAt ss k).2)
section ConQs
variable {l : Launch} {X : ev_X} {n : Nat} {F : ev_H} {ow : Nat → Nat} {q h : Nat} {ss : List QStep} {dp : Nat → Nat}
theorem pl_get {L i : Nat} (h : plI X F ow L ss) (hi : i < ss.length) : ∃ v, Cal l X M_AL_get 0 0 [.ref L, .int (nI i)] n F (ev_pure (.ref v) n F) ∧ spW F ow v (pAt ss i) := by
  obtain ⟨vs, h1, h2, h3⟩ := h
  have hv : i < vs.length := by omega
  exact ⟨vs[i], c_AL_get h1 (List.getElem?_eq_getElem hv), h3 i _ _ (List.getElem?_eq_getElem hv) (pAt_g hi)⟩
theorem pl_size {L : Nat} (h : plI X F ow L ss) : Cal l X M_AL_size 0 0 [.ref L] n F (ev_pure (.int (nI ss.length)) n F) := by
  obtain ⟨vs, h1, h2, h3⟩ := h
  rw [← h2]
  exact c_AL_size h1
theorem pl_cell {L : Nat} (h : plI X F ow L ss) : ∃ e mc, F L = some (.inr (12, [.ref e, .int (nI ss.length), .int mc])) := by
  obtain ⟨vs, ⟨e, mc, h1, -⟩, h2, -⟩ := h
  exact ⟨e, mc, by rw [← h2]; exact h1⟩
theorem pl_len {L : Nat} (h : plI X F ow L ss) : ss.length ≤ 780 := by
  obtain ⟨vs, h1, h2, -⟩ := h
  have := ls_len h1
  omega
theorem c_Qs_deepest {p : Nat} (hI : qsI X F ow q ss h dp) (hp : p ≤ h) : Cal l X M_Qs_deepest 0 0 [.ref q, .int (nI p)] n F (ev_pure (.int (nI (mxd dp (h - p) h))) n F) := by
  obtain ⟨h1, -, ⟨f, h2, h3⟩, h4, -⟩ := hI
  have hb : ∀ k, k ≤ h → mxd dp (h - p) k ≤ 6 := fun k hk => mxd_le (fun i hi => (h3 i (by omega)).2)
  have key : ∀ (d k : Nat), k + d = h → h - p ≤ k → Ev l X M_Qs_deepest 0 0 13 [(0, .ref q), (1, .int (nI p)), (2, .int (nI (mxd dp (h - p) k))), (3, .int (nI k))] [] n F (ev_mq X (ev_pure (.int (nI (mxd dp (h - p) h))) n F)) := by
    intro d
    induction d with
    | zero =>
      intro k hk ha
      have e1 : k = h := by omega
      subst e1
      have hle : nI k ≤ nI k := (nI_leI (by omega) (by omega)).mpr (Nat.le_refl _)
      refine s_Qs_deepest_13 h1 h2 (fun _ => ⟨rfl, rfl, rfl⟩) ?_ ?_
      all_goals exact fun c => absurd hle c
    | succ d ih =>
      intro k hk ha
      have hgt : ¬ nI h ≤ nI k := i_ge (by omega) (by omega) (by omega)
      have hi := ih (k + 1) (by omega) (by omega)
      have hk6 := hb k (by omega)
      obtain ⟨z1, z2⟩ := h3 k (by omega)
      refine s_Qs_deepest_13 h1 h2 (fun c => absurd c hgt) (fun _ => vp_in_nI (by omega) (by decide)) (fun _ => ?_)
      rw [nI_clamp (by omega), z1, nI_1]
      have e : (if nI (mxd dp (h - p) k) < nI (dp k) then nI (dp k) else nI (mxd dp (h - p) k)) = nI (mxd dp (h - p) (k + 1)) := by
        have e2 : mxd dp (h - p) (k + 1) = max (mxd dp (h - p) k) (dp k) := by
          show (if h - p ≤ k then _ else _) = _
          rw [if_pos ha]
        rw [e2]
        by_cases g : mxd dp (h - p) k < dp k
        · rw [if_pos ((nI_ltI (by omega) (by omega)).mpr g), Nat.max_eq_right (by omega)]
        · rw [if_neg (fun z => g ((nI_ltI (by omega) (by omega)).mp z)), Nat.max_eq_left (by omega)]
      rw [e]
      exact hi
  have e0 : (if 0 < nI h - nI p then nI h - nI p else 0) = nI (h - p) := by
    rw [pk_sub hp]
    by_cases g : 0 < h - p
    · exact if_pos (show (0 : Int32) < nI (h - p) from (nI_ltI (a := 0) (by decide) (by omega)).mpr g)
    · rw [show h - p = 0 by omega]
      rfl
  have h0 := key p (h - p) (by omega) (Nat.le_refl _)
  rw [mxd_z (Nat.le_refl _)] at h0
  refine Cal.of (by decide) (Nat.le_of_ble_eq_true rfl) (s_Qs_deepest_0 h1 ?_)
  rw [e0]
  exact h0
theorem c_Qs_areTerms {p : Nat} (hI : qsI X F ow q ss h dp) (hp : p ≤ h) : Cal l X M_Qs_areTerms 0 0 [.ref q, .int (nI p)] n F (ev_pure (.int (bI (decide (mxd dp (h - p) h = 0)))) n F) := by
  have hb : mxd dp (h - p) h ≤ 6 := by
    obtain ⟨-, -, ⟨f, -, h3⟩, -⟩ := hI
    exact mxd_le (fun i hi => (h3 i hi).2)
  refine Cal.of (by decide) (Nat.le_of_ble_eq_true rfl) (s_Qs_areTerms_0 hI.1 (c_Qs_deepest hI hp) (fun a => ⟨?_, rfl, rfl⟩) (fun a => ⟨?_, rfl, rfl⟩))
  · have : ¬ mxd dp (h - p) h = 0 := fun z => a (by rw [z]; rfl)
    rw [decide_eq_false this]
    rfl
  · have : mxd dp (h - p) h = 0 := (nI_eq (b := 0) (by omega) (by decide)).mp a
    rw [decide_eq_true this]
    rfl
theorem c_Qs_firstTerm {v : Nat} {x : QStep} (hv : spW F ow v x) : Cal l X M_Qs_firstTerm 0 0 [.ref q, .ref v] n F (ev_pure (.long (tg x.2 0)) n F) := by
  obtain ⟨t, f, d1, d2, d3, d4, d5, d6, d7⟩ := hv
  have p0 : ¬ nI x.2.length ≤ 0 → 0 < x.2.length := fun z => Nat.pos_of_ne_zero fun e => z (by rw [e]; decide)
  refine Cal.of (by decide) (Nat.le_of_ble_eq_true rfl) (s_Qs_firstTerm_0 d1 d2 (fun a => ⟨?_, rfl, rfl⟩) (fun a => vp_in_nI (n := 0) (p0 a) (by omega)) (fun a => ⟨?_, rfl, rfl⟩))
  · have : x.2.length = 0 := by
      have := (nI_leI (b := 0) (by omega) (by decide)).mp a
      omega
    have e : x.2 = [] := List.length_eq_zero_iff.mp this
    rw [e]
    rfl
  · rw [show (0 : Int32).toNatClampNeg = 0 by decide, d3 0 (p0 a)]
theorem c_Qs_termAt {i : Nat} (hI : qsI X F ow q ss h dp) (hi : i < ss.length) : Cal l X M_Qs_termAt 0 0 [.ref q, .int (nI i)] n F (ev_pure (.long (tg (pAt ss i).2 0)) n F) := by
  obtain ⟨h1, h2, -⟩ := hI
  obtain ⟨e, mc, c1⟩ := pl_cell h2
  have hl := pl_len h2
  obtain ⟨v, k1, k2⟩ := pl_get (l := l) (n := n) h2 hi
  have k3 := k2
  obtain ⟨t, f, d1, d2⟩ := k2
  have hgt : ¬ nI ss.length ≤ nI i := i_ge (by omega) (by omega) (by omega)
  exact Cal.of (by decide) (Nat.le_of_ble_eq_true rfl) (s_Qs_termAt_0 h1 c1 (pl_size h2) (fun z => absurd z hgt) (fun _ => k1) (fun _ => d1) (fun _ => c_Qs_firstTerm k3) (fun _ => ⟨rfl, rfl, rfl⟩))
theorem c_Qs_answers {v d a : Nat} {x : QStep} {y : Doc} (hv : spW F ow v x) (hd : dcW F ow d y) (ha : a < 512) : Cal l X M_Qs_answersBehind 0 0 [.ref v, .int (nI a), .ref d] n F (ev_pure (.int (nI (ansB x.1 a (dP y.2 x.2)))) n F) := by
  obtain ⟨t, f, d1, d2, d3, d4, d5, d6, d7⟩ := hv
  have hdi := hd.i
  obtain ⟨t2, f2, g1, g2, g3, g4, g5, g6, g7⟩ := hd
  have ne : ∀ k, k ≤ 2 → ¬ nI x.1 = nI k → ¬ x.1 = k := fun k _ z e => z (by rw [e])
  refine Cal.of (by decide) (Nat.le_of_ble_eq_true rfl) (s_Qs_answersBehind_0 (v61 := bI (dP y.2 x.2)) d1 g1 (fun z => ⟨?_, rfl, rfl⟩) (fun z0 z => ⟨?_, rfl, rfl⟩) (fun z0 z1 z => ⟨?_, rfl, rfl⟩) (fun z0 z1 z2 => ?_) (fun _ _ _ => c_D_hasRow hdi ⟨f, d2, d3⟩ (by omega) (by omega)) (fun z0 z1 z2 b => ⟨?_, rfl, rfl⟩) (fun z0 z1 z2 b => ⟨?_, rfl, rfl⟩))
  · have e : x.1 = 0 := (nI_eq (b := 0) (by omega) (by decide)).mp z
    rw [an_0 a ha, e]
    rfl
  · have e : x.1 = 1 := (nI_eq (b := 1) (by omega) (by decide)).mp z
    rw [an_1 a ha, e]
    rfl
  · have e : x.1 = 2 := (nI_eq (b := 2) (by omega) (by decide)).mp z
    rw [an_2 a ha, e]
    rfl
  · have e : x.1 = 3 := by
      have := ne 0 (by omega) z0
      have := ne 1 (by omega) z1
      have := ne 2 (by omega) z2
      omega
    rw [e]
    exact Or.inr (by decide)
  · have e : x.1 = 3 := by
      have := ne 0 (by omega) z0
      have := ne 1 (by omega) z1
      have := ne 2 (by omega) z2
      omega
    rw [an_30 a ha, e, bI_1.mp b]
    rfl
  · have e : x.1 = 3 := by
      have := ne 0 (by omega) z0
      have := ne 1 (by omega) z1
      have := ne 2 (by omega) z2
      omega
    rw [an_31 a ha, e, bI_n0 b]
    rfl
theorem c_Qs_matches {d : Nat} {y : Doc} (hI : qsI X F ow q ss h dp) (hd : dcW F ow d y) (ha : ∀ k, k ≤ ss.length → ansK ss y.2 k < 512) : Cal l X M_Qs_matches 0 0 [.ref q, .ref d] n F (ev_pure (.int (bI (decide (ansK ss y.2 ss.length % 2 = 1)))) n F) := by
  obtain ⟨h1, h2, -⟩ := hI
  obtain ⟨e, mc, c1⟩ := pl_cell h2
  have hl := pl_len h2
  have key : ∀ (e k : Nat), k + e = ss.length → Ev l X M_Qs_matches 0 0 4 [(0, .ref q), (1, .ref d), (2, .int (nI (ansK ss y.2 k))), (3, .int (nI k))] [] n F (ev_mq X (ev_pure (.int (bI (decide (ansK ss y.2 ss.length % 2 = 1)))) n F)) := by
    intro e
    induction e with
    | zero =>
      intro k hk
      have e1 : k = ss.length := by omega
      subst e1
      have hle : nI ss.length ≤ nI ss.length := (nI_leI (by omega) (by omega)).mpr (Nat.le_refl _)
      have h2' : ansK ss y.2 ss.length % 2 < 2 := Nat.mod_lt _ (by decide)
      refine s_Qs_matches_4 (v20 := 0) (iv20_kind := 0) (v20_terms := 0) (v28 := 0) h1 c1 (pl_size h2) (fun _ a => ⟨?_, rfl, rfl⟩) (fun _ a => ⟨?_, rfl, rfl⟩) ?_ ?_ ?_ ?_
      · rw [n_and1] at a
        rw [decide_eq_false (fun z => a (by rw [z]; rfl))]
        rfl
      · rw [n_and1] at a
        rw [decide_eq_true ((nI_eq (b := 1) (by omega) (by decide)).mp a)]
        rfl
      all_goals exact fun c => absurd hle c
    | succ e ih =>
      intro k hk
      have hgt : ¬ nI ss.length ≤ nI k := i_ge (by omega) (by omega) (by omega)
      obtain ⟨v, k1, k2⟩ := pl_get (l := l) (n := n) h2 (show k < ss.length by omega)
      have hi := ih (k + 1) (by omega)
      have k3 := k2
      obtain ⟨t, f, d1, d2⟩ := k2
      refine s_Qs_matches_4 (v20 := v) (v28 := nI (ansK ss y.2 (k + 1))) h1 c1 (pl_size h2) (fun c => absurd c hgt) (fun c => absurd c hgt) (fun _ => k1) (fun _ => d1) (fun _ => c_Qs_answers k3 hd (ha k (by omega))) (fun _ => ?_)
      rw [nI_1]
      exact hi
  exact Cal.of (by decide) (Nat.le_of_ble_eq_true rfl) (s_Qs_matches_0 (key ss.length 0 (by omega)))
end ConQs
