/-! segments and the shelf: what only reads -/
abbrev Doc : Type := Nat × List Int64
def dAt (ds : List Doc) (i : Nat) : Doc := ds.getD i (0, [])
theorem dAt_g {ds : List Doc} {i : Nat} (h : i < ds.length) : ds[i]? = some (dAt ds i) := by
  unfold dAt
  rw [List.getD_eq_getElem?_getD, List.getElem?_eq_getElem h]
  rfl
/-- a segment at s: its documents, the ids that were deleted -/
def sgI (X : ev_X) (F : ev_H) (ow : Nat → Nat) (s : Nat) (ds : List Doc) (m : Nat) : Prop := F s = some (.inr (9, [.ref (s + 1), .int (nI m)])) ∧ dlI X F ow (s + 1) ds ∧ m < 4096 ∧ ow s = 1 ∧ ow (s + 1) = 1 ∧ 1 < s ∧ ds.length ≤ 12
/-- one of the first k documents has an id of m -/
def hasA (ds : List Doc) (m : Nat) : Nat → Bool
  | 0 => false
  | k + 1 => hasA ds m k || m.testBit (dAt ds k).1
theorem hasA_t {ds : List Doc} {m : Nat} : ∀ (d k : Nat), hasA ds m k = true → hasA ds m (k + d) = true
  | 0, _, h => h
  | d + 1, k, h => by
    show (hasA ds m (k + d) || _) = true
    rw [hasA_t d k h]
    rfl
section ConSh
variable {l : Launch} {X : ev_X} {n : Nat} {F : ev_H} {ow : Nat → Nat}
/-- a document of a list, by its place -/
theorem dl_get {L i : Nat} {ds : List Doc} (h : dlI X F ow L ds) (hi : i < ds.length) : ∃ v, Cal l X M_AL_get 0 0 [.ref L, .int (nI i)] n F (ev_pure (.ref v) n F) ∧ dcW F ow v (dAt ds i) := by
  obtain ⟨vs, h1, h2, h3⟩ := h
  have hv : i < vs.length := by omega
  exact ⟨vs[i], c_AL_get h1 (List.getElem?_eq_getElem hv), h3 i _ _ (List.getElem?_eq_getElem hv) (dAt_g hi)⟩
theorem dl_size {L : Nat} {ds : List Doc} (h : dlI X F ow L ds) : Cal l X M_AL_size 0 0 [.ref L] n F (ev_pure (.int (nI ds.length)) n F) := by
  obtain ⟨vs, h1, h2, h3⟩ := h
  rw [← h2]
  exact c_AL_size h1
theorem dl_cell {L : Nat} {ds : List Doc} (h : dlI X F ow L ds) : ∃ e mc, F L = some (.inr (12, [.ref e, .int (nI ds.length), .int mc])) := by
  obtain ⟨vs, ⟨e, mc, h1, -⟩, h2, -⟩ := h
  exact ⟨e, mc, by rw [← h2]; exact h1⟩
theorem dl_len {L : Nat} {ds : List Doc} (h : dlI X F ow L ds) : ds.length ≤ 780 := by
  obtain ⟨vs, h1, h2, -⟩ := h
  have := ls_len h1
  omega
theorem c_Sg_isLive {s m i : Nat} {ds : List Doc} (h : sgI X F ow s ds m) (hi : i < ds.length) : Cal l X M_Sg_isLive 0 0 [.ref s, .int (nI i)] n F (ev_pure (.int (bI (!m.testBit (dAt ds i).1))) n F) := by
  obtain ⟨h1, h2, h3, -⟩ := h
  obtain ⟨v, k1, k2⟩ := dl_get (l := l) (n := n) h2 hi
  obtain ⟨e, mc, c1⟩ := dl_cell h2
  obtain ⟨t, f, d1, d2, d3, d4, d5, d6, d7⟩ := k2
  refine Cal.of (by decide) (Nat.le_of_ble_eq_true rfl) (s_Sg_isLive_0 h1 c1 d1 k1 (c_P_isAmong d6 h3) (fun a => ⟨?_, rfl, rfl⟩) (fun a => ⟨?_, rfl, rfl⟩))
  · rw [bI_n0 a]; rfl
  · rw [bI_1.mp a]; rfl
theorem c_Sg_entryCount {s m : Nat} {ds : List Doc} (h : sgI X F ow s ds m) : Cal l X M_Sg_entryCount 0 0 [.ref s] n F (ev_pure (.int (nI (sN (fun i => dD (dAt ds i).2) ds.length))) n F) := by
  obtain ⟨h1, h2, h3, -⟩ := h
  obtain ⟨e, mc, c1⟩ := dl_cell h2
  have hl := dl_len h2
  have key : ∀ (d k : Nat), k + d = ds.length → Ev l X M_Sg_entryCount 0 0 4 [(0, .ref s), (1, .int (nI (sN (fun i => dD (dAt ds i).2) k))), (2, .int (nI k))] [] n F (ev_mq X (ev_pure (.int (nI (sN (fun i => dD (dAt ds i).2) ds.length))) n F)) := by
    intro d
    induction d with
    | zero =>
      intro k hk
      have e1 : k = ds.length := by omega
      subst e1
      have hle : nI ds.length ≤ nI ds.length := (nI_leI (by omega) (by omega)).mpr (Nat.le_refl _)
      refine s_Sg_entryCount_4 (v21 := 0) (iv21_id := 0) (v21_terms := 0) (v27 := 0) h1 c1 (dl_size h2) (fun _ => ⟨rfl, rfl, rfl⟩) ?_ ?_ ?_ ?_
      all_goals exact fun c => absurd hle c
    | succ d ih =>
      intro k hk
      have hgt : ¬ nI ds.length ≤ nI k := i_ge (by omega) (by omega) (by omega)
      obtain ⟨v, k1, k2⟩ := dl_get (l := l) (n := n) h2 (show k < ds.length by omega)
      have hi := ih (k + 1) (by omega)
      have k3 := k2.i
      obtain ⟨t, f, d1, d2, d3, d4, d5, d6, d7⟩ := k2
      refine s_Sg_entryCount_4 h1 c1 (dl_size h2) (fun c => absurd c hgt) (fun _ => k1) (fun _ => d1) (fun _ => c_D_differentTerms k3 (by omega)) (fun _ => ?_)
      rw [nI_add, nI_1]
      exact hi
  exact Cal.of (by decide) (Nat.le_of_ble_eq_true rfl) (s_Sg_entryCount_0 (key ds.length 0 (by omega)))
theorem c_P_totalLength {L : Nat} {ds : List Doc} (h : dlI X F ow L ds) : Cal l X M_P_totalLength 0 0 [.ref L] n F (ev_pure (.int (nI (sN (fun i => dL (dAt ds i).2) ds.length))) n F) := by
  obtain ⟨e, mc, c1⟩ := dl_cell h
  have hl := dl_len h
  have key : ∀ (d k : Nat), k + d = ds.length → Ev l X M_P_totalLength 0 0 4 [(0, .ref L), (1, .int (nI (sN (fun i => dL (dAt ds i).2) k))), (2, .int (nI k))] [] n F (ev_mq X (ev_pure (.int (nI (sN (fun i => dL (dAt ds i).2) ds.length))) n F)) := by
    intro d
    induction d with
    | zero =>
      intro k hk
      have e1 : k = ds.length := by omega
      subst e1
      have hle : nI ds.length ≤ nI ds.length := (nI_leI (by omega) (by omega)).mpr (Nat.le_refl _)
      refine s_P_totalLength_4 (v15 := 0) (iv15_id := 0) (v15_terms := 0) (v21 := 0) c1 (dl_size h) (fun _ => ⟨rfl, rfl, rfl⟩) ?_ ?_ ?_ ?_
      all_goals exact fun c => absurd hle c
    | succ d ih =>
      intro k hk
      have hgt : ¬ nI ds.length ≤ nI k := i_ge (by omega) (by omega) (by omega)
      obtain ⟨v, k1, k2⟩ := dl_get (l := l) (n := n) h (show k < ds.length by omega)
      have hi := ih (k + 1) (by omega)
      have k3 := k2.i
      obtain ⟨t, f, d1, d2, d3, d4, d5, d6, d7⟩ := k2
      refine s_P_totalLength_4 c1 (dl_size h) (fun c => absurd c hgt) (fun _ => k1) (fun _ => d1) (fun _ => c_D_length k3 (by omega)) (fun _ => ?_)
      rw [nI_add, nI_1]
      exact hi
  exact Cal.of (by decide) (Nat.le_of_ble_eq_true rfl) (s_P_totalLength_0 (key ds.length 0 (by omega)))
abbrev Seg : Type := List Doc × Nat
def sAt (sg : List Seg) (i : Nat) : Seg := sg.getD i ([], 0)
theorem sAt_g {sg : List Seg} {i : Nat} (h : i < sg.length) : sg[i]? = some (sAt sg i) := by
  unfold sAt
  rw [List.getD_eq_getElem?_getD, List.getElem?_eq_getElem h]
  rfl
/-- the list at L holds the segments sg -/
def slI (X : ev_X) (F : ev_H) (ow : Nat → Nat) (L : Nat) (gs : List Nat) (sg : List Seg) : Prop := lsI X F ow L gs ∧ gs.length = sg.length ∧ gs.Nodup ∧ ∀ (i g : Nat) (y : Seg), gs[i]? = some g → sg[i]? = some y → sgI X F ow g y.1 y.2
/-- the shelf at s -/
def shI (X : ev_X) (F : ev_H) (ow : Nat → Nat) (s : Nat) (gs : List Nat) (sg : List Seg) (lv : List Doc) : Prop := F s = some (.inr (3, [.ref (s + 1), .ref (s + 2)])) ∧ slI X F ow (s + 1) gs sg ∧ dlI X F ow (s + 2) lv ∧ (ow s = 1 ∧ ow (s + 1) = 1 ∧ ow (s + 2) = 1 ∧ 1 < s) ∧ sg.length ≤ 6 ∧ lv.length ≤ 12
variable {s : Nat} {gs : List Nat} {sg : List Seg} {lv : List Doc}
theorem sl_get {L i : Nat} (h : slI X F ow L gs sg) (hi : i < sg.length) : ∃ g, gs[i]? = some g ∧ Cal l X M_AL_get 0 0 [.ref L, .int (nI i)] n F (ev_pure (.ref g) n F) ∧ sgI X F ow g (sAt sg i).1 (sAt sg i).2 := by
  obtain ⟨h1, h2, h3, h4⟩ := h
  have hv : i < gs.length := by omega
  exact ⟨gs[i], List.getElem?_eq_getElem hv, c_AL_get h1 (List.getElem?_eq_getElem hv), h4 i _ _ (List.getElem?_eq_getElem hv) (sAt_g hi)⟩
theorem sl_size {L : Nat} (h : slI X F ow L gs sg) : Cal l X M_AL_size 0 0 [.ref L] n F (ev_pure (.int (nI sg.length)) n F) := by
  obtain ⟨h1, h2, -⟩ := h
  rw [← h2]
  exact c_AL_size h1
theorem sl_cell {L : Nat} (h : slI X F ow L gs sg) : ∃ e mc, F L = some (.inr (12, [.ref e, .int (nI sg.length), .int mc])) := by
  obtain ⟨⟨e, mc, h1, -⟩, h2, -⟩ := h
  exact ⟨e, mc, by rw [← h2]; exact h1⟩
theorem c_Sh_hasLiveAmong {m : Nat} (h : shI X F ow s gs sg lv) (hm : m < 4096) : Cal l X M_Sh_hasLiveAmong 0 0 [.ref s, .int (nI m)] n F (ev_pure (.int (bI (hasA lv m lv.length))) n F) := by
  obtain ⟨h1, -, h2, -, -, hl⟩ := h
  obtain ⟨e, mc, c1⟩ := dl_cell h2
  have key : ∀ (d k : Nat), k + d = lv.length → hasA lv m k = false → Ev l X M_Sh_hasLiveAmong 0 0 2 [(0, .ref s), (1, .int (nI m)), (2, .int (nI k))] [] n F (ev_mq X (ev_pure (.int (bI (hasA lv m lv.length))) n F)) := by
    intro d
    induction d with
    | zero =>
      intro k hk hf
      have e1 : k = lv.length := by omega
      subst e1
      have hle : nI lv.length ≤ nI lv.length := (nI_leI (by omega) (by omega)).mpr (Nat.le_refl _)
      refine s_Sh_hasLiveAmong_2 (v18 := 0) (iv18_id := 0) (v18_terms := 0) (v28 := 0) h1 c1 (dl_size h2) (fun _ => ⟨by rw [hf]; rfl, rfl, rfl⟩) ?_ ?_ ?_ ?_ ?_
      all_goals exact fun c => absurd hle c
    | succ d ih =>
      intro k hk hf
      have hgt : ¬ nI lv.length ≤ nI k := i_ge (by omega) (by omega) (by omega)
      obtain ⟨v, k1, k2⟩ := dl_get (l := l) (n := n) h2 (show k < lv.length by omega)
      obtain ⟨t, f, d1, d2, d3, d4, d5, d6, d7⟩ := k2
      refine s_Sh_hasLiveAmong_2 h1 c1 (dl_size h2) (fun c => absurd c hgt) (fun _ => k1) (fun _ => d1) (fun _ => c_P_isAmong d6 hm) (fun _ a => ?_) (fun _ a => ⟨?_, rfl, rfl⟩)
      · rw [nI_1]
        exact ih (k + 1) (by omega) (by simp [hasA, hf, bI_1.mp a])
      · have := hasA_t d (k + 1) (show hasA lv m (k + 1) = true by simp [hasA, bI_n0 a])
        rw [show k + 1 + d = lv.length by omega] at this
        rw [this]
        rfl
  exact Cal.of (by decide) (Nat.le_of_ble_eq_true rfl) (s_Sh_hasLiveAmong_0 (key lv.length 0 (by omega) rfl))
theorem c_Sh_documentCount (h : shI X F ow s gs sg lv) : Cal l X M_Sh_documentCount 0 0 [.ref s] n F (ev_pure (.int (nI (sN (fun i => (sAt sg i).1.length) sg.length))) n F) := by
  obtain ⟨h1, h2, -, -, hl, -⟩ := h
  obtain ⟨e, mc, c1⟩ := sl_cell h2
  have key : ∀ (d k : Nat), k + d = sg.length → Ev l X M_Sh_documentCount 0 0 4 [(0, .ref s), (1, .int (nI (sN (fun i => (sAt sg i).1.length) k))), (2, .int (nI k))] [] n F (ev_mq X (ev_pure (.int (nI (sN (fun i => (sAt sg i).1.length) sg.length))) n F)) := by
    intro d
    induction d with
    | zero =>
      intro k hk
      have e1 : k = sg.length := by omega
      subst e1
      have hle : nI sg.length ≤ nI sg.length := (nI_leI (by omega) (by omega)).mpr (Nat.le_refl _)
      refine s_Sh_documentCount_4 (v21 := 0) (iv21_deletedIds := 0) (v21p1_elementData := 0) (iv21p1_size := 0) (iv21p1_modCount := 0) (v30 := 0) h1 c1 (sl_size h2) (fun _ => ⟨rfl, rfl, rfl⟩) ?_ ?_ ?_ ?_ ?_
      all_goals exact fun c => absurd hle c
    | succ d ih =>
      intro k hk
      have hgt : ¬ nI sg.length ≤ nI k := i_ge (by omega) (by omega) (by omega)
      obtain ⟨g, -, k1, k2⟩ := sl_get (l := l) (n := n) h2 (show k < sg.length by omega)
      have hi := ih (k + 1) (by omega)
      obtain ⟨e2, mc2, c2⟩ := dl_cell k2.2.1
      refine s_Sh_documentCount_4 h1 c1 (sl_size h2) (fun c => absurd c hgt) (fun _ => k1) (fun _ => k2.1) (fun _ => c2) (fun _ => dl_size k2.2.1) (fun _ => ?_)
      rw [nI_add, nI_1]
      exact hi
  exact Cal.of (by decide) (Nat.le_of_ble_eq_true rfl) (s_Sh_documentCount_0 (key sg.length 0 (by omega)))
def segE (y : Seg) : Nat := sN (fun i => dD (dAt y.1 i).2) y.1.length
theorem c_Sh_entryCount (h : shI X F ow s gs sg lv) : Cal l X M_Sh_entryCount 0 0 [.ref s] n F (ev_pure (.int (nI (sN (fun i => segE (sAt sg i)) sg.length))) n F) := by
  obtain ⟨h1, h2, -, -, hl, -⟩ := h
  obtain ⟨e, mc, c1⟩ := sl_cell h2
  have key : ∀ (d k : Nat), k + d = sg.length → Ev l X M_Sh_entryCount 0 0 4 [(0, .ref s), (1, .int (nI (sN (fun i => segE (sAt sg i)) k))), (2, .int (nI k))] [] n F (ev_mq X (ev_pure (.int (nI (sN (fun i => segE (sAt sg i)) sg.length))) n F)) := by
    intro d
    induction d with
    | zero =>
      intro k hk
      have e1 : k = sg.length := by omega
      subst e1
      have hle : nI sg.length ≤ nI sg.length := (nI_leI (by omega) (by omega)).mpr (Nat.le_refl _)
      refine s_Sh_entryCount_4 (v21 := 0) (iv21_deletedIds := 0) (v27 := 0) h1 c1 (sl_size h2) (fun _ => ⟨rfl, rfl, rfl⟩) ?_ ?_ ?_ ?_
      all_goals exact fun c => absurd hle c
    | succ d ih =>
      intro k hk
      have hgt : ¬ nI sg.length ≤ nI k := i_ge (by omega) (by omega) (by omega)
      obtain ⟨g, -, k1, k2⟩ := sl_get (l := l) (n := n) h2 (show k < sg.length by omega)
      have hi := ih (k + 1) (by omega)
      refine s_Sh_entryCount_4 h1 c1 (sl_size h2) (fun c => absurd c hgt) (fun _ => k1) (fun _ => k2.1) (fun _ => c_Sg_entryCount k2) (fun _ => ?_)
      rw [nI_add, nI_1]
      exact hi
  exact Cal.of (by decide) (Nat.le_of_ble_eq_true rfl) (s_Sh_entryCount_0 (key sg.length 0 (by omega)))
end ConSh
