/-! the reference's phrase: contracts -/
section MoF
variable {l : Launch} {X : ev_X} {n : Nat} {B : ev_H} {r : Nat} {d ro se st fu wr to he re we : Int32} {ai : Nat → Nat → Int32} {al : Nat → Nat → Int64}
theorem c_Mo_phrase_stop {i : Int32} (hs : ¬ st = 0) : Cal l X M_Mo_phrase 0 0 [.ref r, .int i] n (moH B r d ro se st fu wr to he re we ai al) (ev_pure (.int (-9)) n (moH B r d ro se st fu wr to he re we ai al)) := by
  refine Cal.of (by decide) (Nat.le_of_ble_eq_true rfl) (s_Mo_phrase_0 mh_0 ?_ ?_ ?_ (fun _ => ⟨rfl, rfl, rfl⟩))
  all_goals exact fun c => absurd c hs
theorem c_Mo_phrase_ref {i : Int32} (hs : st = 0) (h : i < 2 ∨ ¬ i ≤ he) : Cal l X M_Mo_phrase 0 0 [.ref r, .int i] n (moH B r d ro se st fu wr to he re we ai al) (ev_pure (.int (-1)) n (moH B r d ro se st fu wr to he re we ai al)) := by
  refine Cal.of (by decide) (Nat.le_of_ble_eq_true rfl) (s_Mo_phrase_0 mh_0 (fun _ _ => ⟨rfl, rfl, rfl⟩) (fun _ a b => ?_) (fun _ _ _ => ⟨rfl, rfl, rfl⟩) (fun c => absurd hs c))
  rcases h with h | h
  · exact absurd h a
  · exact absurd b h
theorem c_Mo_phrase_no {p h : Nat} (hs : st = 0) (h2 : 2 ≤ p) (hp : p ≤ h) (h8 : h ≤ 8) (hex : ∃ j, h - p ≤ j ∧ j < h ∧ ai 12 j = 0) : Cal l X M_Mo_phrase 0 0 [.ref r, .int (nI p)] n (moH B r d ro se st fu wr to (nI h) re we ai al) (ev_pure (.int (-1)) n (moH B r d ro se st fu wr to (nI h) re we ai al)) := by
  obtain ⟨j, j1, j2, j3⟩ := hex
  have key : ∀ (u k : Nat), k + u = j → Ev l X M_Mo_phrase 0 0 32 [(0, .ref r), (1, .int (nI p)), (2, .int (nI k))] [] n (moH B r d ro se st fu wr to (nI h) re we ai al) (ev_mq X (ev_pure (.int (-1)) n (moH B r d ro se st fu wr to (nI h) re we ai al))) := by
    intro u
    induction u with
    | zero =>
      intro k hk
      have e : k = j := by omega
      subst e
      have hgt : ¬ nI h ≤ nI k := i_ge (by omega) (by omega) (by omega)
      refine s_Mo_phrase_32 (bc72 := 0) (bs72 := 0) (rc72 := 0) (rs72 := 0) (Q72 := fun _ _ _ => False) mh_0 (Nat.le_refl 0) (Nat.le_refl 0) mh_12 (fun z => absurd z hgt) (fun z => absurd z hgt) (fun _ => vp_in_nI (by omega) (by decide)) (fun _ a => ?_) (fun _ _ => ⟨rfl, rfl, rfl⟩)
      rw [nI_clamp (by omega)] at a
      exact absurd j3 a
    | succ u ih =>
      intro k hk
      have hgt : ¬ nI h ≤ nI k := i_ge (by omega) (by omega) (by omega)
      refine s_Mo_phrase_32 (bc72 := 0) (bs72 := 0) (rc72 := 0) (rs72 := 0) (Q72 := fun _ _ _ => False) mh_0 (Nat.le_refl 0) (Nat.le_refl 0) mh_12 (fun z => absurd z hgt) (fun z => absurd z hgt) (fun _ => vp_in_nI (by omega) (by decide)) (fun _ a => ?_) (fun _ _ => ⟨rfl, rfl, rfl⟩)
      rw [nI_1]
      exact ih (k + 1) (by omega)
  have n2 : ¬ nI p < 2 := fun z => by
    have := (nI_ltI (b := 2) (by omega) (by decide)).mp z
    omega
  refine Cal.of (by decide) (Nat.le_of_ble_eq_true rfl) (s_Mo_phrase_0 mh_0 (fun _ z => absurd z n2) (fun _ _ _ => ?_) (fun _ _ z => absurd ((nI_leI (by omega) (by omega)).mpr hp) z) (fun c => absurd hs c))
  rw [pk_sub hp]
  exact key (j - (h - p)) (h - p) (by omega)
theorem c_Mo_phrase_ok {p h T : Nat} (hs : st = 0) (h2 : 2 ≤ p) (hp : p ≤ h) (h8 : h ≤ 8) (hT : T < 520) (hall : ∀ j, h - p ≤ j → j < h → ¬ ai 12 j = 0) : Cal l X M_Mo_phrase 0 0 [.ref r, .int (nI p)] n (moH B r d ro se st fu wr (nI T) (nI h) re we ai al) (ev_pure (.int (nI (h - p + 1))) n (moH B r d ro se st fu wr (nI (T + 1)) (nI (h - p + 1)) re we (puI ai T (h - p) 1 false) (va_up al 11 (vp_updL (al 11) T (nI p).toInt64)))) := by
  have s1 : nI h - nI p = nI (h - p) := pk_sub hp
  have key : ∀ (u k : Nat), k + u = h → h - p ≤ k → Ev l X M_Mo_phrase 0 0 32 [(0, .ref r), (1, .int (nI p)), (2, .int (nI k))] [] n (moH B r d ro se st fu wr (nI T) (nI h) re we ai al) (ev_mq X (ev_pure (.int (nI (h - p + 1))) n (moH B r d ro se st fu wr (nI (T + 1)) (nI (h - p + 1)) re we (puI ai T (h - p) 1 false) (va_up al 11 (vp_updL (al 11) T (nI p).toInt64))))) := by
    intro u
    induction u with
    | zero =>
      intro k hk ha
      have hle : nI h ≤ nI k := (nI_leI (by omega) (by omega)).mpr (by omega)
      refine s_Mo_phrase_32 (bc72 := 0) (bs72 := 0) (rc72 := 0) (rs72 := 0) mh_0 (Nat.le_refl 0) (Nat.le_refl 0) mh_12 (fun _ => by rw [mu_o, s1]; exact c_Mo_push false hT (by omega)) (fun _ => ?_) (fun z => absurd hle z) (fun z => absurd hle z) (fun z => absurd hle z)
      rintro _ _ _ ⟨rfl, rfl, rfl⟩
      exact s_Mo_phrase_75 mh_0 ⟨rfl, rfl, rfl⟩
    | succ u ih =>
      intro k hk ha
      have hgt : ¬ nI h ≤ nI k := i_ge (by omega) (by omega) (by omega)
      refine s_Mo_phrase_32 (bc72 := 0) (bs72 := 0) (rc72 := 0) (rs72 := 0) (Q72 := fun _ _ _ => False) mh_0 (Nat.le_refl 0) (Nat.le_refl 0) mh_12 (fun z => absurd z hgt) (fun z => absurd z hgt) (fun _ => vp_in_nI (by omega) (by decide)) (fun _ a => ?_) (fun _ a => ?_)
      · rw [nI_1]
        exact ih (k + 1) (by omega) (by omega)
      · rw [nI_clamp (by omega)] at a
        exact absurd a (hall k ha (by omega))
  have n2 : ¬ nI p < 2 := fun z => by
    have := (nI_ltI (b := 2) (by omega) (by decide)).mp z
    omega
  refine Cal.of (by decide) (Nat.le_of_ble_eq_true rfl) (s_Mo_phrase_0 mh_0 (fun _ z => absurd z n2) (fun _ _ _ => ?_) (fun _ _ z => absurd ((nI_leI (by omega) (by omega)).mpr hp) z) (fun c => absurd hs c))
  rw [s1]
  exact key p (h - p) (by omega) (Nat.le_refl _)
end MoF
