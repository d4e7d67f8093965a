/-! the reference's join: contracts -/
/-- the deeper of the parts of a join -/
def mo2 (f : Nat → Int32) (h k : Nat) : Int32 := if k = 2 then f (h - 1) else if f (h - 2) ≤ f (h - 1) then f (h - 1) else f (h - 2)
def need (k : Nat) : Nat := if k = 2 then 1 else 2
section MoH
variable {l : Launch} {X : ev_X} {n : Nat} {B : ev_H} {r : Nat} {d ro se st fu wr to he re we : Int32} {ai : Nat → Nat → Int32} {al : Nat → Nat → Int64}
theorem c_Mo_join_stop {i : Int32} (hs : ¬ st = 0) : Cal l X M_Mo_join 0 0 [.ref r, .int i] n (moH B r d ro se st fu wr to he re we ai al) (ev_pure (.int (-9)) n (moH B r d ro se st fu wr to he re we ai al)) := by
  refine Cal.of (by decide) (Nat.le_of_ble_eq_true rfl) (s_Mo_join_0 mh_0 mh_13 ?_ ?_ ?_ ?_ ?_ ?_ ?_ ?_ ?_ ?_ ?_ ?_ ?_ ?_ ?_ ?_ (fun _ => ⟨rfl, rfl, rfl⟩))
  all_goals exact fun c => absurd c hs
/-- the road to 85 -/
theorem e_Mo_join {k h : Nat} {Q : Option Value → Nat → ev_H → Prop} (hs : st = 0) (hk : k ≤ 2) (hn : need k ≤ h) (h8 : h ≤ 8)
    (go : ∀ i2 : Int32, Ev l X M_Mo_join 0 0 85 [(0, .ref r), (1, .int (nI k)), (2, .int i2)] [.int (mo2 (ai 13) h k)] n (moH B r d ro se st fu wr to (nI h) re we ai al) (ev_mq X Q)) : Cal l X M_Mo_join 0 0 [.ref r, .int (nI k)] n (moH B r d ro se st fu wr to (nI h) re we ai al) Q := by
  have k0 : ¬ nI k < 0 := nI_pos (by omega)
  have k2 : ¬ (2 : Int32) < nI k := fun z => by
    have := (nI_ltI (a := 2) (by decide) (by omega)).mp z
    omega
  have h1 : 1 ≤ h := by unfold need at hn; split at hn <;> omega
  have s1 : nI h - 1 = nI (h - 1) := pk_sub (b := 1) h1
  have i1 : vp_in (nI h - 1) 8 := by rw [s1]; exact vp_in_nI (by omega) (by decide)
  by_cases e : k = 2
  · have e2 : nI k = 2 := by rw [e]; rfl
    have ge : (2 : Int32) ≤ nI k := by rw [e2]; decide
    have hh : (1 : Int32) ≤ nI h := (nI_leI (a := 1) (by decide) (by omega)).mpr h1
    refine Cal.of (by decide) (Nat.le_of_ble_eq_true rfl) (s_Mo_join_0 mh_0 mh_13 (fun _ a => absurd a k0) (fun _ _ a => absurd a k2) (fun _ _ _ a => absurd e2 a) (fun _ _ _ a => absurd e2 a) (fun _ _ _ a => absurd e2 a) (fun _ _ _ a => absurd e2 a) (fun _ _ _ a => absurd e2 a) (fun _ _ _ a => absurd e2 a) (fun _ _ _ a => absurd e2 a) (fun _ _ _ _ _ => i1) (fun _ _ _ _ _ _ => ?_) (fun _ _ _ _ _ a => absurd ge a) (fun _ _ _ _ _ a => absurd ge a) (fun _ _ _ _ _ a => absurd ge a) (fun _ _ _ _ _ a => absurd ge a) (fun _ _ _ _ a => absurd hh a) (fun c => absurd hs c))
    have em : mo2 (ai 13) h k = ai 13 (h - 1) := if_pos e
    rw [em] at go
    rw [s1, nI_clamp (by omega)]
    exact go _
  · have e2 : ¬ nI k = 2 := fun z => e ((nI_eq (b := 2) (by omega) (by decide)).mp z)
    have lt : ¬ (2 : Int32) ≤ nI k := fun z => by
      have := (nI_leI (a := 2) (by decide) (by omega)).mp z
      omega
    have h2 : 2 ≤ h := by unfold need at hn; rw [if_neg e] at hn; exact hn
    have hh : (2 : Int32) ≤ nI h := (nI_leI (a := 2) (by decide) (by omega)).mpr h2
    have s2 : nI h - 2 = nI (h - 2) := pk_sub (b := 2) h2
    have i2 : vp_in (nI h - 2) 8 := by rw [s2]; exact vp_in_nI (by omega) (by decide)
    have em : mo2 (ai 13) h k = if ai 13 (h - 2) ≤ ai 13 (h - 1) then ai 13 (h - 1) else ai 13 (h - 2) := if_neg e
    rw [em] at go
    refine Cal.of (by decide) (Nat.le_of_ble_eq_true rfl) (s_Mo_join_0 mh_0 mh_13 (fun _ a => absurd a k0) (fun _ _ a => absurd a k2) (fun _ _ _ _ _ => i1) (fun _ _ _ _ _ a => absurd a lt) (fun _ _ _ _ _ _ => i2) (fun _ _ _ _ _ _ a => ?_) (fun _ _ _ _ _ _ _ => i2) (fun _ _ _ _ _ _ a => ?_) (fun _ _ _ _ a => absurd hh a) (fun _ _ _ a => absurd a e2) (fun _ _ _ a => absurd a e2) (fun _ _ _ a => absurd a e2) (fun _ _ _ a => absurd a e2) (fun _ _ _ a => absurd a e2) (fun _ _ _ a => absurd a e2) (fun _ _ _ a => absurd a e2) (fun c => absurd hs c))
    · rw [s1, s2, nI_clamp (by omega), nI_clamp (by omega)] at a
      rw [if_pos a] at go
      rw [s1, nI_clamp (by omega)]
      exact go _
    · rw [s1, s2, nI_clamp (by omega), nI_clamp (by omega)] at a
      rw [if_neg a] at go
      rw [s1, s2, nI_clamp (by omega), nI_clamp (by omega)]
      exact go _
theorem c_Mo_join_deep {k h : Nat} (hs : st = 0) (hk : k ≤ 2) (hn : need k ≤ h) (h8 : h ≤ 8) (h6 : mo2 (ai 13) h k = 6) : Cal l X M_Mo_join 0 0 [.ref r, .int (nI k)] n (moH B r d ro se st fu wr to (nI h) re we ai al) (ev_pure (.int (-1)) n (moH B r d ro se st fu wr to (nI h) re we ai al)) :=
  e_Mo_join hs hk hn h8 fun i2 => s_Mo_join_85 (bc119 := 0) (bs119 := 0) (rc119 := 0) (rs119 := 0) (Q119 := fun _ _ _ => False) (bc119_2 := 0) (bs119_2 := 0) (rc119_2 := 0) (rs119_2 := 0) (Q119_2 := fun _ _ _ => False) mh_0 (Nat.le_refl 0) (Nat.le_refl 0) (Nat.le_refl 0) (Nat.le_refl 0) (fun a => absurd h6 a) (fun a => absurd h6 a) (fun a => absurd h6 a) (fun a => absurd h6 a) (fun _ => ⟨rfl, rfl, rfl⟩)
end MoH
