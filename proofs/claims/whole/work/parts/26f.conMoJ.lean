/-! the reference's join: what it refuses -/
section MoJ
variable {l : Launch} {X : ev_X} {n : Nat} {B : ev_H} {r : Nat} {d ro se st fu wr to he re we : Int32} {ai : Nat → Nat → Int32} {al : Nat → Nat → Int64}
theorem c_Mo_join_how {i : Int32} (hs : st = 0) (h : i < 0 ∨ 2 < i) : Cal l X M_Mo_join 0 0 [.ref r, .int i] n (moH B r d ro se st fu wr to he re we ai al) (ev_pure (.int (-1)) n (moH B r d ro se st fu wr to he re we ai al)) := by
  have no : ∀ {A : Prop}, ¬ i < 0 → ¬ 2 < i → A := fun a b => by
    rcases h with h | h
    · exact absurd h a
    · exact absurd h b
  exact Cal.of (by decide) (Nat.le_of_ble_eq_true rfl) (s_Mo_join_0 mh_0 mh_13 (fun _ _ => s_Mo_join_36 ⟨rfl, rfl, rfl⟩) (fun _ _ _ => s_Mo_join_36 ⟨rfl, rfl, rfl⟩) (fun _ a b => no a b) (fun _ a b => no a b) (fun _ a b => no a b) (fun _ a b => no a b) (fun _ a b => no a b) (fun _ a b => no a b) (fun _ a b => no a b) (fun _ a b => no a b) (fun _ a b => no a b) (fun _ a b => no a b) (fun _ a b => no a b) (fun _ a b => no a b) (fun _ a b => no a b) (fun _ a b => no a b) (fun c => absurd hs c))
theorem c_Mo_join_few {k h : Nat} (hs : st = 0) (hk : k ≤ 2) (hn : h < need k) : Cal l X M_Mo_join 0 0 [.ref r, .int (nI k)] n (moH B r d ro se st fu wr to (nI h) re we ai al) (ev_pure (.int (-1)) n (moH B r d ro se st fu wr to (nI h) re we ai al)) := by
  have hn2 : need k ≤ 2 := by unfold need; split <;> omega
  have k0 : ¬ nI k < 0 := nI_pos (by omega)
  have k2 : ¬ (2 : Int32) < nI k := fun z => by
    have := (nI_ltI (a := 2) (by decide) (by omega)).mp z
    omega
  have a2 : ∀ {A : Prop}, ¬ nI k = 2 → (2 : Int32) ≤ nI h → A := fun {A} a b => by
    have e : ¬ k = 2 := fun z => a (by rw [z]; rfl)
    have := (nI_leI (a := 2) (by decide) (by omega)).mp b
    omega
  have a1 : ∀ {A : Prop}, nI k = 2 → (1 : Int32) ≤ nI h → A := fun {A} a b => by
    have e : k = 2 := (nI_eq (b := 2) (by omega) (by decide)).mp a
    have e2 : need k = 1 := if_pos e
    have := (nI_leI (a := 1) (by decide) (by omega)).mp b
    omega
  exact Cal.of (by decide) (Nat.le_of_ble_eq_true rfl) (s_Mo_join_0 mh_0 mh_13 (fun _ a => absurd a k0) (fun _ _ a => absurd a k2) (fun _ _ _ a b => a2 a b) (fun _ _ _ a b => a2 a b) (fun _ _ _ a b => a2 a b) (fun _ _ _ a b => a2 a b) (fun _ _ _ a b => a2 a b) (fun _ _ _ a b => a2 a b) (fun _ _ _ _ _ => s_Mo_join_36 ⟨rfl, rfl, rfl⟩) (fun _ _ _ a b => a1 a b) (fun _ _ _ a b => a1 a b) (fun _ _ _ a b => a1 a b) (fun _ _ _ a b => a1 a b) (fun _ _ _ a b => a1 a b) (fun _ _ _ a b => a1 a b) (fun _ _ _ _ _ => s_Mo_join_36 ⟨rfl, rfl, rfl⟩) (fun c => absurd hs c))
end MoJ
