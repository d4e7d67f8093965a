/-! the reference's lookUp: contract -/
def lkZ (f : Nat → Int32) (k : Nat) : Nat → Int32 := fun i => if i < k then -1 else f i
theorem lkZ_s (f : Nat → Int32) (k : Nat) : upd (lkZ f k) k (-1) = lkZ f (k + 1) := funext fun i => by
  unfold upd lkZ
  by_cases e : i = k
  · subst e
    rw [if_pos rfl, if_pos (by omega)]
  · rw [if_neg e]
    by_cases g : i < k
    · rw [if_pos g, if_pos (by omega)]
    · rw [if_neg g, if_neg (by omega)]
/-- the last live row of each id, of the first k rows -/
def lkR (ids : Nat → Nat) (dead : Nat → Int32) (f : Nat → Int32) : Nat → Nat → Int32
  | 0 => f
  | k + 1 => if dead k = 0 then upd (lkR ids dead f k) (ids k) (nI k) else lkR ids dead f k
section MoG
variable {l : Launch} {X : ev_X} {n : Nat} {B : ev_H} {r : Nat} {d ro se st fu wr to he re we : Int32} {ai : Nat → Nat → Int32} {al : Nat → Nat → Int64}
theorem c_Mo_lookUp {R : Nat} {ids : Nat → Nat} (hR : R ≤ 80) (hid : ∀ q, q < R → ai 5 q = nI (ids q) ∧ ids q < 12) : Cal l X M_Mo_lookUp 0 0 [.ref r] n (moH B r d (nI R) se st fu wr to he re we ai al) (ev_void n (moH B r d (nI R) se st fu wr to he re we (va_up ai 17 (lkR ids (ai 7) (lkZ (ai 17) 12) R)) al)) := by
  have key2 : ∀ (u k : Nat), k + u = R → Ev l X M_Mo_lookUp 0 0 23 [(0, .ref r), (1, .int (nI k))] [] n (moH B r d (nI R) se st fu wr to he re we (va_up ai 17 (lkR ids (ai 7) (lkZ (ai 17) 12) k)) al) (ev_mq X (ev_void n (moH B r d (nI R) se st fu wr to he re we (va_up ai 17 (lkR ids (ai 7) (lkZ (ai 17) 12) R)) al))) := by
    intro u
    induction u with
    | zero =>
      intro k hk
      have e : k = R := by omega
      subst e
      have hle : nI k ≤ nI k := (nI_leI (by omega) (by omega)).mpr (Nat.le_refl _)
      refine s_Mo_lookUp_23 mh_0 mh_7 mh_5 mh_17 (fun _ => ⟨rfl, rfl, rfl⟩) ?_ ?_ ?_ ?_ ?_
      all_goals exact fun z => absurd hle z
    | succ u ih =>
      intro k hk
      have hgt : ¬ nI R ≤ nI k := i_ge (by omega) (by omega) (by omega)
      obtain ⟨z1, z2⟩ := hid k (by omega)
      have hi := ih (k + 1) (by omega)
      refine s_Mo_lookUp_23 mh_0 mh_7 mh_5 mh_17 (fun z => absurd z hgt) (fun _ => vp_in_nI (by omega) (by decide)) (fun _ a => ?_) (fun _ _ => vp_in_nI (by omega) (by decide)) (fun _ _ => ?_) (fun _ a => ?_)
      · rw [nI_clamp (by omega), show va_up ai 17 (lkR ids (ai 7) (lkZ (ai 17) 12) k) 7 = ai 7 from rfl] at a
        have e2 : lkR ids (ai 7) (lkZ (ai 17) 12) (k + 1) = lkR ids (ai 7) (lkZ (ai 17) 12) k := if_neg a
        rw [e2] at hi
        rw [nI_1]
        exact hi
      · rw [nI_clamp (by omega), show va_up ai 17 (lkR ids (ai 7) (lkZ (ai 17) 12) k) 5 = ai 5 from rfl, z1]
        exact vp_in_nI z2 (by decide)
      · rw [nI_clamp (by omega), show va_up ai 17 (lkR ids (ai 7) (lkZ (ai 17) 12) k) 7 = ai 7 from rfl] at a
        have e2 : lkR ids (ai 7) (lkZ (ai 17) 12) (k + 1) = upd (lkR ids (ai 7) (lkZ (ai 17) 12) k) (ids k) (nI k) := if_pos a
        rw [e2] at hi
        rw [nI_clamp (by omega), show va_up ai 17 (lkR ids (ai 7) (lkZ (ai 17) 12) k) 5 = ai 5 from rfl, z1, nI_clamp (by omega), nI_1, mu_17, va_uu]
        exact hi
  have key1 : ∀ (u k : Nat), k + u = 12 → Ev l X M_Mo_lookUp 0 0 2 [(0, .ref r), (1, .int (nI k))] [] n (moH B r d (nI R) se st fu wr to he re we (va_up ai 17 (lkZ (ai 17) k)) al) (ev_mq X (ev_void n (moH B r d (nI R) se st fu wr to he re we (va_up ai 17 (lkR ids (ai 7) (lkZ (ai 17) 12) R)) al))) := by
    intro u
    induction u with
    | zero =>
      intro k hk
      have e : k = 12 := by omega
      subst e
      refine s_Mo_lookUp_2 mh_0 mh_17 (fun _ => key2 R 0 (by omega)) ?_ ?_
      all_goals exact fun z => absurd (by decide) z
    | succ u ih =>
      intro k hk
      have hgt : ¬ (12 : Int32) ≤ nI k := i_ge (a := 12) (by decide) (by omega) (by omega)
      refine s_Mo_lookUp_2 mh_0 mh_17 (fun z => absurd z hgt) (fun _ => vp_in_nI (by omega) (by decide)) (fun _ => ?_)
      rw [nI_clamp (by omega), mu_17, va_uu, show va_up ai 17 (lkZ (ai 17) k) 17 = lkZ (ai 17) k from rfl, lkZ_s, nI_1]
      exact ih (k + 1) (by omega)
  have h0 := key1 12 0 (by omega)
  have e0 : lkZ (ai 17) 0 = ai 17 := funext fun i => if_neg (by omega)
  rw [e0, va_id] at h0
  exact Cal.of (by decide) (Nat.le_of_ble_eq_true rfl) (s_Mo_lookUp_0 h0)
end MoG
