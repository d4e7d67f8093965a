/-! the reference's push and term: contracts -/
/-- a token's cells behind a push -/
abbrev puI (ai : Nat → Nat → Int32) (T h : Nat) (k : Int32) (b : Bool) : Nat → Nat → Int32 := va_up (va_up (va_up ai 10 (upd (ai 10) T k)) 12 (upd (ai 12) h (bI b))) 13 (upd (ai 13) h (if b then 0 else 1))
section MoE
variable {l : Launch} {X : ev_X} {n : Nat} {B : ev_H} {r : Nat} {d ro se st fu wr to he re we : Int32} {ai : Nat → Nat → Int32} {al : Nat → Nat → Int64}
theorem c_Mo_push {T h : Nat} {k : Int32} {t : Int64} (b : Bool) (hT : T < 520) (hh : h < 8) : Cal l X M_Mo_push 0 0 [.ref r, .int k, .long t, .int (bI b)] n (moH B r d ro se st fu wr (nI T) (nI h) re we ai al) (ev_void n (moH B r d ro se st fu wr (nI (T + 1)) (nI (h + 1)) re we (puI ai T h k b) (va_up al 11 (vp_updL (al 11) T t)))) := by
  refine Cal.of (by decide) (Nat.le_of_ble_eq_true rfl) (s_Mo_push_0 mh_0 mh_10 mh_11 mh_12 mh_13 (vp_in_nI hT (by decide)) (vp_in_nI hT (by decide)) (vp_in_nI hh (by decide)) (bI_nar b) (fun _ => vp_in_nI hh (by decide)) (fun a => ?_) (fun _ => vp_in_nI hh (by decide)) (fun a => ?_))
  · have e : b = false := bI_1.mp a
    subst e
    rw [nI_clamp (by omega), nI_clamp (by omega), mu_10, mu_11, mu_o, mu_12, mu_13, mu_o, nI_1, nI_1]
    exact ⟨rfl, rfl, rfl⟩
  · have e : b = true := bI_n0 a
    subst e
    rw [nI_clamp (by omega), nI_clamp (by omega), mu_10, mu_11, mu_o, mu_12, mu_13, mu_o, nI_1, nI_1]
    exact ⟨rfl, rfl, rfl⟩
theorem c_Mo_term_stop {w : Int64} (hs : ¬ st = 0) : Cal l X M_Mo_term 0 0 [.ref r, .long w] n (moH B r d ro se st fu wr to he re we ai al) (ev_pure (.int (-9)) n (moH B r d ro se st fu wr to he re we ai al)) := by
  refine Cal.of (by decide) (Nat.le_of_ble_eq_true rfl) (s_Mo_term_0 (v11 := 0) (v31 := 0) (bc35 := 0) (bs35 := 0) (rc35 := 0) (rs35 := 0) (Q35 := fun _ _ _ => False) mh_0 (Nat.le_refl 0) (Nat.le_refl 0) ?_ ?_ ?_ ?_ ?_ ?_ (fun _ => ⟨rfl, rfl, rfl⟩))
  all_goals exact fun c => absurd c hs
theorem c_Mo_term_no {w : Int64} (hs : st = 0) (h : isw w = false ∨ he = 8) : Cal l X M_Mo_term 0 0 [.ref r, .long w] n (moH B r d ro se st fu wr to he re we ai al) (ev_pure (.int (-1)) n (moH B r d ro se st fu wr to he re we ai al)) := by
  have hx : ∀ {A : Prop}, ¬ bI (isw w) = 0 → ¬ he = 8 → A := fun a b => by
    rcases h with h | h
    · exact absurd (bI_1.mpr h) a
    · exact absurd h b
  exact Cal.of (by decide) (Nat.le_of_ble_eq_true rfl) (s_Mo_term_0 (v11 := bI (isw w)) (v31 := 0) (bc35 := 0) (bs35 := 0) (rc35 := 0) (rs35 := 0) (Q35 := fun _ _ _ => False) mh_0 (Nat.le_refl 0) (Nat.le_refl 0) (fun _ => c_Mo_isWord w) (fun _ _ => ⟨rfl, rfl, rfl⟩) (fun _ a b => hx a b) (fun _ a b => hx a b) (fun _ a b => hx a b) (fun _ _ _ => ⟨rfl, rfl, rfl⟩) (fun c => absurd hs c))
theorem c_Mo_term_ok {w : Int64} {T h : Nat} (hs : st = 0) (hw : isw w = true) (hT : T < 520) (hh : h < 8) : Cal l X M_Mo_term 0 0 [.ref r, .long w] n (moH B r d ro se st fu wr (nI T) (nI h) re we ai al) (ev_pure (.int (nI (h + 1))) n (moH B r d ro se st fu wr (nI (T + 1)) (nI (h + 1)) re we (puI ai T h 0 true) (va_up al 11 (vp_updL (al 11) T (lN (tm w)))))) := by
  have h8 : ¬ nI h = 8 := fun z => by
    have := (nI_eq (b := 8) (by omega) (by decide)).mp z
    omega
  have hne : ¬ bI (isw w) = 0 := fun z => by rw [hw] at z; exact absurd z (by decide)
  refine Cal.of (by decide) (Nat.le_of_ble_eq_true rfl) (s_Mo_term_0 (v11 := bI (isw w)) (v31 := lN (tm w)) (bc35 := 0) (bs35 := 0) (rc35 := 0) (rs35 := 0) mh_0 (Nat.le_refl 0) (Nat.le_refl 0) (fun _ => c_Mo_isWord w) (fun _ z => absurd z hne) (fun _ _ _ => c_Mo_termW hw) (fun _ _ _ => c_Mo_push true hT hh) (fun _ _ _ => ?_) (fun _ _ z => absurd z h8) (fun c => absurd hs c))
  rintro _ _ _ ⟨rfl, rfl, rfl⟩
  exact s_Mo_term_38 mh_0 ⟨rfl, rfl, rfl⟩
end MoE
