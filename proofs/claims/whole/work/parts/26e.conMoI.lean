/-! the reference's join: the road that joins -/
section MoI
variable {l : Launch} {X : ev_X} {n : Nat} {B : ev_H} {r : Nat} {d ro se st fu wr to he re we : Int32} {ai : Nat → Nat → Int32} {al : Nat → Nat → Int64}
theorem c_Mo_join_ok {k h T : Nat} (hs : st = 0) (hk : k ≤ 2) (hn : need k ≤ h) (h8 : h ≤ 8) (hT : T < 520) (h6 : ¬ mo2 (ai 13) h k = 6) : Cal l X M_Mo_join 0 0 [.ref r, .int (nI k)] n (moH B r d ro se st fu wr (nI T) (nI h) re we ai al) (ev_pure (.int (nI (h - need k + 1))) n (moH B r d ro se st fu wr (nI (T + 1)) (nI (h - need k + 1)) re we (va_up (puI ai T (h - need k) (nI (2 + k)) false) 13 (upd (puI ai T (h - need k) (nI (2 + k)) false 13) (h - need k) (mo2 (ai 13) h k + 1))) (va_up al 11 (vp_updL (al 11) T 0)))) := by
  have hkk : (2 : Int32) + nI k = nI (2 + k) := by rw [show (2 : Int32) = nI 2 from rfl, nI_add]
  have hn1 : 1 ≤ need k := by unfold need; split <;> omega
  have push : ∀ g : Nat, h - need k = g → Cal l X M_Mo_push 0 0 [.ref r, .int (nI (2 + k)), .long 0, .int 0] n (moH B r d ro se st fu wr (nI T) (nI g) re we ai al) (ev_void n (moH B r d ro se st fu wr (nI (T + 1)) (nI (h - need k + 1)) re we (puI ai T (h - need k) (nI (2 + k)) false) (va_up al 11 (vp_updL (al 11) T 0)))) := fun g hg => by
    subst hg
    exact c_Mo_push false hT (by omega)
  have fin : ∀ v2 n2 F2, ev_void n (moH B r d ro se st fu wr (nI (T + 1)) (nI (h - need k + 1)) re we (puI ai T (h - need k) (nI (2 + k)) false) (va_up al 11 (vp_updL (al 11) T 0))) v2 n2 F2 → Ev l X M_Mo_join 0 0 122 [(0, .ref r), (1, .int (nI k)), (2, .int (mo2 (ai 13) h k))] (v2.toList ++ []) n2 F2 (ev_mq X (ev_pure (.int (nI (h - need k + 1))) n (moH B r d ro se st fu wr (nI (T + 1)) (nI (h - need k + 1)) re we (va_up (puI ai T (h - need k) (nI (2 + k)) false) 13 (upd (puI ai T (h - need k) (nI (2 + k)) false 13) (h - need k) (mo2 (ai 13) h k + 1))) (va_up al 11 (vp_updL (al 11) T 0))))) := by
    rintro _ _ _ ⟨rfl, rfl, rfl⟩
    have s1 : nI (h - need k + 1) - 1 = nI (h - need k) := pk_sub (a := h - need k + 1) (b := 1) (by omega)
    refine s_Mo_join_122 mh_0 mh_13 (by rw [s1]; exact vp_in_nI (by omega) (by decide)) ?_
    rw [s1, nI_clamp (by omega), mu_13]
    exact ⟨rfl, rfl, rfl⟩
  refine e_Mo_join hs hk hn h8 fun i2 => s_Mo_join_85 (bc119 := 0) (bs119 := 0) (rc119 := 0) (rs119 := 0) (Q119 := ev_void n (moH B r d ro se st fu wr (nI (T + 1)) (nI (h - need k + 1)) re we (puI ai T (h - need k) (nI (2 + k)) false) (va_up al 11 (vp_updL (al 11) T 0)))) (bc119_2 := 0) (bs119_2 := 0) (rc119_2 := 0) (rs119_2 := 0) (Q119_2 := ev_void n (moH B r d ro se st fu wr (nI (T + 1)) (nI (h - need k + 1)) re we (puI ai T (h - need k) (nI (2 + k)) false) (va_up al 11 (vp_updL (al 11) T 0)))) mh_0 (Nat.le_refl 0) (Nat.le_refl 0) (Nat.le_refl 0) (Nat.le_refl 0) (fun _ a => ?_) (fun _ _ => fin) (fun _ a => ?_) (fun _ _ => fin) (fun a => absurd a h6)
  · have e : ¬ k = 2 := fun z => a (by rw [z]; rfl)
    have e2 : need k = 2 := if_neg e
    rw [mu_o, hkk, show nI h - 2 = nI (h - 2) from pk_sub (b := 2) (by omega)]
    exact push (h - 2) (by omega)
  · have e : k = 2 := (nI_eq (b := 2) (by omega) (by decide)).mp a
    have e2 : need k = 1 := if_pos e
    rw [mu_o, hkk, show nI h - 1 = nI (h - 1) from pk_sub (b := 1) (by omega)]
    exact push (h - 1) (by omega)
end MoI
