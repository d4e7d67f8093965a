set_option maxRecDepth 100000 in
set_option maxHeartbeats 4000000 in
theorem s_Mo_bestN_39 {l : Launch} {X : ev_X} {bc bs n : Nat} {F : ev_H} {Q : Option Value → Nat → ev_H → Prop} {r0 : Nat} {i1 : Int32} {i2 : Int32} {is1 : Int32} {js2 : Int64} {r0p18_f : Nat → Int64} {ir0_drafted : Int32} {ir0_rows : Int32} {ir0_segments : Int32} {ir0_stopped : Int32} {ir0_fuse : Int32} {ir0_written : Int32} {ir0_tokens : Int32} {ir0_height : Int32} {ir0_results : Int32} {ir0_weighed : Int32} {r0p19_f : Nat → Int32} (h_r0p18 : F (r0 + 18) = some (.inl (1, 12, .inr (.inl r0p18_f)))) (h_r0 : F r0 = some (moO r0 ir0_drafted ir0_rows ir0_segments ir0_stopped ir0_fuse ir0_written ir0_tokens ir0_height ir0_results ir0_weighed)) (h_r0p19 : F (r0 + 19) = some (.inl (2, 12, .inl r0p19_f)))
    (in39_0 : vp_in is1 12)
    (in50_1 : vp_in i2 12)
    (in61_2 : (0 ≤ (lg_cmp ((vp_updL r0p18_f is1.toNatClampNeg js2) i2.toNatClampNeg) 0)) → vp_in i2 12)
    (k2_3 : (0 ≤ (lg_cmp ((vp_updL r0p18_f is1.toNatClampNeg js2) i2.toNatClampNeg) 0)) → Ev l X M_Mo_best bc bs 2 [(0, .ref r0), (1, .int i1), (2, .int (i2 + 1))] [] n (ev_up (ev_up F (r0 + 18) (.inl (1, 12, .inr (.inl (vp_updL r0p18_f is1.toNatClampNeg js2))))) (r0 + 19) (.inl (2, 12, .inl (upd r0p19_f i2.toNatClampNeg 0)))) (ev_mq X Q))
    (in61_4 : (¬ 0 ≤ (lg_cmp ((vp_updL r0p18_f is1.toNatClampNeg js2) i2.toNatClampNeg) 0)) → vp_in i2 12)
    (k2_5 : (¬ 0 ≤ (lg_cmp ((vp_updL r0p18_f is1.toNatClampNeg js2) i2.toNatClampNeg) 0)) → Ev l X M_Mo_best bc bs 2 [(0, .ref r0), (1, .int i1), (2, .int (i2 + 1))] [] n (ev_up (ev_up F (r0 + 18) (.inl (1, 12, .inr (.inl (vp_updL r0p18_f is1.toNatClampNeg js2))))) (r0 + 19) (.inl (2, 12, .inl (upd r0p19_f i2.toNatClampNeg 1)))) (ev_mq X Q)) :
    Ev l X M_Mo_best bc bs 39 [(0, .ref r0), (1, .int i1), (2, .int i2)] [.long js2, .int is1, .ref (r0 + 18)] n F (ev_mq X Q) := by
  refine ev_lastore (pc := 39) d_Mo_best_39 h_r0p18 rfl in39_0 (fun F1_ hF1_ => ?_)
  have g2_ : F1_ (r0 + 18) = some (.inl (1, 12, .inr (.inl (vp_updL r0p18_f is1.toNatClampNeg js2)))) := by rw [← hF1_]; exact ev_up_s
  refine ev_aload_n (pc := 40) d_Mo_best_40 rfl ?_
  have g3_ : F1_ r0 = some (moO r0 ir0_drafted ir0_rows ir0_segments ir0_stopped ir0_fuse ir0_written ir0_tokens ir0_height ir0_results ir0_weighed) := by rw [← hF1_]; exact ev_up_k (ev_ne_oa h_r0 h_r0p18) h_r0
  refine ev_getfield (pc := 41) 28 d_Mo_best_41 fl_Mo_66 g3_ rfl ?_
  refine ev_iload_n (pc := 44) d_Mo_best_44 rfl ?_
  refine ev_aload_n (pc := 45) d_Mo_best_45 rfl ?_
  refine ev_getfield (pc := 46) 27 d_Mo_best_46 fl_Mo_63 g3_ rfl ?_
  refine ev_iload_n (pc := 49) d_Mo_best_49 rfl ?_
  refine ev_laload (pc := 50) d_Mo_best_50 g2_ rfl in50_1 ?_
  refine ev_lconst (pc := 51) 0 d_Mo_best_51 (by decide) ?_
  refine ev_lcmp (pc := 52) d_Mo_best_52 ?_
  refine ev_if_ge (pc := 53) 60 d_Mo_best_53 (by decide) (fun c53 => ?_) (fun c53 => ?_)
  · refine ev_iconst (pc := 60) 0 d_Mo_best_60 (by decide) ?_
    have g4_ : F1_ (r0 + 19) = some (.inl (2, 12, .inl r0p19_f)) := by rw [← hF1_]; exact ev_up_k (ev_ne_aa h_r0p19 h_r0p18 rfl) h_r0p19
    refine ev_zastore (pc := 61) d_Mo_best_61 g4_ rfl (in61_2 c53) rfl (fun F5_ hF5_ => ?_)
    have g6_ : F5_ (r0 + 18) = some (.inl (1, 12, .inr (.inl (vp_updL r0p18_f is1.toNatClampNeg js2)))) := by rw [← hF5_]; exact ev_up_k (ev_ne_aa g2_ g4_ rfl) g2_
    have g7_ : F5_ r0 = some (moO r0 ir0_drafted ir0_rows ir0_segments ir0_stopped ir0_fuse ir0_written ir0_tokens ir0_height ir0_results ir0_weighed) := by rw [← hF5_]; exact ev_up_k (ev_ne_oa g3_ g4_) g3_
    have g8_ : F5_ (r0 + 19) = some (.inl (2, 12, .inl (upd r0p19_f i2.toNatClampNeg 0))) := by rw [← hF5_]; exact ev_up_s
    refine ev_iinc (pc := 62) 2 1 d_Mo_best_62 rfl (by decide) (Nat.le_of_ble_eq_true rfl) [1, 2, 0] rfl ?_
    refine ev_goto (pc := 65) 2 d_Mo_best_65 (by decide) ?_
    exact (by subst hF1_ hF5_; exact (k2_3 c53))
  · refine ev_iconst (pc := 56) 1 d_Mo_best_56 (by decide) ?_
    refine ev_goto (pc := 57) 61 d_Mo_best_57 (by decide) ?_
    have g9_ : F1_ (r0 + 19) = some (.inl (2, 12, .inl r0p19_f)) := by rw [← hF1_]; exact ev_up_k (ev_ne_aa h_r0p19 h_r0p18 rfl) h_r0p19
    refine ev_zastore (pc := 61) d_Mo_best_61 g9_ rfl (in61_4 c53) rfl (fun F10_ hF10_ => ?_)
    have g11_ : F10_ (r0 + 18) = some (.inl (1, 12, .inr (.inl (vp_updL r0p18_f is1.toNatClampNeg js2)))) := by rw [← hF10_]; exact ev_up_k (ev_ne_aa g2_ g9_ rfl) g2_
    have g12_ : F10_ r0 = some (moO r0 ir0_drafted ir0_rows ir0_segments ir0_stopped ir0_fuse ir0_written ir0_tokens ir0_height ir0_results ir0_weighed) := by rw [← hF10_]; exact ev_up_k (ev_ne_oa g3_ g9_) g3_
    have g13_ : F10_ (r0 + 19) = some (.inl (2, 12, .inl (upd r0p19_f i2.toNatClampNeg 1))) := by rw [← hF10_]; exact ev_up_s
    refine ev_iinc (pc := 62) 2 1 d_Mo_best_62 rfl (by decide) (Nat.le_of_ble_eq_true rfl) [1, 2, 0] rfl ?_
    refine ev_goto (pc := 65) 2 d_Mo_best_65 (by decide) ?_
    exact (by subst hF1_ hF10_; exact (k2_5 c53))

