set_option maxRecDepth 100000 in
set_option maxHeartbeats 4000000 in
theorem s_Mo_stem_0 {l : Launch} {X : ev_X} {bc bs n : Nat} {F : ev_H} {Q : Option Value → Nat → ev_H → Prop} {r0 : Nat} {j1 : Int64} {v1 : Int32} {v8 : Int64} 
    (c1_0 : Cal l X M_Mo_isWord 0 0 [.long j1] n F (ev_pure (.int v1) n F))
    (q15_1 : (v1 = 0) → Q (some (.long 0)) n F)
    (c8_2 : (¬ v1 = 0) → Cal l X M_Mo_stemOf 0 0 [.long j1] n F (ev_pure (.long v8) n F))
    (q15_3 : (¬ v1 = 0) → Q (some (.long v8)) n F) :
    Ev l X M_Mo_stem bc bs 0 [(0, .ref r0), (1, .long j1)] [] n F (ev_mq X Q) := by
  refine ev_lload_n (pc := 0) d_Mo_stem_0 rfl ?_
  refine ev_invokestatic (pc := 1) (As := [.long j1]) (st := []) (Q2 := ev_pure (.int v1) n F) (bc1 := 0) (bs1 := 0) M_Mo_isWord d_Mo_stem_1 lc_Mo_122 wd_989 rfl rfl (Nat.le_of_ble_eq_true rfl) (Nat.le_of_ble_eq_true rfl) (Nat.le_of_ble_eq_true rfl) (Nat.le_refl _) (Nat.le_refl _) c1_0 ?_
  refine ev_purek ?_
  refine ev_if_eq (pc := 4) 14 d_Mo_stem_4 (by decide) (fun c4 => ?_) (fun c4 => ?_)
  · refine ev_lconst (pc := 14) 0 d_Mo_stem_14 (by decide) ?_
    exact ev_lreturn (pc := 15) d_Mo_stem_15 rfl (q15_1 c4)
  · refine ev_lload_n (pc := 7) d_Mo_stem_7 rfl ?_
    refine ev_invokestatic (pc := 8) (As := [.long j1]) (st := []) (Q2 := ev_pure (.long v8) n F) (bc1 := 0) (bs1 := 0) M_Mo_stemOf d_Mo_stem_8 lc_Mo_125 wd_999 rfl rfl (Nat.le_of_ble_eq_true rfl) (Nat.le_of_ble_eq_true rfl) (Nat.le_of_ble_eq_true rfl) (Nat.le_refl _) (Nat.le_refl _) (c8_2 c4) ?_
    refine ev_purek ?_
    refine ev_goto (pc := 11) 15 d_Mo_stem_11 (by decide) ?_
    exact ev_lreturn (pc := 15) d_Mo_stem_15 rfl (q15_3 c4)
set_option maxRecDepth 100000 in
set_option maxHeartbeats 4000000 in
theorem s_Mo_feed_0 {l : Launch} {X : ev_X} {bc bs n : Nat} {F : ev_H} {Q : Option Value → Nat → ev_H → Prop} {r0 : Nat} {j1 : Int64} {ir0_drafted : Int32} {ir0_rows : Int32} {ir0_segments : Int32} {ir0_stopped : Int32} {ir0_fuse : Int32} {ir0_written : Int32} {ir0_tokens : Int32} {ir0_height : Int32} {ir0_results : Int32} {ir0_weighed : Int32} {v11 : Int32} {v37 : Int64} {r0p1_f : Nat → Int64} (h_r0 : F r0 = some (moO r0 ir0_drafted ir0_rows ir0_segments ir0_stopped ir0_fuse ir0_written ir0_tokens ir0_height ir0_results ir0_weighed)) (h_r0p1 : F (r0 + 1) = some (.inl (1, 12, .inr (.inl r0p1_f))))
    (c11_0 : (ir0_stopped = 0) → Cal l X M_Mo_isWord 0 0 [.long j1] n F (ev_pure (.int v11) n F))
    (q27_1 : (ir0_stopped = 0) → (v11 = 0) → Q (some (.int (-1))) n F)
    (c37_2 : (ir0_stopped = 0) → (¬ v11 = 0) → (¬ ir0_drafted = 12) → Cal l X M_Mo_termOf 0 0 [.long j1] n F (ev_pure (.long v37) n F))
    (in40_3 : (ir0_stopped = 0) → (¬ v11 = 0) → (¬ ir0_drafted = 12) → vp_in ir0_drafted 12)
    (q55_4 : (ir0_stopped = 0) → (¬ v11 = 0) → (¬ ir0_drafted = 12) → Q (some (.int (ir0_drafted + 1))) n (ev_up (ev_up F (r0 + 1) (.inl (1, 12, .inr (.inl (vp_updL r0p1_f ir0_drafted.toNatClampNeg v37))))) r0 (moO r0 (ir0_drafted + 1) ir0_rows ir0_segments ir0_stopped ir0_fuse ir0_written ir0_tokens ir0_height ir0_results ir0_weighed)))
    (q27_5 : (ir0_stopped = 0) → (¬ v11 = 0) → (ir0_drafted = 12) → Q (some (.int (-1))) n F)
    (q9_6 : (¬ ir0_stopped = 0) → Q (some (.int (-9))) n F) :
    Ev l X M_Mo_feed bc bs 0 [(0, .ref r0), (1, .long j1)] [] n F (ev_mq X Q) := by
  refine ev_aload_n (pc := 0) d_Mo_feed_0 rfl ?_
  refine ev_getfield (pc := 1) 12 d_Mo_feed_1 fl_Mo_131 h_r0 rfl ?_
  refine ev_if_eq (pc := 4) 10 d_Mo_feed_4 (by decide) (fun c4 => ?_) (fun c4 => ?_)
  · refine ev_lload_n (pc := 10) d_Mo_feed_10 rfl ?_
    refine ev_invokestatic (pc := 11) (As := [.long j1]) (st := []) (Q2 := ev_pure (.int v11) n F) (bc1 := 0) (bs1 := 0) M_Mo_isWord d_Mo_feed_11 lc_Mo_122 wd_989 rfl rfl (Nat.le_of_ble_eq_true rfl) (Nat.le_of_ble_eq_true rfl) (Nat.le_of_ble_eq_true rfl) (Nat.le_refl _) (Nat.le_refl _) (c11_0 c4) ?_
    refine ev_purek ?_
    refine ev_if_eq (pc := 14) 26 d_Mo_feed_14 (by decide) (fun c14 => ?_) (fun c14 => ?_)
    · refine ev_iconst (pc := 26) (-1) d_Mo_feed_26 (by decide) ?_
      exact ev_ireturn (pc := 27) d_Mo_feed_27 rfl rfl (q27_1 c4 c14)
    · refine ev_aload_n (pc := 17) d_Mo_feed_17 rfl ?_
      refine ev_getfield (pc := 18) 1 d_Mo_feed_18 fl_Mo_135 h_r0 rfl ?_
      refine ev_bipush (pc := 21) 12 d_Mo_feed_21 (by decide) ?_
      refine ev_icmp_ne (pc := 23) 28 d_Mo_feed_23 (by decide) (fun c23 => ?_) (fun c23 => ?_)
      · refine ev_aload_n (pc := 28) d_Mo_feed_28 rfl ?_
        refine ev_getfield (pc := 29) 0 d_Mo_feed_29 fl_Mo_7 h_r0 rfl ?_
        refine ev_aload_n (pc := 32) d_Mo_feed_32 rfl ?_
        refine ev_getfield (pc := 33) 1 d_Mo_feed_33 fl_Mo_135 h_r0 rfl ?_
        refine ev_lload_n (pc := 36) d_Mo_feed_36 rfl ?_
        refine ev_invokestatic (pc := 37) (As := [.long j1]) (st := [.int ir0_drafted, .ref (r0 + 1)]) (Q2 := ev_pure (.long v37) n F) (bc1 := 0) (bs1 := 0) M_Mo_termOf d_Mo_feed_37 lc_Mo_139 wd_1041 rfl rfl (Nat.le_of_ble_eq_true rfl) (Nat.le_of_ble_eq_true rfl) (Nat.le_of_ble_eq_true rfl) (Nat.le_refl _) (Nat.le_refl _) (c37_2 c4 c14 c23) ?_
        refine ev_purek ?_
        refine ev_lastore (pc := 40) d_Mo_feed_40 h_r0p1 rfl (in40_3 c4 c14 c23) (fun F1_ hF1_ => ?_)
        have g2_ : F1_ r0 = some (moO r0 ir0_drafted ir0_rows ir0_segments ir0_stopped ir0_fuse ir0_written ir0_tokens ir0_height ir0_results ir0_weighed) := by rw [← hF1_]; exact ev_up_k (ev_ne_oa h_r0 h_r0p1) h_r0
        have g3_ : F1_ (r0 + 1) = some (.inl (1, 12, .inr (.inl (vp_updL r0p1_f ir0_drafted.toNatClampNeg v37)))) := by rw [← hF1_]; exact ev_up_s
        refine ev_aload_n (pc := 41) d_Mo_feed_41 rfl ?_
        refine ev_dup (pc := 42) d_Mo_feed_42 rfl ?_
        refine ev_getfield (pc := 43) 1 d_Mo_feed_43 fl_Mo_135 g2_ rfl ?_
        refine ev_iconst (pc := 46) 1 d_Mo_feed_46 (by decide) ?_
        refine ev_iadd (pc := 47) d_Mo_feed_47 ?_
        refine ev_putfield (pc := 48) 1 _ d_Mo_feed_48 fl_Mo_135 g2_ pf_11_drafted rfl rfl (Nat.le_of_ble_eq_true rfl) (fun F4_ hF4_ => ?_)
        have g5_ : F4_ (r0 + 1) = some (.inl (1, 12, .inr (.inl (vp_updL r0p1_f ir0_drafted.toNatClampNeg v37)))) := by rw [← hF4_]; exact ev_up_k (ev_ne_ao g3_ g2_) g3_
        have g6_ : F4_ r0 = some (moO r0 (ir0_drafted + 1) ir0_rows ir0_segments ir0_stopped ir0_fuse ir0_written ir0_tokens ir0_height ir0_results ir0_weighed) := by rw [← hF4_]; exact ev_up_s
        refine ev_aload_n (pc := 51) d_Mo_feed_51 rfl ?_
        refine ev_getfield (pc := 52) 1 d_Mo_feed_52 fl_Mo_135 g6_ rfl ?_
        exact ev_ireturn (pc := 55) d_Mo_feed_55 rfl rfl (by subst hF1_ hF4_; exact (q55_4 c4 c14 c23))
      · refine ev_iconst (pc := 26) (-1) d_Mo_feed_26 (by decide) ?_
        exact ev_ireturn (pc := 27) d_Mo_feed_27 rfl rfl (q27_5 c4 c14 c23)
  · refine ev_bipush (pc := 7) (-9) d_Mo_feed_7 (by decide) ?_
    exact ev_ireturn (pc := 9) d_Mo_feed_9 rfl rfl (q9_6 c4)
set_option maxRecDepth 100000 in
set_option maxHeartbeats 4000000 in
theorem s_Mo_add_0 {l : Launch} {X : ev_X} {bc bs n : Nat} {F : ev_H} {Q : Option Value → Nat → ev_H → Prop} {r0 : Nat} {i1 : Int32} {ir0_drafted : Int32} {ir0_rows : Int32} {ir0_segments : Int32} {ir0_stopped : Int32} {ir0_fuse : Int32} {ir0_written : Int32} {ir0_tokens : Int32} {ir0_height : Int32} {ir0_results : Int32} {ir0_weighed : Int32} {r0p2_f : Nat → Int32} {r0p3_f : Nat → Int32} (h_r0 : F r0 = some (moO r0 ir0_drafted ir0_rows ir0_segments ir0_stopped ir0_fuse ir0_written ir0_tokens ir0_height ir0_results ir0_weighed)) (h_r0p2 : F (r0 + 2) = some (.inl (0, 12, .inl r0p2_f))) (h_r0p3 : F (r0 + 3) = some (.inl (0, 12, .inl r0p3_f)))
    (q21_0 : (ir0_stopped = 0) → (i1 < 0) → Q (some (.int (-1))) n F)
    (in28_1 : (ir0_stopped = 0) → (¬ i1 < 0) → (i1 ≤ 11) → vp_in i1 12)
    (in38_2 : (ir0_stopped = 0) → (¬ i1 < 0) → (i1 ≤ 11) → vp_in i1 12)
    (k41_3 : (ir0_stopped = 0) → (¬ i1 < 0) → (i1 ≤ 11) → Ev l X M_Mo_add bc bs 41 [(0, .ref r0), (1, .int i1), (2, .int 0)] [] n (ev_up (ev_up F (r0 + 2) (.inl (0, 12, .inl (upd r0p2_f i1.toNatClampNeg 1)))) (r0 + 3) (.inl (0, 12, .inl (upd r0p3_f i1.toNatClampNeg ir0_drafted)))) (ev_mq X Q))
    (q21_4 : (ir0_stopped = 0) → (¬ i1 < 0) → (¬ i1 ≤ 11) → Q (some (.int (-1))) n F)
    (q9_5 : (¬ ir0_stopped = 0) → Q (some (.int (-9))) n F) :
    Ev l X M_Mo_add bc bs 0 [(0, .ref r0), (1, .int i1)] [] n F (ev_mq X Q) := by
  refine ev_aload_n (pc := 0) d_Mo_add_0 rfl ?_
  refine ev_getfield (pc := 1) 12 d_Mo_add_1 fl_Mo_131 h_r0 rfl ?_
  refine ev_if_eq (pc := 4) 10 d_Mo_add_4 (by decide) (fun c4 => ?_) (fun c4 => ?_)
  · refine ev_iload_n (pc := 10) d_Mo_add_10 rfl ?_
    refine ev_if_lt (pc := 11) 20 d_Mo_add_11 (by decide) (fun c11 => ?_) (fun c11 => ?_)
    · refine ev_iconst (pc := 20) (-1) d_Mo_add_20 (by decide) ?_
      exact ev_ireturn (pc := 21) d_Mo_add_21 rfl rfl (q21_0 c4 c11)
    · refine ev_iload_n (pc := 14) d_Mo_add_14 rfl ?_
      refine ev_bipush (pc := 15) 11 d_Mo_add_15 (by decide) ?_
      refine ev_icmp_le (pc := 17) 22 d_Mo_add_17 (by decide) (fun c17 => ?_) (fun c17 => ?_)
      · refine ev_aload_n (pc := 22) d_Mo_add_22 rfl ?_
        refine ev_getfield (pc := 23) 2 d_Mo_add_23 fl_Mo_13 h_r0 rfl ?_
        refine ev_iload_n (pc := 26) d_Mo_add_26 rfl ?_
        refine ev_iconst (pc := 27) 1 d_Mo_add_27 (by decide) ?_
        refine ev_iastore (pc := 28) d_Mo_add_28 h_r0p2 rfl (in28_1 c4 c11 c17) (fun F1_ hF1_ => ?_)
        have g2_ : F1_ r0 = some (moO r0 ir0_drafted ir0_rows ir0_segments ir0_stopped ir0_fuse ir0_written ir0_tokens ir0_height ir0_results ir0_weighed) := by rw [← hF1_]; exact ev_up_k (ev_ne_oa h_r0 h_r0p2) h_r0
        have g3_ : F1_ (r0 + 2) = some (.inl (0, 12, .inl (upd r0p2_f i1.toNatClampNeg 1))) := by rw [← hF1_]; exact ev_up_s
        refine ev_aload_n (pc := 29) d_Mo_add_29 rfl ?_
        refine ev_getfield (pc := 30) 3 d_Mo_add_30 fl_Mo_17 g2_ rfl ?_
        refine ev_iload_n (pc := 33) d_Mo_add_33 rfl ?_
        refine ev_aload_n (pc := 34) d_Mo_add_34 rfl ?_
        refine ev_getfield (pc := 35) 1 d_Mo_add_35 fl_Mo_135 g2_ rfl ?_
        have g4_ : F1_ (r0 + 3) = some (.inl (0, 12, .inl r0p3_f)) := by rw [← hF1_]; exact ev_up_k (by omega) h_r0p3
        refine ev_iastore (pc := 38) d_Mo_add_38 g4_ rfl (in38_2 c4 c11 c17) (fun F5_ hF5_ => ?_)
        have g6_ : F5_ r0 = some (moO r0 ir0_drafted ir0_rows ir0_segments ir0_stopped ir0_fuse ir0_written ir0_tokens ir0_height ir0_results ir0_weighed) := by rw [← hF5_]; exact ev_up_k (ev_ne_oa g2_ g4_) g2_
        have g7_ : F5_ (r0 + 2) = some (.inl (0, 12, .inl (upd r0p2_f i1.toNatClampNeg 1))) := by rw [← hF5_]; exact ev_up_k (by omega) g3_
        have g8_ : F5_ (r0 + 3) = some (.inl (0, 12, .inl (upd r0p3_f i1.toNatClampNeg ir0_drafted))) := by rw [← hF5_]; exact ev_up_s
        refine ev_iconst (pc := 39) 0 d_Mo_add_39 (by decide) ?_
        refine ev_istore_n (pc := 40) d_Mo_add_40 (Nat.le_of_ble_eq_true rfl) [1, 2, 0] rfl ?_
        exact (by subst hF1_ hF5_; exact (k41_3 c4 c11 c17))
      · refine ev_iconst (pc := 20) (-1) d_Mo_add_20 (by decide) ?_
        exact ev_ireturn (pc := 21) d_Mo_add_21 rfl rfl (q21_4 c4 c11 c17)
  · refine ev_bipush (pc := 7) (-9) d_Mo_add_7 (by decide) ?_
    exact ev_ireturn (pc := 9) d_Mo_add_9 rfl rfl (q9_5 c4)

set_option maxRecDepth 100000 in
set_option maxHeartbeats 4000000 in
theorem s_Mo_add_41 {l : Launch} {X : ev_X} {bc bs n : Nat} {F : ev_H} {Q : Option Value → Nat → ev_H → Prop} {r0 : Nat} {i1 : Int32} {i2 : Int32} {ir0_drafted : Int32} {ir0_rows : Int32} {ir0_segments : Int32} {ir0_stopped : Int32} {ir0_fuse : Int32} {ir0_written : Int32} {ir0_tokens : Int32} {ir0_height : Int32} {ir0_results : Int32} {ir0_weighed : Int32} {v80 : Int32} {r0p1_f : Nat → Int64} {r0p4_f : Nat → Int64} (h_r0 : F r0 = some (moO r0 ir0_drafted ir0_rows ir0_segments ir0_stopped ir0_fuse ir0_written ir0_tokens ir0_height ir0_results ir0_weighed)) (h_r0p1 : F (r0 + 1) = some (.inl (1, 12, .inr (.inl r0p1_f)))) (h_r0p4 : F (r0 + 4) = some (.inl (1, 144, .inr (.inl r0p4_f))))
    (c80_0 : (ir0_drafted ≤ i2) → Cal l X M_Mo_idle 0 0 [.ref r0] n (ev_up F r0 (moO r0 0 ir0_rows ir0_segments ir0_stopped ir0_fuse ir0_written ir0_tokens ir0_height ir0_results ir0_weighed)) (ev_pure (.int v80) n (ev_up F r0 (moO r0 0 ir0_rows ir0_segments ir0_stopped ir0_fuse ir0_written ir0_tokens ir0_height ir0_results ir0_weighed))))
    (q84_1 : (ir0_drafted ≤ i2) → Q (some (.int (12 - v80))) n (ev_up F r0 (moO r0 0 ir0_rows ir0_segments ir0_stopped ir0_fuse ir0_written ir0_tokens ir0_height ir0_results ir0_weighed)))
    (in64_2 : (¬ ir0_drafted ≤ i2) → vp_in i2 12)
    (in65_3 : (¬ ir0_drafted ≤ i2) → vp_in ((12 * i1) + i2) 144)
    (k41_4 : (¬ ir0_drafted ≤ i2) → Ev l X M_Mo_add bc bs 41 [(0, .ref r0), (1, .int i1), (2, .int (i2 + 1))] [] n (ev_up F (r0 + 4) (.inl (1, 144, .inr (.inl (vp_updL r0p4_f ((12 * i1) + i2).toNatClampNeg (r0p1_f i2.toNatClampNeg)))))) (ev_mq X Q)) :
    Ev l X M_Mo_add bc bs 41 [(0, .ref r0), (1, .int i1), (2, .int i2)] [] n F (ev_mq X Q) := by
  refine ev_iload_n (pc := 41) d_Mo_add_41 rfl ?_
  refine ev_aload_n (pc := 42) d_Mo_add_42 rfl ?_
  refine ev_getfield (pc := 43) 1 d_Mo_add_43 fl_Mo_135 h_r0 rfl ?_
  refine ev_icmp_ge (pc := 46) 72 d_Mo_add_46 (by decide) (fun c46 => ?_) (fun c46 => ?_)
  · refine ev_aload_n (pc := 72) d_Mo_add_72 rfl ?_
    refine ev_iconst (pc := 73) 0 d_Mo_add_73 (by decide) ?_
    refine ev_putfield (pc := 74) 1 _ d_Mo_add_74 fl_Mo_135 h_r0 pf_11_drafted rfl rfl (Nat.le_of_ble_eq_true rfl) (fun F1_ hF1_ => ?_)
    have g2_ : F1_ r0 = some (moO r0 0 ir0_rows ir0_segments ir0_stopped ir0_fuse ir0_written ir0_tokens ir0_height ir0_results ir0_weighed) := by rw [← hF1_]; exact ev_up_s
    refine ev_bipush (pc := 77) 12 d_Mo_add_77 (by decide) ?_
    refine ev_aload_n (pc := 79) d_Mo_add_79 rfl ?_
    refine ev_invokevirtual (pc := 80) (As := []) (st := [.int 12]) (Q2 := ev_pure (.int v80) n F1_) (bc1 := 0) (bs1 := 0) M_Mo_idle rC11 d_Mo_add_80 lc_Mo_142 wd_1052 wd_s32 rfl g2_ rfl rfl (Nat.le_of_ble_eq_true rfl) (Nat.le_of_ble_eq_true rfl) (Nat.le_of_ble_eq_true rfl) (Nat.le_refl _) (Nat.le_refl _) (by subst hF1_; exact (c80_0 c46)) ?_
    refine ev_purek ?_
    refine ev_isub (pc := 83) d_Mo_add_83 ?_
    exact ev_ireturn (pc := 84) d_Mo_add_84 rfl rfl (by subst hF1_; exact (q84_1 c46))
  · refine ev_aload_n (pc := 49) d_Mo_add_49 rfl ?_
    refine ev_getfield (pc := 50) 4 d_Mo_add_50 fl_Mo_20 h_r0 rfl ?_
    refine ev_bipush (pc := 53) 12 d_Mo_add_53 (by decide) ?_
    refine ev_iload_n (pc := 55) d_Mo_add_55 rfl ?_
    refine ev_imul (pc := 56) d_Mo_add_56 ?_
    refine ev_iload_n (pc := 57) d_Mo_add_57 rfl ?_
    refine ev_iadd (pc := 58) d_Mo_add_58 ?_
    refine ev_aload_n (pc := 59) d_Mo_add_59 rfl ?_
    refine ev_getfield (pc := 60) 0 d_Mo_add_60 fl_Mo_7 h_r0 rfl ?_
    refine ev_iload_n (pc := 63) d_Mo_add_63 rfl ?_
    refine ev_laload (pc := 64) d_Mo_add_64 h_r0p1 rfl (in64_2 c46) ?_
    refine ev_lastore (pc := 65) d_Mo_add_65 h_r0p4 rfl (in65_3 c46) (fun F3_ hF3_ => ?_)
    have g4_ : F3_ r0 = some (moO r0 ir0_drafted ir0_rows ir0_segments ir0_stopped ir0_fuse ir0_written ir0_tokens ir0_height ir0_results ir0_weighed) := by rw [← hF3_]; exact ev_up_k (ev_ne_oa h_r0 h_r0p4) h_r0
    have g5_ : F3_ (r0 + 1) = some (.inl (1, 12, .inr (.inl r0p1_f))) := by rw [← hF3_]; exact ev_up_k (by omega) h_r0p1
    have g6_ : F3_ (r0 + 4) = some (.inl (1, 144, .inr (.inl (vp_updL r0p4_f ((12 * i1) + i2).toNatClampNeg (r0p1_f i2.toNatClampNeg))))) := by rw [← hF3_]; exact ev_up_s
    refine ev_iinc (pc := 66) 2 1 d_Mo_add_66 rfl (by decide) (Nat.le_of_ble_eq_true rfl) [1, 2, 0] rfl ?_
    refine ev_goto (pc := 69) 41 d_Mo_add_69 (by decide) ?_
    exact (by subst hF3_; exact (k41_4 c46))
set_option maxRecDepth 100000 in
set_option maxHeartbeats 4000000 in
theorem s_Mo_idle_0 {l : Launch} {X : ev_X} {bc bs n : Nat} {F : ev_H} {Q : Option Value → Nat → ev_H → Prop} {r0 : Nat} 
    (k4_0 : Ev l X M_Mo_idle bc bs 4 [(0, .ref r0), (1, .int 0), (2, .int 0)] [] n F (ev_mq X Q)) :
    Ev l X M_Mo_idle bc bs 0 [(0, .ref r0)] [] n F (ev_mq X Q) := by
  refine ev_iconst (pc := 0) 0 d_Mo_idle_0 (by decide) ?_
  refine ev_istore_n (pc := 1) d_Mo_idle_1 (Nat.le_of_ble_eq_true rfl) [1, 0] rfl ?_
  refine ev_iconst (pc := 2) 0 d_Mo_idle_2 (by decide) ?_
  refine ev_istore_n (pc := 3) d_Mo_idle_3 (Nat.le_of_ble_eq_true rfl) [1, 2, 0] rfl ?_
  exact k4_0

set_option maxRecDepth 100000 in
set_option maxHeartbeats 4000000 in
theorem s_Mo_idle_4 {l : Launch} {X : ev_X} {bc bs n : Nat} {F : ev_H} {Q : Option Value → Nat → ev_H → Prop} {r0 : Nat} {i1 : Int32} {i2 : Int32} {ir0_drafted : Int32} {ir0_rows : Int32} {ir0_segments : Int32} {ir0_stopped : Int32} {ir0_fuse : Int32} {ir0_written : Int32} {ir0_tokens : Int32} {ir0_height : Int32} {ir0_results : Int32} {ir0_weighed : Int32} {r0p2_f : Nat → Int32} (h_r0 : F r0 = some (moO r0 ir0_drafted ir0_rows ir0_segments ir0_stopped ir0_fuse ir0_written ir0_tokens ir0_height ir0_results ir0_weighed)) (h_r0p2 : F (r0 + 2) = some (.inl (0, 12, .inl r0p2_f)))
    (q34_0 : (12 ≤ i2) → Q (some (.int i1)) n F)
    (in15_1 : (¬ 12 ≤ i2) → vp_in i2 12)
    (k4_2 : (¬ 12 ≤ i2) → (¬ (r0p2_f i2.toNatClampNeg) = 0) → Ev l X M_Mo_idle bc bs 4 [(0, .ref r0), (1, .int i1), (2, .int (i2 + 1))] [] n F (ev_mq X Q))
    (k4_3 : (¬ 12 ≤ i2) → ((r0p2_f i2.toNatClampNeg) = 0) → Ev l X M_Mo_idle bc bs 4 [(0, .ref r0), (1, .int (i1 + 1)), (2, .int (i2 + 1))] [] n F (ev_mq X Q)) :
    Ev l X M_Mo_idle bc bs 4 [(0, .ref r0), (1, .int i1), (2, .int i2)] [] n F (ev_mq X Q) := by
  refine ev_iload_n (pc := 4) d_Mo_idle_4 rfl ?_
  refine ev_bipush (pc := 5) 12 d_Mo_idle_5 (by decide) ?_
  refine ev_icmp_ge (pc := 7) 33 d_Mo_idle_7 (by decide) (fun c7 => ?_) (fun c7 => ?_)
  · refine ev_iload_n (pc := 33) d_Mo_idle_33 rfl ?_
    exact ev_ireturn (pc := 34) d_Mo_idle_34 rfl rfl (q34_0 c7)
  · refine ev_aload_n (pc := 10) d_Mo_idle_10 rfl ?_
    refine ev_getfield (pc := 11) 2 d_Mo_idle_11 fl_Mo_13 h_r0 rfl ?_
    refine ev_iload_n (pc := 14) d_Mo_idle_14 rfl ?_
    refine ev_iaload (pc := 15) d_Mo_idle_15 h_r0p2 rfl (in15_1 c7) ?_
    refine ev_if_ne (pc := 16) 25 d_Mo_idle_16 (by decide) (fun c16 => ?_) (fun c16 => ?_)
    · refine ev_iload_n (pc := 25) d_Mo_idle_25 rfl ?_
      refine ev_istore_n (pc := 26) d_Mo_idle_26 (Nat.le_of_ble_eq_true rfl) [1, 0, 2] rfl ?_
      refine ev_iinc (pc := 27) 2 1 d_Mo_idle_27 rfl (by decide) (Nat.le_of_ble_eq_true rfl) [1, 2, 0] rfl ?_
      refine ev_goto (pc := 30) 4 d_Mo_idle_30 (by decide) ?_
      exact (k4_2 c7 c16)
    · refine ev_iload_n (pc := 19) d_Mo_idle_19 rfl ?_
      refine ev_iconst (pc := 20) 1 d_Mo_idle_20 (by decide) ?_
      refine ev_iadd (pc := 21) d_Mo_idle_21 ?_
      refine ev_goto (pc := 22) 26 d_Mo_idle_22 (by decide) ?_
      refine ev_istore_n (pc := 26) d_Mo_idle_26 (Nat.le_of_ble_eq_true rfl) [1, 0, 2] rfl ?_
      refine ev_iinc (pc := 27) 2 1 d_Mo_idle_27 rfl (by decide) (Nat.le_of_ble_eq_true rfl) [1, 2, 0] rfl ?_
      refine ev_goto (pc := 30) 4 d_Mo_idle_30 (by decide) ?_
      exact (k4_3 c7 c16)
set_option maxRecDepth 100000 in
set_option maxHeartbeats 4000000 in
theorem s_Mo_delete_0 {l : Launch} {X : ev_X} {bc bs n : Nat} {F : ev_H} {Q : Option Value → Nat → ev_H → Prop} {r0 : Nat} {i1 : Int32} {ir0_drafted : Int32} {ir0_rows : Int32} {ir0_segments : Int32} {ir0_stopped : Int32} {ir0_fuse : Int32} {ir0_written : Int32} {ir0_tokens : Int32} {ir0_height : Int32} {ir0_results : Int32} {ir0_weighed : Int32} {r0p2_f : Nat → Int32} {v32 : Int32} (h_r0 : F r0 = some (moO r0 ir0_drafted ir0_rows ir0_segments ir0_stopped ir0_fuse ir0_written ir0_tokens ir0_height ir0_results ir0_weighed)) (h_r0p2 : F (r0 + 2) = some (.inl (0, 12, .inl r0p2_f)))
    (q21_0 : (ir0_stopped = 0) → (i1 < 0) → Q (some (.int (-1))) n F)
    (in28_1 : (ir0_stopped = 0) → (¬ i1 < 0) → (i1 ≤ 11) → vp_in i1 12)
    (c32_2 : (ir0_stopped = 0) → (¬ i1 < 0) → (i1 ≤ 11) → Cal l X M_Mo_idle 0 0 [.ref r0] n (ev_up F (r0 + 2) (.inl (0, 12, .inl (upd r0p2_f i1.toNatClampNeg 2)))) (ev_pure (.int v32) n (ev_up F (r0 + 2) (.inl (0, 12, .inl (upd r0p2_f i1.toNatClampNeg 2))))))
    (q36_3 : (ir0_stopped = 0) → (¬ i1 < 0) → (i1 ≤ 11) → Q (some (.int (12 - v32))) n (ev_up F (r0 + 2) (.inl (0, 12, .inl (upd r0p2_f i1.toNatClampNeg 2)))))
    (q21_4 : (ir0_stopped = 0) → (¬ i1 < 0) → (¬ i1 ≤ 11) → Q (some (.int (-1))) n F)
    (q9_5 : (¬ ir0_stopped = 0) → Q (some (.int (-9))) n F) :
    Ev l X M_Mo_delete bc bs 0 [(0, .ref r0), (1, .int i1)] [] n F (ev_mq X Q) := by
  refine ev_aload_n (pc := 0) d_Mo_delete_0 rfl ?_
  refine ev_getfield (pc := 1) 12 d_Mo_delete_1 fl_Mo_131 h_r0 rfl ?_
  refine ev_if_eq (pc := 4) 10 d_Mo_delete_4 (by decide) (fun c4 => ?_) (fun c4 => ?_)
  · refine ev_iload_n (pc := 10) d_Mo_delete_10 rfl ?_
    refine ev_if_lt (pc := 11) 20 d_Mo_delete_11 (by decide) (fun c11 => ?_) (fun c11 => ?_)
    · refine ev_iconst (pc := 20) (-1) d_Mo_delete_20 (by decide) ?_
      exact ev_ireturn (pc := 21) d_Mo_delete_21 rfl rfl (q21_0 c4 c11)
    · refine ev_iload_n (pc := 14) d_Mo_delete_14 rfl ?_
      refine ev_bipush (pc := 15) 11 d_Mo_delete_15 (by decide) ?_
      refine ev_icmp_le (pc := 17) 22 d_Mo_delete_17 (by decide) (fun c17 => ?_) (fun c17 => ?_)
      · refine ev_aload_n (pc := 22) d_Mo_delete_22 rfl ?_
        refine ev_getfield (pc := 23) 2 d_Mo_delete_23 fl_Mo_13 h_r0 rfl ?_
        refine ev_iload_n (pc := 26) d_Mo_delete_26 rfl ?_
        refine ev_iconst (pc := 27) 2 d_Mo_delete_27 (by decide) ?_
        refine ev_iastore (pc := 28) d_Mo_delete_28 h_r0p2 rfl (in28_1 c4 c11 c17) (fun F1_ hF1_ => ?_)
        have g2_ : F1_ r0 = some (moO r0 ir0_drafted ir0_rows ir0_segments ir0_stopped ir0_fuse ir0_written ir0_tokens ir0_height ir0_results ir0_weighed) := by rw [← hF1_]; exact ev_up_k (ev_ne_oa h_r0 h_r0p2) h_r0
        have g3_ : F1_ (r0 + 2) = some (.inl (0, 12, .inl (upd r0p2_f i1.toNatClampNeg 2))) := by rw [← hF1_]; exact ev_up_s
        refine ev_bipush (pc := 29) 12 d_Mo_delete_29 (by decide) ?_
        refine ev_aload_n (pc := 31) d_Mo_delete_31 rfl ?_
        refine ev_invokevirtual (pc := 32) (As := []) (st := [.int 12]) (Q2 := ev_pure (.int v32) n F1_) (bc1 := 0) (bs1 := 0) M_Mo_idle rC11 d_Mo_delete_32 lc_Mo_142 wd_1052 wd_s32 rfl g2_ rfl rfl (Nat.le_of_ble_eq_true rfl) (Nat.le_of_ble_eq_true rfl) (Nat.le_of_ble_eq_true rfl) (Nat.le_refl _) (Nat.le_refl _) (by subst hF1_; exact (c32_2 c4 c11 c17)) ?_
        refine ev_purek ?_
        refine ev_isub (pc := 35) d_Mo_delete_35 ?_
        exact ev_ireturn (pc := 36) d_Mo_delete_36 rfl rfl (by subst hF1_; exact (q36_3 c4 c11 c17))
      · refine ev_iconst (pc := 20) (-1) d_Mo_delete_20 (by decide) ?_
        exact ev_ireturn (pc := 21) d_Mo_delete_21 rfl rfl (q21_4 c4 c11 c17)
  · refine ev_bipush (pc := 7) (-9) d_Mo_delete_7 (by decide) ?_
    exact ev_ireturn (pc := 9) d_Mo_delete_9 rfl rfl (q9_5 c4)
set_option maxRecDepth 100000 in
set_option maxHeartbeats 4000000 in
theorem s_Mo_documents_0 {l : Launch} {X : ev_X} {bc bs n : Nat} {F : ev_H} {Q : Option Value → Nat → ev_H → Prop} {r0 : Nat} 
    (k4_0 : Ev l X M_Mo_documents bc bs 4 [(0, .ref r0), (1, .int 0), (2, .int 0)] [] n F (ev_mq X Q)) :
    Ev l X M_Mo_documents bc bs 0 [(0, .ref r0)] [] n F (ev_mq X Q) := by
  refine ev_iconst (pc := 0) 0 d_Mo_documents_0 (by decide) ?_
  refine ev_istore_n (pc := 1) d_Mo_documents_1 (Nat.le_of_ble_eq_true rfl) [1, 0] rfl ?_
  refine ev_iconst (pc := 2) 0 d_Mo_documents_2 (by decide) ?_
  refine ev_istore_n (pc := 3) d_Mo_documents_3 (Nat.le_of_ble_eq_true rfl) [1, 2, 0] rfl ?_
  exact k4_0

set_option maxRecDepth 100000 in
set_option maxHeartbeats 4000000 in
theorem s_Mo_documents_4 {l : Launch} {X : ev_X} {bc bs n : Nat} {F : ev_H} {Q : Option Value → Nat → ev_H → Prop} {r0 : Nat} {i1 : Int32} {i2 : Int32} {ir0_drafted : Int32} {ir0_rows : Int32} {ir0_segments : Int32} {ir0_stopped : Int32} {ir0_fuse : Int32} {ir0_written : Int32} {ir0_tokens : Int32} {ir0_height : Int32} {ir0_results : Int32} {ir0_weighed : Int32} {r0p2_f : Nat → Int32} (h_r0 : F r0 = some (moO r0 ir0_drafted ir0_rows ir0_segments ir0_stopped ir0_fuse ir0_written ir0_tokens ir0_height ir0_results ir0_weighed)) (h_r0p2 : F (r0 + 2) = some (.inl (0, 12, .inl r0p2_f)))
    (q35_0 : (12 ≤ i2) → Q (some (.int i1)) n F)
    (in15_1 : (¬ 12 ≤ i2) → vp_in i2 12)
    (k4_2 : (¬ 12 ≤ i2) → (¬ (r0p2_f i2.toNatClampNeg) = 1) → Ev l X M_Mo_documents bc bs 4 [(0, .ref r0), (1, .int i1), (2, .int (i2 + 1))] [] n F (ev_mq X Q))
    (k4_3 : (¬ 12 ≤ i2) → ((r0p2_f i2.toNatClampNeg) = 1) → Ev l X M_Mo_documents bc bs 4 [(0, .ref r0), (1, .int (i1 + 1)), (2, .int (i2 + 1))] [] n F (ev_mq X Q)) :
    Ev l X M_Mo_documents bc bs 4 [(0, .ref r0), (1, .int i1), (2, .int i2)] [] n F (ev_mq X Q) := by
  refine ev_iload_n (pc := 4) d_Mo_documents_4 rfl ?_
  refine ev_bipush (pc := 5) 12 d_Mo_documents_5 (by decide) ?_
  refine ev_icmp_ge (pc := 7) 34 d_Mo_documents_7 (by decide) (fun c7 => ?_) (fun c7 => ?_)
  · refine ev_iload_n (pc := 34) d_Mo_documents_34 rfl ?_
    exact ev_ireturn (pc := 35) d_Mo_documents_35 rfl rfl (q35_0 c7)
  · refine ev_aload_n (pc := 10) d_Mo_documents_10 rfl ?_
    refine ev_getfield (pc := 11) 2 d_Mo_documents_11 fl_Mo_13 h_r0 rfl ?_
    refine ev_iload_n (pc := 14) d_Mo_documents_14 rfl ?_
    refine ev_iaload (pc := 15) d_Mo_documents_15 h_r0p2 rfl (in15_1 c7) ?_
    refine ev_iconst (pc := 16) 1 d_Mo_documents_16 (by decide) ?_
    refine ev_icmp_ne (pc := 17) 26 d_Mo_documents_17 (by decide) (fun c17 => ?_) (fun c17 => ?_)
    · refine ev_iload_n (pc := 26) d_Mo_documents_26 rfl ?_
      refine ev_istore_n (pc := 27) d_Mo_documents_27 (Nat.le_of_ble_eq_true rfl) [1, 0, 2] rfl ?_
      refine ev_iinc (pc := 28) 2 1 d_Mo_documents_28 rfl (by decide) (Nat.le_of_ble_eq_true rfl) [1, 2, 0] rfl ?_
      refine ev_goto (pc := 31) 4 d_Mo_documents_31 (by decide) ?_
      exact (k4_2 c7 c17)
    · refine ev_iload_n (pc := 20) d_Mo_documents_20 rfl ?_
      refine ev_iconst (pc := 21) 1 d_Mo_documents_21 (by decide) ?_
      refine ev_iadd (pc := 22) d_Mo_documents_22 ?_
      refine ev_goto (pc := 23) 27 d_Mo_documents_23 (by decide) ?_
      refine ev_istore_n (pc := 27) d_Mo_documents_27 (Nat.le_of_ble_eq_true rfl) [1, 0, 2] rfl ?_
      refine ev_iinc (pc := 28) 2 1 d_Mo_documents_28 rfl (by decide) (Nat.le_of_ble_eq_true rfl) [1, 2, 0] rfl ?_
      refine ev_goto (pc := 31) 4 d_Mo_documents_31 (by decide) ?_
      exact (k4_3 c7 c17)
set_option maxRecDepth 100000 in
set_option maxHeartbeats 4000000 in
theorem s_Mo_write_0 {l : Launch} {X : ev_X} {bc bs n : Nat} {F : ev_H} {Q : Option Value → Nat → ev_H → Prop} {r0 : Nat} {i1 : Int32} {ir0_drafted : Int32} {ir0_rows : Int32} {ir0_segments : Int32} {ir0_stopped : Int32} {ir0_fuse : Int32} {ir0_written : Int32} {ir0_tokens : Int32} {ir0_height : Int32} {ir0_results : Int32} {ir0_weighed : Int32} (h_r0 : F r0 = some (moO r0 ir0_drafted ir0_rows ir0_segments ir0_stopped ir0_fuse ir0_written ir0_tokens ir0_height ir0_results ir0_weighed))
    (q58_0 : (ir0_fuse ≤ 0) → (ir0_fuse ≤ 0) → Q (some (.int i1)) n (ev_up F r0 (moO r0 ir0_drafted ir0_rows ir0_segments ir0_stopped ir0_fuse (ir0_written + i1) ir0_tokens ir0_height ir0_results ir0_weighed)))
    (q58_1 : (ir0_fuse ≤ 0) → (¬ ir0_fuse ≤ 0) → Q (some (.int i1)) n (ev_up (ev_up F r0 (moO r0 ir0_drafted ir0_rows ir0_segments ir0_stopped (ir0_fuse - i1) ir0_written ir0_tokens ir0_height ir0_results ir0_weighed)) r0 (moO r0 ir0_drafted ir0_rows ir0_segments ir0_stopped (ir0_fuse - i1) (ir0_written + i1) ir0_tokens ir0_height ir0_results ir0_weighed)))
    (q58_2 : (¬ ir0_fuse ≤ 0) → (i1 < ir0_fuse) → (ir0_fuse ≤ 0) → Q (some (.int i1)) n (ev_up F r0 (moO r0 ir0_drafted ir0_rows ir0_segments ir0_stopped ir0_fuse (ir0_written + i1) ir0_tokens ir0_height ir0_results ir0_weighed)))
    (q58_3 : (¬ ir0_fuse ≤ 0) → (i1 < ir0_fuse) → (¬ ir0_fuse ≤ 0) → Q (some (.int i1)) n (ev_up (ev_up F r0 (moO r0 ir0_drafted ir0_rows ir0_segments ir0_stopped (ir0_fuse - i1) ir0_written ir0_tokens ir0_height ir0_results ir0_weighed)) r0 (moO r0 ir0_drafted ir0_rows ir0_segments ir0_stopped (ir0_fuse - i1) (ir0_written + i1) ir0_tokens ir0_height ir0_results ir0_weighed)))
    (q58_4 : (¬ ir0_fuse ≤ 0) → (¬ i1 < ir0_fuse) → Q (some (.int ir0_fuse)) n (ev_up (ev_up F r0 (moO r0 ir0_drafted ir0_rows ir0_segments ir0_stopped 0 ir0_written ir0_tokens ir0_height ir0_results ir0_weighed)) r0 (moO r0 ir0_drafted ir0_rows ir0_segments ir0_stopped 0 (ir0_written + ir0_fuse) ir0_tokens ir0_height ir0_results ir0_weighed))) :
    Ev l X M_Mo_write bc bs 0 [(0, .ref r0), (1, .int i1)] [] n F (ev_mq X Q) := by
  refine ev_iload_n (pc := 0) d_Mo_write_0 rfl ?_
  refine ev_istore_n (pc := 1) d_Mo_write_1 (Nat.le_of_ble_eq_true rfl) [1, 2, 0] rfl ?_
  refine ev_aload_n (pc := 2) d_Mo_write_2 rfl ?_
  refine ev_getfield (pc := 3) 13 d_Mo_write_3 fl_Mo_152 h_r0 rfl ?_
  refine ev_if_le (pc := 6) 30 d_Mo_write_6 (by decide) (fun c6 => ?_) (fun c6 => ?_)
  · refine ev_aload_n (pc := 30) d_Mo_write_30 rfl ?_
    refine ev_getfield (pc := 31) 13 d_Mo_write_31 fl_Mo_152 h_r0 rfl ?_
    refine ev_if_le (pc := 34) 47 d_Mo_write_34 (by decide) (fun c34 => ?_) (fun c34 => ?_)
    · refine ev_aload_n (pc := 47) d_Mo_write_47 rfl ?_
      refine ev_dup (pc := 48) d_Mo_write_48 rfl ?_
      refine ev_getfield (pc := 49) 14 d_Mo_write_49 fl_Mo_155 h_r0 rfl ?_
      refine ev_iload_n (pc := 52) d_Mo_write_52 rfl ?_
      refine ev_iadd (pc := 53) d_Mo_write_53 ?_
      refine ev_putfield (pc := 54) 14 _ d_Mo_write_54 fl_Mo_155 h_r0 pf_11_written rfl rfl (Nat.le_of_ble_eq_true rfl) (fun F1_ hF1_ => ?_)
      have g2_ : F1_ r0 = some (moO r0 ir0_drafted ir0_rows ir0_segments ir0_stopped ir0_fuse (ir0_written + i1) ir0_tokens ir0_height ir0_results ir0_weighed) := by rw [← hF1_]; exact ev_up_s
      refine ev_iload_n (pc := 57) d_Mo_write_57 rfl ?_
      exact ev_ireturn (pc := 58) d_Mo_write_58 rfl rfl (by subst hF1_; exact (q58_0 c6 c34))
    · refine ev_aload_n (pc := 37) d_Mo_write_37 rfl ?_
      refine ev_dup (pc := 38) d_Mo_write_38 rfl ?_
      refine ev_getfield (pc := 39) 13 d_Mo_write_39 fl_Mo_152 h_r0 rfl ?_
      refine ev_iload_n (pc := 42) d_Mo_write_42 rfl ?_
      refine ev_isub (pc := 43) d_Mo_write_43 ?_
      refine ev_putfield (pc := 44) 13 _ d_Mo_write_44 fl_Mo_152 h_r0 pf_11_fuse rfl rfl (Nat.le_of_ble_eq_true rfl) (fun F3_ hF3_ => ?_)
      have g4_ : F3_ r0 = some (moO r0 ir0_drafted ir0_rows ir0_segments ir0_stopped (ir0_fuse - i1) ir0_written ir0_tokens ir0_height ir0_results ir0_weighed) := by rw [← hF3_]; exact ev_up_s
      refine ev_aload_n (pc := 47) d_Mo_write_47 rfl ?_
      refine ev_dup (pc := 48) d_Mo_write_48 rfl ?_
      refine ev_getfield (pc := 49) 14 d_Mo_write_49 fl_Mo_155 g4_ rfl ?_
      refine ev_iload_n (pc := 52) d_Mo_write_52 rfl ?_
      refine ev_iadd (pc := 53) d_Mo_write_53 ?_
      refine ev_putfield (pc := 54) 14 _ d_Mo_write_54 fl_Mo_155 g4_ pf_11_written rfl rfl (Nat.le_of_ble_eq_true rfl) (fun F5_ hF5_ => ?_)
      have g6_ : F5_ r0 = some (moO r0 ir0_drafted ir0_rows ir0_segments ir0_stopped (ir0_fuse - i1) (ir0_written + i1) ir0_tokens ir0_height ir0_results ir0_weighed) := by rw [← hF5_]; exact ev_up_s
      refine ev_iload_n (pc := 57) d_Mo_write_57 rfl ?_
      exact ev_ireturn (pc := 58) d_Mo_write_58 rfl rfl (by subst hF3_ hF5_; exact (q58_1 c6 c34))
  · refine ev_aload_n (pc := 9) d_Mo_write_9 rfl ?_
    refine ev_getfield (pc := 10) 13 d_Mo_write_10 fl_Mo_152 h_r0 rfl ?_
    refine ev_iload_n (pc := 13) d_Mo_write_13 rfl ?_
    refine ev_icmp_gt (pc := 14) 30 d_Mo_write_14 (by decide) (fun c14 => ?_) (fun c14 => ?_)
    · refine ev_aload_n (pc := 30) d_Mo_write_30 rfl ?_
      refine ev_getfield (pc := 31) 13 d_Mo_write_31 fl_Mo_152 h_r0 rfl ?_
      refine ev_if_le (pc := 34) 47 d_Mo_write_34 (by decide) (fun c34 => ?_) (fun c34 => ?_)
      · refine ev_aload_n (pc := 47) d_Mo_write_47 rfl ?_
        refine ev_dup (pc := 48) d_Mo_write_48 rfl ?_
        refine ev_getfield (pc := 49) 14 d_Mo_write_49 fl_Mo_155 h_r0 rfl ?_
        refine ev_iload_n (pc := 52) d_Mo_write_52 rfl ?_
        refine ev_iadd (pc := 53) d_Mo_write_53 ?_
        refine ev_putfield (pc := 54) 14 _ d_Mo_write_54 fl_Mo_155 h_r0 pf_11_written rfl rfl (Nat.le_of_ble_eq_true rfl) (fun F7_ hF7_ => ?_)
        have g8_ : F7_ r0 = some (moO r0 ir0_drafted ir0_rows ir0_segments ir0_stopped ir0_fuse (ir0_written + i1) ir0_tokens ir0_height ir0_results ir0_weighed) := by rw [← hF7_]; exact ev_up_s
        refine ev_iload_n (pc := 57) d_Mo_write_57 rfl ?_
        exact ev_ireturn (pc := 58) d_Mo_write_58 rfl rfl (by subst hF7_; exact (q58_2 c6 c14 c34))
      · refine ev_aload_n (pc := 37) d_Mo_write_37 rfl ?_
        refine ev_dup (pc := 38) d_Mo_write_38 rfl ?_
        refine ev_getfield (pc := 39) 13 d_Mo_write_39 fl_Mo_152 h_r0 rfl ?_
        refine ev_iload_n (pc := 42) d_Mo_write_42 rfl ?_
        refine ev_isub (pc := 43) d_Mo_write_43 ?_
        refine ev_putfield (pc := 44) 13 _ d_Mo_write_44 fl_Mo_152 h_r0 pf_11_fuse rfl rfl (Nat.le_of_ble_eq_true rfl) (fun F9_ hF9_ => ?_)
        have g10_ : F9_ r0 = some (moO r0 ir0_drafted ir0_rows ir0_segments ir0_stopped (ir0_fuse - i1) ir0_written ir0_tokens ir0_height ir0_results ir0_weighed) := by rw [← hF9_]; exact ev_up_s
        refine ev_aload_n (pc := 47) d_Mo_write_47 rfl ?_
        refine ev_dup (pc := 48) d_Mo_write_48 rfl ?_
        refine ev_getfield (pc := 49) 14 d_Mo_write_49 fl_Mo_155 g10_ rfl ?_
        refine ev_iload_n (pc := 52) d_Mo_write_52 rfl ?_
        refine ev_iadd (pc := 53) d_Mo_write_53 ?_
        refine ev_putfield (pc := 54) 14 _ d_Mo_write_54 fl_Mo_155 g10_ pf_11_written rfl rfl (Nat.le_of_ble_eq_true rfl) (fun F11_ hF11_ => ?_)
        have g12_ : F11_ r0 = some (moO r0 ir0_drafted ir0_rows ir0_segments ir0_stopped (ir0_fuse - i1) (ir0_written + i1) ir0_tokens ir0_height ir0_results ir0_weighed) := by rw [← hF11_]; exact ev_up_s
        refine ev_iload_n (pc := 57) d_Mo_write_57 rfl ?_
        exact ev_ireturn (pc := 58) d_Mo_write_58 rfl rfl (by subst hF9_ hF11_; exact (q58_3 c6 c14 c34))
    · refine ev_aload_n (pc := 17) d_Mo_write_17 rfl ?_
      refine ev_getfield (pc := 18) 13 d_Mo_write_18 fl_Mo_152 h_r0 rfl ?_
      refine ev_istore_n (pc := 21) d_Mo_write_21 (Nat.le_of_ble_eq_true rfl) [1, 2, 0] rfl ?_
      refine ev_aload_n (pc := 22) d_Mo_write_22 rfl ?_
      refine ev_iconst (pc := 23) 0 d_Mo_write_23 (by decide) ?_
      refine ev_putfield (pc := 24) 13 _ d_Mo_write_24 fl_Mo_152 h_r0 pf_11_fuse rfl rfl (Nat.le_of_ble_eq_true rfl) (fun F13_ hF13_ => ?_)
      have g14_ : F13_ r0 = some (moO r0 ir0_drafted ir0_rows ir0_segments ir0_stopped 0 ir0_written ir0_tokens ir0_height ir0_results ir0_weighed) := by rw [← hF13_]; exact ev_up_s
      refine ev_goto (pc := 27) 47 d_Mo_write_27 (by decide) ?_
      refine ev_aload_n (pc := 47) d_Mo_write_47 rfl ?_
      refine ev_dup (pc := 48) d_Mo_write_48 rfl ?_
      refine ev_getfield (pc := 49) 14 d_Mo_write_49 fl_Mo_155 g14_ rfl ?_
      refine ev_iload_n (pc := 52) d_Mo_write_52 rfl ?_
      refine ev_iadd (pc := 53) d_Mo_write_53 ?_
      refine ev_putfield (pc := 54) 14 _ d_Mo_write_54 fl_Mo_155 g14_ pf_11_written rfl rfl (Nat.le_of_ble_eq_true rfl) (fun F15_ hF15_ => ?_)
      have g16_ : F15_ r0 = some (moO r0 ir0_drafted ir0_rows ir0_segments ir0_stopped 0 (ir0_written + ir0_fuse) ir0_tokens ir0_height ir0_results ir0_weighed) := by rw [← hF15_]; exact ev_up_s
      refine ev_iload_n (pc := 57) d_Mo_write_57 rfl ?_
      exact ev_ireturn (pc := 58) d_Mo_write_58 rfl rfl (by subst hF13_ hF15_; exact (q58_4 c6 c14))
set_option maxRecDepth 100000 in
set_option maxHeartbeats 4000000 in
theorem s_Mo_stop_0 {l : Launch} {X : ev_X} {bc bs n : Nat} {F : ev_H} {Q : Option Value → Nat → ev_H → Prop} {r0 : Nat} {ir0_drafted : Int32} {ir0_rows : Int32} {ir0_segments : Int32} {ir0_stopped : Int32} {ir0_fuse : Int32} {ir0_written : Int32} {ir0_tokens : Int32} {ir0_height : Int32} {ir0_results : Int32} {ir0_weighed : Int32} (h_r0 : F r0 = some (moO r0 ir0_drafted ir0_rows ir0_segments ir0_stopped ir0_fuse ir0_written ir0_tokens ir0_height ir0_results ir0_weighed))
    (k12_0 : Ev l X M_Mo_stop bc bs 12 [(0, .ref r0), (1, .int 0)] [] n (ev_up (ev_up F r0 (moO r0 ir0_drafted ir0_rows ir0_segments 1 ir0_fuse ir0_written ir0_tokens ir0_height ir0_results ir0_weighed)) r0 (moO r0 0 ir0_rows ir0_segments 1 ir0_fuse ir0_written ir0_tokens ir0_height ir0_results ir0_weighed)) (ev_mq X Q)) :
    Ev l X M_Mo_stop bc bs 0 [(0, .ref r0)] [] n F (ev_mq X Q) := by
  refine ev_aload_n (pc := 0) d_Mo_stop_0 rfl ?_
  refine ev_iconst (pc := 1) 1 d_Mo_stop_1 (by decide) ?_
  refine ev_putfield (pc := 2) 12 _ d_Mo_stop_2 fl_Mo_131 h_r0 pf_11_stopped rfl rfl (Nat.le_of_ble_eq_true rfl) (fun F1_ hF1_ => ?_)
  have g2_ : F1_ r0 = some (moO r0 ir0_drafted ir0_rows ir0_segments 1 ir0_fuse ir0_written ir0_tokens ir0_height ir0_results ir0_weighed) := by rw [← hF1_]; exact ev_up_s
  refine ev_aload_n (pc := 5) d_Mo_stop_5 rfl ?_
  refine ev_iconst (pc := 6) 0 d_Mo_stop_6 (by decide) ?_
  refine ev_putfield (pc := 7) 1 _ d_Mo_stop_7 fl_Mo_135 g2_ pf_11_drafted rfl rfl (Nat.le_of_ble_eq_true rfl) (fun F3_ hF3_ => ?_)
  have g4_ : F3_ r0 = some (moO r0 0 ir0_rows ir0_segments 1 ir0_fuse ir0_written ir0_tokens ir0_height ir0_results ir0_weighed) := by rw [← hF3_]; exact ev_up_s
  refine ev_iconst (pc := 10) 0 d_Mo_stop_10 (by decide) ?_
  refine ev_istore_n (pc := 11) d_Mo_stop_11 (Nat.le_of_ble_eq_true rfl) [1, 0] rfl ?_
  exact (by subst hF1_ hF3_; exact k12_0)

set_option maxRecDepth 100000 in
set_option maxHeartbeats 4000000 in
theorem s_Mo_stop_12 {l : Launch} {X : ev_X} {bc bs n : Nat} {F : ev_H} {Q : Option Value → Nat → ev_H → Prop} {r0 : Nat} {i1 : Int32} {ir0_drafted : Int32} {ir0_rows : Int32} {ir0_segments : Int32} {ir0_stopped : Int32} {ir0_fuse : Int32} {ir0_written : Int32} {ir0_tokens : Int32} {ir0_height : Int32} {ir0_results : Int32} {ir0_weighed : Int32} {r0p2_f : Nat → Int32} (h_r0 : F r0 = some (moO r0 ir0_drafted ir0_rows ir0_segments ir0_stopped ir0_fuse ir0_written ir0_tokens ir0_height ir0_results ir0_weighed)) (h_r0p2 : F (r0 + 2) = some (.inl (0, 12, .inl r0p2_f)))
    (q41_0 : (12 ≤ i1) → Q none n (ev_up (ev_up F r0 (moO r0 ir0_drafted ir0_rows ir0_segments ir0_stopped ir0_fuse ir0_written 0 ir0_height ir0_results ir0_weighed)) r0 (moO r0 ir0_drafted ir0_rows ir0_segments ir0_stopped ir0_fuse ir0_written 0 0 ir0_results ir0_weighed)))
    (in24_1 : (¬ 12 ≤ i1) → vp_in i1 12)
    (k12_2 : (¬ 12 ≤ i1) → Ev l X M_Mo_stop bc bs 12 [(0, .ref r0), (1, .int (i1 + 1))] [] n (ev_up F (r0 + 2) (.inl (0, 12, .inl (upd r0p2_f i1.toNatClampNeg 0)))) (ev_mq X Q)) :
    Ev l X M_Mo_stop bc bs 12 [(0, .ref r0), (1, .int i1)] [] n F (ev_mq X Q) := by
  refine ev_iload_n (pc := 12) d_Mo_stop_12 rfl ?_
  refine ev_bipush (pc := 13) 12 d_Mo_stop_13 (by decide) ?_
  refine ev_icmp_ge (pc := 15) 31 d_Mo_stop_15 (by decide) (fun c15 => ?_) (fun c15 => ?_)
  · refine ev_aload_n (pc := 31) d_Mo_stop_31 rfl ?_
    refine ev_iconst (pc := 32) 0 d_Mo_stop_32 (by decide) ?_
    refine ev_putfield (pc := 33) 15 _ d_Mo_stop_33 fl_Mo_146 h_r0 pf_11_tokens rfl rfl (Nat.le_of_ble_eq_true rfl) (fun F1_ hF1_ => ?_)
    have g2_ : F1_ r0 = some (moO r0 ir0_drafted ir0_rows ir0_segments ir0_stopped ir0_fuse ir0_written 0 ir0_height ir0_results ir0_weighed) := by rw [← hF1_]; exact ev_up_s
    refine ev_aload_n (pc := 36) d_Mo_stop_36 rfl ?_
    refine ev_iconst (pc := 37) 0 d_Mo_stop_37 (by decide) ?_
    refine ev_putfield (pc := 38) 18 _ d_Mo_stop_38 fl_Mo_149 g2_ pf_11_height rfl rfl (Nat.le_of_ble_eq_true rfl) (fun F3_ hF3_ => ?_)
    have g4_ : F3_ r0 = some (moO r0 ir0_drafted ir0_rows ir0_segments ir0_stopped ir0_fuse ir0_written 0 0 ir0_results ir0_weighed) := by rw [← hF3_]; exact ev_up_s
    exact ev_return (pc := 41) d_Mo_stop_41 rfl (by subst hF1_ hF3_; exact (q41_0 c15))
  · refine ev_aload_n (pc := 18) d_Mo_stop_18 rfl ?_
    refine ev_getfield (pc := 19) 2 d_Mo_stop_19 fl_Mo_13 h_r0 rfl ?_
    refine ev_iload_n (pc := 22) d_Mo_stop_22 rfl ?_
    refine ev_iconst (pc := 23) 0 d_Mo_stop_23 (by decide) ?_
    refine ev_iastore (pc := 24) d_Mo_stop_24 h_r0p2 rfl (in24_1 c15) (fun F5_ hF5_ => ?_)
    have g6_ : F5_ r0 = some (moO r0 ir0_drafted ir0_rows ir0_segments ir0_stopped ir0_fuse ir0_written ir0_tokens ir0_height ir0_results ir0_weighed) := by rw [← hF5_]; exact ev_up_k (ev_ne_oa h_r0 h_r0p2) h_r0
    have g7_ : F5_ (r0 + 2) = some (.inl (0, 12, .inl (upd r0p2_f i1.toNatClampNeg 0))) := by rw [← hF5_]; exact ev_up_s
    refine ev_iinc (pc := 25) 1 1 d_Mo_stop_25 rfl (by decide) (Nat.le_of_ble_eq_true rfl) [1, 0] rfl ?_
    refine ev_goto (pc := 28) 12 d_Mo_stop_28 (by decide) ?_
    exact (by subst hF5_; exact (k12_2 c15))
set_option maxRecDepth 100000 in
set_option maxHeartbeats 4000000 in
theorem s_Mo_live_0 {l : Launch} {X : ev_X} {bc bs n : Nat} {F : ev_H} {Q : Option Value → Nat → ev_H → Prop} {r0 : Nat} 
    (k4_0 : Ev l X M_Mo_live bc bs 4 [(0, .ref r0), (1, .int 0), (2, .int 0)] [] n F (ev_mq X Q)) :
    Ev l X M_Mo_live bc bs 0 [(0, .ref r0)] [] n F (ev_mq X Q) := by
  refine ev_iconst (pc := 0) 0 d_Mo_live_0 (by decide) ?_
  refine ev_istore_n (pc := 1) d_Mo_live_1 (Nat.le_of_ble_eq_true rfl) [1, 0] rfl ?_
  refine ev_iconst (pc := 2) 0 d_Mo_live_2 (by decide) ?_
  refine ev_istore_n (pc := 3) d_Mo_live_3 (Nat.le_of_ble_eq_true rfl) [1, 2, 0] rfl ?_
  exact k4_0

set_option maxRecDepth 100000 in
set_option maxHeartbeats 4000000 in
theorem s_Mo_live_4 {l : Launch} {X : ev_X} {bc bs n : Nat} {F : ev_H} {Q : Option Value → Nat → ev_H → Prop} {r0 : Nat} {i1 : Int32} {i2 : Int32} {ir0_drafted : Int32} {ir0_rows : Int32} {ir0_segments : Int32} {ir0_stopped : Int32} {ir0_fuse : Int32} {ir0_written : Int32} {ir0_tokens : Int32} {ir0_height : Int32} {ir0_results : Int32} {ir0_weighed : Int32} {r0p7_f : Nat → Int32} (h_r0 : F r0 = some (moO r0 ir0_drafted ir0_rows ir0_segments ir0_stopped ir0_fuse ir0_written ir0_tokens ir0_height ir0_results ir0_weighed)) (h_r0p7 : F (r0 + 7) = some (.inl (2, 80, .inl r0p7_f)))
    (q36_0 : (ir0_rows ≤ i2) → Q (some (.int i1)) n F)
    (in17_1 : (¬ ir0_rows ≤ i2) → vp_in i2 80)
    (k4_2 : (¬ ir0_rows ≤ i2) → ((r0p7_f i2.toNatClampNeg) = 0) → Ev l X M_Mo_live bc bs 4 [(0, .ref r0), (1, .int (i1 + 1)), (2, .int (i2 + 1))] [] n F (ev_mq X Q))
    (k4_3 : (¬ ir0_rows ≤ i2) → (¬ (r0p7_f i2.toNatClampNeg) = 0) → Ev l X M_Mo_live bc bs 4 [(0, .ref r0), (1, .int i1), (2, .int (i2 + 1))] [] n F (ev_mq X Q)) :
    Ev l X M_Mo_live bc bs 4 [(0, .ref r0), (1, .int i1), (2, .int i2)] [] n F (ev_mq X Q) := by
  refine ev_iload_n (pc := 4) d_Mo_live_4 rfl ?_
  refine ev_aload_n (pc := 5) d_Mo_live_5 rfl ?_
  refine ev_getfield (pc := 6) 5 d_Mo_live_6 fl_Mo_158 h_r0 rfl ?_
  refine ev_icmp_ge (pc := 9) 35 d_Mo_live_9 (by decide) (fun c9 => ?_) (fun c9 => ?_)
  · refine ev_iload_n (pc := 35) d_Mo_live_35 rfl ?_
    exact ev_ireturn (pc := 36) d_Mo_live_36 rfl rfl (q36_0 c9)
  · refine ev_aload_n (pc := 12) d_Mo_live_12 rfl ?_
    refine ev_getfield (pc := 13) 8 d_Mo_live_13 fl_Mo_29 h_r0 rfl ?_
    refine ev_iload_n (pc := 16) d_Mo_live_16 rfl ?_
    refine ev_zaload (pc := 17) d_Mo_live_17 h_r0p7 rfl (in17_1 c9) ?_
    refine ev_if_eq (pc := 18) 25 d_Mo_live_18 (by decide) (fun c18 => ?_) (fun c18 => ?_)
    · refine ev_iload_n (pc := 25) d_Mo_live_25 rfl ?_
      refine ev_iconst (pc := 26) 1 d_Mo_live_26 (by decide) ?_
      refine ev_iadd (pc := 27) d_Mo_live_27 ?_
      refine ev_istore_n (pc := 28) d_Mo_live_28 (Nat.le_of_ble_eq_true rfl) [1, 0, 2] rfl ?_
      refine ev_iinc (pc := 29) 2 1 d_Mo_live_29 rfl (by decide) (Nat.le_of_ble_eq_true rfl) [1, 2, 0] rfl ?_
      refine ev_goto (pc := 32) 4 d_Mo_live_32 (by decide) ?_
      exact (k4_2 c9 c18)
    · refine ev_iload_n (pc := 21) d_Mo_live_21 rfl ?_
      refine ev_goto (pc := 22) 28 d_Mo_live_22 (by decide) ?_
      refine ev_istore_n (pc := 28) d_Mo_live_28 (Nat.le_of_ble_eq_true rfl) [1, 0, 2] rfl ?_
      refine ev_iinc (pc := 29) 2 1 d_Mo_live_29 rfl (by decide) (Nat.le_of_ble_eq_true rfl) [1, 2, 0] rfl ?_
      refine ev_goto (pc := 32) 4 d_Mo_live_32 (by decide) ?_
      exact (k4_3 c9 c18)
set_option maxRecDepth 100000 in
set_option maxHeartbeats 4000000 in
theorem s_Mo_copyRow_0 {l : Launch} {X : ev_X} {bc bs n : Nat} {F : ev_H} {Q : Option Value → Nat → ev_H → Prop} {r0 : Nat} {i1 : Int32} {i2 : Int32} {ir0_drafted : Int32} {ir0_rows : Int32} {ir0_segments : Int32} {ir0_stopped : Int32} {ir0_fuse : Int32} {ir0_written : Int32} {ir0_tokens : Int32} {ir0_height : Int32} {ir0_results : Int32} {ir0_weighed : Int32} {r0p5_f : Nat → Int32} {r0p6_f : Nat → Int32} {r0p7_f : Nat → Int32} {r0p8_f : Nat → Int32} (h_r0 : F r0 = some (moO r0 ir0_drafted ir0_rows ir0_segments ir0_stopped ir0_fuse ir0_written ir0_tokens ir0_height ir0_results ir0_weighed)) (h_r0p5 : F (r0 + 5) = some (.inl (0, 80, .inl r0p5_f))) (h_r0p6 : F (r0 + 6) = some (.inl (0, 80, .inl r0p6_f))) (h_r0p7 : F (r0 + 7) = some (.inl (2, 80, .inl r0p7_f))) (h_r0p8 : F (r0 + 8) = some (.inl (0, 80, .inl r0p8_f)))
    (in10_0 : vp_in i1 80)
    (in11_1 : vp_in i2 80)
    (in22_2 : vp_in i1 80)
    (in23_3 : vp_in i2 80)
    (in34_4 : vp_in i1 80)
    (in35_5 : vp_in i2 80)
    (nr35_6 : narrow .boolean (.int (r0p7_f i1.toNatClampNeg)) = .int (r0p7_f i1.toNatClampNeg))
    (in46_7 : vp_in i1 80)
    (in47_8 : vp_in i2 80)
    (k50_9 : Ev l X M_Mo_copyRow bc bs 50 [(0, .ref r0), (1, .int i1), (2, .int i2), (3, .int 0)] [] n (ev_up (ev_up (ev_up (ev_up F (r0 + 5) (.inl (0, 80, .inl (upd r0p5_f i2.toNatClampNeg (r0p5_f i1.toNatClampNeg))))) (r0 + 6) (.inl (0, 80, .inl (upd r0p6_f i2.toNatClampNeg (r0p6_f i1.toNatClampNeg))))) (r0 + 7) (.inl (2, 80, .inl (upd r0p7_f i2.toNatClampNeg (r0p7_f i1.toNatClampNeg))))) (r0 + 8) (.inl (0, 80, .inl (upd r0p8_f i2.toNatClampNeg (r0p8_f i1.toNatClampNeg))))) (ev_mq X Q)) :
    Ev l X M_Mo_copyRow bc bs 0 [(0, .ref r0), (1, .int i1), (2, .int i2)] [] n F (ev_mq X Q) := by
  refine ev_aload_n (pc := 0) d_Mo_copyRow_0 rfl ?_
  refine ev_getfield (pc := 1) 6 d_Mo_copyRow_1 fl_Mo_23 h_r0 rfl ?_
  refine ev_iload_n (pc := 4) d_Mo_copyRow_4 rfl ?_
  refine ev_aload_n (pc := 5) d_Mo_copyRow_5 rfl ?_
  refine ev_getfield (pc := 6) 6 d_Mo_copyRow_6 fl_Mo_23 h_r0 rfl ?_
  refine ev_iload_n (pc := 9) d_Mo_copyRow_9 rfl ?_
  refine ev_iaload (pc := 10) d_Mo_copyRow_10 h_r0p5 rfl in10_0 ?_
  refine ev_iastore (pc := 11) d_Mo_copyRow_11 h_r0p5 rfl in11_1 (fun F1_ hF1_ => ?_)
  have g2_ : F1_ r0 = some (moO r0 ir0_drafted ir0_rows ir0_segments ir0_stopped ir0_fuse ir0_written ir0_tokens ir0_height ir0_results ir0_weighed) := by rw [← hF1_]; exact ev_up_k (ev_ne_oa h_r0 h_r0p5) h_r0
  have g3_ : F1_ (r0 + 5) = some (.inl (0, 80, .inl (upd r0p5_f i2.toNatClampNeg (r0p5_f i1.toNatClampNeg)))) := by rw [← hF1_]; exact ev_up_s
  refine ev_aload_n (pc := 12) d_Mo_copyRow_12 rfl ?_
  refine ev_getfield (pc := 13) 7 d_Mo_copyRow_13 fl_Mo_26 g2_ rfl ?_
  refine ev_iload_n (pc := 16) d_Mo_copyRow_16 rfl ?_
  refine ev_aload_n (pc := 17) d_Mo_copyRow_17 rfl ?_
  refine ev_getfield (pc := 18) 7 d_Mo_copyRow_18 fl_Mo_26 g2_ rfl ?_
  refine ev_iload_n (pc := 21) d_Mo_copyRow_21 rfl ?_
  have g4_ : F1_ (r0 + 6) = some (.inl (0, 80, .inl r0p6_f)) := by rw [← hF1_]; exact ev_up_k (by omega) h_r0p6
  refine ev_iaload (pc := 22) d_Mo_copyRow_22 g4_ rfl in22_2 ?_
  refine ev_iastore (pc := 23) d_Mo_copyRow_23 g4_ rfl in23_3 (fun F5_ hF5_ => ?_)
  have g6_ : F5_ r0 = some (moO r0 ir0_drafted ir0_rows ir0_segments ir0_stopped ir0_fuse ir0_written ir0_tokens ir0_height ir0_results ir0_weighed) := by rw [← hF5_]; exact ev_up_k (ev_ne_oa g2_ g4_) g2_
  have g7_ : F5_ (r0 + 5) = some (.inl (0, 80, .inl (upd r0p5_f i2.toNatClampNeg (r0p5_f i1.toNatClampNeg)))) := by rw [← hF5_]; exact ev_up_k (by omega) g3_
  have g8_ : F5_ (r0 + 6) = some (.inl (0, 80, .inl (upd r0p6_f i2.toNatClampNeg (r0p6_f i1.toNatClampNeg)))) := by rw [← hF5_]; exact ev_up_s
  refine ev_aload_n (pc := 24) d_Mo_copyRow_24 rfl ?_
  refine ev_getfield (pc := 25) 8 d_Mo_copyRow_25 fl_Mo_29 g6_ rfl ?_
  refine ev_iload_n (pc := 28) d_Mo_copyRow_28 rfl ?_
  refine ev_aload_n (pc := 29) d_Mo_copyRow_29 rfl ?_
  refine ev_getfield (pc := 30) 8 d_Mo_copyRow_30 fl_Mo_29 g6_ rfl ?_
  refine ev_iload_n (pc := 33) d_Mo_copyRow_33 rfl ?_
  have g9_ : F1_ (r0 + 7) = some (.inl (2, 80, .inl r0p7_f)) := by rw [← hF1_]; exact ev_up_k (ev_ne_aa h_r0p7 h_r0p5 rfl) h_r0p7
  have g10_ : F5_ (r0 + 7) = some (.inl (2, 80, .inl r0p7_f)) := by rw [← hF5_]; exact ev_up_k (ev_ne_aa g9_ g4_ rfl) g9_
  refine ev_zaload (pc := 34) d_Mo_copyRow_34 g10_ rfl in34_4 ?_
  refine ev_zastore (pc := 35) d_Mo_copyRow_35 g10_ rfl in35_5 nr35_6 (fun F11_ hF11_ => ?_)
  have g12_ : F11_ r0 = some (moO r0 ir0_drafted ir0_rows ir0_segments ir0_stopped ir0_fuse ir0_written ir0_tokens ir0_height ir0_results ir0_weighed) := by rw [← hF11_]; exact ev_up_k (ev_ne_oa g6_ g10_) g6_
  have g13_ : F11_ (r0 + 5) = some (.inl (0, 80, .inl (upd r0p5_f i2.toNatClampNeg (r0p5_f i1.toNatClampNeg)))) := by rw [← hF11_]; exact ev_up_k (ev_ne_aa g7_ g10_ rfl) g7_
  have g14_ : F11_ (r0 + 6) = some (.inl (0, 80, .inl (upd r0p6_f i2.toNatClampNeg (r0p6_f i1.toNatClampNeg)))) := by rw [← hF11_]; exact ev_up_k (ev_ne_aa g8_ g10_ rfl) g8_
  have g15_ : F11_ (r0 + 7) = some (.inl (2, 80, .inl (upd r0p7_f i2.toNatClampNeg (r0p7_f i1.toNatClampNeg)))) := by rw [← hF11_]; exact ev_up_s
  refine ev_aload_n (pc := 36) d_Mo_copyRow_36 rfl ?_
  refine ev_getfield (pc := 37) 9 d_Mo_copyRow_37 fl_Mo_33 g12_ rfl ?_
  refine ev_iload_n (pc := 40) d_Mo_copyRow_40 rfl ?_
  refine ev_aload_n (pc := 41) d_Mo_copyRow_41 rfl ?_
  refine ev_getfield (pc := 42) 9 d_Mo_copyRow_42 fl_Mo_33 g12_ rfl ?_
  refine ev_iload_n (pc := 45) d_Mo_copyRow_45 rfl ?_
  have g16_ : F1_ (r0 + 8) = some (.inl (0, 80, .inl r0p8_f)) := by rw [← hF1_]; exact ev_up_k (by omega) h_r0p8
  have g17_ : F5_ (r0 + 8) = some (.inl (0, 80, .inl r0p8_f)) := by rw [← hF5_]; exact ev_up_k (by omega) g16_
  have g18_ : F11_ (r0 + 8) = some (.inl (0, 80, .inl r0p8_f)) := by rw [← hF11_]; exact ev_up_k (ev_ne_aa g17_ g10_ rfl) g17_
  refine ev_iaload (pc := 46) d_Mo_copyRow_46 g18_ rfl in46_7 ?_
  refine ev_iastore (pc := 47) d_Mo_copyRow_47 g18_ rfl in47_8 (fun F19_ hF19_ => ?_)
  have g20_ : F19_ r0 = some (moO r0 ir0_drafted ir0_rows ir0_segments ir0_stopped ir0_fuse ir0_written ir0_tokens ir0_height ir0_results ir0_weighed) := by rw [← hF19_]; exact ev_up_k (ev_ne_oa g12_ g18_) g12_
  have g21_ : F19_ (r0 + 5) = some (.inl (0, 80, .inl (upd r0p5_f i2.toNatClampNeg (r0p5_f i1.toNatClampNeg)))) := by rw [← hF19_]; exact ev_up_k (by omega) g13_
  have g22_ : F19_ (r0 + 6) = some (.inl (0, 80, .inl (upd r0p6_f i2.toNatClampNeg (r0p6_f i1.toNatClampNeg)))) := by rw [← hF19_]; exact ev_up_k (by omega) g14_
  have g23_ : F19_ (r0 + 7) = some (.inl (2, 80, .inl (upd r0p7_f i2.toNatClampNeg (r0p7_f i1.toNatClampNeg)))) := by rw [← hF19_]; exact ev_up_k (ev_ne_aa g15_ g18_ rfl) g15_
  have g24_ : F19_ (r0 + 8) = some (.inl (0, 80, .inl (upd r0p8_f i2.toNatClampNeg (r0p8_f i1.toNatClampNeg)))) := by rw [← hF19_]; exact ev_up_s
  refine ev_iconst (pc := 48) 0 d_Mo_copyRow_48 (by decide) ?_
  refine ev_istore_n (pc := 49) d_Mo_copyRow_49 (Nat.le_of_ble_eq_true rfl) [1, 2, 3, 0] rfl ?_
  exact (by subst hF1_ hF5_ hF11_ hF19_; exact k50_9)

set_option maxRecDepth 100000 in
set_option maxHeartbeats 4000000 in
theorem s_Mo_copyRow_50 {l : Launch} {X : ev_X} {bc bs n : Nat} {F : ev_H} {Q : Option Value → Nat → ev_H → Prop} {r0 : Nat} {i1 : Int32} {i2 : Int32} {i3 : Int32} {ir0_drafted : Int32} {ir0_rows : Int32} {ir0_segments : Int32} {ir0_stopped : Int32} {ir0_fuse : Int32} {ir0_written : Int32} {ir0_tokens : Int32} {ir0_height : Int32} {ir0_results : Int32} {ir0_weighed : Int32} {r0p9_f : Nat → Int64} (h_r0 : F r0 = some (moO r0 ir0_drafted ir0_rows ir0_segments ir0_stopped ir0_fuse ir0_written ir0_tokens ir0_height ir0_results ir0_weighed)) (h_r0p9 : F (r0 + 9) = some (.inl (1, 960, .inr (.inl r0p9_f))))
    (q84_0 : (12 ≤ i3) → Q none n F)
    (in76_1 : (¬ 12 ≤ i3) → vp_in ((12 * i1) + i3) 960)
    (in77_2 : (¬ 12 ≤ i3) → vp_in ((12 * i2) + i3) 960)
    (k50_3 : (¬ 12 ≤ i3) → Ev l X M_Mo_copyRow bc bs 50 [(0, .ref r0), (1, .int i1), (2, .int i2), (3, .int (i3 + 1))] [] n (ev_up F (r0 + 9) (.inl (1, 960, .inr (.inl (vp_updL r0p9_f ((12 * i2) + i3).toNatClampNeg (r0p9_f ((12 * i1) + i3).toNatClampNeg)))))) (ev_mq X Q)) :
    Ev l X M_Mo_copyRow bc bs 50 [(0, .ref r0), (1, .int i1), (2, .int i2), (3, .int i3)] [] n F (ev_mq X Q) := by
  refine ev_iload_n (pc := 50) d_Mo_copyRow_50 rfl ?_
  refine ev_bipush (pc := 51) 12 d_Mo_copyRow_51 (by decide) ?_
  refine ev_icmp_ge (pc := 53) 84 d_Mo_copyRow_53 (by decide) (fun c53 => ?_) (fun c53 => ?_)
  · exact ev_return (pc := 84) d_Mo_copyRow_84 rfl (q84_0 c53)
  · refine ev_aload_n (pc := 56) d_Mo_copyRow_56 rfl ?_
    refine ev_getfield (pc := 57) 10 d_Mo_copyRow_57 fl_Mo_36 h_r0 rfl ?_
    refine ev_bipush (pc := 60) 12 d_Mo_copyRow_60 (by decide) ?_
    refine ev_iload_n (pc := 62) d_Mo_copyRow_62 rfl ?_
    refine ev_imul (pc := 63) d_Mo_copyRow_63 ?_
    refine ev_iload_n (pc := 64) d_Mo_copyRow_64 rfl ?_
    refine ev_iadd (pc := 65) d_Mo_copyRow_65 ?_
    refine ev_aload_n (pc := 66) d_Mo_copyRow_66 rfl ?_
    refine ev_getfield (pc := 67) 10 d_Mo_copyRow_67 fl_Mo_36 h_r0 rfl ?_
    refine ev_bipush (pc := 70) 12 d_Mo_copyRow_70 (by decide) ?_
    refine ev_iload_n (pc := 72) d_Mo_copyRow_72 rfl ?_
    refine ev_imul (pc := 73) d_Mo_copyRow_73 ?_
    refine ev_iload_n (pc := 74) d_Mo_copyRow_74 rfl ?_
    refine ev_iadd (pc := 75) d_Mo_copyRow_75 ?_
    refine ev_laload (pc := 76) d_Mo_copyRow_76 h_r0p9 rfl (in76_1 c53) ?_
    refine ev_lastore (pc := 77) d_Mo_copyRow_77 h_r0p9 rfl (in77_2 c53) (fun F1_ hF1_ => ?_)
    have g2_ : F1_ r0 = some (moO r0 ir0_drafted ir0_rows ir0_segments ir0_stopped ir0_fuse ir0_written ir0_tokens ir0_height ir0_results ir0_weighed) := by rw [← hF1_]; exact ev_up_k (ev_ne_oa h_r0 h_r0p9) h_r0
    have g3_ : F1_ (r0 + 9) = some (.inl (1, 960, .inr (.inl (vp_updL r0p9_f ((12 * i2) + i3).toNatClampNeg (r0p9_f ((12 * i1) + i3).toNatClampNeg))))) := by rw [← hF1_]; exact ev_up_s
    refine ev_iinc (pc := 78) 3 1 d_Mo_copyRow_78 rfl (by decide) (Nat.le_of_ble_eq_true rfl) [1, 2, 3, 0] rfl ?_
    refine ev_goto (pc := 81) 50 d_Mo_copyRow_81 (by decide) ?_
    exact (by subst hF1_; exact (k50_3 c53))
