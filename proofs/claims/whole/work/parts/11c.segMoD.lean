set_option maxRecDepth 100000 in
set_option maxHeartbeats 4000000 in
theorem s_Mo_term_0 {l : Launch} {X : ev_X} {bc bs n : Nat} {F : ev_H} {Q : Option Value → Nat → ev_H → Prop} {r0 : Nat} {j1 : Int64} {ir0_drafted : Int32} {ir0_rows : Int32} {ir0_segments : Int32} {ir0_stopped : Int32} {ir0_fuse : Int32} {ir0_written : Int32} {ir0_tokens : Int32} {ir0_height : Int32} {ir0_results : Int32} {ir0_weighed : Int32} {v11 : Int32} {v31 : Int64} {Q35 : Option Value → Nat → ev_H → Prop} {bc35 : Nat} {bs35 : Nat} {rc35 : Nat} {rs35 : Nat} (h_r0 : F r0 = some (moO r0 ir0_drafted ir0_rows ir0_segments ir0_stopped ir0_fuse ir0_written ir0_tokens ir0_height ir0_results ir0_weighed)) (hb_rc35 : rc35 + bc35 ≤ bc) (hs_rs35 : rs35 + bs35 ≤ bs)
    (c11_0 : (ir0_stopped = 0) → Cal l X M_Mo_isWord 0 0 [.long j1] n F (ev_pure (.int v11) n F))
    (q27_1 : (ir0_stopped = 0) → (v11 = 0) → Q (some (.int (-1))) n F)
    (c31_2 : (ir0_stopped = 0) → (¬ v11 = 0) → (¬ ir0_height = 8) → Cal l X M_Mo_termOf 0 0 [.long j1] n F (ev_pure (.long v31) n F))
    (c35_3 : (ir0_stopped = 0) → (¬ v11 = 0) → (¬ ir0_height = 8) → Cal l X M_Mo_push bc35 bs35 [.ref r0, .int 0, .long v31, .int 1] n F Q35)
    (k38_4 : (ir0_stopped = 0) → (¬ v11 = 0) → (¬ ir0_height = 8) → ∀ v2 n2 F2, Q35 v2 n2 F2 → Ev l X M_Mo_term rc35 rs35 38 [(0, .ref r0), (1, .long j1)] (v2.toList ++ []) n2 F2 (ev_mq X Q))
    (q27_5 : (ir0_stopped = 0) → (¬ v11 = 0) → (ir0_height = 8) → Q (some (.int (-1))) n F)
    (q9_6 : (¬ ir0_stopped = 0) → Q (some (.int (-9))) n F) :
    Ev l X M_Mo_term bc bs 0 [(0, .ref r0), (1, .long j1)] [] n F (ev_mq X Q) := by
  refine ev_aload_n (pc := 0) d_Mo_term_0 rfl ?_
  refine ev_getfield (pc := 1) 12 d_Mo_term_1 fl_Mo_131 h_r0 rfl ?_
  refine ev_if_eq (pc := 4) 10 d_Mo_term_4 (by decide) (fun c4 => ?_) (fun c4 => ?_)
  · refine ev_lload_n (pc := 10) d_Mo_term_10 rfl ?_
    refine ev_invokestatic (pc := 11) (As := [.long j1]) (st := []) (Q2 := ev_pure (.int v11) n F) (bc1 := 0) (bs1 := 0) M_Mo_isWord d_Mo_term_11 lc_Mo_122 wd_989 rfl rfl (Nat.le_of_ble_eq_true rfl) (Nat.le_of_ble_eq_true rfl) (Nat.le_of_ble_eq_true rfl) (Nat.le_refl _) (Nat.le_refl _) (c11_0 c4) ?_
    refine ev_purek ?_
    refine ev_if_eq (pc := 14) 26 d_Mo_term_14 (by decide) (fun c14 => ?_) (fun c14 => ?_)
    · refine ev_iconst (pc := 26) (-1) d_Mo_term_26 (by decide) ?_
      exact ev_ireturn (pc := 27) d_Mo_term_27 rfl rfl (q27_1 c4 c14)
    · refine ev_aload_n (pc := 17) d_Mo_term_17 rfl ?_
      refine ev_getfield (pc := 18) 18 d_Mo_term_18 fl_Mo_149 h_r0 rfl ?_
      refine ev_bipush (pc := 21) 8 d_Mo_term_21 (by decide) ?_
      refine ev_icmp_ne (pc := 23) 28 d_Mo_term_23 (by decide) (fun c23 => ?_) (fun c23 => ?_)
      · refine ev_aload_n (pc := 28) d_Mo_term_28 rfl ?_
        refine ev_iconst (pc := 29) 0 d_Mo_term_29 (by decide) ?_
        refine ev_lload_n (pc := 30) d_Mo_term_30 rfl ?_
        refine ev_invokestatic (pc := 31) (As := [.long j1]) (st := [.int 0, .ref r0]) (Q2 := ev_pure (.long v31) n F) (bc1 := 0) (bs1 := 0) M_Mo_termOf d_Mo_term_31 lc_Mo_139 wd_1041 rfl rfl (Nat.le_of_ble_eq_true rfl) (Nat.le_of_ble_eq_true rfl) (Nat.le_of_ble_eq_true rfl) (Nat.le_refl _) (Nat.le_refl _) (c31_2 c4 c14 c23) ?_
        refine ev_purek ?_
        refine ev_iconst (pc := 34) 1 d_Mo_term_34 (by decide) ?_
        exact ev_invokevirtual (pc := 35) (As := [.int 0, .long v31, .int 1]) (st := []) (Q2 := Q35) M_Mo_push rC11 d_Mo_term_35 lc_Mo_188 wd_1108 wd_s40 rfl h_r0 rfl rfl (Nat.le_of_ble_eq_true rfl) (Nat.le_of_ble_eq_true rfl) (Nat.le_of_ble_eq_true rfl) hb_rc35 hs_rs35 (c35_3 c4 c14 c23) (k38_4 c4 c14 c23)
      · refine ev_iconst (pc := 26) (-1) d_Mo_term_26 (by decide) ?_
        exact ev_ireturn (pc := 27) d_Mo_term_27 rfl rfl (q27_5 c4 c14 c23)
  · refine ev_bipush (pc := 7) (-9) d_Mo_term_7 (by decide) ?_
    exact ev_ireturn (pc := 9) d_Mo_term_9 rfl rfl (q9_6 c4)

set_option maxRecDepth 100000 in
set_option maxHeartbeats 4000000 in
theorem s_Mo_term_38 {l : Launch} {X : ev_X} {bc bs n : Nat} {F : ev_H} {Q : Option Value → Nat → ev_H → Prop} {r0 : Nat} {j1 : Int64} {ir0_drafted : Int32} {ir0_rows : Int32} {ir0_segments : Int32} {ir0_stopped : Int32} {ir0_fuse : Int32} {ir0_written : Int32} {ir0_tokens : Int32} {ir0_height : Int32} {ir0_results : Int32} {ir0_weighed : Int32} (h_r0 : F r0 = some (moO r0 ir0_drafted ir0_rows ir0_segments ir0_stopped ir0_fuse ir0_written ir0_tokens ir0_height ir0_results ir0_weighed))
    (q42_0 : Q (some (.int ir0_height)) n F) :
    Ev l X M_Mo_term bc bs 38 [(0, .ref r0), (1, .long j1)] [] n F (ev_mq X Q) := by
  refine ev_aload_n (pc := 38) d_Mo_term_38 rfl ?_
  refine ev_getfield (pc := 39) 18 d_Mo_term_39 fl_Mo_149 h_r0 rfl ?_
  exact ev_ireturn (pc := 42) d_Mo_term_42 rfl rfl q42_0
set_option maxRecDepth 100000 in
set_option maxHeartbeats 4000000 in
theorem s_Mo_push_0 {l : Launch} {X : ev_X} {bc bs n : Nat} {F : ev_H} {Q : Option Value → Nat → ev_H → Prop} {r0 : Nat} {i1 : Int32} {j2 : Int64} {i4 : Int32} {ir0_drafted : Int32} {ir0_rows : Int32} {ir0_segments : Int32} {ir0_stopped : Int32} {ir0_fuse : Int32} {ir0_written : Int32} {ir0_tokens : Int32} {ir0_height : Int32} {ir0_results : Int32} {ir0_weighed : Int32} {r0p10_f : Nat → Int32} {r0p11_f : Nat → Int64} {r0p12_f : Nat → Int32} {r0p13_f : Nat → Int32} (h_r0 : F r0 = some (moO r0 ir0_drafted ir0_rows ir0_segments ir0_stopped ir0_fuse ir0_written ir0_tokens ir0_height ir0_results ir0_weighed)) (h_r0p10 : F (r0 + 10) = some (.inl (0, 520, .inl r0p10_f))) (h_r0p11 : F (r0 + 11) = some (.inl (1, 520, .inr (.inl r0p11_f)))) (h_r0p12 : F (r0 + 12) = some (.inl (2, 8, .inl r0p12_f))) (h_r0p13 : F (r0 + 13) = some (.inl (0, 8, .inl r0p13_f)))
    (in9_0 : vp_in ir0_tokens 520)
    (in19_1 : vp_in ir0_tokens 520)
    (in40_2 : vp_in ir0_height 8)
    (nr40_3 : narrow .boolean (.int i4) = .int i4)
    (in59_4 : (i4 = 0) → vp_in ir0_height 8)
    (q70_5 : (i4 = 0) → Q none n (ev_up (ev_up (ev_up (ev_up (ev_up (ev_up F (r0 + 10) (.inl (0, 520, .inl (upd r0p10_f ir0_tokens.toNatClampNeg i1)))) (r0 + 11) (.inl (1, 520, .inr (.inl (vp_updL r0p11_f ir0_tokens.toNatClampNeg j2))))) r0 (moO r0 ir0_drafted ir0_rows ir0_segments ir0_stopped ir0_fuse ir0_written (ir0_tokens + 1) ir0_height ir0_results ir0_weighed)) (r0 + 12) (.inl (2, 8, .inl (upd r0p12_f ir0_height.toNatClampNeg i4)))) (r0 + 13) (.inl (0, 8, .inl (upd r0p13_f ir0_height.toNatClampNeg 1)))) r0 (moO r0 ir0_drafted ir0_rows ir0_segments ir0_stopped ir0_fuse ir0_written (ir0_tokens + 1) (ir0_height + 1) ir0_results ir0_weighed)))
    (in59_6 : (¬ i4 = 0) → vp_in ir0_height 8)
    (q70_7 : (¬ i4 = 0) → Q none n (ev_up (ev_up (ev_up (ev_up (ev_up (ev_up F (r0 + 10) (.inl (0, 520, .inl (upd r0p10_f ir0_tokens.toNatClampNeg i1)))) (r0 + 11) (.inl (1, 520, .inr (.inl (vp_updL r0p11_f ir0_tokens.toNatClampNeg j2))))) r0 (moO r0 ir0_drafted ir0_rows ir0_segments ir0_stopped ir0_fuse ir0_written (ir0_tokens + 1) ir0_height ir0_results ir0_weighed)) (r0 + 12) (.inl (2, 8, .inl (upd r0p12_f ir0_height.toNatClampNeg i4)))) (r0 + 13) (.inl (0, 8, .inl (upd r0p13_f ir0_height.toNatClampNeg 0)))) r0 (moO r0 ir0_drafted ir0_rows ir0_segments ir0_stopped ir0_fuse ir0_written (ir0_tokens + 1) (ir0_height + 1) ir0_results ir0_weighed))) :
    Ev l X M_Mo_push bc bs 0 [(0, .ref r0), (1, .int i1), (2, .long j2), (4, .int i4)] [] n F (ev_mq X Q) := by
  refine ev_aload_n (pc := 0) d_Mo_push_0 rfl ?_
  refine ev_getfield (pc := 1) 16 d_Mo_push_1 fl_Mo_39 h_r0 rfl ?_
  refine ev_aload_n (pc := 4) d_Mo_push_4 rfl ?_
  refine ev_getfield (pc := 5) 15 d_Mo_push_5 fl_Mo_146 h_r0 rfl ?_
  refine ev_iload_n (pc := 8) d_Mo_push_8 rfl ?_
  refine ev_iastore (pc := 9) d_Mo_push_9 h_r0p10 rfl in9_0 (fun F1_ hF1_ => ?_)
  have g2_ : F1_ r0 = some (moO r0 ir0_drafted ir0_rows ir0_segments ir0_stopped ir0_fuse ir0_written ir0_tokens ir0_height ir0_results ir0_weighed) := by rw [← hF1_]; exact ev_up_k (ev_ne_oa h_r0 h_r0p10) h_r0
  have g3_ : F1_ (r0 + 10) = some (.inl (0, 520, .inl (upd r0p10_f ir0_tokens.toNatClampNeg i1))) := by rw [← hF1_]; exact ev_up_s
  refine ev_aload_n (pc := 10) d_Mo_push_10 rfl ?_
  refine ev_getfield (pc := 11) 17 d_Mo_push_11 fl_Mo_42 g2_ rfl ?_
  refine ev_aload_n (pc := 14) d_Mo_push_14 rfl ?_
  refine ev_getfield (pc := 15) 15 d_Mo_push_15 fl_Mo_146 g2_ rfl ?_
  refine ev_lload_n (pc := 18) d_Mo_push_18 rfl ?_
  have g4_ : F1_ (r0 + 11) = some (.inl (1, 520, .inr (.inl r0p11_f))) := by rw [← hF1_]; exact ev_up_k (ev_ne_aa h_r0p11 h_r0p10 rfl) h_r0p11
  refine ev_lastore (pc := 19) d_Mo_push_19 g4_ rfl in19_1 (fun F5_ hF5_ => ?_)
  have g6_ : F5_ r0 = some (moO r0 ir0_drafted ir0_rows ir0_segments ir0_stopped ir0_fuse ir0_written ir0_tokens ir0_height ir0_results ir0_weighed) := by rw [← hF5_]; exact ev_up_k (ev_ne_oa g2_ g4_) g2_
  have g7_ : F5_ (r0 + 10) = some (.inl (0, 520, .inl (upd r0p10_f ir0_tokens.toNatClampNeg i1))) := by rw [← hF5_]; exact ev_up_k (ev_ne_aa g3_ g4_ rfl) g3_
  have g8_ : F5_ (r0 + 11) = some (.inl (1, 520, .inr (.inl (vp_updL r0p11_f ir0_tokens.toNatClampNeg j2)))) := by rw [← hF5_]; exact ev_up_s
  refine ev_aload_n (pc := 20) d_Mo_push_20 rfl ?_
  refine ev_dup (pc := 21) d_Mo_push_21 rfl ?_
  refine ev_getfield (pc := 22) 15 d_Mo_push_22 fl_Mo_146 g6_ rfl ?_
  refine ev_iconst (pc := 25) 1 d_Mo_push_25 (by decide) ?_
  refine ev_iadd (pc := 26) d_Mo_push_26 ?_
  refine ev_putfield (pc := 27) 15 _ d_Mo_push_27 fl_Mo_146 g6_ pf_11_tokens rfl rfl (Nat.le_of_ble_eq_true rfl) (fun F9_ hF9_ => ?_)
  have g10_ : F9_ (r0 + 10) = some (.inl (0, 520, .inl (upd r0p10_f ir0_tokens.toNatClampNeg i1))) := by rw [← hF9_]; exact ev_up_k (ev_ne_ao g7_ g6_) g7_
  have g11_ : F9_ (r0 + 11) = some (.inl (1, 520, .inr (.inl (vp_updL r0p11_f ir0_tokens.toNatClampNeg j2)))) := by rw [← hF9_]; exact ev_up_k (ev_ne_ao g8_ g6_) g8_
  have g12_ : F9_ r0 = some (moO r0 ir0_drafted ir0_rows ir0_segments ir0_stopped ir0_fuse ir0_written (ir0_tokens + 1) ir0_height ir0_results ir0_weighed) := by rw [← hF9_]; exact ev_up_s
  refine ev_aload_n (pc := 30) d_Mo_push_30 rfl ?_
  refine ev_getfield (pc := 31) 19 d_Mo_push_31 fl_Mo_45 g12_ rfl ?_
  refine ev_aload_n (pc := 34) d_Mo_push_34 rfl ?_
  refine ev_getfield (pc := 35) 18 d_Mo_push_35 fl_Mo_149 g12_ rfl ?_
  refine ev_iload (pc := 38) d_Mo_push_38 rfl ?_
  have g13_ : F1_ (r0 + 12) = some (.inl (2, 8, .inl r0p12_f)) := by rw [← hF1_]; exact ev_up_k (ev_ne_aa h_r0p12 h_r0p10 rfl) h_r0p12
  have g14_ : F5_ (r0 + 12) = some (.inl (2, 8, .inl r0p12_f)) := by rw [← hF5_]; exact ev_up_k (ev_ne_aa g13_ g4_ rfl) g13_
  have g15_ : F9_ (r0 + 12) = some (.inl (2, 8, .inl r0p12_f)) := by rw [← hF9_]; exact ev_up_k (ev_ne_ao g14_ g6_) g14_
  refine ev_zastore (pc := 40) d_Mo_push_40 g15_ rfl in40_2 nr40_3 (fun F16_ hF16_ => ?_)
  have g17_ : F16_ (r0 + 10) = some (.inl (0, 520, .inl (upd r0p10_f ir0_tokens.toNatClampNeg i1))) := by rw [← hF16_]; exact ev_up_k (ev_ne_aa g10_ g15_ rfl) g10_
  have g18_ : F16_ (r0 + 11) = some (.inl (1, 520, .inr (.inl (vp_updL r0p11_f ir0_tokens.toNatClampNeg j2)))) := by rw [← hF16_]; exact ev_up_k (ev_ne_aa g11_ g15_ rfl) g11_
  have g19_ : F16_ r0 = some (moO r0 ir0_drafted ir0_rows ir0_segments ir0_stopped ir0_fuse ir0_written (ir0_tokens + 1) ir0_height ir0_results ir0_weighed) := by rw [← hF16_]; exact ev_up_k (ev_ne_oa g12_ g15_) g12_
  have g20_ : F16_ (r0 + 12) = some (.inl (2, 8, .inl (upd r0p12_f ir0_height.toNatClampNeg i4))) := by rw [← hF16_]; exact ev_up_s
  refine ev_aload_n (pc := 41) d_Mo_push_41 rfl ?_
  refine ev_getfield (pc := 42) 20 d_Mo_push_42 fl_Mo_48 g19_ rfl ?_
  refine ev_aload_n (pc := 45) d_Mo_push_45 rfl ?_
  refine ev_getfield (pc := 46) 18 d_Mo_push_46 fl_Mo_149 g19_ rfl ?_
  refine ev_iload (pc := 49) d_Mo_push_49 rfl ?_
  refine ev_if_eq (pc := 51) 58 d_Mo_push_51 (by decide) (fun c51 => ?_) (fun c51 => ?_)
  · refine ev_iconst (pc := 58) 1 d_Mo_push_58 (by decide) ?_
    have g21_ : F1_ (r0 + 13) = some (.inl (0, 8, .inl r0p13_f)) := by rw [← hF1_]; exact ev_up_k (by omega) h_r0p13
    have g22_ : F5_ (r0 + 13) = some (.inl (0, 8, .inl r0p13_f)) := by rw [← hF5_]; exact ev_up_k (ev_ne_aa g21_ g4_ rfl) g21_
    have g23_ : F9_ (r0 + 13) = some (.inl (0, 8, .inl r0p13_f)) := by rw [← hF9_]; exact ev_up_k (ev_ne_ao g22_ g6_) g22_
    have g24_ : F16_ (r0 + 13) = some (.inl (0, 8, .inl r0p13_f)) := by rw [← hF16_]; exact ev_up_k (ev_ne_aa g23_ g15_ rfl) g23_
    refine ev_iastore (pc := 59) d_Mo_push_59 g24_ rfl (in59_4 c51) (fun F25_ hF25_ => ?_)
    have g26_ : F25_ (r0 + 10) = some (.inl (0, 520, .inl (upd r0p10_f ir0_tokens.toNatClampNeg i1))) := by rw [← hF25_]; exact ev_up_k (by omega) g17_
    have g27_ : F25_ (r0 + 11) = some (.inl (1, 520, .inr (.inl (vp_updL r0p11_f ir0_tokens.toNatClampNeg j2)))) := by rw [← hF25_]; exact ev_up_k (ev_ne_aa g18_ g24_ rfl) g18_
    have g28_ : F25_ r0 = some (moO r0 ir0_drafted ir0_rows ir0_segments ir0_stopped ir0_fuse ir0_written (ir0_tokens + 1) ir0_height ir0_results ir0_weighed) := by rw [← hF25_]; exact ev_up_k (ev_ne_oa g19_ g24_) g19_
    have g29_ : F25_ (r0 + 12) = some (.inl (2, 8, .inl (upd r0p12_f ir0_height.toNatClampNeg i4))) := by rw [← hF25_]; exact ev_up_k (ev_ne_aa g20_ g24_ rfl) g20_
    have g30_ : F25_ (r0 + 13) = some (.inl (0, 8, .inl (upd r0p13_f ir0_height.toNatClampNeg 1))) := by rw [← hF25_]; exact ev_up_s
    refine ev_aload_n (pc := 60) d_Mo_push_60 rfl ?_
    refine ev_dup (pc := 61) d_Mo_push_61 rfl ?_
    refine ev_getfield (pc := 62) 18 d_Mo_push_62 fl_Mo_149 g28_ rfl ?_
    refine ev_iconst (pc := 65) 1 d_Mo_push_65 (by decide) ?_
    refine ev_iadd (pc := 66) d_Mo_push_66 ?_
    refine ev_putfield (pc := 67) 18 _ d_Mo_push_67 fl_Mo_149 g28_ pf_11_height rfl rfl (Nat.le_of_ble_eq_true rfl) (fun F31_ hF31_ => ?_)
    have g32_ : F31_ (r0 + 10) = some (.inl (0, 520, .inl (upd r0p10_f ir0_tokens.toNatClampNeg i1))) := by rw [← hF31_]; exact ev_up_k (ev_ne_ao g26_ g28_) g26_
    have g33_ : F31_ (r0 + 11) = some (.inl (1, 520, .inr (.inl (vp_updL r0p11_f ir0_tokens.toNatClampNeg j2)))) := by rw [← hF31_]; exact ev_up_k (ev_ne_ao g27_ g28_) g27_
    have g34_ : F31_ (r0 + 12) = some (.inl (2, 8, .inl (upd r0p12_f ir0_height.toNatClampNeg i4))) := by rw [← hF31_]; exact ev_up_k (ev_ne_ao g29_ g28_) g29_
    have g35_ : F31_ (r0 + 13) = some (.inl (0, 8, .inl (upd r0p13_f ir0_height.toNatClampNeg 1))) := by rw [← hF31_]; exact ev_up_k (ev_ne_ao g30_ g28_) g30_
    have g36_ : F31_ r0 = some (moO r0 ir0_drafted ir0_rows ir0_segments ir0_stopped ir0_fuse ir0_written (ir0_tokens + 1) (ir0_height + 1) ir0_results ir0_weighed) := by rw [← hF31_]; exact ev_up_s
    exact ev_return (pc := 70) d_Mo_push_70 rfl (by subst hF1_ hF5_ hF9_ hF16_ hF25_ hF31_; exact (q70_5 c51))
  · refine ev_iconst (pc := 54) 0 d_Mo_push_54 (by decide) ?_
    refine ev_goto (pc := 55) 59 d_Mo_push_55 (by decide) ?_
    have g37_ : F1_ (r0 + 13) = some (.inl (0, 8, .inl r0p13_f)) := by rw [← hF1_]; exact ev_up_k (by omega) h_r0p13
    have g38_ : F5_ (r0 + 13) = some (.inl (0, 8, .inl r0p13_f)) := by rw [← hF5_]; exact ev_up_k (ev_ne_aa g37_ g4_ rfl) g37_
    have g39_ : F9_ (r0 + 13) = some (.inl (0, 8, .inl r0p13_f)) := by rw [← hF9_]; exact ev_up_k (ev_ne_ao g38_ g6_) g38_
    have g40_ : F16_ (r0 + 13) = some (.inl (0, 8, .inl r0p13_f)) := by rw [← hF16_]; exact ev_up_k (ev_ne_aa g39_ g15_ rfl) g39_
    refine ev_iastore (pc := 59) d_Mo_push_59 g40_ rfl (in59_6 c51) (fun F41_ hF41_ => ?_)
    have g42_ : F41_ (r0 + 10) = some (.inl (0, 520, .inl (upd r0p10_f ir0_tokens.toNatClampNeg i1))) := by rw [← hF41_]; exact ev_up_k (by omega) g17_
    have g43_ : F41_ (r0 + 11) = some (.inl (1, 520, .inr (.inl (vp_updL r0p11_f ir0_tokens.toNatClampNeg j2)))) := by rw [← hF41_]; exact ev_up_k (ev_ne_aa g18_ g40_ rfl) g18_
    have g44_ : F41_ r0 = some (moO r0 ir0_drafted ir0_rows ir0_segments ir0_stopped ir0_fuse ir0_written (ir0_tokens + 1) ir0_height ir0_results ir0_weighed) := by rw [← hF41_]; exact ev_up_k (ev_ne_oa g19_ g40_) g19_
    have g45_ : F41_ (r0 + 12) = some (.inl (2, 8, .inl (upd r0p12_f ir0_height.toNatClampNeg i4))) := by rw [← hF41_]; exact ev_up_k (ev_ne_aa g20_ g40_ rfl) g20_
    have g46_ : F41_ (r0 + 13) = some (.inl (0, 8, .inl (upd r0p13_f ir0_height.toNatClampNeg 0))) := by rw [← hF41_]; exact ev_up_s
    refine ev_aload_n (pc := 60) d_Mo_push_60 rfl ?_
    refine ev_dup (pc := 61) d_Mo_push_61 rfl ?_
    refine ev_getfield (pc := 62) 18 d_Mo_push_62 fl_Mo_149 g44_ rfl ?_
    refine ev_iconst (pc := 65) 1 d_Mo_push_65 (by decide) ?_
    refine ev_iadd (pc := 66) d_Mo_push_66 ?_
    refine ev_putfield (pc := 67) 18 _ d_Mo_push_67 fl_Mo_149 g44_ pf_11_height rfl rfl (Nat.le_of_ble_eq_true rfl) (fun F47_ hF47_ => ?_)
    have g48_ : F47_ (r0 + 10) = some (.inl (0, 520, .inl (upd r0p10_f ir0_tokens.toNatClampNeg i1))) := by rw [← hF47_]; exact ev_up_k (ev_ne_ao g42_ g44_) g42_
    have g49_ : F47_ (r0 + 11) = some (.inl (1, 520, .inr (.inl (vp_updL r0p11_f ir0_tokens.toNatClampNeg j2)))) := by rw [← hF47_]; exact ev_up_k (ev_ne_ao g43_ g44_) g43_
    have g50_ : F47_ (r0 + 12) = some (.inl (2, 8, .inl (upd r0p12_f ir0_height.toNatClampNeg i4))) := by rw [← hF47_]; exact ev_up_k (ev_ne_ao g45_ g44_) g45_
    have g51_ : F47_ (r0 + 13) = some (.inl (0, 8, .inl (upd r0p13_f ir0_height.toNatClampNeg 0))) := by rw [← hF47_]; exact ev_up_k (ev_ne_ao g46_ g44_) g46_
    have g52_ : F47_ r0 = some (moO r0 ir0_drafted ir0_rows ir0_segments ir0_stopped ir0_fuse ir0_written (ir0_tokens + 1) (ir0_height + 1) ir0_results ir0_weighed) := by rw [← hF47_]; exact ev_up_s
    exact ev_return (pc := 70) d_Mo_push_70 rfl (by subst hF1_ hF5_ hF9_ hF16_ hF41_ hF47_; exact (q70_7 c51))
set_option maxRecDepth 100000 in
set_option maxHeartbeats 4000000 in
theorem s_Mo_phrase_0 {l : Launch} {X : ev_X} {bc bs n : Nat} {F : ev_H} {Q : Option Value → Nat → ev_H → Prop} {r0 : Nat} {i1 : Int32} {ir0_drafted : Int32} {ir0_rows : Int32} {ir0_segments : Int32} {ir0_stopped : Int32} {ir0_fuse : Int32} {ir0_written : Int32} {ir0_tokens : Int32} {ir0_height : Int32} {ir0_results : Int32} {ir0_weighed : Int32} (h_r0 : F r0 = some (moO r0 ir0_drafted ir0_rows ir0_segments ir0_stopped ir0_fuse ir0_written ir0_tokens ir0_height ir0_results ir0_weighed))
    (q24_0 : (ir0_stopped = 0) → (i1 < 2) → Q (some (.int (-1))) n F)
    (k32_1 : (ir0_stopped = 0) → (¬ i1 < 2) → (i1 ≤ ir0_height) → Ev l X M_Mo_phrase bc bs 32 [(0, .ref r0), (1, .int i1), (2, .int (ir0_height - i1))] [] n F (ev_mq X Q))
    (q24_2 : (ir0_stopped = 0) → (¬ i1 < 2) → (¬ i1 ≤ ir0_height) → Q (some (.int (-1))) n F)
    (q9_3 : (¬ ir0_stopped = 0) → Q (some (.int (-9))) n F) :
    Ev l X M_Mo_phrase bc bs 0 [(0, .ref r0), (1, .int i1)] [] n F (ev_mq X Q) := by
  refine ev_aload_n (pc := 0) d_Mo_phrase_0 rfl ?_
  refine ev_getfield (pc := 1) 12 d_Mo_phrase_1 fl_Mo_131 h_r0 rfl ?_
  refine ev_if_eq (pc := 4) 10 d_Mo_phrase_4 (by decide) (fun c4 => ?_) (fun c4 => ?_)
  · refine ev_iload_n (pc := 10) d_Mo_phrase_10 rfl ?_
    refine ev_iconst (pc := 11) 2 d_Mo_phrase_11 (by decide) ?_
    refine ev_icmp_lt (pc := 12) 23 d_Mo_phrase_12 (by decide) (fun c12 => ?_) (fun c12 => ?_)
    · refine ev_iconst (pc := 23) (-1) d_Mo_phrase_23 (by decide) ?_
      exact ev_ireturn (pc := 24) d_Mo_phrase_24 rfl rfl (q24_0 c4 c12)
    · refine ev_iload_n (pc := 15) d_Mo_phrase_15 rfl ?_
      refine ev_aload_n (pc := 16) d_Mo_phrase_16 rfl ?_
      refine ev_getfield (pc := 17) 18 d_Mo_phrase_17 fl_Mo_149 h_r0 rfl ?_
      refine ev_icmp_le (pc := 20) 25 d_Mo_phrase_20 (by decide) (fun c20 => ?_) (fun c20 => ?_)
      · refine ev_aload_n (pc := 25) d_Mo_phrase_25 rfl ?_
        refine ev_getfield (pc := 26) 18 d_Mo_phrase_26 fl_Mo_149 h_r0 rfl ?_
        refine ev_iload_n (pc := 29) d_Mo_phrase_29 rfl ?_
        refine ev_isub (pc := 30) d_Mo_phrase_30 ?_
        refine ev_istore_n (pc := 31) d_Mo_phrase_31 (Nat.le_of_ble_eq_true rfl) [1, 2, 0] rfl ?_
        exact (k32_1 c4 c12 c20)
      · refine ev_iconst (pc := 23) (-1) d_Mo_phrase_23 (by decide) ?_
        exact ev_ireturn (pc := 24) d_Mo_phrase_24 rfl rfl (q24_2 c4 c12 c20)
  · refine ev_bipush (pc := 7) (-9) d_Mo_phrase_7 (by decide) ?_
    exact ev_ireturn (pc := 9) d_Mo_phrase_9 rfl rfl (q9_3 c4)

set_option maxRecDepth 100000 in
set_option maxHeartbeats 4000000 in
theorem s_Mo_phrase_32 {l : Launch} {X : ev_X} {bc bs n : Nat} {F : ev_H} {Q : Option Value → Nat → ev_H → Prop} {r0 : Nat} {i1 : Int32} {i2 : Int32} {ir0_drafted : Int32} {ir0_rows : Int32} {ir0_segments : Int32} {ir0_stopped : Int32} {ir0_fuse : Int32} {ir0_written : Int32} {ir0_tokens : Int32} {ir0_height : Int32} {ir0_results : Int32} {ir0_weighed : Int32} {Q72 : Option Value → Nat → ev_H → Prop} {bc72 : Nat} {bs72 : Nat} {rc72 : Nat} {rs72 : Nat} {r0p12_f : Nat → Int32} (h_r0 : F r0 = some (moO r0 ir0_drafted ir0_rows ir0_segments ir0_stopped ir0_fuse ir0_written ir0_tokens ir0_height ir0_results ir0_weighed)) (hb_rc72 : rc72 + bc72 ≤ bc) (hs_rs72 : rs72 + bs72 ≤ bs) (h_r0p12 : F (r0 + 12) = some (.inl (2, 8, .inl r0p12_f)))
    (c72_0 : (ir0_height ≤ i2) → Cal l X M_Mo_push bc72 bs72 [.ref r0, .int 1, .long i1.toInt64, .int 0] n (ev_up F r0 (moO r0 ir0_drafted ir0_rows ir0_segments ir0_stopped ir0_fuse ir0_written ir0_tokens (ir0_height - i1) ir0_results ir0_weighed)) Q72)
    (k75_1 : (ir0_height ≤ i2) → ∀ v2 n2 F2, Q72 v2 n2 F2 → Ev l X M_Mo_phrase rc72 rs72 75 [(0, .ref r0), (1, .int i1), (2, .int i2)] (v2.toList ++ []) n2 F2 (ev_mq X Q))
    (in45_2 : (¬ ir0_height ≤ i2) → vp_in i2 8)
    (k32_3 : (¬ ir0_height ≤ i2) → (¬ (r0p12_f i2.toNatClampNeg) = 0) → Ev l X M_Mo_phrase bc bs 32 [(0, .ref r0), (1, .int i1), (2, .int (i2 + 1))] [] n F (ev_mq X Q))
    (q50_4 : (¬ ir0_height ≤ i2) → ((r0p12_f i2.toNatClampNeg) = 0) → Q (some (.int (-1))) n F) :
    Ev l X M_Mo_phrase bc bs 32 [(0, .ref r0), (1, .int i1), (2, .int i2)] [] n F (ev_mq X Q) := by
  refine ev_iload_n (pc := 32) d_Mo_phrase_32 rfl ?_
  refine ev_aload_n (pc := 33) d_Mo_phrase_33 rfl ?_
  refine ev_getfield (pc := 34) 18 d_Mo_phrase_34 fl_Mo_149 h_r0 rfl ?_
  refine ev_icmp_ge (pc := 37) 57 d_Mo_phrase_37 (by decide) (fun c37 => ?_) (fun c37 => ?_)
  · refine ev_aload_n (pc := 57) d_Mo_phrase_57 rfl ?_
    refine ev_dup (pc := 58) d_Mo_phrase_58 rfl ?_
    refine ev_getfield (pc := 59) 18 d_Mo_phrase_59 fl_Mo_149 h_r0 rfl ?_
    refine ev_iload_n (pc := 62) d_Mo_phrase_62 rfl ?_
    refine ev_isub (pc := 63) d_Mo_phrase_63 ?_
    refine ev_putfield (pc := 64) 18 _ d_Mo_phrase_64 fl_Mo_149 h_r0 pf_11_height rfl rfl (Nat.le_of_ble_eq_true rfl) (fun F1_ hF1_ => ?_)
    have g2_ : F1_ r0 = some (moO r0 ir0_drafted ir0_rows ir0_segments ir0_stopped ir0_fuse ir0_written ir0_tokens (ir0_height - i1) ir0_results ir0_weighed) := by rw [← hF1_]; exact ev_up_s
    refine ev_aload_n (pc := 67) d_Mo_phrase_67 rfl ?_
    refine ev_iconst (pc := 68) 1 d_Mo_phrase_68 (by decide) ?_
    refine ev_iload_n (pc := 69) d_Mo_phrase_69 rfl ?_
    refine ev_i2l (pc := 70) d_Mo_phrase_70 ?_
    refine ev_iconst (pc := 71) 0 d_Mo_phrase_71 (by decide) ?_
    exact ev_invokevirtual (pc := 72) (As := [.int 1, .long i1.toInt64, .int 0]) (st := []) (Q2 := Q72) M_Mo_push rC11 d_Mo_phrase_72 lc_Mo_188 wd_1108 wd_s40 rfl g2_ rfl rfl (Nat.le_of_ble_eq_true rfl) (Nat.le_of_ble_eq_true rfl) (Nat.le_of_ble_eq_true rfl) hb_rc72 hs_rs72 (by subst hF1_; exact (c72_0 c37)) (k75_1 c37)
  · refine ev_aload_n (pc := 40) d_Mo_phrase_40 rfl ?_
    refine ev_getfield (pc := 41) 19 d_Mo_phrase_41 fl_Mo_45 h_r0 rfl ?_
    refine ev_iload_n (pc := 44) d_Mo_phrase_44 rfl ?_
    refine ev_zaload (pc := 45) d_Mo_phrase_45 h_r0p12 rfl (in45_2 c37) ?_
    refine ev_if_ne (pc := 46) 51 d_Mo_phrase_46 (by decide) (fun c46 => ?_) (fun c46 => ?_)
    · refine ev_iinc (pc := 51) 2 1 d_Mo_phrase_51 rfl (by decide) (Nat.le_of_ble_eq_true rfl) [1, 2, 0] rfl ?_
      refine ev_goto (pc := 54) 32 d_Mo_phrase_54 (by decide) ?_
      exact (k32_3 c37 c46)
    · refine ev_iconst (pc := 49) (-1) d_Mo_phrase_49 (by decide) ?_
      exact ev_ireturn (pc := 50) d_Mo_phrase_50 rfl rfl (q50_4 c37 c46)

set_option maxRecDepth 100000 in
set_option maxHeartbeats 4000000 in
theorem s_Mo_phrase_75 {l : Launch} {X : ev_X} {bc bs n : Nat} {F : ev_H} {Q : Option Value → Nat → ev_H → Prop} {r0 : Nat} {i1 : Int32} {i2 : Int32} {ir0_drafted : Int32} {ir0_rows : Int32} {ir0_segments : Int32} {ir0_stopped : Int32} {ir0_fuse : Int32} {ir0_written : Int32} {ir0_tokens : Int32} {ir0_height : Int32} {ir0_results : Int32} {ir0_weighed : Int32} (h_r0 : F r0 = some (moO r0 ir0_drafted ir0_rows ir0_segments ir0_stopped ir0_fuse ir0_written ir0_tokens ir0_height ir0_results ir0_weighed))
    (q79_0 : Q (some (.int ir0_height)) n F) :
    Ev l X M_Mo_phrase bc bs 75 [(0, .ref r0), (1, .int i1), (2, .int i2)] [] n F (ev_mq X Q) := by
  refine ev_aload_n (pc := 75) d_Mo_phrase_75 rfl ?_
  refine ev_getfield (pc := 76) 18 d_Mo_phrase_76 fl_Mo_149 h_r0 rfl ?_
  exact ev_ireturn (pc := 79) d_Mo_phrase_79 rfl rfl q79_0
set_option maxRecDepth 100000 in
set_option maxHeartbeats 4000000 in
theorem s_Mo_join_0 {l : Launch} {X : ev_X} {bc bs n : Nat} {F : ev_H} {Q : Option Value → Nat → ev_H → Prop} {r0 : Nat} {i1 : Int32} {ir0_drafted : Int32} {ir0_rows : Int32} {ir0_segments : Int32} {ir0_stopped : Int32} {ir0_fuse : Int32} {ir0_written : Int32} {ir0_tokens : Int32} {ir0_height : Int32} {ir0_results : Int32} {ir0_weighed : Int32} {r0p13_f : Nat → Int32} (h_r0 : F r0 = some (moO r0 ir0_drafted ir0_rows ir0_segments ir0_stopped ir0_fuse ir0_written ir0_tokens ir0_height ir0_results ir0_weighed)) (h_r0p13 : F (r0 + 13) = some (.inl (0, 8, .inl r0p13_f)))
    (k36_0 : (ir0_stopped = 0) → (i1 < 0) → Ev l X M_Mo_join bc bs 36 [(0, .ref r0), (1, .int i1)] [] n F (ev_mq X Q))
    (k36_1 : (ir0_stopped = 0) → (¬ i1 < 0) → (2 < i1) → Ev l X M_Mo_join bc bs 36 [(0, .ref r0), (1, .int i1)] [] n F (ev_mq X Q))
    (in48_2 : (ir0_stopped = 0) → (¬ i1 < 0) → (¬ 2 < i1) → (¬ i1 = 2) → (2 ≤ ir0_height) → vp_in (ir0_height - 1) 8)
    (k85_3 : (ir0_stopped = 0) → (¬ i1 < 0) → (¬ 2 < i1) → (¬ i1 = 2) → (2 ≤ ir0_height) → (2 ≤ i1) → Ev l X M_Mo_join bc bs 85 [(0, .ref r0), (1, .int i1), (2, .int (r0p13_f (ir0_height - 1).toNatClampNeg))] [.int (r0p13_f (ir0_height - 1).toNatClampNeg)] n F (ev_mq X Q))
    (in65_4 : (ir0_stopped = 0) → (¬ i1 < 0) → (¬ 2 < i1) → (¬ i1 = 2) → (2 ≤ ir0_height) → (¬ 2 ≤ i1) → vp_in (ir0_height - 2) 8)
    (k85_5 : (ir0_stopped = 0) → (¬ i1 < 0) → (¬ 2 < i1) → (¬ i1 = 2) → (2 ≤ ir0_height) → (¬ 2 ≤ i1) → ((r0p13_f (ir0_height - 2).toNatClampNeg) ≤ (r0p13_f (ir0_height - 1).toNatClampNeg)) → Ev l X M_Mo_join bc bs 85 [(0, .ref r0), (1, .int i1), (2, .int (r0p13_f (ir0_height - 1).toNatClampNeg))] [.int (r0p13_f (ir0_height - 1).toNatClampNeg)] n F (ev_mq X Q))
    (in80_6 : (ir0_stopped = 0) → (¬ i1 < 0) → (¬ 2 < i1) → (¬ i1 = 2) → (2 ≤ ir0_height) → (¬ 2 ≤ i1) → (¬ (r0p13_f (ir0_height - 2).toNatClampNeg) ≤ (r0p13_f (ir0_height - 1).toNatClampNeg)) → vp_in (ir0_height - 2) 8)
    (k85_7 : (ir0_stopped = 0) → (¬ i1 < 0) → (¬ 2 < i1) → (¬ i1 = 2) → (2 ≤ ir0_height) → (¬ 2 ≤ i1) → (¬ (r0p13_f (ir0_height - 2).toNatClampNeg) ≤ (r0p13_f (ir0_height - 1).toNatClampNeg)) → Ev l X M_Mo_join bc bs 85 [(0, .ref r0), (1, .int i1), (2, .int (r0p13_f (ir0_height - 1).toNatClampNeg))] [.int (r0p13_f (ir0_height - 2).toNatClampNeg)] n F (ev_mq X Q))
    (k36_8 : (ir0_stopped = 0) → (¬ i1 < 0) → (¬ 2 < i1) → (¬ i1 = 2) → (¬ 2 ≤ ir0_height) → Ev l X M_Mo_join bc bs 36 [(0, .ref r0), (1, .int i1)] [] n F (ev_mq X Q))
    (in48_9 : (ir0_stopped = 0) → (¬ i1 < 0) → (¬ 2 < i1) → (i1 = 2) → (1 ≤ ir0_height) → vp_in (ir0_height - 1) 8)
    (k85_10 : (ir0_stopped = 0) → (¬ i1 < 0) → (¬ 2 < i1) → (i1 = 2) → (1 ≤ ir0_height) → (2 ≤ i1) → Ev l X M_Mo_join bc bs 85 [(0, .ref r0), (1, .int i1), (2, .int (r0p13_f (ir0_height - 1).toNatClampNeg))] [.int (r0p13_f (ir0_height - 1).toNatClampNeg)] n F (ev_mq X Q))
    (in65_11 : (ir0_stopped = 0) → (¬ i1 < 0) → (¬ 2 < i1) → (i1 = 2) → (1 ≤ ir0_height) → (¬ 2 ≤ i1) → vp_in (ir0_height - 2) 8)
    (k85_12 : (ir0_stopped = 0) → (¬ i1 < 0) → (¬ 2 < i1) → (i1 = 2) → (1 ≤ ir0_height) → (¬ 2 ≤ i1) → ((r0p13_f (ir0_height - 2).toNatClampNeg) ≤ (r0p13_f (ir0_height - 1).toNatClampNeg)) → Ev l X M_Mo_join bc bs 85 [(0, .ref r0), (1, .int i1), (2, .int (r0p13_f (ir0_height - 1).toNatClampNeg))] [.int (r0p13_f (ir0_height - 1).toNatClampNeg)] n F (ev_mq X Q))
    (in80_13 : (ir0_stopped = 0) → (¬ i1 < 0) → (¬ 2 < i1) → (i1 = 2) → (1 ≤ ir0_height) → (¬ 2 ≤ i1) → (¬ (r0p13_f (ir0_height - 2).toNatClampNeg) ≤ (r0p13_f (ir0_height - 1).toNatClampNeg)) → vp_in (ir0_height - 2) 8)
    (k85_14 : (ir0_stopped = 0) → (¬ i1 < 0) → (¬ 2 < i1) → (i1 = 2) → (1 ≤ ir0_height) → (¬ 2 ≤ i1) → (¬ (r0p13_f (ir0_height - 2).toNatClampNeg) ≤ (r0p13_f (ir0_height - 1).toNatClampNeg)) → Ev l X M_Mo_join bc bs 85 [(0, .ref r0), (1, .int i1), (2, .int (r0p13_f (ir0_height - 1).toNatClampNeg))] [.int (r0p13_f (ir0_height - 2).toNatClampNeg)] n F (ev_mq X Q))
    (k36_15 : (ir0_stopped = 0) → (¬ i1 < 0) → (¬ 2 < i1) → (i1 = 2) → (¬ 1 ≤ ir0_height) → Ev l X M_Mo_join bc bs 36 [(0, .ref r0), (1, .int i1)] [] n F (ev_mq X Q))
    (q9_16 : (¬ ir0_stopped = 0) → Q (some (.int (-9))) n F) :
    Ev l X M_Mo_join bc bs 0 [(0, .ref r0), (1, .int i1)] [] n F (ev_mq X Q) := by
  refine ev_aload_n (pc := 0) d_Mo_join_0 rfl ?_
  refine ev_getfield (pc := 1) 12 d_Mo_join_1 fl_Mo_131 h_r0 rfl ?_
  refine ev_if_eq (pc := 4) 10 d_Mo_join_4 (by decide) (fun c4 => ?_) (fun c4 => ?_)
  · refine ev_iload_n (pc := 10) d_Mo_join_10 rfl ?_
    refine ev_if_lt (pc := 11) 36 d_Mo_join_11 (by decide) (fun c11 => ?_) (fun c11 => ?_)
    · exact (k36_0 c4 c11)
    · refine ev_iload_n (pc := 14) d_Mo_join_14 rfl ?_
      refine ev_iconst (pc := 15) 2 d_Mo_join_15 (by decide) ?_
      refine ev_icmp_gt (pc := 16) 36 d_Mo_join_16 (by decide) (fun c16 => ?_) (fun c16 => ?_)
      · exact (k36_1 c4 c11 c16)
      · refine ev_aload_n (pc := 19) d_Mo_join_19 rfl ?_
        refine ev_getfield (pc := 20) 18 d_Mo_join_20 fl_Mo_149 h_r0 rfl ?_
        refine ev_iload_n (pc := 23) d_Mo_join_23 rfl ?_
        refine ev_iconst (pc := 24) 2 d_Mo_join_24 (by decide) ?_
        refine ev_icmp_ne (pc := 25) 32 d_Mo_join_25 (by decide) (fun c25 => ?_) (fun c25 => ?_)
        · refine ev_iconst (pc := 32) 2 d_Mo_join_32 (by decide) ?_
          refine ev_icmp_ge (pc := 33) 38 d_Mo_join_33 (by decide) (fun c33 => ?_) (fun c33 => ?_)
          · refine ev_aload_n (pc := 38) d_Mo_join_38 rfl ?_
            refine ev_getfield (pc := 39) 20 d_Mo_join_39 fl_Mo_48 h_r0 rfl ?_
            refine ev_aload_n (pc := 42) d_Mo_join_42 rfl ?_
            refine ev_getfield (pc := 43) 18 d_Mo_join_43 fl_Mo_149 h_r0 rfl ?_
            refine ev_iconst (pc := 46) 1 d_Mo_join_46 (by decide) ?_
            refine ev_isub (pc := 47) d_Mo_join_47 ?_
            refine ev_iaload (pc := 48) d_Mo_join_48 h_r0p13 rfl (in48_2 c4 c11 c16 c25 c33) ?_
            refine ev_istore_n (pc := 49) d_Mo_join_49 (Nat.le_of_ble_eq_true rfl) [1, 2, 0] rfl ?_
            refine ev_iload_n (pc := 50) d_Mo_join_50 rfl ?_
            refine ev_iconst (pc := 51) 2 d_Mo_join_51 (by decide) ?_
            refine ev_icmp_ge (pc := 52) 84 d_Mo_join_52 (by decide) (fun c52 => ?_) (fun c52 => ?_)
            · refine ev_iload_n (pc := 84) d_Mo_join_84 rfl ?_
              exact (k85_3 c4 c11 c16 c25 c33 c52)
            · refine ev_aload_n (pc := 55) d_Mo_join_55 rfl ?_
              refine ev_getfield (pc := 56) 20 d_Mo_join_56 fl_Mo_48 h_r0 rfl ?_
              refine ev_aload_n (pc := 59) d_Mo_join_59 rfl ?_
              refine ev_getfield (pc := 60) 18 d_Mo_join_60 fl_Mo_149 h_r0 rfl ?_
              refine ev_iconst (pc := 63) 2 d_Mo_join_63 (by decide) ?_
              refine ev_isub (pc := 64) d_Mo_join_64 ?_
              refine ev_iaload (pc := 65) d_Mo_join_65 h_r0p13 rfl (in65_4 c4 c11 c16 c25 c33 c52) ?_
              refine ev_iload_n (pc := 66) d_Mo_join_66 rfl ?_
              refine ev_icmp_le (pc := 67) 84 d_Mo_join_67 (by decide) (fun c67 => ?_) (fun c67 => ?_)
              · refine ev_iload_n (pc := 84) d_Mo_join_84 rfl ?_
                exact (k85_5 c4 c11 c16 c25 c33 c52 c67)
              · refine ev_aload_n (pc := 70) d_Mo_join_70 rfl ?_
                refine ev_getfield (pc := 71) 20 d_Mo_join_71 fl_Mo_48 h_r0 rfl ?_
                refine ev_aload_n (pc := 74) d_Mo_join_74 rfl ?_
                refine ev_getfield (pc := 75) 18 d_Mo_join_75 fl_Mo_149 h_r0 rfl ?_
                refine ev_iconst (pc := 78) 2 d_Mo_join_78 (by decide) ?_
                refine ev_isub (pc := 79) d_Mo_join_79 ?_
                refine ev_iaload (pc := 80) d_Mo_join_80 h_r0p13 rfl (in80_6 c4 c11 c16 c25 c33 c52 c67) ?_
                refine ev_goto (pc := 81) 85 d_Mo_join_81 (by decide) ?_
                exact (k85_7 c4 c11 c16 c25 c33 c52 c67)
          · exact (k36_8 c4 c11 c16 c25 c33)
        · refine ev_iconst (pc := 28) 1 d_Mo_join_28 (by decide) ?_
          refine ev_goto (pc := 29) 33 d_Mo_join_29 (by decide) ?_
          refine ev_icmp_ge (pc := 33) 38 d_Mo_join_33 (by decide) (fun c33 => ?_) (fun c33 => ?_)
          · refine ev_aload_n (pc := 38) d_Mo_join_38 rfl ?_
            refine ev_getfield (pc := 39) 20 d_Mo_join_39 fl_Mo_48 h_r0 rfl ?_
            refine ev_aload_n (pc := 42) d_Mo_join_42 rfl ?_
            refine ev_getfield (pc := 43) 18 d_Mo_join_43 fl_Mo_149 h_r0 rfl ?_
            refine ev_iconst (pc := 46) 1 d_Mo_join_46 (by decide) ?_
            refine ev_isub (pc := 47) d_Mo_join_47 ?_
            refine ev_iaload (pc := 48) d_Mo_join_48 h_r0p13 rfl (in48_9 c4 c11 c16 c25 c33) ?_
            refine ev_istore_n (pc := 49) d_Mo_join_49 (Nat.le_of_ble_eq_true rfl) [1, 2, 0] rfl ?_
            refine ev_iload_n (pc := 50) d_Mo_join_50 rfl ?_
            refine ev_iconst (pc := 51) 2 d_Mo_join_51 (by decide) ?_
            refine ev_icmp_ge (pc := 52) 84 d_Mo_join_52 (by decide) (fun c52 => ?_) (fun c52 => ?_)
            · refine ev_iload_n (pc := 84) d_Mo_join_84 rfl ?_
              exact (k85_10 c4 c11 c16 c25 c33 c52)
            · refine ev_aload_n (pc := 55) d_Mo_join_55 rfl ?_
              refine ev_getfield (pc := 56) 20 d_Mo_join_56 fl_Mo_48 h_r0 rfl ?_
              refine ev_aload_n (pc := 59) d_Mo_join_59 rfl ?_
              refine ev_getfield (pc := 60) 18 d_Mo_join_60 fl_Mo_149 h_r0 rfl ?_
              refine ev_iconst (pc := 63) 2 d_Mo_join_63 (by decide) ?_
              refine ev_isub (pc := 64) d_Mo_join_64 ?_
              refine ev_iaload (pc := 65) d_Mo_join_65 h_r0p13 rfl (in65_11 c4 c11 c16 c25 c33 c52) ?_
              refine ev_iload_n (pc := 66) d_Mo_join_66 rfl ?_
              refine ev_icmp_le (pc := 67) 84 d_Mo_join_67 (by decide) (fun c67 => ?_) (fun c67 => ?_)
              · refine ev_iload_n (pc := 84) d_Mo_join_84 rfl ?_
                exact (k85_12 c4 c11 c16 c25 c33 c52 c67)
              · refine ev_aload_n (pc := 70) d_Mo_join_70 rfl ?_
                refine ev_getfield (pc := 71) 20 d_Mo_join_71 fl_Mo_48 h_r0 rfl ?_
                refine ev_aload_n (pc := 74) d_Mo_join_74 rfl ?_
                refine ev_getfield (pc := 75) 18 d_Mo_join_75 fl_Mo_149 h_r0 rfl ?_
                refine ev_iconst (pc := 78) 2 d_Mo_join_78 (by decide) ?_
                refine ev_isub (pc := 79) d_Mo_join_79 ?_
                refine ev_iaload (pc := 80) d_Mo_join_80 h_r0p13 rfl (in80_13 c4 c11 c16 c25 c33 c52 c67) ?_
                refine ev_goto (pc := 81) 85 d_Mo_join_81 (by decide) ?_
                exact (k85_14 c4 c11 c16 c25 c33 c52 c67)
          · exact (k36_15 c4 c11 c16 c25 c33)
  · refine ev_bipush (pc := 7) (-9) d_Mo_join_7 (by decide) ?_
    exact ev_ireturn (pc := 9) d_Mo_join_9 rfl rfl (q9_16 c4)

set_option maxRecDepth 100000 in
set_option maxHeartbeats 4000000 in
theorem s_Mo_join_36 {l : Launch} {X : ev_X} {bc bs n : Nat} {F : ev_H} {Q : Option Value → Nat → ev_H → Prop} {r0 : Nat} {i1 : Int32} 
    (q37_0 : Q (some (.int (-1))) n F) :
    Ev l X M_Mo_join bc bs 36 [(0, .ref r0), (1, .int i1)] [] n F (ev_mq X Q) := by
  refine ev_iconst (pc := 36) (-1) d_Mo_join_36 (by decide) ?_
  exact ev_ireturn (pc := 37) d_Mo_join_37 rfl rfl q37_0

set_option maxRecDepth 100000 in
set_option maxHeartbeats 4000000 in
theorem s_Mo_join_85 {l : Launch} {X : ev_X} {bc bs n : Nat} {F : ev_H} {Q : Option Value → Nat → ev_H → Prop} {r0 : Nat} {i1 : Int32} {i2 : Int32} {is0 : Int32} {ir0_drafted : Int32} {ir0_rows : Int32} {ir0_segments : Int32} {ir0_stopped : Int32} {ir0_fuse : Int32} {ir0_written : Int32} {ir0_tokens : Int32} {ir0_height : Int32} {ir0_results : Int32} {ir0_weighed : Int32} {Q119 : Option Value → Nat → ev_H → Prop} {bc119 : Nat} {bs119 : Nat} {rc119 : Nat} {rs119 : Nat} {Q119_2 : Option Value → Nat → ev_H → Prop} {bc119_2 : Nat} {bs119_2 : Nat} {rc119_2 : Nat} {rs119_2 : Nat} (h_r0 : F r0 = some (moO r0 ir0_drafted ir0_rows ir0_segments ir0_stopped ir0_fuse ir0_written ir0_tokens ir0_height ir0_results ir0_weighed)) (hb_rc119 : rc119 + bc119 ≤ bc) (hs_rs119 : rs119 + bs119 ≤ bs) (hb_rc119_2 : rc119_2 + bc119_2 ≤ bc) (hs_rs119_2 : rs119_2 + bs119_2 ≤ bs)
    (c119_0 : (¬ is0 = 6) → (¬ i1 = 2) → Cal l X M_Mo_push bc119 bs119 [.ref r0, .int (2 + i1), .long 0, .int 0] n (ev_up F r0 (moO r0 ir0_drafted ir0_rows ir0_segments ir0_stopped ir0_fuse ir0_written ir0_tokens (ir0_height - 2) ir0_results ir0_weighed)) Q119)
    (k122_1 : (¬ is0 = 6) → (¬ i1 = 2) → ∀ v2 n2 F2, Q119 v2 n2 F2 → Ev l X M_Mo_join rc119 rs119 122 [(0, .ref r0), (1, .int i1), (2, .int is0)] (v2.toList ++ []) n2 F2 (ev_mq X Q))
    (c119_2 : (¬ is0 = 6) → (i1 = 2) → Cal l X M_Mo_push bc119_2 bs119_2 [.ref r0, .int (2 + i1), .long 0, .int 0] n (ev_up F r0 (moO r0 ir0_drafted ir0_rows ir0_segments ir0_stopped ir0_fuse ir0_written ir0_tokens (ir0_height - 1) ir0_results ir0_weighed)) Q119_2)
    (k122_3 : (¬ is0 = 6) → (i1 = 2) → ∀ v2 n2 F2, Q119_2 v2 n2 F2 → Ev l X M_Mo_join rc119_2 rs119_2 122 [(0, .ref r0), (1, .int i1), (2, .int is0)] (v2.toList ++ []) n2 F2 (ev_mq X Q))
    (q93_4 : (is0 = 6) → Q (some (.int (-1))) n F) :
    Ev l X M_Mo_join bc bs 85 [(0, .ref r0), (1, .int i1), (2, .int i2)] [.int is0] n F (ev_mq X Q) := by
  refine ev_istore_n (pc := 85) d_Mo_join_85 (Nat.le_of_ble_eq_true rfl) [1, 2, 0] rfl ?_
  refine ev_iload_n (pc := 86) d_Mo_join_86 rfl ?_
  refine ev_bipush (pc := 87) 6 d_Mo_join_87 (by decide) ?_
  refine ev_icmp_ne (pc := 89) 94 d_Mo_join_89 (by decide) (fun c89 => ?_) (fun c89 => ?_)
  · refine ev_aload_n (pc := 94) d_Mo_join_94 rfl ?_
    refine ev_dup (pc := 95) d_Mo_join_95 rfl ?_
    refine ev_getfield (pc := 96) 18 d_Mo_join_96 fl_Mo_149 h_r0 rfl ?_
    refine ev_iload_n (pc := 99) d_Mo_join_99 rfl ?_
    refine ev_iconst (pc := 100) 2 d_Mo_join_100 (by decide) ?_
    refine ev_icmp_ne (pc := 101) 108 d_Mo_join_101 (by decide) (fun c101 => ?_) (fun c101 => ?_)
    · refine ev_iconst (pc := 108) 2 d_Mo_join_108 (by decide) ?_
      refine ev_isub (pc := 109) d_Mo_join_109 ?_
      refine ev_putfield (pc := 110) 18 _ d_Mo_join_110 fl_Mo_149 h_r0 pf_11_height rfl rfl (Nat.le_of_ble_eq_true rfl) (fun F1_ hF1_ => ?_)
      have g2_ : F1_ r0 = some (moO r0 ir0_drafted ir0_rows ir0_segments ir0_stopped ir0_fuse ir0_written ir0_tokens (ir0_height - 2) ir0_results ir0_weighed) := by rw [← hF1_]; exact ev_up_s
      refine ev_aload_n (pc := 113) d_Mo_join_113 rfl ?_
      refine ev_iconst (pc := 114) 2 d_Mo_join_114 (by decide) ?_
      refine ev_iload_n (pc := 115) d_Mo_join_115 rfl ?_
      refine ev_iadd (pc := 116) d_Mo_join_116 ?_
      refine ev_lconst (pc := 117) 0 d_Mo_join_117 (by decide) ?_
      refine ev_iconst (pc := 118) 0 d_Mo_join_118 (by decide) ?_
      exact ev_invokevirtual (pc := 119) (As := [.int (2 + i1), .long 0, .int 0]) (st := []) (Q2 := Q119) M_Mo_push rC11 d_Mo_join_119 lc_Mo_188 wd_1108 wd_s40 rfl g2_ rfl rfl (Nat.le_of_ble_eq_true rfl) (Nat.le_of_ble_eq_true rfl) (Nat.le_of_ble_eq_true rfl) hb_rc119 hs_rs119 (by subst hF1_; exact (c119_0 c89 c101)) (k122_1 c89 c101)
    · refine ev_iconst (pc := 104) 1 d_Mo_join_104 (by decide) ?_
      refine ev_goto (pc := 105) 109 d_Mo_join_105 (by decide) ?_
      refine ev_isub (pc := 109) d_Mo_join_109 ?_
      refine ev_putfield (pc := 110) 18 _ d_Mo_join_110 fl_Mo_149 h_r0 pf_11_height rfl rfl (Nat.le_of_ble_eq_true rfl) (fun F3_ hF3_ => ?_)
      have g4_ : F3_ r0 = some (moO r0 ir0_drafted ir0_rows ir0_segments ir0_stopped ir0_fuse ir0_written ir0_tokens (ir0_height - 1) ir0_results ir0_weighed) := by rw [← hF3_]; exact ev_up_s
      refine ev_aload_n (pc := 113) d_Mo_join_113 rfl ?_
      refine ev_iconst (pc := 114) 2 d_Mo_join_114 (by decide) ?_
      refine ev_iload_n (pc := 115) d_Mo_join_115 rfl ?_
      refine ev_iadd (pc := 116) d_Mo_join_116 ?_
      refine ev_lconst (pc := 117) 0 d_Mo_join_117 (by decide) ?_
      refine ev_iconst (pc := 118) 0 d_Mo_join_118 (by decide) ?_
      exact ev_invokevirtual (pc := 119) (As := [.int (2 + i1), .long 0, .int 0]) (st := []) (Q2 := Q119_2) M_Mo_push rC11 d_Mo_join_119 lc_Mo_188 wd_1108 wd_s40 rfl g4_ rfl rfl (Nat.le_of_ble_eq_true rfl) (Nat.le_of_ble_eq_true rfl) (Nat.le_of_ble_eq_true rfl) hb_rc119_2 hs_rs119_2 (by subst hF3_; exact (c119_2 c89 c101)) (k122_3 c89 c101)
  · refine ev_iconst (pc := 92) (-1) d_Mo_join_92 (by decide) ?_
    exact ev_ireturn (pc := 93) d_Mo_join_93 rfl rfl (q93_4 c89)

set_option maxRecDepth 100000 in
set_option maxHeartbeats 4000000 in
theorem s_Mo_join_122 {l : Launch} {X : ev_X} {bc bs n : Nat} {F : ev_H} {Q : Option Value → Nat → ev_H → Prop} {r0 : Nat} {i1 : Int32} {i2 : Int32} {ir0_drafted : Int32} {ir0_rows : Int32} {ir0_segments : Int32} {ir0_stopped : Int32} {ir0_fuse : Int32} {ir0_written : Int32} {ir0_tokens : Int32} {ir0_height : Int32} {ir0_results : Int32} {ir0_weighed : Int32} {r0p13_f : Nat → Int32} (h_r0 : F r0 = some (moO r0 ir0_drafted ir0_rows ir0_segments ir0_stopped ir0_fuse ir0_written ir0_tokens ir0_height ir0_results ir0_weighed)) (h_r0p13 : F (r0 + 13) = some (.inl (0, 8, .inl r0p13_f)))
    (in135_0 : vp_in (ir0_height - 1) 8)
    (q140_1 : Q (some (.int ir0_height)) n (ev_up F (r0 + 13) (.inl (0, 8, .inl (upd r0p13_f (ir0_height - 1).toNatClampNeg (i2 + 1)))))) :
    Ev l X M_Mo_join bc bs 122 [(0, .ref r0), (1, .int i1), (2, .int i2)] [] n F (ev_mq X Q) := by
  refine ev_aload_n (pc := 122) d_Mo_join_122 rfl ?_
  refine ev_getfield (pc := 123) 20 d_Mo_join_123 fl_Mo_48 h_r0 rfl ?_
  refine ev_aload_n (pc := 126) d_Mo_join_126 rfl ?_
  refine ev_getfield (pc := 127) 18 d_Mo_join_127 fl_Mo_149 h_r0 rfl ?_
  refine ev_iconst (pc := 130) 1 d_Mo_join_130 (by decide) ?_
  refine ev_isub (pc := 131) d_Mo_join_131 ?_
  refine ev_iload_n (pc := 132) d_Mo_join_132 rfl ?_
  refine ev_iconst (pc := 133) 1 d_Mo_join_133 (by decide) ?_
  refine ev_iadd (pc := 134) d_Mo_join_134 ?_
  refine ev_iastore (pc := 135) d_Mo_join_135 h_r0p13 rfl in135_0 (fun F1_ hF1_ => ?_)
  have g2_ : F1_ r0 = some (moO r0 ir0_drafted ir0_rows ir0_segments ir0_stopped ir0_fuse ir0_written ir0_tokens ir0_height ir0_results ir0_weighed) := by rw [← hF1_]; exact ev_up_k (ev_ne_oa h_r0 h_r0p13) h_r0
  have g3_ : F1_ (r0 + 13) = some (.inl (0, 8, .inl (upd r0p13_f (ir0_height - 1).toNatClampNeg (i2 + 1)))) := by rw [← hF1_]; exact ev_up_s
  refine ev_aload_n (pc := 136) d_Mo_join_136 rfl ?_
  refine ev_getfield (pc := 137) 18 d_Mo_join_137 fl_Mo_149 g2_ rfl ?_
  exact ev_ireturn (pc := 140) d_Mo_join_140 rfl rfl (by subst hF1_; exact q140_1)
set_option maxRecDepth 100000 in
set_option maxHeartbeats 4000000 in
theorem s_Mo_find_0 {l : Launch} {X : ev_X} {bc bs n : Nat} {F : ev_H} {Q : Option Value → Nat → ev_H → Prop} {r0 : Nat} {ir0_drafted : Int32} {ir0_rows : Int32} {ir0_segments : Int32} {ir0_stopped : Int32} {ir0_fuse : Int32} {ir0_written : Int32} {ir0_tokens : Int32} {ir0_height : Int32} {ir0_results : Int32} {ir0_weighed : Int32} {Q30 : Option Value → Nat → ev_H → Prop} {bc30 : Nat} {bs30 : Nat} {rc30 : Nat} {rs30 : Nat} {Q30_2 : Option Value → Nat → ev_H → Prop} {bc30_2 : Nat} {bs30_2 : Nat} {rc30_2 : Nat} {rs30_2 : Nat} (h_r0 : F r0 = some (moO r0 ir0_drafted ir0_rows ir0_segments ir0_stopped ir0_fuse ir0_written ir0_tokens ir0_height ir0_results ir0_weighed)) (hb_rc30 : rc30 + bc30 ≤ bc) (hs_rs30 : rs30 + bs30 ≤ bs) (hb_rc30_2 : rc30_2 + bc30_2 ≤ bc) (hs_rs30_2 : rs30_2 + bs30_2 ≤ bs)
    (c30_0 : (ir0_stopped = 0) → (¬ ir0_height = 1) → Cal l X M_Mo_lookUp bc30 bs30 [.ref r0] n (ev_up F r0 (moO r0 ir0_drafted ir0_rows ir0_segments ir0_stopped ir0_fuse ir0_written ir0_tokens ir0_height 0 ir0_weighed)) Q30)
    (k33_1 : (ir0_stopped = 0) → (¬ ir0_height = 1) → ∀ v2 n2 F2, Q30 v2 n2 F2 → Ev l X M_Mo_find rc30 rs30 33 [(0, .ref r0), (1, .int 0)] (v2.toList ++ []) n2 F2 (ev_mq X Q))
    (c30_2 : (ir0_stopped = 0) → (ir0_height = 1) → Cal l X M_Mo_lookUp bc30_2 bs30_2 [.ref r0] n (ev_up F r0 (moO r0 ir0_drafted ir0_rows ir0_segments ir0_stopped ir0_fuse ir0_written ir0_tokens ir0_height 0 ir0_weighed)) Q30_2)
    (k33_3 : (ir0_stopped = 0) → (ir0_height = 1) → ∀ v2 n2 F2, Q30_2 v2 n2 F2 → Ev l X M_Mo_find rc30_2 rs30_2 33 [(0, .ref r0), (1, .int 1)] (v2.toList ++ []) n2 F2 (ev_mq X Q))
    (q9_4 : (¬ ir0_stopped = 0) → Q (some (.int (-9))) n F) :
    Ev l X M_Mo_find bc bs 0 [(0, .ref r0)] [] n F (ev_mq X Q) := by
  refine ev_aload_n (pc := 0) d_Mo_find_0 rfl ?_
  refine ev_getfield (pc := 1) 12 d_Mo_find_1 fl_Mo_131 h_r0 rfl ?_
  refine ev_if_eq (pc := 4) 10 d_Mo_find_4 (by decide) (fun c4 => ?_) (fun c4 => ?_)
  · refine ev_aload_n (pc := 10) d_Mo_find_10 rfl ?_
    refine ev_iconst (pc := 11) 0 d_Mo_find_11 (by decide) ?_
    refine ev_putfield (pc := 12) 22 _ d_Mo_find_12 fl_Mo_200 h_r0 pf_11_results rfl rfl (Nat.le_of_ble_eq_true rfl) (fun F1_ hF1_ => ?_)
    have g2_ : F1_ r0 = some (moO r0 ir0_drafted ir0_rows ir0_segments ir0_stopped ir0_fuse ir0_written ir0_tokens ir0_height 0 ir0_weighed) := by rw [← hF1_]; exact ev_up_s
    refine ev_aload_n (pc := 15) d_Mo_find_15 rfl ?_
    refine ev_getfield (pc := 16) 18 d_Mo_find_16 fl_Mo_149 g2_ rfl ?_
    refine ev_iconst (pc := 19) 1 d_Mo_find_19 (by decide) ?_
    refine ev_icmp_ne (pc := 20) 27 d_Mo_find_20 (by decide) (fun c20 => ?_) (fun c20 => ?_)
    · refine ev_iconst (pc := 27) 0 d_Mo_find_27 (by decide) ?_
      refine ev_istore_n (pc := 28) d_Mo_find_28 (Nat.le_of_ble_eq_true rfl) [1, 0] rfl ?_
      refine ev_aload_n (pc := 29) d_Mo_find_29 rfl ?_
      exact ev_invokevirtual (pc := 30) (As := []) (st := []) (Q2 := Q30) M_Mo_lookUp rC11 d_Mo_find_30 lc_Mo_203 wd_1124 wd_s41 rfl g2_ rfl rfl (Nat.le_of_ble_eq_true rfl) (Nat.le_of_ble_eq_true rfl) (Nat.le_of_ble_eq_true rfl) hb_rc30 hs_rs30 (by subst hF1_; exact (c30_0 c4 c20)) (k33_1 c4 c20)
    · refine ev_iconst (pc := 23) 1 d_Mo_find_23 (by decide) ?_
      refine ev_goto (pc := 24) 28 d_Mo_find_24 (by decide) ?_
      refine ev_istore_n (pc := 28) d_Mo_find_28 (Nat.le_of_ble_eq_true rfl) [1, 0] rfl ?_
      refine ev_aload_n (pc := 29) d_Mo_find_29 rfl ?_
      exact ev_invokevirtual (pc := 30) (As := []) (st := []) (Q2 := Q30_2) M_Mo_lookUp rC11 d_Mo_find_30 lc_Mo_203 wd_1124 wd_s41 rfl g2_ rfl rfl (Nat.le_of_ble_eq_true rfl) (Nat.le_of_ble_eq_true rfl) (Nat.le_of_ble_eq_true rfl) hb_rc30_2 hs_rs30_2 (by subst hF1_; exact (c30_2 c4 c20)) (k33_3 c4 c20)
  · refine ev_bipush (pc := 7) (-9) d_Mo_find_7 (by decide) ?_
    exact ev_ireturn (pc := 9) d_Mo_find_9 rfl rfl (q9_4 c4)

set_option maxRecDepth 100000 in
set_option maxHeartbeats 4000000 in
theorem s_Mo_find_35 {l : Launch} {X : ev_X} {bc bs n : Nat} {F : ev_H} {Q : Option Value → Nat → ev_H → Prop} {r0 : Nat} {i1 : Int32} {i2 : Int32} {ir0_drafted : Int32} {ir0_rows : Int32} {ir0_segments : Int32} {ir0_stopped : Int32} {ir0_fuse : Int32} {ir0_written : Int32} {ir0_tokens : Int32} {ir0_height : Int32} {ir0_results : Int32} {ir0_weighed : Int32} {r0p17_f : Nat → Int32} {Q61 : Option Value → Nat → ev_H → Prop} {bc61 : Nat} {bs61 : Nat} {rc61 : Nat} {rs61 : Nat} (h_r0 : F r0 = some (moO r0 ir0_drafted ir0_rows ir0_segments ir0_stopped ir0_fuse ir0_written ir0_tokens ir0_height ir0_results ir0_weighed)) (h_r0p17 : F (r0 + 17) = some (.inl (0, 12, .inl r0p17_f))) (hb_rc61 : rc61 + bc61 ≤ bc) (hs_rs61 : rs61 + bs61 ≤ bs)
    (q126_0 : (12 ≤ i2) → (i1 = 0) → Q (some (.int (-3))) n (ev_up (ev_up F r0 (moO r0 ir0_drafted ir0_rows ir0_segments ir0_stopped ir0_fuse ir0_written 0 ir0_height ir0_results ir0_weighed)) r0 (moO r0 ir0_drafted ir0_rows ir0_segments ir0_stopped ir0_fuse ir0_written 0 0 ir0_results ir0_weighed)))
    (q126_1 : (12 ≤ i2) → (¬ i1 = 0) → Q (some (.int ir0_results)) n (ev_up (ev_up F r0 (moO r0 ir0_drafted ir0_rows ir0_segments ir0_stopped ir0_fuse ir0_written 0 ir0_height ir0_results ir0_weighed)) r0 (moO r0 ir0_drafted ir0_rows ir0_segments ir0_stopped ir0_fuse ir0_written 0 0 ir0_results ir0_weighed)))
    (q126_2 : (¬ 12 ≤ i2) → (i1 = 0) → (i1 = 0) → Q (some (.int (-3))) n (ev_up (ev_up F r0 (moO r0 ir0_drafted ir0_rows ir0_segments ir0_stopped ir0_fuse ir0_written 0 ir0_height ir0_results ir0_weighed)) r0 (moO r0 ir0_drafted ir0_rows ir0_segments ir0_stopped ir0_fuse ir0_written 0 0 ir0_results ir0_weighed)))
    (q126_3 : (¬ 12 ≤ i2) → (i1 = 0) → (¬ i1 = 0) → Q (some (.int ir0_results)) n (ev_up (ev_up F r0 (moO r0 ir0_drafted ir0_rows ir0_segments ir0_stopped ir0_fuse ir0_written 0 ir0_height ir0_results ir0_weighed)) r0 (moO r0 ir0_drafted ir0_rows ir0_segments ir0_stopped ir0_fuse ir0_written 0 0 ir0_results ir0_weighed)))
    (in50_4 : (¬ 12 ≤ i2) → (¬ i1 = 0) → vp_in i2 12)
    (k35_5 : (¬ 12 ≤ i2) → (¬ i1 = 0) → ((r0p17_f i2.toNatClampNeg) < 0) → Ev l X M_Mo_find bc bs 35 [(0, .ref r0), (1, .int i1), (2, .int (i2 + 1))] [] n F (ev_mq X Q))
    (in60_6 : (¬ 12 ≤ i2) → (¬ i1 = 0) → (¬ (r0p17_f i2.toNatClampNeg) < 0) → vp_in i2 12)
    (c61_7 : (¬ 12 ≤ i2) → (¬ i1 = 0) → (¬ (r0p17_f i2.toNatClampNeg) < 0) → Cal l X M_Mo_matches bc61 bs61 [.ref r0, .int (r0p17_f i2.toNatClampNeg)] n F Q61)
    (k64_8 : (¬ 12 ≤ i2) → (¬ i1 = 0) → (¬ (r0p17_f i2.toNatClampNeg) < 0) → ∀ v2 n2 F2, Q61 v2 n2 F2 → Ev l X M_Mo_find rc61 rs61 64 [(0, .ref r0), (1, .int i1), (2, .int i2)] (v2.toList ++ []) n2 F2 (ev_mq X Q)) :
    Ev l X M_Mo_find bc bs 35 [(0, .ref r0), (1, .int i1), (2, .int i2)] [] n F (ev_mq X Q) := by
  refine ev_iload_n (pc := 35) d_Mo_find_35 rfl ?_
  refine ev_bipush (pc := 36) 12 d_Mo_find_36 (by decide) ?_
  refine ev_icmp_ge (pc := 38) 103 d_Mo_find_38 (by decide) (fun c38 => ?_) (fun c38 => ?_)
  · refine ev_aload_n (pc := 103) d_Mo_find_103 rfl ?_
    refine ev_iconst (pc := 104) 0 d_Mo_find_104 (by decide) ?_
    refine ev_putfield (pc := 105) 15 _ d_Mo_find_105 fl_Mo_146 h_r0 pf_11_tokens rfl rfl (Nat.le_of_ble_eq_true rfl) (fun F1_ hF1_ => ?_)
    have g2_ : F1_ r0 = some (moO r0 ir0_drafted ir0_rows ir0_segments ir0_stopped ir0_fuse ir0_written 0 ir0_height ir0_results ir0_weighed) := by rw [← hF1_]; exact ev_up_s
    refine ev_aload_n (pc := 108) d_Mo_find_108 rfl ?_
    refine ev_iconst (pc := 109) 0 d_Mo_find_109 (by decide) ?_
    refine ev_putfield (pc := 110) 18 _ d_Mo_find_110 fl_Mo_149 g2_ pf_11_height rfl rfl (Nat.le_of_ble_eq_true rfl) (fun F3_ hF3_ => ?_)
    have g4_ : F3_ r0 = some (moO r0 ir0_drafted ir0_rows ir0_segments ir0_stopped ir0_fuse ir0_written 0 0 ir0_results ir0_weighed) := by rw [← hF3_]; exact ev_up_s
    refine ev_iload_n (pc := 113) d_Mo_find_113 rfl ?_
    refine ev_if_eq (pc := 114) 124 d_Mo_find_114 (by decide) (fun c114 => ?_) (fun c114 => ?_)
    · refine ev_bipush (pc := 124) (-3) d_Mo_find_124 (by decide) ?_
      exact ev_ireturn (pc := 126) d_Mo_find_126 rfl rfl (by subst hF1_ hF3_; exact (q126_0 c38 c114))
    · refine ev_aload_n (pc := 117) d_Mo_find_117 rfl ?_
      refine ev_getfield (pc := 118) 22 d_Mo_find_118 fl_Mo_200 g4_ rfl ?_
      refine ev_goto (pc := 121) 126 d_Mo_find_121 (by decide) ?_
      exact ev_ireturn (pc := 126) d_Mo_find_126 rfl rfl (by subst hF1_ hF3_; exact (q126_1 c38 c114))
  · refine ev_iload_n (pc := 41) d_Mo_find_41 rfl ?_
    refine ev_if_eq (pc := 42) 103 d_Mo_find_42 (by decide) (fun c42 => ?_) (fun c42 => ?_)
    · refine ev_aload_n (pc := 103) d_Mo_find_103 rfl ?_
      refine ev_iconst (pc := 104) 0 d_Mo_find_104 (by decide) ?_
      refine ev_putfield (pc := 105) 15 _ d_Mo_find_105 fl_Mo_146 h_r0 pf_11_tokens rfl rfl (Nat.le_of_ble_eq_true rfl) (fun F5_ hF5_ => ?_)
      have g6_ : F5_ r0 = some (moO r0 ir0_drafted ir0_rows ir0_segments ir0_stopped ir0_fuse ir0_written 0 ir0_height ir0_results ir0_weighed) := by rw [← hF5_]; exact ev_up_s
      refine ev_aload_n (pc := 108) d_Mo_find_108 rfl ?_
      refine ev_iconst (pc := 109) 0 d_Mo_find_109 (by decide) ?_
      refine ev_putfield (pc := 110) 18 _ d_Mo_find_110 fl_Mo_149 g6_ pf_11_height rfl rfl (Nat.le_of_ble_eq_true rfl) (fun F7_ hF7_ => ?_)
      have g8_ : F7_ r0 = some (moO r0 ir0_drafted ir0_rows ir0_segments ir0_stopped ir0_fuse ir0_written 0 0 ir0_results ir0_weighed) := by rw [← hF7_]; exact ev_up_s
      refine ev_iload_n (pc := 113) d_Mo_find_113 rfl ?_
      refine ev_if_eq (pc := 114) 124 d_Mo_find_114 (by decide) (fun c114 => ?_) (fun c114 => ?_)
      · refine ev_bipush (pc := 124) (-3) d_Mo_find_124 (by decide) ?_
        exact ev_ireturn (pc := 126) d_Mo_find_126 rfl rfl (by subst hF5_ hF7_; exact (q126_2 c38 c42 c114))
      · refine ev_aload_n (pc := 117) d_Mo_find_117 rfl ?_
        refine ev_getfield (pc := 118) 22 d_Mo_find_118 fl_Mo_200 g8_ rfl ?_
        refine ev_goto (pc := 121) 126 d_Mo_find_121 (by decide) ?_
        exact ev_ireturn (pc := 126) d_Mo_find_126 rfl rfl (by subst hF5_ hF7_; exact (q126_3 c38 c42 c114))
    · refine ev_aload_n (pc := 45) d_Mo_find_45 rfl ?_
      refine ev_getfield (pc := 46) 26 d_Mo_find_46 fl_Mo_60 h_r0 rfl ?_
      refine ev_iload_n (pc := 49) d_Mo_find_49 rfl ?_
      refine ev_iaload (pc := 50) d_Mo_find_50 h_r0p17 rfl (in50_4 c38 c42) ?_
      refine ev_if_lt (pc := 51) 97 d_Mo_find_51 (by decide) (fun c51 => ?_) (fun c51 => ?_)
      · refine ev_iinc (pc := 97) 2 1 d_Mo_find_97 rfl (by decide) (Nat.le_of_ble_eq_true rfl) [1, 2, 0] rfl ?_
        refine ev_goto (pc := 100) 35 d_Mo_find_100 (by decide) ?_
        exact (k35_5 c38 c42 c51)
      · refine ev_aload_n (pc := 54) d_Mo_find_54 rfl ?_
        refine ev_aload_n (pc := 55) d_Mo_find_55 rfl ?_
        refine ev_getfield (pc := 56) 26 d_Mo_find_56 fl_Mo_60 h_r0 rfl ?_
        refine ev_iload_n (pc := 59) d_Mo_find_59 rfl ?_
        refine ev_iaload (pc := 60) d_Mo_find_60 h_r0p17 rfl (in60_6 c38 c42 c51) ?_
        exact ev_invokevirtual (pc := 61) (As := [.int (r0p17_f i2.toNatClampNeg)]) (st := []) (Q2 := Q61) M_Mo_matches rC11 d_Mo_find_61 lc_Mo_206 wd_1128 wd_s42 rfl h_r0 rfl rfl (Nat.le_of_ble_eq_true rfl) (Nat.le_of_ble_eq_true rfl) (Nat.le_of_ble_eq_true rfl) hb_rc61 hs_rs61 (c61_7 c38 c42 c51) (k64_8 c38 c42 c51)

set_option maxRecDepth 100000 in
set_option maxHeartbeats 4000000 in
theorem s_Mo_find_33 {l : Launch} {X : ev_X} {bc bs n : Nat} {F : ev_H} {Q : Option Value → Nat → ev_H → Prop} {r0 : Nat} {i1 : Int32} 
    (k35_0 : Ev l X M_Mo_find bc bs 35 [(0, .ref r0), (1, .int i1), (2, .int 0)] [] n F (ev_mq X Q)) :
    Ev l X M_Mo_find bc bs 33 [(0, .ref r0), (1, .int i1)] [] n F (ev_mq X Q) := by
  refine ev_iconst (pc := 33) 0 d_Mo_find_33 (by decide) ?_
  refine ev_istore_n (pc := 34) d_Mo_find_34 (Nat.le_of_ble_eq_true rfl) [1, 2, 0] rfl ?_
  exact k35_0

set_option maxRecDepth 100000 in
set_option maxHeartbeats 4000000 in
theorem s_Mo_find_64 {l : Launch} {X : ev_X} {bc bs n : Nat} {F : ev_H} {Q : Option Value → Nat → ev_H → Prop} {r0 : Nat} {i1 : Int32} {i2 : Int32} {is0 : Int32} {ir0_drafted : Int32} {ir0_rows : Int32} {ir0_segments : Int32} {ir0_stopped : Int32} {ir0_fuse : Int32} {ir0_written : Int32} {ir0_tokens : Int32} {ir0_height : Int32} {ir0_results : Int32} {ir0_weighed : Int32} {r0p15_f : Nat → Int32} {r0p16_f : Nat → Int64} (h_r0 : F r0 = some (moO r0 ir0_drafted ir0_rows ir0_segments ir0_stopped ir0_fuse ir0_written ir0_tokens ir0_height ir0_results ir0_weighed)) (h_r0p15 : F (r0 + 15) = some (.inl (0, 12, .inl r0p15_f))) (h_r0p16 : F (r0 + 16) = some (.inl (1, 12, .inr (.inl r0p16_f))))
    (k35_0 : (is0 = 0) → Ev l X M_Mo_find bc bs 35 [(0, .ref r0), (1, .int i1), (2, .int (i2 + 1))] [] n F (ev_mq X Q))
    (in76_1 : (¬ is0 = 0) → vp_in ir0_results 12)
    (in86_2 : (¬ is0 = 0) → vp_in ir0_results 12)
    (k35_3 : (¬ is0 = 0) → Ev l X M_Mo_find bc bs 35 [(0, .ref r0), (1, .int i1), (2, .int (i2 + 1))] [] n (ev_up (ev_up (ev_up F (r0 + 15) (.inl (0, 12, .inl (upd r0p15_f ir0_results.toNatClampNeg i2)))) (r0 + 16) (.inl (1, 12, .inr (.inl (vp_updL r0p16_f ir0_results.toNatClampNeg 0))))) r0 (moO r0 ir0_drafted ir0_rows ir0_segments ir0_stopped ir0_fuse ir0_written ir0_tokens ir0_height (ir0_results + 1) ir0_weighed)) (ev_mq X Q)) :
    Ev l X M_Mo_find bc bs 64 [(0, .ref r0), (1, .int i1), (2, .int i2)] [.int is0] n F (ev_mq X Q) := by
  refine ev_if_eq (pc := 64) 97 d_Mo_find_64 (by decide) (fun c64 => ?_) (fun c64 => ?_)
  · refine ev_iinc (pc := 97) 2 1 d_Mo_find_97 rfl (by decide) (Nat.le_of_ble_eq_true rfl) [1, 2, 0] rfl ?_
    refine ev_goto (pc := 100) 35 d_Mo_find_100 (by decide) ?_
    exact (k35_0 c64)
  · refine ev_aload_n (pc := 67) d_Mo_find_67 rfl ?_
    refine ev_getfield (pc := 68) 23 d_Mo_find_68 fl_Mo_54 h_r0 rfl ?_
    refine ev_aload_n (pc := 71) d_Mo_find_71 rfl ?_
    refine ev_getfield (pc := 72) 22 d_Mo_find_72 fl_Mo_200 h_r0 rfl ?_
    refine ev_iload_n (pc := 75) d_Mo_find_75 rfl ?_
    refine ev_iastore (pc := 76) d_Mo_find_76 h_r0p15 rfl (in76_1 c64) (fun F1_ hF1_ => ?_)
    have g2_ : F1_ r0 = some (moO r0 ir0_drafted ir0_rows ir0_segments ir0_stopped ir0_fuse ir0_written ir0_tokens ir0_height ir0_results ir0_weighed) := by rw [← hF1_]; exact ev_up_k (ev_ne_oa h_r0 h_r0p15) h_r0
    have g3_ : F1_ (r0 + 15) = some (.inl (0, 12, .inl (upd r0p15_f ir0_results.toNatClampNeg i2))) := by rw [← hF1_]; exact ev_up_s
    refine ev_aload_n (pc := 77) d_Mo_find_77 rfl ?_
    refine ev_getfield (pc := 78) 24 d_Mo_find_78 fl_Mo_57 g2_ rfl ?_
    refine ev_aload_n (pc := 81) d_Mo_find_81 rfl ?_
    refine ev_getfield (pc := 82) 22 d_Mo_find_82 fl_Mo_200 g2_ rfl ?_
    refine ev_lconst (pc := 85) 0 d_Mo_find_85 (by decide) ?_
    have g4_ : F1_ (r0 + 16) = some (.inl (1, 12, .inr (.inl r0p16_f))) := by rw [← hF1_]; exact ev_up_k (ev_ne_aa h_r0p16 h_r0p15 rfl) h_r0p16
    refine ev_lastore (pc := 86) d_Mo_find_86 g4_ rfl (in86_2 c64) (fun F5_ hF5_ => ?_)
    have g6_ : F5_ r0 = some (moO r0 ir0_drafted ir0_rows ir0_segments ir0_stopped ir0_fuse ir0_written ir0_tokens ir0_height ir0_results ir0_weighed) := by rw [← hF5_]; exact ev_up_k (ev_ne_oa g2_ g4_) g2_
    have g7_ : F5_ (r0 + 15) = some (.inl (0, 12, .inl (upd r0p15_f ir0_results.toNatClampNeg i2))) := by rw [← hF5_]; exact ev_up_k (ev_ne_aa g3_ g4_ rfl) g3_
    have g8_ : F5_ (r0 + 16) = some (.inl (1, 12, .inr (.inl (vp_updL r0p16_f ir0_results.toNatClampNeg 0)))) := by rw [← hF5_]; exact ev_up_s
    refine ev_aload_n (pc := 87) d_Mo_find_87 rfl ?_
    refine ev_dup (pc := 88) d_Mo_find_88 rfl ?_
    refine ev_getfield (pc := 89) 22 d_Mo_find_89 fl_Mo_200 g6_ rfl ?_
    refine ev_iconst (pc := 92) 1 d_Mo_find_92 (by decide) ?_
    refine ev_iadd (pc := 93) d_Mo_find_93 ?_
    refine ev_putfield (pc := 94) 22 _ d_Mo_find_94 fl_Mo_200 g6_ pf_11_results rfl rfl (Nat.le_of_ble_eq_true rfl) (fun F9_ hF9_ => ?_)
    have g10_ : F9_ (r0 + 15) = some (.inl (0, 12, .inl (upd r0p15_f ir0_results.toNatClampNeg i2))) := by rw [← hF9_]; exact ev_up_k (ev_ne_ao g7_ g6_) g7_
    have g11_ : F9_ (r0 + 16) = some (.inl (1, 12, .inr (.inl (vp_updL r0p16_f ir0_results.toNatClampNeg 0)))) := by rw [← hF9_]; exact ev_up_k (ev_ne_ao g8_ g6_) g8_
    have g12_ : F9_ r0 = some (moO r0 ir0_drafted ir0_rows ir0_segments ir0_stopped ir0_fuse ir0_written ir0_tokens ir0_height (ir0_results + 1) ir0_weighed) := by rw [← hF9_]; exact ev_up_s
    refine ev_iinc (pc := 97) 2 1 d_Mo_find_97 rfl (by decide) (Nat.le_of_ble_eq_true rfl) [1, 2, 0] rfl ?_
    refine ev_goto (pc := 100) 35 d_Mo_find_100 (by decide) ?_
    exact (by subst hF1_ hF5_ hF9_; exact (k35_3 c64))
set_option maxRecDepth 100000 in
set_option maxHeartbeats 4000000 in
theorem s_Mo_lookUp_0 {l : Launch} {X : ev_X} {bc bs n : Nat} {F : ev_H} {Q : Option Value → Nat → ev_H → Prop} {r0 : Nat} 
    (k2_0 : Ev l X M_Mo_lookUp bc bs 2 [(0, .ref r0), (1, .int 0)] [] n F (ev_mq X Q)) :
    Ev l X M_Mo_lookUp bc bs 0 [(0, .ref r0)] [] n F (ev_mq X Q) := by
  refine ev_iconst (pc := 0) 0 d_Mo_lookUp_0 (by decide) ?_
  refine ev_istore_n (pc := 1) d_Mo_lookUp_1 (Nat.le_of_ble_eq_true rfl) [1, 0] rfl ?_
  exact k2_0

set_option maxRecDepth 100000 in
set_option maxHeartbeats 4000000 in
theorem s_Mo_lookUp_2 {l : Launch} {X : ev_X} {bc bs n : Nat} {F : ev_H} {Q : Option Value → Nat → ev_H → Prop} {r0 : Nat} {i1 : Int32} {ir0_drafted : Int32} {ir0_rows : Int32} {ir0_segments : Int32} {ir0_stopped : Int32} {ir0_fuse : Int32} {ir0_written : Int32} {ir0_tokens : Int32} {ir0_height : Int32} {ir0_results : Int32} {ir0_weighed : Int32} {r0p17_f : Nat → Int32} (h_r0 : F r0 = some (moO r0 ir0_drafted ir0_rows ir0_segments ir0_stopped ir0_fuse ir0_written ir0_tokens ir0_height ir0_results ir0_weighed)) (h_r0p17 : F (r0 + 17) = some (.inl (0, 12, .inl r0p17_f)))
    (k23_0 : (12 ≤ i1) → Ev l X M_Mo_lookUp bc bs 23 [(0, .ref r0), (1, .int 0)] [] n F (ev_mq X Q))
    (in14_1 : (¬ 12 ≤ i1) → vp_in i1 12)
    (k2_2 : (¬ 12 ≤ i1) → Ev l X M_Mo_lookUp bc bs 2 [(0, .ref r0), (1, .int (i1 + 1))] [] n (ev_up F (r0 + 17) (.inl (0, 12, .inl (upd r0p17_f i1.toNatClampNeg (-1))))) (ev_mq X Q)) :
    Ev l X M_Mo_lookUp bc bs 2 [(0, .ref r0), (1, .int i1)] [] n F (ev_mq X Q) := by
  refine ev_iload_n (pc := 2) d_Mo_lookUp_2 rfl ?_
  refine ev_bipush (pc := 3) 12 d_Mo_lookUp_3 (by decide) ?_
  refine ev_icmp_ge (pc := 5) 21 d_Mo_lookUp_5 (by decide) (fun c5 => ?_) (fun c5 => ?_)
  · refine ev_iconst (pc := 21) 0 d_Mo_lookUp_21 (by decide) ?_
    refine ev_istore_n (pc := 22) d_Mo_lookUp_22 (Nat.le_of_ble_eq_true rfl) [1, 0] rfl ?_
    exact (k23_0 c5)
  · refine ev_aload_n (pc := 8) d_Mo_lookUp_8 rfl ?_
    refine ev_getfield (pc := 9) 26 d_Mo_lookUp_9 fl_Mo_60 h_r0 rfl ?_
    refine ev_iload_n (pc := 12) d_Mo_lookUp_12 rfl ?_
    refine ev_iconst (pc := 13) (-1) d_Mo_lookUp_13 (by decide) ?_
    refine ev_iastore (pc := 14) d_Mo_lookUp_14 h_r0p17 rfl (in14_1 c5) (fun F1_ hF1_ => ?_)
    have g2_ : F1_ r0 = some (moO r0 ir0_drafted ir0_rows ir0_segments ir0_stopped ir0_fuse ir0_written ir0_tokens ir0_height ir0_results ir0_weighed) := by rw [← hF1_]; exact ev_up_k (ev_ne_oa h_r0 h_r0p17) h_r0
    have g3_ : F1_ (r0 + 17) = some (.inl (0, 12, .inl (upd r0p17_f i1.toNatClampNeg (-1)))) := by rw [← hF1_]; exact ev_up_s
    refine ev_iinc (pc := 15) 1 1 d_Mo_lookUp_15 rfl (by decide) (Nat.le_of_ble_eq_true rfl) [1, 0] rfl ?_
    refine ev_goto (pc := 18) 2 d_Mo_lookUp_18 (by decide) ?_
    exact (by subst hF1_; exact (k2_2 c5))

set_option maxRecDepth 100000 in
set_option maxHeartbeats 4000000 in
theorem s_Mo_lookUp_23 {l : Launch} {X : ev_X} {bc bs n : Nat} {F : ev_H} {Q : Option Value → Nat → ev_H → Prop} {r0 : Nat} {i1 : Int32} {ir0_drafted : Int32} {ir0_rows : Int32} {ir0_segments : Int32} {ir0_stopped : Int32} {ir0_fuse : Int32} {ir0_written : Int32} {ir0_tokens : Int32} {ir0_height : Int32} {ir0_results : Int32} {ir0_weighed : Int32} {r0p7_f : Nat → Int32} {r0p5_f : Nat → Int32} {r0p17_f : Nat → Int32} (h_r0 : F r0 = some (moO r0 ir0_drafted ir0_rows ir0_segments ir0_stopped ir0_fuse ir0_written ir0_tokens ir0_height ir0_results ir0_weighed)) (h_r0p7 : F (r0 + 7) = some (.inl (2, 80, .inl r0p7_f))) (h_r0p5 : F (r0 + 5) = some (.inl (0, 80, .inl r0p5_f))) (h_r0p17 : F (r0 + 17) = some (.inl (0, 12, .inl r0p17_f)))
    (q58_0 : (ir0_rows ≤ i1) → Q none n F)
    (in36_1 : (¬ ir0_rows ≤ i1) → vp_in i1 80)
    (k23_2 : (¬ ir0_rows ≤ i1) → (¬ (r0p7_f i1.toNatClampNeg) = 0) → Ev l X M_Mo_lookUp bc bs 23 [(0, .ref r0), (1, .int (i1 + 1))] [] n F (ev_mq X Q))
    (in49_3 : (¬ ir0_rows ≤ i1) → ((r0p7_f i1.toNatClampNeg) = 0) → vp_in i1 80)
    (in51_4 : (¬ ir0_rows ≤ i1) → ((r0p7_f i1.toNatClampNeg) = 0) → vp_in (r0p5_f i1.toNatClampNeg) 12)
    (k23_5 : (¬ ir0_rows ≤ i1) → ((r0p7_f i1.toNatClampNeg) = 0) → Ev l X M_Mo_lookUp bc bs 23 [(0, .ref r0), (1, .int (i1 + 1))] [] n (ev_up F (r0 + 17) (.inl (0, 12, .inl (upd r0p17_f (r0p5_f i1.toNatClampNeg).toNatClampNeg i1)))) (ev_mq X Q)) :
    Ev l X M_Mo_lookUp bc bs 23 [(0, .ref r0), (1, .int i1)] [] n F (ev_mq X Q) := by
  refine ev_iload_n (pc := 23) d_Mo_lookUp_23 rfl ?_
  refine ev_aload_n (pc := 24) d_Mo_lookUp_24 rfl ?_
  refine ev_getfield (pc := 25) 5 d_Mo_lookUp_25 fl_Mo_158 h_r0 rfl ?_
  refine ev_icmp_ge (pc := 28) 58 d_Mo_lookUp_28 (by decide) (fun c28 => ?_) (fun c28 => ?_)
  · exact ev_return (pc := 58) d_Mo_lookUp_58 rfl (q58_0 c28)
  · refine ev_aload_n (pc := 31) d_Mo_lookUp_31 rfl ?_
    refine ev_getfield (pc := 32) 8 d_Mo_lookUp_32 fl_Mo_29 h_r0 rfl ?_
    refine ev_iload_n (pc := 35) d_Mo_lookUp_35 rfl ?_
    refine ev_zaload (pc := 36) d_Mo_lookUp_36 h_r0p7 rfl (in36_1 c28) ?_
    refine ev_if_ne (pc := 37) 52 d_Mo_lookUp_37 (by decide) (fun c37 => ?_) (fun c37 => ?_)
    · refine ev_iinc (pc := 52) 1 1 d_Mo_lookUp_52 rfl (by decide) (Nat.le_of_ble_eq_true rfl) [1, 0] rfl ?_
      refine ev_goto (pc := 55) 23 d_Mo_lookUp_55 (by decide) ?_
      exact (k23_2 c28 c37)
    · refine ev_aload_n (pc := 40) d_Mo_lookUp_40 rfl ?_
      refine ev_getfield (pc := 41) 26 d_Mo_lookUp_41 fl_Mo_60 h_r0 rfl ?_
      refine ev_aload_n (pc := 44) d_Mo_lookUp_44 rfl ?_
      refine ev_getfield (pc := 45) 6 d_Mo_lookUp_45 fl_Mo_23 h_r0 rfl ?_
      refine ev_iload_n (pc := 48) d_Mo_lookUp_48 rfl ?_
      refine ev_iaload (pc := 49) d_Mo_lookUp_49 h_r0p5 rfl (in49_3 c28 c37) ?_
      refine ev_iload_n (pc := 50) d_Mo_lookUp_50 rfl ?_
      refine ev_iastore (pc := 51) d_Mo_lookUp_51 h_r0p17 rfl (in51_4 c28 c37) (fun F1_ hF1_ => ?_)
      have g2_ : F1_ r0 = some (moO r0 ir0_drafted ir0_rows ir0_segments ir0_stopped ir0_fuse ir0_written ir0_tokens ir0_height ir0_results ir0_weighed) := by rw [← hF1_]; exact ev_up_k (ev_ne_oa h_r0 h_r0p17) h_r0
      have g3_ : F1_ (r0 + 7) = some (.inl (2, 80, .inl r0p7_f)) := by rw [← hF1_]; exact ev_up_k (ev_ne_aa h_r0p7 h_r0p17 rfl) h_r0p7
      have g4_ : F1_ (r0 + 5) = some (.inl (0, 80, .inl r0p5_f)) := by rw [← hF1_]; exact ev_up_k (by omega) h_r0p5
      have g5_ : F1_ (r0 + 17) = some (.inl (0, 12, .inl (upd r0p17_f (r0p5_f i1.toNatClampNeg).toNatClampNeg i1))) := by rw [← hF1_]; exact ev_up_s
      refine ev_iinc (pc := 52) 1 1 d_Mo_lookUp_52 rfl (by decide) (Nat.le_of_ble_eq_true rfl) [1, 0] rfl ?_
      refine ev_goto (pc := 55) 23 d_Mo_lookUp_55 (by decide) ?_
      exact (by subst hF1_; exact (k23_5 c28 c37))
set_option maxRecDepth 100000 in
set_option maxHeartbeats 4000000 in
theorem s_Mo_matches_0 {l : Launch} {X : ev_X} {bc bs n : Nat} {F : ev_H} {Q : Option Value → Nat → ev_H → Prop} {r0 : Nat} {i1 : Int32} 
    (k4_0 : Ev l X M_Mo_matches bc bs 4 [(0, .ref r0), (1, .int i1), (2, .int 0), (3, .int 0)] [] n F (ev_mq X Q)) :
    Ev l X M_Mo_matches bc bs 0 [(0, .ref r0), (1, .int i1)] [] n F (ev_mq X Q) := by
  refine ev_iconst (pc := 0) 0 d_Mo_matches_0 (by decide) ?_
  refine ev_istore_n (pc := 1) d_Mo_matches_1 (Nat.le_of_ble_eq_true rfl) [1, 2, 0] rfl ?_
  refine ev_iconst (pc := 2) 0 d_Mo_matches_2 (by decide) ?_
  refine ev_istore_n (pc := 3) d_Mo_matches_3 (Nat.le_of_ble_eq_true rfl) [1, 2, 3, 0] rfl ?_
  exact k4_0

set_option maxRecDepth 100000 in
set_option maxHeartbeats 4000000 in
theorem s_Mo_matches_4 {l : Launch} {X : ev_X} {bc bs n : Nat} {F : ev_H} {Q : Option Value → Nat → ev_H → Prop} {r0 : Nat} {i1 : Int32} {i2 : Int32} {i3 : Int32} {ir0_drafted : Int32} {ir0_rows : Int32} {ir0_segments : Int32} {ir0_stopped : Int32} {ir0_fuse : Int32} {ir0_written : Int32} {ir0_tokens : Int32} {ir0_height : Int32} {ir0_results : Int32} {ir0_weighed : Int32} {r0p14_f : Nat → Int32} {r0p10_f : Nat → Int32} {r0p11_f : Nat → Int64} {v90 : Int32} {v34 : Int32} (h_r0 : F r0 = some (moO r0 ir0_drafted ir0_rows ir0_segments ir0_stopped ir0_fuse ir0_written ir0_tokens ir0_height ir0_results ir0_weighed)) (h_r0p14 : F (r0 + 14) = some (.inl (2, 8, .inl r0p14_f))) (h_r0p10 : F (r0 + 10) = some (.inl (0, 520, .inl r0p10_f))) (h_r0p11 : F (r0 + 11) = some (.inl (1, 520, .inr (.inl r0p11_f))))
    (in219_0 : (ir0_tokens ≤ i3) → vp_in 0 8)
    (q220_1 : (ir0_tokens ≤ i3) → Q (some (.int (r0p14_f (0 : Int32).toNatClampNeg))) n F)
    (nr220_2 : (ir0_tokens ≤ i3) → narrow .boolean (.int (r0p14_f (0 : Int32).toNatClampNeg)) = .int (r0p14_f (0 : Int32).toNatClampNeg))
    (in17_3 : (¬ ir0_tokens ≤ i3) → vp_in i3 520)
    (in57_4 : (¬ ir0_tokens ≤ i3) → (¬ (r0p10_f i3.toNatClampNeg) = 0) → vp_in i3 520)
    (in102_5 : (¬ ir0_tokens ≤ i3) → (¬ (r0p10_f i3.toNatClampNeg) = 0) → (¬ (r0p10_f i3.toNatClampNeg) = 1) → vp_in i3 520)
    (in149_6 : (¬ ir0_tokens ≤ i3) → (¬ (r0p10_f i3.toNatClampNeg) = 0) → (¬ (r0p10_f i3.toNatClampNeg) = 1) → (¬ (r0p10_f i3.toNatClampNeg) = 4) → vp_in i3 520)
    (in189_7 : (¬ ir0_tokens ≤ i3) → (¬ (r0p10_f i3.toNatClampNeg) = 0) → (¬ (r0p10_f i3.toNatClampNeg) = 1) → (¬ (r0p10_f i3.toNatClampNeg) = 4) → (¬ (r0p10_f i3.toNatClampNeg) = 2) → vp_in ((i2 + (-1)) - 1) 8)
    (k207_8 : (¬ ir0_tokens ≤ i3) → (¬ (r0p10_f i3.toNatClampNeg) = 0) → (¬ (r0p10_f i3.toNatClampNeg) = 1) → (¬ (r0p10_f i3.toNatClampNeg) = 4) → (¬ (r0p10_f i3.toNatClampNeg) = 2) → (¬ (r0p14_f ((i2 + (-1)) - 1).toNatClampNeg) = 0) → Ev l X M_Mo_matches bc bs 207 [(0, .ref r0), (1, .int i1), (2, .int (i2 + (-1))), (3, .int i3)] [.int 1, .int ((i2 + (-1)) - 1), .ref (r0 + 14)] n F (ev_mq X Q))
    (in198_9 : (¬ ir0_tokens ≤ i3) → (¬ (r0p10_f i3.toNatClampNeg) = 0) → (¬ (r0p10_f i3.toNatClampNeg) = 1) → (¬ (r0p10_f i3.toNatClampNeg) = 4) → (¬ (r0p10_f i3.toNatClampNeg) = 2) → ((r0p14_f ((i2 + (-1)) - 1).toNatClampNeg) = 0) → vp_in (i2 + (-1)) 8)
    (k207_10 : (¬ ir0_tokens ≤ i3) → (¬ (r0p10_f i3.toNatClampNeg) = 0) → (¬ (r0p10_f i3.toNatClampNeg) = 1) → (¬ (r0p10_f i3.toNatClampNeg) = 4) → (¬ (r0p10_f i3.toNatClampNeg) = 2) → ((r0p14_f ((i2 + (-1)) - 1).toNatClampNeg) = 0) → ((r0p14_f (i2 + (-1)).toNatClampNeg) = 0) → Ev l X M_Mo_matches bc bs 207 [(0, .ref r0), (1, .int i1), (2, .int (i2 + (-1))), (3, .int i3)] [.int 0, .int ((i2 + (-1)) - 1), .ref (r0 + 14)] n F (ev_mq X Q))
    (k207_11 : (¬ ir0_tokens ≤ i3) → (¬ (r0p10_f i3.toNatClampNeg) = 0) → (¬ (r0p10_f i3.toNatClampNeg) = 1) → (¬ (r0p10_f i3.toNatClampNeg) = 4) → (¬ (r0p10_f i3.toNatClampNeg) = 2) → ((r0p14_f ((i2 + (-1)) - 1).toNatClampNeg) = 0) → (¬ (r0p14_f (i2 + (-1)).toNatClampNeg) = 0) → Ev l X M_Mo_matches bc bs 207 [(0, .ref r0), (1, .int i1), (2, .int (i2 + (-1))), (3, .int i3)] [.int 1, .int ((i2 + (-1)) - 1), .ref (r0 + 14)] n F (ev_mq X Q))
    (in161_12 : (¬ ir0_tokens ≤ i3) → (¬ (r0p10_f i3.toNatClampNeg) = 0) → (¬ (r0p10_f i3.toNatClampNeg) = 1) → (¬ (r0p10_f i3.toNatClampNeg) = 4) → ((r0p10_f i3.toNatClampNeg) = 2) → vp_in ((i2 + (-1)) - 1) 8)
    (k207_13 : (¬ ir0_tokens ≤ i3) → (¬ (r0p10_f i3.toNatClampNeg) = 0) → (¬ (r0p10_f i3.toNatClampNeg) = 1) → (¬ (r0p10_f i3.toNatClampNeg) = 4) → ((r0p10_f i3.toNatClampNeg) = 2) → ((r0p14_f ((i2 + (-1)) - 1).toNatClampNeg) = 0) → Ev l X M_Mo_matches bc bs 207 [(0, .ref r0), (1, .int i1), (2, .int (i2 + (-1))), (3, .int i3)] [.int 0, .int ((i2 + (-1)) - 1), .ref (r0 + 14)] n F (ev_mq X Q))
    (in170_14 : (¬ ir0_tokens ≤ i3) → (¬ (r0p10_f i3.toNatClampNeg) = 0) → (¬ (r0p10_f i3.toNatClampNeg) = 1) → (¬ (r0p10_f i3.toNatClampNeg) = 4) → ((r0p10_f i3.toNatClampNeg) = 2) → (¬ (r0p14_f ((i2 + (-1)) - 1).toNatClampNeg) = 0) → vp_in (i2 + (-1)) 8)
    (k207_15 : (¬ ir0_tokens ≤ i3) → (¬ (r0p10_f i3.toNatClampNeg) = 0) → (¬ (r0p10_f i3.toNatClampNeg) = 1) → (¬ (r0p10_f i3.toNatClampNeg) = 4) → ((r0p10_f i3.toNatClampNeg) = 2) → (¬ (r0p14_f ((i2 + (-1)) - 1).toNatClampNeg) = 0) → ((r0p14_f (i2 + (-1)).toNatClampNeg) = 0) → Ev l X M_Mo_matches bc bs 207 [(0, .ref r0), (1, .int i1), (2, .int (i2 + (-1))), (3, .int i3)] [.int 0, .int ((i2 + (-1)) - 1), .ref (r0 + 14)] n F (ev_mq X Q))
    (k207_16 : (¬ ir0_tokens ≤ i3) → (¬ (r0p10_f i3.toNatClampNeg) = 0) → (¬ (r0p10_f i3.toNatClampNeg) = 1) → (¬ (r0p10_f i3.toNatClampNeg) = 4) → ((r0p10_f i3.toNatClampNeg) = 2) → (¬ (r0p14_f ((i2 + (-1)) - 1).toNatClampNeg) = 0) → (¬ (r0p14_f (i2 + (-1)).toNatClampNeg) = 0) → Ev l X M_Mo_matches bc bs 207 [(0, .ref r0), (1, .int i1), (2, .int (i2 + (-1))), (3, .int i3)] [.int 1, .int ((i2 + (-1)) - 1), .ref (r0 + 14)] n F (ev_mq X Q))
    (in121_17 : (¬ ir0_tokens ≤ i3) → (¬ (r0p10_f i3.toNatClampNeg) = 0) → (¬ (r0p10_f i3.toNatClampNeg) = 1) → ((r0p10_f i3.toNatClampNeg) = 4) → vp_in (i2 - 1) 8)
    (in130_18 : (¬ ir0_tokens ≤ i3) → (¬ (r0p10_f i3.toNatClampNeg) = 0) → (¬ (r0p10_f i3.toNatClampNeg) = 1) → ((r0p10_f i3.toNatClampNeg) = 4) → (¬ (r0p14_f (i2 - 1).toNatClampNeg) = 0) → vp_in (i2 - 1) 8)
    (k208_19 : (¬ ir0_tokens ≤ i3) → (¬ (r0p10_f i3.toNatClampNeg) = 0) → (¬ (r0p10_f i3.toNatClampNeg) = 1) → ((r0p10_f i3.toNatClampNeg) = 4) → (¬ (r0p14_f (i2 - 1).toNatClampNeg) = 0) → Ev l X M_Mo_matches bc bs 208 [(0, .ref r0), (1, .int i1), (2, .int i2), (3, .int i3)] [] n (ev_up F (r0 + 14) (.inl (2, 8, .inl (upd r0p14_f (i2 - 1).toNatClampNeg 0)))) (ev_mq X Q))
    (in130_20 : (¬ ir0_tokens ≤ i3) → (¬ (r0p10_f i3.toNatClampNeg) = 0) → (¬ (r0p10_f i3.toNatClampNeg) = 1) → ((r0p10_f i3.toNatClampNeg) = 4) → ((r0p14_f (i2 - 1).toNatClampNeg) = 0) → vp_in (i2 - 1) 8)
    (k208_21 : (¬ ir0_tokens ≤ i3) → (¬ (r0p10_f i3.toNatClampNeg) = 0) → (¬ (r0p10_f i3.toNatClampNeg) = 1) → ((r0p10_f i3.toNatClampNeg) = 4) → ((r0p14_f (i2 - 1).toNatClampNeg) = 0) → Ev l X M_Mo_matches bc bs 208 [(0, .ref r0), (1, .int i1), (2, .int i2), (3, .int i3)] [] n (ev_up F (r0 + 14) (.inl (2, 8, .inl (upd r0p14_f (i2 - 1).toNatClampNeg 1)))) (ev_mq X Q))
    (in67_22 : (¬ ir0_tokens ≤ i3) → (¬ (r0p10_f i3.toNatClampNeg) = 0) → ((r0p10_f i3.toNatClampNeg) = 1) → vp_in i3 520)
    (c90_23 : (¬ ir0_tokens ≤ i3) → (¬ (r0p10_f i3.toNatClampNeg) = 0) → ((r0p10_f i3.toNatClampNeg) = 1) → Cal l X M_Mo_phraseIn 0 0 [.ref r0, .int i1, .int i3, .int ((r0p11_f i3.toNatClampNeg).toInt32)] n F (ev_pure (.int v90) n F))
    (in93_24 : (¬ ir0_tokens ≤ i3) → (¬ (r0p10_f i3.toNatClampNeg) = 0) → ((r0p10_f i3.toNatClampNeg) = 1) → vp_in (((i2 - ((r0p11_f i3.toNatClampNeg).toInt32)) + 1) - 1) 8)
    (nr93_25 : (¬ ir0_tokens ≤ i3) → (¬ (r0p10_f i3.toNatClampNeg) = 0) → ((r0p10_f i3.toNatClampNeg) = 1) → narrow .boolean (.int v90) = .int v90)
    (k208_26 : (¬ ir0_tokens ≤ i3) → (¬ (r0p10_f i3.toNatClampNeg) = 0) → ((r0p10_f i3.toNatClampNeg) = 1) → Ev l X M_Mo_matches bc bs 208 [(0, .ref r0), (1, .int i1), (2, .int ((i2 - ((r0p11_f i3.toNatClampNeg).toInt32)) + 1)), (3, .int i3)] [] n (ev_up F (r0 + 14) (.inl (2, 8, .inl (upd r0p14_f (((i2 - ((r0p11_f i3.toNatClampNeg).toInt32)) + 1) - 1).toNatClampNeg v90)))) (ev_mq X Q))
    (in33_27 : (¬ ir0_tokens ≤ i3) → ((r0p10_f i3.toNatClampNeg) = 0) → vp_in i3 520)
    (c34_28 : (¬ ir0_tokens ≤ i3) → ((r0p10_f i3.toNatClampNeg) = 0) → Cal l X M_Mo_times 0 0 [.ref r0, .int i1, .long (r0p11_f i3.toNatClampNeg)] n F (ev_pure (.int v34) n F))
    (in45_29 : (¬ ir0_tokens ≤ i3) → ((r0p10_f i3.toNatClampNeg) = 0) → (v34 ≤ 0) → vp_in i2 8)
    (k208_30 : (¬ ir0_tokens ≤ i3) → ((r0p10_f i3.toNatClampNeg) = 0) → (v34 ≤ 0) → Ev l X M_Mo_matches bc bs 208 [(0, .ref r0), (1, .int i1), (2, .int (i2 + 1)), (3, .int i3)] [] n (ev_up F (r0 + 14) (.inl (2, 8, .inl (upd r0p14_f i2.toNatClampNeg 0)))) (ev_mq X Q))
    (in45_31 : (¬ ir0_tokens ≤ i3) → ((r0p10_f i3.toNatClampNeg) = 0) → (¬ v34 ≤ 0) → vp_in i2 8)
    (k208_32 : (¬ ir0_tokens ≤ i3) → ((r0p10_f i3.toNatClampNeg) = 0) → (¬ v34 ≤ 0) → Ev l X M_Mo_matches bc bs 208 [(0, .ref r0), (1, .int i1), (2, .int (i2 + 1)), (3, .int i3)] [] n (ev_up F (r0 + 14) (.inl (2, 8, .inl (upd r0p14_f i2.toNatClampNeg 1)))) (ev_mq X Q)) :
    Ev l X M_Mo_matches bc bs 4 [(0, .ref r0), (1, .int i1), (2, .int i2), (3, .int i3)] [] n F (ev_mq X Q) := by
  refine ev_iload_n (pc := 4) d_Mo_matches_4 rfl ?_
  refine ev_aload_n (pc := 5) d_Mo_matches_5 rfl ?_
  refine ev_getfield (pc := 6) 15 d_Mo_matches_6 fl_Mo_146 h_r0 rfl ?_
  refine ev_icmp_ge (pc := 9) 214 d_Mo_matches_9 (by decide) (fun c9 => ?_) (fun c9 => ?_)
  · refine ev_aload_n (pc := 214) d_Mo_matches_214 rfl ?_
    refine ev_getfield (pc := 215) 21 d_Mo_matches_215 fl_Mo_51 h_r0 rfl ?_
    refine ev_iconst (pc := 218) 0 d_Mo_matches_218 (by decide) ?_
    refine ev_zaload (pc := 219) d_Mo_matches_219 h_r0p14 rfl (in219_0 c9) ?_
    exact ev_ireturn (pc := 220) d_Mo_matches_220 rfl (nr220_2 c9) (q220_1 c9)
  · refine ev_aload_n (pc := 12) d_Mo_matches_12 rfl ?_
    refine ev_getfield (pc := 13) 16 d_Mo_matches_13 fl_Mo_39 h_r0 rfl ?_
    refine ev_iload_n (pc := 16) d_Mo_matches_16 rfl ?_
    refine ev_iaload (pc := 17) d_Mo_matches_17 h_r0p10 rfl (in17_3 c9) ?_
    refine ev_if_ne (pc := 18) 52 d_Mo_matches_18 (by decide) (fun c18 => ?_) (fun c18 => ?_)
    · refine ev_aload_n (pc := 52) d_Mo_matches_52 rfl ?_
      refine ev_getfield (pc := 53) 16 d_Mo_matches_53 fl_Mo_39 h_r0 rfl ?_
      refine ev_iload_n (pc := 56) d_Mo_matches_56 rfl ?_
      refine ev_iaload (pc := 57) d_Mo_matches_57 h_r0p10 rfl (in57_4 c9 c18) ?_
      refine ev_iconst (pc := 58) 1 d_Mo_matches_58 (by decide) ?_
      refine ev_icmp_ne (pc := 59) 97 d_Mo_matches_59 (by decide) (fun c59 => ?_) (fun c59 => ?_)
      · refine ev_aload_n (pc := 97) d_Mo_matches_97 rfl ?_
        refine ev_getfield (pc := 98) 16 d_Mo_matches_98 fl_Mo_39 h_r0 rfl ?_
        refine ev_iload_n (pc := 101) d_Mo_matches_101 rfl ?_
        refine ev_iaload (pc := 102) d_Mo_matches_102 h_r0p10 rfl (in102_5 c9 c18 c59) ?_
        refine ev_iconst (pc := 103) 4 d_Mo_matches_103 (by decide) ?_
        refine ev_icmp_ne (pc := 104) 134 d_Mo_matches_104 (by decide) (fun c104 => ?_) (fun c104 => ?_)
        · refine ev_iinc (pc := 134) 2 (-1) d_Mo_matches_134 rfl (by decide) (Nat.le_of_ble_eq_true rfl) [1, 2, 0, 3] rfl ?_
          refine ev_aload_n (pc := 137) d_Mo_matches_137 rfl ?_
          refine ev_getfield (pc := 138) 21 d_Mo_matches_138 fl_Mo_51 h_r0 rfl ?_
          refine ev_iload_n (pc := 141) d_Mo_matches_141 rfl ?_
          refine ev_iconst (pc := 142) 1 d_Mo_matches_142 (by decide) ?_
          refine ev_isub (pc := 143) d_Mo_matches_143 ?_
          refine ev_aload_n (pc := 144) d_Mo_matches_144 rfl ?_
          refine ev_getfield (pc := 145) 16 d_Mo_matches_145 fl_Mo_39 h_r0 rfl ?_
          refine ev_iload_n (pc := 148) d_Mo_matches_148 rfl ?_
          refine ev_iaload (pc := 149) d_Mo_matches_149 h_r0p10 rfl (in149_6 c9 c18 c59 c104) ?_
          refine ev_iconst (pc := 150) 2 d_Mo_matches_150 (by decide) ?_
          refine ev_icmp_ne (pc := 151) 182 d_Mo_matches_151 (by decide) (fun c151 => ?_) (fun c151 => ?_)
          · refine ev_aload_n (pc := 182) d_Mo_matches_182 rfl ?_
            refine ev_getfield (pc := 183) 21 d_Mo_matches_183 fl_Mo_51 h_r0 rfl ?_
            refine ev_iload_n (pc := 186) d_Mo_matches_186 rfl ?_
            refine ev_iconst (pc := 187) 1 d_Mo_matches_187 (by decide) ?_
            refine ev_isub (pc := 188) d_Mo_matches_188 ?_
            refine ev_zaload (pc := 189) d_Mo_matches_189 h_r0p14 rfl (in189_7 c9 c18 c59 c104 c151) ?_
            refine ev_if_ne (pc := 190) 202 d_Mo_matches_190 (by decide) (fun c190 => ?_) (fun c190 => ?_)
            · refine ev_iconst (pc := 202) 1 d_Mo_matches_202 (by decide) ?_
              refine ev_goto (pc := 203) 207 d_Mo_matches_203 (by decide) ?_
              exact (k207_8 c9 c18 c59 c104 c151 c190)
            · refine ev_aload_n (pc := 193) d_Mo_matches_193 rfl ?_
              refine ev_getfield (pc := 194) 21 d_Mo_matches_194 fl_Mo_51 h_r0 rfl ?_
              refine ev_iload_n (pc := 197) d_Mo_matches_197 rfl ?_
              refine ev_zaload (pc := 198) d_Mo_matches_198 h_r0p14 rfl (in198_9 c9 c18 c59 c104 c151 c190) ?_
              refine ev_if_eq (pc := 199) 206 d_Mo_matches_199 (by decide) (fun c199 => ?_) (fun c199 => ?_)
              · refine ev_iconst (pc := 206) 0 d_Mo_matches_206 (by decide) ?_
                exact (k207_10 c9 c18 c59 c104 c151 c190 c199)
              · refine ev_iconst (pc := 202) 1 d_Mo_matches_202 (by decide) ?_
                refine ev_goto (pc := 203) 207 d_Mo_matches_203 (by decide) ?_
                exact (k207_11 c9 c18 c59 c104 c151 c190 c199)
          · refine ev_aload_n (pc := 154) d_Mo_matches_154 rfl ?_
            refine ev_getfield (pc := 155) 21 d_Mo_matches_155 fl_Mo_51 h_r0 rfl ?_
            refine ev_iload_n (pc := 158) d_Mo_matches_158 rfl ?_
            refine ev_iconst (pc := 159) 1 d_Mo_matches_159 (by decide) ?_
            refine ev_isub (pc := 160) d_Mo_matches_160 ?_
            refine ev_zaload (pc := 161) d_Mo_matches_161 h_r0p14 rfl (in161_12 c9 c18 c59 c104 c151) ?_
            refine ev_if_eq (pc := 162) 178 d_Mo_matches_162 (by decide) (fun c162 => ?_) (fun c162 => ?_)
            · refine ev_iconst (pc := 178) 0 d_Mo_matches_178 (by decide) ?_
              refine ev_goto (pc := 179) 207 d_Mo_matches_179 (by decide) ?_
              exact (k207_13 c9 c18 c59 c104 c151 c162)
            · refine ev_aload_n (pc := 165) d_Mo_matches_165 rfl ?_
              refine ev_getfield (pc := 166) 21 d_Mo_matches_166 fl_Mo_51 h_r0 rfl ?_
              refine ev_iload_n (pc := 169) d_Mo_matches_169 rfl ?_
              refine ev_zaload (pc := 170) d_Mo_matches_170 h_r0p14 rfl (in170_14 c9 c18 c59 c104 c151 c162) ?_
              refine ev_if_eq (pc := 171) 178 d_Mo_matches_171 (by decide) (fun c171 => ?_) (fun c171 => ?_)
              · refine ev_iconst (pc := 178) 0 d_Mo_matches_178 (by decide) ?_
                refine ev_goto (pc := 179) 207 d_Mo_matches_179 (by decide) ?_
                exact (k207_15 c9 c18 c59 c104 c151 c162 c171)
              · refine ev_iconst (pc := 174) 1 d_Mo_matches_174 (by decide) ?_
                refine ev_goto (pc := 175) 207 d_Mo_matches_175 (by decide) ?_
                exact (k207_16 c9 c18 c59 c104 c151 c162 c171)
        · refine ev_aload_n (pc := 107) d_Mo_matches_107 rfl ?_
          refine ev_getfield (pc := 108) 21 d_Mo_matches_108 fl_Mo_51 h_r0 rfl ?_
          refine ev_iload_n (pc := 111) d_Mo_matches_111 rfl ?_
          refine ev_iconst (pc := 112) 1 d_Mo_matches_112 (by decide) ?_
          refine ev_isub (pc := 113) d_Mo_matches_113 ?_
          refine ev_aload_n (pc := 114) d_Mo_matches_114 rfl ?_
          refine ev_getfield (pc := 115) 21 d_Mo_matches_115 fl_Mo_51 h_r0 rfl ?_
          refine ev_iload_n (pc := 118) d_Mo_matches_118 rfl ?_
          refine ev_iconst (pc := 119) 1 d_Mo_matches_119 (by decide) ?_
          refine ev_isub (pc := 120) d_Mo_matches_120 ?_
          refine ev_zaload (pc := 121) d_Mo_matches_121 h_r0p14 rfl (in121_17 c9 c18 c59 c104) ?_
          refine ev_if_ne (pc := 122) 129 d_Mo_matches_122 (by decide) (fun c122 => ?_) (fun c122 => ?_)
          · refine ev_iconst (pc := 129) 0 d_Mo_matches_129 (by decide) ?_
            refine ev_zastore (pc := 130) d_Mo_matches_130 h_r0p14 rfl (in130_18 c9 c18 c59 c104 c122) rfl (fun F1_ hF1_ => ?_)
            have g2_ : F1_ r0 = some (moO r0 ir0_drafted ir0_rows ir0_segments ir0_stopped ir0_fuse ir0_written ir0_tokens ir0_height ir0_results ir0_weighed) := by rw [← hF1_]; exact ev_up_k (ev_ne_oa h_r0 h_r0p14) h_r0
            have g3_ : F1_ (r0 + 10) = some (.inl (0, 520, .inl r0p10_f)) := by rw [← hF1_]; exact ev_up_k (ev_ne_aa h_r0p10 h_r0p14 rfl) h_r0p10
            have g4_ : F1_ (r0 + 14) = some (.inl (2, 8, .inl (upd r0p14_f (i2 - 1).toNatClampNeg 0))) := by rw [← hF1_]; exact ev_up_s
            refine ev_goto (pc := 131) 208 d_Mo_matches_131 (by decide) ?_
            exact (by subst hF1_; exact (k208_19 c9 c18 c59 c104 c122))
          · refine ev_iconst (pc := 125) 1 d_Mo_matches_125 (by decide) ?_
            refine ev_goto (pc := 126) 130 d_Mo_matches_126 (by decide) ?_
            refine ev_zastore (pc := 130) d_Mo_matches_130 h_r0p14 rfl (in130_20 c9 c18 c59 c104 c122) rfl (fun F5_ hF5_ => ?_)
            have g6_ : F5_ r0 = some (moO r0 ir0_drafted ir0_rows ir0_segments ir0_stopped ir0_fuse ir0_written ir0_tokens ir0_height ir0_results ir0_weighed) := by rw [← hF5_]; exact ev_up_k (ev_ne_oa h_r0 h_r0p14) h_r0
            have g7_ : F5_ (r0 + 10) = some (.inl (0, 520, .inl r0p10_f)) := by rw [← hF5_]; exact ev_up_k (ev_ne_aa h_r0p10 h_r0p14 rfl) h_r0p10
            have g8_ : F5_ (r0 + 14) = some (.inl (2, 8, .inl (upd r0p14_f (i2 - 1).toNatClampNeg 1))) := by rw [← hF5_]; exact ev_up_s
            refine ev_goto (pc := 131) 208 d_Mo_matches_131 (by decide) ?_
            exact (by subst hF5_; exact (k208_21 c9 c18 c59 c104 c122))
      · refine ev_aload_n (pc := 62) d_Mo_matches_62 rfl ?_
        refine ev_getfield (pc := 63) 17 d_Mo_matches_63 fl_Mo_42 h_r0 rfl ?_
        refine ev_iload_n (pc := 66) d_Mo_matches_66 rfl ?_
        refine ev_laload (pc := 67) d_Mo_matches_67 h_r0p11 rfl (in67_22 c9 c18 c59) ?_
        refine ev_l2i (pc := 68) d_Mo_matches_68 ?_
        refine ev_istore (pc := 69) d_Mo_matches_69 (Nat.le_of_ble_eq_true rfl) [1, 2, 3, 4, 0] rfl ?_
        refine ev_iload_n (pc := 71) d_Mo_matches_71 rfl ?_
        refine ev_iload (pc := 72) d_Mo_matches_72 rfl ?_
        refine ev_isub (pc := 74) d_Mo_matches_74 ?_
        refine ev_iconst (pc := 75) 1 d_Mo_matches_75 (by decide) ?_
        refine ev_iadd (pc := 76) d_Mo_matches_76 ?_
        refine ev_istore_n (pc := 77) d_Mo_matches_77 (Nat.le_of_ble_eq_true rfl) [1, 2, 0, 3, 4] rfl ?_
        refine ev_aload_n (pc := 78) d_Mo_matches_78 rfl ?_
        refine ev_getfield (pc := 79) 21 d_Mo_matches_79 fl_Mo_51 h_r0 rfl ?_
        refine ev_iload_n (pc := 82) d_Mo_matches_82 rfl ?_
        refine ev_iconst (pc := 83) 1 d_Mo_matches_83 (by decide) ?_
        refine ev_isub (pc := 84) d_Mo_matches_84 ?_
        refine ev_aload_n (pc := 85) d_Mo_matches_85 rfl ?_
        refine ev_iload_n (pc := 86) d_Mo_matches_86 rfl ?_
        refine ev_iload_n (pc := 87) d_Mo_matches_87 rfl ?_
        refine ev_iload (pc := 88) d_Mo_matches_88 rfl ?_
        refine ev_invokevirtual (pc := 90) (As := [.int i1, .int i3, .int ((r0p11_f i3.toNatClampNeg).toInt32)]) (st := [.int (((i2 - ((r0p11_f i3.toNatClampNeg).toInt32)) + 1) - 1), .ref (r0 + 14)]) (Q2 := ev_pure (.int v90) n F) (bc1 := 0) (bs1 := 0) M_Mo_phraseIn rC11 d_Mo_matches_90 lc_Mo_196 wd_1136 wd_s44 rfl h_r0 rfl rfl (Nat.le_of_ble_eq_true rfl) (Nat.le_of_ble_eq_true rfl) (Nat.le_of_ble_eq_true rfl) (Nat.le_refl _) (Nat.le_refl _) (c90_23 c9 c18 c59) ?_
        refine ev_purek ?_
        refine ev_zastore (pc := 93) d_Mo_matches_93 h_r0p14 rfl (in93_24 c9 c18 c59) (nr93_25 c9 c18 c59) (fun F9_ hF9_ => ?_)
        have g10_ : F9_ r0 = some (moO r0 ir0_drafted ir0_rows ir0_segments ir0_stopped ir0_fuse ir0_written ir0_tokens ir0_height ir0_results ir0_weighed) := by rw [← hF9_]; exact ev_up_k (ev_ne_oa h_r0 h_r0p14) h_r0
        have g11_ : F9_ (r0 + 10) = some (.inl (0, 520, .inl r0p10_f)) := by rw [← hF9_]; exact ev_up_k (ev_ne_aa h_r0p10 h_r0p14 rfl) h_r0p10
        have g12_ : F9_ (r0 + 11) = some (.inl (1, 520, .inr (.inl r0p11_f))) := by rw [← hF9_]; exact ev_up_k (ev_ne_aa h_r0p11 h_r0p14 rfl) h_r0p11
        have g13_ : F9_ (r0 + 14) = some (.inl (2, 8, .inl (upd r0p14_f (((i2 - ((r0p11_f i3.toNatClampNeg).toInt32)) + 1) - 1).toNatClampNeg v90))) := by rw [← hF9_]; exact ev_up_s
        refine ev_goto (pc := 94) 208 d_Mo_matches_94 (by decide) ?_
        exact Ev.sub [0, 1, 2, 3] rfl (by subst hF9_; exact (k208_26 c9 c18 c59))
    · refine ev_aload_n (pc := 21) d_Mo_matches_21 rfl ?_
      refine ev_getfield (pc := 22) 21 d_Mo_matches_22 fl_Mo_51 h_r0 rfl ?_
      refine ev_iload_n (pc := 25) d_Mo_matches_25 rfl ?_
      refine ev_aload_n (pc := 26) d_Mo_matches_26 rfl ?_
      refine ev_iload_n (pc := 27) d_Mo_matches_27 rfl ?_
      refine ev_aload_n (pc := 28) d_Mo_matches_28 rfl ?_
      refine ev_getfield (pc := 29) 17 d_Mo_matches_29 fl_Mo_42 h_r0 rfl ?_
      refine ev_iload_n (pc := 32) d_Mo_matches_32 rfl ?_
      refine ev_laload (pc := 33) d_Mo_matches_33 h_r0p11 rfl (in33_27 c9 c18) ?_
      refine ev_invokevirtual (pc := 34) (As := [.int i1, .long (r0p11_f i3.toNatClampNeg)]) (st := [.int i2, .ref (r0 + 14)]) (Q2 := ev_pure (.int v34) n F) (bc1 := 0) (bs1 := 0) M_Mo_times rC11 d_Mo_matches_34 lc_Mo_192 wd_1132 wd_s43 rfl h_r0 rfl rfl (Nat.le_of_ble_eq_true rfl) (Nat.le_of_ble_eq_true rfl) (Nat.le_of_ble_eq_true rfl) (Nat.le_refl _) (Nat.le_refl _) (c34_28 c9 c18) ?_
      refine ev_purek ?_
      refine ev_if_le (pc := 37) 44 d_Mo_matches_37 (by decide) (fun c37 => ?_) (fun c37 => ?_)
      · refine ev_iconst (pc := 44) 0 d_Mo_matches_44 (by decide) ?_
        refine ev_zastore (pc := 45) d_Mo_matches_45 h_r0p14 rfl (in45_29 c9 c18 c37) rfl (fun F14_ hF14_ => ?_)
        have g15_ : F14_ r0 = some (moO r0 ir0_drafted ir0_rows ir0_segments ir0_stopped ir0_fuse ir0_written ir0_tokens ir0_height ir0_results ir0_weighed) := by rw [← hF14_]; exact ev_up_k (ev_ne_oa h_r0 h_r0p14) h_r0
        have g16_ : F14_ (r0 + 10) = some (.inl (0, 520, .inl r0p10_f)) := by rw [← hF14_]; exact ev_up_k (ev_ne_aa h_r0p10 h_r0p14 rfl) h_r0p10
        have g17_ : F14_ (r0 + 11) = some (.inl (1, 520, .inr (.inl r0p11_f))) := by rw [← hF14_]; exact ev_up_k (ev_ne_aa h_r0p11 h_r0p14 rfl) h_r0p11
        have g18_ : F14_ (r0 + 14) = some (.inl (2, 8, .inl (upd r0p14_f i2.toNatClampNeg 0))) := by rw [← hF14_]; exact ev_up_s
        refine ev_iinc (pc := 46) 2 1 d_Mo_matches_46 rfl (by decide) (Nat.le_of_ble_eq_true rfl) [1, 2, 0, 3] rfl ?_
        refine ev_goto (pc := 49) 208 d_Mo_matches_49 (by decide) ?_
        exact (by subst hF14_; exact (k208_30 c9 c18 c37))
      · refine ev_iconst (pc := 40) 1 d_Mo_matches_40 (by decide) ?_
        refine ev_goto (pc := 41) 45 d_Mo_matches_41 (by decide) ?_
        refine ev_zastore (pc := 45) d_Mo_matches_45 h_r0p14 rfl (in45_31 c9 c18 c37) rfl (fun F19_ hF19_ => ?_)
        have g20_ : F19_ r0 = some (moO r0 ir0_drafted ir0_rows ir0_segments ir0_stopped ir0_fuse ir0_written ir0_tokens ir0_height ir0_results ir0_weighed) := by rw [← hF19_]; exact ev_up_k (ev_ne_oa h_r0 h_r0p14) h_r0
        have g21_ : F19_ (r0 + 10) = some (.inl (0, 520, .inl r0p10_f)) := by rw [← hF19_]; exact ev_up_k (ev_ne_aa h_r0p10 h_r0p14 rfl) h_r0p10
        have g22_ : F19_ (r0 + 11) = some (.inl (1, 520, .inr (.inl r0p11_f))) := by rw [← hF19_]; exact ev_up_k (ev_ne_aa h_r0p11 h_r0p14 rfl) h_r0p11
        have g23_ : F19_ (r0 + 14) = some (.inl (2, 8, .inl (upd r0p14_f i2.toNatClampNeg 1))) := by rw [← hF19_]; exact ev_up_s
        refine ev_iinc (pc := 46) 2 1 d_Mo_matches_46 rfl (by decide) (Nat.le_of_ble_eq_true rfl) [1, 2, 0, 3] rfl ?_
        refine ev_goto (pc := 49) 208 d_Mo_matches_49 (by decide) ?_
        exact (by subst hF19_; exact (k208_32 c9 c18 c37))

set_option maxRecDepth 100000 in
set_option maxHeartbeats 4000000 in
theorem s_Mo_matches_207 {l : Launch} {X : ev_X} {bc bs n : Nat} {F : ev_H} {Q : Option Value → Nat → ev_H → Prop} {r0 : Nat} {i1 : Int32} {i2 : Int32} {i3 : Int32} {rs0 : Nat} {is1 : Int32} {is2 : Int32} {rs0_n : Nat} {rs0_f : Nat → Int32} (h_rs0 : F rs0 = some (.inl (2, rs0_n, .inl rs0_f)))
    (in207_0 : vp_in is1 rs0_n)
    (nr207_1 : narrow .boolean (.int is2) = .int is2)
    (k208_2 : Ev l X M_Mo_matches bc bs 208 [(0, .ref r0), (1, .int i1), (2, .int i2), (3, .int i3)] [] n (ev_up F rs0 (.inl (2, rs0_n, .inl (upd rs0_f is1.toNatClampNeg is2)))) (ev_mq X Q)) :
    Ev l X M_Mo_matches bc bs 207 [(0, .ref r0), (1, .int i1), (2, .int i2), (3, .int i3)] [.int is2, .int is1, .ref rs0] n F (ev_mq X Q) := by
  refine ev_zastore (pc := 207) d_Mo_matches_207 h_rs0 rfl in207_0 nr207_1 (fun F1_ hF1_ => ?_)
  have g2_ : F1_ rs0 = some (.inl (2, rs0_n, .inl (upd rs0_f is1.toNatClampNeg is2))) := by rw [← hF1_]; exact ev_up_s
  exact (by subst hF1_; exact k208_2)

set_option maxRecDepth 100000 in
set_option maxHeartbeats 4000000 in
theorem s_Mo_matches_208 {l : Launch} {X : ev_X} {bc bs n : Nat} {F : ev_H} {Q : Option Value → Nat → ev_H → Prop} {r0 : Nat} {i1 : Int32} {i2 : Int32} {i3 : Int32} 
    (k4_0 : Ev l X M_Mo_matches bc bs 4 [(0, .ref r0), (1, .int i1), (2, .int i2), (3, .int (i3 + 1))] [] n F (ev_mq X Q)) :
    Ev l X M_Mo_matches bc bs 208 [(0, .ref r0), (1, .int i1), (2, .int i2), (3, .int i3)] [] n F (ev_mq X Q) := by
  refine ev_iinc (pc := 208) 3 1 d_Mo_matches_208 rfl (by decide) (Nat.le_of_ble_eq_true rfl) [1, 2, 3, 0] rfl ?_
  refine ev_goto (pc := 211) 4 d_Mo_matches_211 (by decide) ?_
  exact k4_0
set_option maxRecDepth 100000 in
set_option maxHeartbeats 4000000 in
theorem s_Mo_times_0 {l : Launch} {X : ev_X} {bc bs n : Nat} {F : ev_H} {Q : Option Value → Nat → ev_H → Prop} {r0 : Nat} {i1 : Int32} {j2 : Int64} 
    (k6_0 : Ev l X M_Mo_times bc bs 6 [(0, .ref r0), (1, .int i1), (2, .long j2), (4, .int 0), (5, .int 0)] [] n F (ev_mq X Q)) :
    Ev l X M_Mo_times bc bs 0 [(0, .ref r0), (1, .int i1), (2, .long j2)] [] n F (ev_mq X Q) := by
  refine ev_iconst (pc := 0) 0 d_Mo_times_0 (by decide) ?_
  refine ev_istore (pc := 1) d_Mo_times_1 (Nat.le_of_ble_eq_true rfl) [1, 2, 3, 0] rfl ?_
  refine ev_iconst (pc := 3) 0 d_Mo_times_3 (by decide) ?_
  refine ev_istore (pc := 4) d_Mo_times_4 (Nat.le_of_ble_eq_true rfl) [1, 2, 3, 4, 0] rfl ?_
  exact k6_0

set_option maxRecDepth 100000 in
set_option maxHeartbeats 4000000 in
theorem s_Mo_times_6 {l : Launch} {X : ev_X} {bc bs n : Nat} {F : ev_H} {Q : Option Value → Nat → ev_H → Prop} {r0 : Nat} {i1 : Int32} {j2 : Int64} {i4 : Int32} {i5 : Int32} {ir0_drafted : Int32} {ir0_rows : Int32} {ir0_segments : Int32} {ir0_stopped : Int32} {ir0_fuse : Int32} {ir0_written : Int32} {ir0_tokens : Int32} {ir0_height : Int32} {ir0_results : Int32} {ir0_weighed : Int32} {r0p8_f : Nat → Int32} {r0p9_f : Nat → Int64} (h_r0 : F r0 = some (moO r0 ir0_drafted ir0_rows ir0_segments ir0_stopped ir0_fuse ir0_written ir0_tokens ir0_height ir0_results ir0_weighed)) (h_r0p8 : F (r0 + 8) = some (.inl (0, 80, .inl r0p8_f))) (h_r0p9 : F (r0 + 9) = some (.inl (1, 960, .inr (.inl r0p9_f))))
    (in13_0 : vp_in i1 80)
    (q59_1 : ((r0p8_f i1.toNatClampNeg) ≤ i5) → Q (some (.int i4)) n F)
    (k6_2 : (¬ (r0p8_f i1.toNatClampNeg) ≤ i5) → ((lg_cmp j2 0) = 0) → Ev l X M_Mo_times bc bs 6 [(0, .ref r0), (1, .int i1), (2, .long j2), (4, .int i4), (5, .int (i5 + 1))] [] n F (ev_mq X Q))
    (in34_3 : (¬ (r0p8_f i1.toNatClampNeg) ≤ i5) → (¬ (lg_cmp j2 0) = 0) → vp_in ((12 * i1) + i5) 960)
    (k6_4 : (¬ (r0p8_f i1.toNatClampNeg) ≤ i5) → (¬ (lg_cmp j2 0) = 0) → (¬ (lg_cmp (r0p9_f ((12 * i1) + i5).toNatClampNeg) j2) = 0) → Ev l X M_Mo_times bc bs 6 [(0, .ref r0), (1, .int i1), (2, .long j2), (4, .int i4), (5, .int (i5 + 1))] [] n F (ev_mq X Q))
    (k6_5 : (¬ (r0p8_f i1.toNatClampNeg) ≤ i5) → (¬ (lg_cmp j2 0) = 0) → ((lg_cmp (r0p9_f ((12 * i1) + i5).toNatClampNeg) j2) = 0) → Ev l X M_Mo_times bc bs 6 [(0, .ref r0), (1, .int i1), (2, .long j2), (4, .int (i4 + 1)), (5, .int (i5 + 1))] [] n F (ev_mq X Q)) :
    Ev l X M_Mo_times bc bs 6 [(0, .ref r0), (1, .int i1), (2, .long j2), (4, .int i4), (5, .int i5)] [] n F (ev_mq X Q) := by
  refine ev_iload (pc := 6) d_Mo_times_6 rfl ?_
  refine ev_aload_n (pc := 8) d_Mo_times_8 rfl ?_
  refine ev_getfield (pc := 9) 9 d_Mo_times_9 fl_Mo_33 h_r0 rfl ?_
  refine ev_iload_n (pc := 12) d_Mo_times_12 rfl ?_
  refine ev_iaload (pc := 13) d_Mo_times_13 h_r0p8 rfl in13_0 ?_
  refine ev_icmp_ge (pc := 14) 57 d_Mo_times_14 (by decide) (fun c14 => ?_) (fun c14 => ?_)
  · refine ev_iload (pc := 57) d_Mo_times_57 rfl ?_
    exact ev_ireturn (pc := 59) d_Mo_times_59 rfl rfl (q59_1 c14)
  · refine ev_lload_n (pc := 17) d_Mo_times_17 rfl ?_
    refine ev_lconst (pc := 18) 0 d_Mo_times_18 (by decide) ?_
    refine ev_lcmp (pc := 19) d_Mo_times_19 ?_
    refine ev_if_eq (pc := 20) 47 d_Mo_times_20 (by decide) (fun c20 => ?_) (fun c20 => ?_)
    · refine ev_iload (pc := 47) d_Mo_times_47 rfl ?_
      refine ev_istore (pc := 49) d_Mo_times_49 (Nat.le_of_ble_eq_true rfl) [1, 2, 3, 0, 4] rfl ?_
      refine ev_iinc (pc := 51) 4 1 d_Mo_times_51 rfl (by decide) (Nat.le_of_ble_eq_true rfl) [1, 2, 3, 4, 0] rfl ?_
      refine ev_goto (pc := 54) 6 d_Mo_times_54 (by decide) ?_
      exact (k6_2 c14 c20)
    · refine ev_aload_n (pc := 23) d_Mo_times_23 rfl ?_
      refine ev_getfield (pc := 24) 10 d_Mo_times_24 fl_Mo_36 h_r0 rfl ?_
      refine ev_bipush (pc := 27) 12 d_Mo_times_27 (by decide) ?_
      refine ev_iload_n (pc := 29) d_Mo_times_29 rfl ?_
      refine ev_imul (pc := 30) d_Mo_times_30 ?_
      refine ev_iload (pc := 31) d_Mo_times_31 rfl ?_
      refine ev_iadd (pc := 33) d_Mo_times_33 ?_
      refine ev_laload (pc := 34) d_Mo_times_34 h_r0p9 rfl (in34_3 c14 c20) ?_
      refine ev_lload_n (pc := 35) d_Mo_times_35 rfl ?_
      refine ev_lcmp (pc := 36) d_Mo_times_36 ?_
      refine ev_if_ne (pc := 37) 47 d_Mo_times_37 (by decide) (fun c37 => ?_) (fun c37 => ?_)
      · refine ev_iload (pc := 47) d_Mo_times_47 rfl ?_
        refine ev_istore (pc := 49) d_Mo_times_49 (Nat.le_of_ble_eq_true rfl) [1, 2, 3, 0, 4] rfl ?_
        refine ev_iinc (pc := 51) 4 1 d_Mo_times_51 rfl (by decide) (Nat.le_of_ble_eq_true rfl) [1, 2, 3, 4, 0] rfl ?_
        refine ev_goto (pc := 54) 6 d_Mo_times_54 (by decide) ?_
        exact (k6_4 c14 c20 c37)
      · refine ev_iload (pc := 40) d_Mo_times_40 rfl ?_
        refine ev_iconst (pc := 42) 1 d_Mo_times_42 (by decide) ?_
        refine ev_iadd (pc := 43) d_Mo_times_43 ?_
        refine ev_goto (pc := 44) 49 d_Mo_times_44 (by decide) ?_
        refine ev_istore (pc := 49) d_Mo_times_49 (Nat.le_of_ble_eq_true rfl) [1, 2, 3, 0, 4] rfl ?_
        refine ev_iinc (pc := 51) 4 1 d_Mo_times_51 rfl (by decide) (Nat.le_of_ble_eq_true rfl) [1, 2, 3, 4, 0] rfl ?_
        refine ev_goto (pc := 54) 6 d_Mo_times_54 (by decide) ?_
        exact (k6_5 c14 c20 c37)
set_option maxRecDepth 100000 in
set_option maxHeartbeats 4000000 in
theorem s_Mo_phraseIn_0 {l : Launch} {X : ev_X} {bc bs n : Nat} {F : ev_H} {Q : Option Value → Nat → ev_H → Prop} {r0 : Nat} {i1 : Int32} {i2 : Int32} {i3 : Int32} 
    (k3_0 : Ev l X M_Mo_phraseIn bc bs 3 [(0, .ref r0), (1, .int i1), (2, .int i2), (3, .int i3), (4, .int 0)] [] n F (ev_mq X Q)) :
    Ev l X M_Mo_phraseIn bc bs 0 [(0, .ref r0), (1, .int i1), (2, .int i2), (3, .int i3)] [] n F (ev_mq X Q) := by
  refine ev_iconst (pc := 0) 0 d_Mo_phraseIn_0 (by decide) ?_
  refine ev_istore (pc := 1) d_Mo_phraseIn_1 (Nat.le_of_ble_eq_true rfl) [1, 2, 3, 4, 0] rfl ?_
  exact k3_0

set_option maxRecDepth 100000 in
set_option maxHeartbeats 4000000 in
theorem s_Mo_phraseIn_3 {l : Launch} {X : ev_X} {bc bs n : Nat} {F : ev_H} {Q : Option Value → Nat → ev_H → Prop} {r0 : Nat} {i1 : Int32} {i2 : Int32} {i3 : Int32} {i4 : Int32} {ir0_drafted : Int32} {ir0_rows : Int32} {ir0_segments : Int32} {ir0_stopped : Int32} {ir0_fuse : Int32} {ir0_written : Int32} {ir0_tokens : Int32} {ir0_height : Int32} {ir0_results : Int32} {ir0_weighed : Int32} {r0p8_f : Nat → Int32} (h_r0 : F r0 = some (moO r0 ir0_drafted ir0_rows ir0_segments ir0_stopped ir0_fuse ir0_written ir0_tokens ir0_height ir0_results ir0_weighed)) (h_r0p8 : F (r0 + 8) = some (.inl (0, 80, .inl r0p8_f)))
    (in12_0 : vp_in i1 80)
    (q101_1 : ((r0p8_f i1.toNatClampNeg) < (i4 + i3)) → Q (some (.int 0)) n F)
    (k22_2 : (¬ (r0p8_f i1.toNatClampNeg) < (i4 + i3)) → Ev l X M_Mo_phraseIn bc bs 22 [(0, .ref r0), (1, .int i1), (2, .int i2), (3, .int i3), (4, .int i4), (5, .int 1), (6, .int 0)] [] n F (ev_mq X Q)) :
    Ev l X M_Mo_phraseIn bc bs 3 [(0, .ref r0), (1, .int i1), (2, .int i2), (3, .int i3), (4, .int i4)] [] n F (ev_mq X Q) := by
  refine ev_iload (pc := 3) d_Mo_phraseIn_3 rfl ?_
  refine ev_iload_n (pc := 5) d_Mo_phraseIn_5 rfl ?_
  refine ev_iadd (pc := 6) d_Mo_phraseIn_6 ?_
  refine ev_aload_n (pc := 7) d_Mo_phraseIn_7 rfl ?_
  refine ev_getfield (pc := 8) 9 d_Mo_phraseIn_8 fl_Mo_33 h_r0 rfl ?_
  refine ev_iload_n (pc := 11) d_Mo_phraseIn_11 rfl ?_
  refine ev_iaload (pc := 12) d_Mo_phraseIn_12 h_r0p8 rfl in12_0 ?_
  refine ev_icmp_gt (pc := 13) 100 d_Mo_phraseIn_13 (by decide) (fun c13 => ?_) (fun c13 => ?_)
  · refine ev_iconst (pc := 100) 0 d_Mo_phraseIn_100 (by decide) ?_
    exact ev_ireturn (pc := 101) d_Mo_phraseIn_101 rfl rfl (q101_1 c13)
  · refine ev_iconst (pc := 16) 1 d_Mo_phraseIn_16 (by decide) ?_
    refine ev_istore (pc := 17) d_Mo_phraseIn_17 (Nat.le_of_ble_eq_true rfl) [1, 2, 3, 4, 5, 0] rfl ?_
    refine ev_iconst (pc := 19) 0 d_Mo_phraseIn_19 (by decide) ?_
    refine ev_istore (pc := 20) d_Mo_phraseIn_20 (Nat.le_of_ble_eq_true rfl) [1, 2, 3, 4, 5, 6, 0] rfl ?_
    exact (k22_2 c13)

set_option maxRecDepth 100000 in
set_option maxHeartbeats 4000000 in
theorem s_Mo_phraseIn_22 {l : Launch} {X : ev_X} {bc bs n : Nat} {F : ev_H} {Q : Option Value → Nat → ev_H → Prop} {r0 : Nat} {i1 : Int32} {i2 : Int32} {i3 : Int32} {i4 : Int32} {i5 : Int32} {i6 : Int32} {ir0_drafted : Int32} {ir0_rows : Int32} {ir0_segments : Int32} {ir0_stopped : Int32} {ir0_fuse : Int32} {ir0_written : Int32} {ir0_tokens : Int32} {ir0_height : Int32} {ir0_results : Int32} {ir0_weighed : Int32} {r0p11_f : Nat → Int64} {r0p9_f : Nat → Int64} (h_r0 : F r0 = some (moO r0 ir0_drafted ir0_rows ir0_segments ir0_stopped ir0_fuse ir0_written ir0_tokens ir0_height ir0_results ir0_weighed)) (h_r0p11 : F (r0 + 11) = some (.inl (1, 520, .inr (.inl r0p11_f)))) (h_r0p9 : F (r0 + 9) = some (.inl (1, 960, .inr (.inl r0p9_f))))
    (k3_0 : (i3 ≤ i6) → (i5 = 0) → Ev l X M_Mo_phraseIn bc bs 3 [(0, .ref r0), (1, .int i1), (2, .int i2), (3, .int i3), (4, .int (i4 + 1))] [] n F (ev_mq X Q))
    (q93_1 : (i3 ≤ i6) → (¬ i5 = 0) → Q (some (.int 1)) n F)
    (in38_2 : (¬ i3 ≤ i6) → vp_in ((i2 - i3) + i6) 520)
    (k22_3 : (¬ i3 ≤ i6) → (i5 = 0) → Ev l X M_Mo_phraseIn bc bs 22 [(0, .ref r0), (1, .int i1), (2, .int i2), (3, .int i3), (4, .int i4), (5, .int 0), (6, .int (i6 + 1))] [] n F (ev_mq X Q))
    (k22_4 : (¬ i3 ≤ i6) → (¬ i5 = 0) → ((lg_cmp (r0p11_f ((i2 - i3) + i6).toNatClampNeg) 0) = 0) → Ev l X M_Mo_phraseIn bc bs 22 [(0, .ref r0), (1, .int i1), (2, .int i2), (3, .int i3), (4, .int i4), (5, .int 0), (6, .int (i6 + 1))] [] n F (ev_mq X Q))
    (in67_5 : (¬ i3 ≤ i6) → (¬ i5 = 0) → (¬ (lg_cmp (r0p11_f ((i2 - i3) + i6).toNatClampNeg) 0) = 0) → vp_in (((12 * i1) + i4) + i6) 960)
    (k22_6 : (¬ i3 ≤ i6) → (¬ i5 = 0) → (¬ (lg_cmp (r0p11_f ((i2 - i3) + i6).toNatClampNeg) 0) = 0) → (¬ (lg_cmp (r0p9_f (((12 * i1) + i4) + i6).toNatClampNeg) (r0p11_f ((i2 - i3) + i6).toNatClampNeg)) = 0) → Ev l X M_Mo_phraseIn bc bs 22 [(0, .ref r0), (1, .int i1), (2, .int i2), (3, .int i3), (4, .int i4), (5, .int 0), (6, .int (i6 + 1))] [] n F (ev_mq X Q))
    (k22_7 : (¬ i3 ≤ i6) → (¬ i5 = 0) → (¬ (lg_cmp (r0p11_f ((i2 - i3) + i6).toNatClampNeg) 0) = 0) → ((lg_cmp (r0p9_f (((12 * i1) + i4) + i6).toNatClampNeg) (r0p11_f ((i2 - i3) + i6).toNatClampNeg)) = 0) → Ev l X M_Mo_phraseIn bc bs 22 [(0, .ref r0), (1, .int i1), (2, .int i2), (3, .int i3), (4, .int i4), (5, .int 1), (6, .int (i6 + 1))] [] n F (ev_mq X Q)) :
    Ev l X M_Mo_phraseIn bc bs 22 [(0, .ref r0), (1, .int i1), (2, .int i2), (3, .int i3), (4, .int i4), (5, .int i5), (6, .int i6)] [] n F (ev_mq X Q) := by
  refine ev_iload (pc := 22) d_Mo_phraseIn_22 rfl ?_
  refine ev_iload_n (pc := 24) d_Mo_phraseIn_24 rfl ?_
  refine ev_icmp_ge (pc := 25) 87 d_Mo_phraseIn_25 (by decide) (fun c25 => ?_) (fun c25 => ?_)
  · refine ev_iload (pc := 87) d_Mo_phraseIn_87 rfl ?_
    refine ev_if_eq (pc := 89) 94 d_Mo_phraseIn_89 (by decide) (fun c89 => ?_) (fun c89 => ?_)
    · refine ev_iinc (pc := 94) 4 1 d_Mo_phraseIn_94 rfl (by decide) (Nat.le_of_ble_eq_true rfl) [1, 2, 3, 4, 0, 5, 6] rfl ?_
      refine ev_goto (pc := 97) 3 d_Mo_phraseIn_97 (by decide) ?_
      exact Ev.sub [0, 1, 2, 3, 4] rfl (k3_0 c25 c89)
    · refine ev_iconst (pc := 92) 1 d_Mo_phraseIn_92 (by decide) ?_
      exact ev_ireturn (pc := 93) d_Mo_phraseIn_93 rfl rfl (q93_1 c25 c89)
  · refine ev_aload_n (pc := 28) d_Mo_phraseIn_28 rfl ?_
    refine ev_getfield (pc := 29) 17 d_Mo_phraseIn_29 fl_Mo_42 h_r0 rfl ?_
    refine ev_iload_n (pc := 32) d_Mo_phraseIn_32 rfl ?_
    refine ev_iload_n (pc := 33) d_Mo_phraseIn_33 rfl ?_
    refine ev_isub (pc := 34) d_Mo_phraseIn_34 ?_
    refine ev_iload (pc := 35) d_Mo_phraseIn_35 rfl ?_
    refine ev_iadd (pc := 37) d_Mo_phraseIn_37 ?_
    refine ev_laload (pc := 38) d_Mo_phraseIn_38 h_r0p11 rfl (in38_2 c25) ?_
    refine ev_lstore (pc := 39) d_Mo_phraseIn_39 (Nat.le_of_ble_eq_true rfl) [1, 2, 3, 4, 5, 6, 7, 0] rfl ?_
    refine ev_iload (pc := 41) d_Mo_phraseIn_41 rfl ?_
    refine ev_if_eq (pc := 43) 78 d_Mo_phraseIn_43 (by decide) (fun c43 => ?_) (fun c43 => ?_)
    · refine ev_iconst (pc := 78) 0 d_Mo_phraseIn_78 (by decide) ?_
      refine ev_istore (pc := 79) d_Mo_phraseIn_79 (Nat.le_of_ble_eq_true rfl) [1, 2, 3, 4, 5, 0, 6, 7] rfl ?_
      refine ev_iinc (pc := 81) 6 1 d_Mo_phraseIn_81 rfl (by decide) (Nat.le_of_ble_eq_true rfl) [1, 2, 3, 4, 5, 6, 0, 7] rfl ?_
      refine ev_goto (pc := 84) 22 d_Mo_phraseIn_84 (by decide) ?_
      exact Ev.sub [0, 1, 2, 3, 4, 5, 6] rfl (k22_3 c25 c43)
    · refine ev_lload (pc := 46) d_Mo_phraseIn_46 rfl ?_
      refine ev_lconst (pc := 48) 0 d_Mo_phraseIn_48 (by decide) ?_
      refine ev_lcmp (pc := 49) d_Mo_phraseIn_49 ?_
      refine ev_if_eq (pc := 50) 78 d_Mo_phraseIn_50 (by decide) (fun c50 => ?_) (fun c50 => ?_)
      · refine ev_iconst (pc := 78) 0 d_Mo_phraseIn_78 (by decide) ?_
        refine ev_istore (pc := 79) d_Mo_phraseIn_79 (Nat.le_of_ble_eq_true rfl) [1, 2, 3, 4, 5, 0, 6, 7] rfl ?_
        refine ev_iinc (pc := 81) 6 1 d_Mo_phraseIn_81 rfl (by decide) (Nat.le_of_ble_eq_true rfl) [1, 2, 3, 4, 5, 6, 0, 7] rfl ?_
        refine ev_goto (pc := 84) 22 d_Mo_phraseIn_84 (by decide) ?_
        exact Ev.sub [0, 1, 2, 3, 4, 5, 6] rfl (k22_4 c25 c43 c50)
      · refine ev_aload_n (pc := 53) d_Mo_phraseIn_53 rfl ?_
        refine ev_getfield (pc := 54) 10 d_Mo_phraseIn_54 fl_Mo_36 h_r0 rfl ?_
        refine ev_bipush (pc := 57) 12 d_Mo_phraseIn_57 (by decide) ?_
        refine ev_iload_n (pc := 59) d_Mo_phraseIn_59 rfl ?_
        refine ev_imul (pc := 60) d_Mo_phraseIn_60 ?_
        refine ev_iload (pc := 61) d_Mo_phraseIn_61 rfl ?_
        refine ev_iadd (pc := 63) d_Mo_phraseIn_63 ?_
        refine ev_iload (pc := 64) d_Mo_phraseIn_64 rfl ?_
        refine ev_iadd (pc := 66) d_Mo_phraseIn_66 ?_
        refine ev_laload (pc := 67) d_Mo_phraseIn_67 h_r0p9 rfl (in67_5 c25 c43 c50) ?_
        refine ev_lload (pc := 68) d_Mo_phraseIn_68 rfl ?_
        refine ev_lcmp (pc := 70) d_Mo_phraseIn_70 ?_
        refine ev_if_ne (pc := 71) 78 d_Mo_phraseIn_71 (by decide) (fun c71 => ?_) (fun c71 => ?_)
        · refine ev_iconst (pc := 78) 0 d_Mo_phraseIn_78 (by decide) ?_
          refine ev_istore (pc := 79) d_Mo_phraseIn_79 (Nat.le_of_ble_eq_true rfl) [1, 2, 3, 4, 5, 0, 6, 7] rfl ?_
          refine ev_iinc (pc := 81) 6 1 d_Mo_phraseIn_81 rfl (by decide) (Nat.le_of_ble_eq_true rfl) [1, 2, 3, 4, 5, 6, 0, 7] rfl ?_
          refine ev_goto (pc := 84) 22 d_Mo_phraseIn_84 (by decide) ?_
          exact Ev.sub [0, 1, 2, 3, 4, 5, 6] rfl (k22_6 c25 c43 c50 c71)
        · refine ev_iconst (pc := 74) 1 d_Mo_phraseIn_74 (by decide) ?_
          refine ev_goto (pc := 75) 79 d_Mo_phraseIn_75 (by decide) ?_
          refine ev_istore (pc := 79) d_Mo_phraseIn_79 (Nat.le_of_ble_eq_true rfl) [1, 2, 3, 4, 5, 0, 6, 7] rfl ?_
          refine ev_iinc (pc := 81) 6 1 d_Mo_phraseIn_81 rfl (by decide) (Nat.le_of_ble_eq_true rfl) [1, 2, 3, 4, 5, 6, 0, 7] rfl ?_
          refine ev_goto (pc := 84) 22 d_Mo_phraseIn_84 (by decide) ?_
          exact Ev.sub [0, 1, 2, 3, 4, 5, 6] rfl (k22_7 c25 c43 c50 c71)
