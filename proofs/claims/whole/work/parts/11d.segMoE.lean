set_option maxRecDepth 100000 in
set_option maxHeartbeats 4000000 in
theorem s_Mo_sum_0 {l : Launch} {X : ev_X} {bc bs n : Nat} {F : ev_H} {Q : Option Value → Nat → ev_H → Prop} {r0 : Nat} {i1 : Int32} {i2 : Int32} 
    (k8_0 : Ev l X M_Mo_sum bc bs 8 [(0, .ref r0), (1, .int i1), (2, .int i2), (3, .long 0), (5, .int 0), (6, .int 0)] [] n F (ev_mq X Q)) :
    Ev l X M_Mo_sum bc bs 0 [(0, .ref r0), (1, .int i1), (2, .int i2)] [] n F (ev_mq X Q) := by
  refine ev_lconst (pc := 0) 0 d_Mo_sum_0 (by decide) ?_
  refine ev_lstore_n (pc := 1) d_Mo_sum_1 (Nat.le_of_ble_eq_true rfl) [1, 2, 3, 0] rfl ?_
  refine ev_iconst (pc := 2) 0 d_Mo_sum_2 (by decide) ?_
  refine ev_istore (pc := 3) d_Mo_sum_3 (Nat.le_of_ble_eq_true rfl) [1, 2, 3, 4, 0] rfl ?_
  refine ev_iconst (pc := 5) 0 d_Mo_sum_5 (by decide) ?_
  refine ev_istore (pc := 6) d_Mo_sum_6 (Nat.le_of_ble_eq_true rfl) [1, 2, 3, 4, 5, 0] rfl ?_
  exact k8_0

set_option maxRecDepth 100000 in
set_option maxHeartbeats 4000000 in
theorem s_Mo_sum_8 {l : Launch} {X : ev_X} {bc bs n : Nat} {F : ev_H} {Q : Option Value → Nat → ev_H → Prop} {r0 : Nat} {i1 : Int32} {i2 : Int32} {j3 : Int64} {i5 : Int32} {i6 : Int32} {ir0_drafted : Int32} {ir0_rows : Int32} {ir0_segments : Int32} {ir0_stopped : Int32} {ir0_fuse : Int32} {ir0_written : Int32} {ir0_tokens : Int32} {ir0_height : Int32} {ir0_results : Int32} {ir0_weighed : Int32} {r0p11_f : Nat → Int64} {v26 : Int32} {v63 : Int64} {v48 : Int64} (h_r0 : F r0 = some (moO r0 ir0_drafted ir0_rows ir0_segments ir0_stopped ir0_fuse ir0_written ir0_tokens ir0_height ir0_results ir0_weighed)) (h_r0p11 : F (r0 + 11) = some (.inl (1, 520, .inr (.inl r0p11_f))))
    (q86_0 : (ir0_tokens ≤ i6) → (i5 = 0) → Q (some (.long (-1))) n F)
    (q86_1 : (ir0_tokens ≤ i6) → (¬ i5 = 0) → Q (some (.long j3)) n F)
    (in25_2 : (¬ ir0_tokens ≤ i6) → vp_in i6 520)
    (c26_3 : (¬ ir0_tokens ≤ i6) → Cal l X M_Mo_times 0 0 [.ref r0, .int i1, .long (r0p11_f i6.toNatClampNeg)] n F (ev_pure (.int v26) n F))
    (k8_4 : (¬ ir0_tokens ≤ i6) → (v26 ≤ 0) → Ev l X M_Mo_sum bc bs 8 [(0, .ref r0), (1, .int i1), (2, .int i2), (3, .long j3), (5, .int i5), (6, .int (i6 + 1))] [] n F (ev_mq X Q))
    (in62_5 : (¬ ir0_tokens ≤ i6) → (¬ v26 ≤ 0) → (i2 = 0) → vp_in i6 520)
    (c63_6 : (¬ ir0_tokens ≤ i6) → (¬ v26 ≤ 0) → (i2 = 0) → Cal l X M_Mo_weightOf 0 0 [.ref r0, .int i1, .long (r0p11_f i6.toNatClampNeg)] n F (ev_pure (.long v63) n F))
    (k8_7 : (¬ ir0_tokens ≤ i6) → (¬ v26 ≤ 0) → (i2 = 0) → Ev l X M_Mo_sum bc bs 8 [(0, .ref r0), (1, .int i1), (2, .int i2), (3, .long (j3 + v63)), (5, .int 1), (6, .int (i6 + 1))] [] n F (ev_mq X Q))
    (in47_8 : (¬ ir0_tokens ≤ i6) → (¬ v26 ≤ 0) → (¬ i2 = 0) → vp_in i6 520)
    (c48_9 : (¬ ir0_tokens ≤ i6) → (¬ v26 ≤ 0) → (¬ i2 = 0) → Cal l X M_Mo_bound 0 0 [.ref r0, .long (r0p11_f i6.toNatClampNeg)] n F (ev_pure (.long v48) n F))
    (k8_10 : (¬ ir0_tokens ≤ i6) → (¬ v26 ≤ 0) → (¬ i2 = 0) → Ev l X M_Mo_sum bc bs 8 [(0, .ref r0), (1, .int i1), (2, .int i2), (3, .long (j3 + v48)), (5, .int 1), (6, .int (i6 + 1))] [] n F (ev_mq X Q)) :
    Ev l X M_Mo_sum bc bs 8 [(0, .ref r0), (1, .int i1), (2, .int i2), (3, .long j3), (5, .int i5), (6, .int i6)] [] n F (ev_mq X Q) := by
  refine ev_iload (pc := 8) d_Mo_sum_8 rfl ?_
  refine ev_aload_n (pc := 10) d_Mo_sum_10 rfl ?_
  refine ev_getfield (pc := 11) 15 d_Mo_sum_11 fl_Mo_146 h_r0 rfl ?_
  refine ev_icmp_ge (pc := 14) 74 d_Mo_sum_14 (by decide) (fun c14 => ?_) (fun c14 => ?_)
  · refine ev_iload (pc := 74) d_Mo_sum_74 rfl ?_
    refine ev_if_eq (pc := 76) 83 d_Mo_sum_76 (by decide) (fun c76 => ?_) (fun c76 => ?_)
    · refine ev_ldc2 (pc := 83) (v := (-1)) d_Mo_sum_83 wd_1146 ?_
      exact ev_lreturn (pc := 86) d_Mo_sum_86 rfl (q86_0 c14 c76)
    · refine ev_lload_n (pc := 79) d_Mo_sum_79 rfl ?_
      refine ev_goto (pc := 80) 86 d_Mo_sum_80 (by decide) ?_
      exact ev_lreturn (pc := 86) d_Mo_sum_86 rfl (q86_1 c14 c76)
  · refine ev_aload_n (pc := 17) d_Mo_sum_17 rfl ?_
    refine ev_iload_n (pc := 18) d_Mo_sum_18 rfl ?_
    refine ev_aload_n (pc := 19) d_Mo_sum_19 rfl ?_
    refine ev_getfield (pc := 20) 17 d_Mo_sum_20 fl_Mo_42 h_r0 rfl ?_
    refine ev_iload (pc := 23) d_Mo_sum_23 rfl ?_
    refine ev_laload (pc := 25) d_Mo_sum_25 h_r0p11 rfl (in25_2 c14) ?_
    refine ev_invokevirtual (pc := 26) (As := [.int i1, .long (r0p11_f i6.toNatClampNeg)]) (st := []) (Q2 := ev_pure (.int v26) n F) (bc1 := 0) (bs1 := 0) M_Mo_times rC11 d_Mo_sum_26 lc_Mo_192 wd_1132 wd_s43 rfl h_r0 rfl rfl (Nat.le_of_ble_eq_true rfl) (Nat.le_of_ble_eq_true rfl) (Nat.le_of_ble_eq_true rfl) (Nat.le_refl _) (Nat.le_refl _) (c26_3 c14) ?_
    refine ev_purek ?_
    refine ev_if_le (pc := 29) 68 d_Mo_sum_29 (by decide) (fun c29 => ?_) (fun c29 => ?_)
    · refine ev_iinc (pc := 68) 5 1 d_Mo_sum_68 rfl (by decide) (Nat.le_of_ble_eq_true rfl) [1, 2, 3, 4, 5, 0] rfl ?_
      refine ev_goto (pc := 71) 8 d_Mo_sum_71 (by decide) ?_
      exact (k8_4 c14 c29)
    · refine ev_iconst (pc := 32) 1 d_Mo_sum_32 (by decide) ?_
      refine ev_istore (pc := 33) d_Mo_sum_33 (Nat.le_of_ble_eq_true rfl) [1, 2, 3, 4, 0, 5] rfl ?_
      refine ev_lload_n (pc := 35) d_Mo_sum_35 rfl ?_
      refine ev_iload_n (pc := 36) d_Mo_sum_36 rfl ?_
      refine ev_if_eq (pc := 37) 54 d_Mo_sum_37 (by decide) (fun c37 => ?_) (fun c37 => ?_)
      · refine ev_aload_n (pc := 54) d_Mo_sum_54 rfl ?_
        refine ev_iload_n (pc := 55) d_Mo_sum_55 rfl ?_
        refine ev_aload_n (pc := 56) d_Mo_sum_56 rfl ?_
        refine ev_getfield (pc := 57) 17 d_Mo_sum_57 fl_Mo_42 h_r0 rfl ?_
        refine ev_iload (pc := 60) d_Mo_sum_60 rfl ?_
        refine ev_laload (pc := 62) d_Mo_sum_62 h_r0p11 rfl (in62_5 c14 c29 c37) ?_
        refine ev_invokevirtual (pc := 63) (As := [.int i1, .long (r0p11_f i6.toNatClampNeg)]) (st := [.long j3]) (Q2 := ev_pure (.long v63) n F) (bc1 := 0) (bs1 := 0) M_Mo_weightOf rC11 d_Mo_sum_63 lc_Mo_230 wd_1157 wd_s48 rfl h_r0 rfl rfl (Nat.le_of_ble_eq_true rfl) (Nat.le_of_ble_eq_true rfl) (Nat.le_of_ble_eq_true rfl) (Nat.le_refl _) (Nat.le_refl _) (c63_6 c14 c29 c37) ?_
        refine ev_purek ?_
        refine ev_ladd (pc := 66) d_Mo_sum_66 ?_
        refine ev_lstore_n (pc := 67) d_Mo_sum_67 (Nat.le_of_ble_eq_true rfl) [1, 2, 3, 0, 4, 5] rfl ?_
        refine ev_iinc (pc := 68) 5 1 d_Mo_sum_68 rfl (by decide) (Nat.le_of_ble_eq_true rfl) [1, 2, 3, 4, 5, 0] rfl ?_
        refine ev_goto (pc := 71) 8 d_Mo_sum_71 (by decide) ?_
        exact (k8_7 c14 c29 c37)
      · refine ev_aload_n (pc := 40) d_Mo_sum_40 rfl ?_
        refine ev_aload_n (pc := 41) d_Mo_sum_41 rfl ?_
        refine ev_getfield (pc := 42) 17 d_Mo_sum_42 fl_Mo_42 h_r0 rfl ?_
        refine ev_iload (pc := 45) d_Mo_sum_45 rfl ?_
        refine ev_laload (pc := 47) d_Mo_sum_47 h_r0p11 rfl (in47_8 c14 c29 c37) ?_
        refine ev_invokevirtual (pc := 48) (As := [.long (r0p11_f i6.toNatClampNeg)]) (st := [.long j3]) (Q2 := ev_pure (.long v48) n F) (bc1 := 0) (bs1 := 0) M_Mo_bound rC11 d_Mo_sum_48 lc_Mo_234 wd_1153 wd_s47 rfl h_r0 rfl rfl (Nat.le_of_ble_eq_true rfl) (Nat.le_of_ble_eq_true rfl) (Nat.le_of_ble_eq_true rfl) (Nat.le_refl _) (Nat.le_refl _) (c48_9 c14 c29 c37) ?_
        refine ev_purek ?_
        refine ev_goto (pc := 51) 66 d_Mo_sum_51 (by decide) ?_
        refine ev_ladd (pc := 66) d_Mo_sum_66 ?_
        refine ev_lstore_n (pc := 67) d_Mo_sum_67 (Nat.le_of_ble_eq_true rfl) [1, 2, 3, 0, 4, 5] rfl ?_
        refine ev_iinc (pc := 68) 5 1 d_Mo_sum_68 rfl (by decide) (Nat.le_of_ble_eq_true rfl) [1, 2, 3, 4, 5, 0] rfl ?_
        refine ev_goto (pc := 71) 8 d_Mo_sum_71 (by decide) ?_
        exact (k8_10 c14 c29 c37)
set_option maxRecDepth 100000 in
set_option maxHeartbeats 4000000 in
theorem s_Mo_bound_0 {l : Launch} {X : ev_X} {bc bs n : Nat} {F : ev_H} {Q : Option Value → Nat → ev_H → Prop} {r0 : Nat} {j1 : Int64} 
    (k5_0 : Ev l X M_Mo_bound bc bs 5 [(0, .ref r0), (1, .long j1), (3, .long 0), (5, .int 0)] [] n F (ev_mq X Q)) :
    Ev l X M_Mo_bound bc bs 0 [(0, .ref r0), (1, .long j1)] [] n F (ev_mq X Q) := by
  refine ev_lconst (pc := 0) 0 d_Mo_bound_0 (by decide) ?_
  refine ev_lstore_n (pc := 1) d_Mo_bound_1 (Nat.le_of_ble_eq_true rfl) [1, 2, 0] rfl ?_
  refine ev_iconst (pc := 2) 0 d_Mo_bound_2 (by decide) ?_
  refine ev_istore (pc := 3) d_Mo_bound_3 (Nat.le_of_ble_eq_true rfl) [1, 2, 3, 0] rfl ?_
  exact k5_0

set_option maxRecDepth 100000 in
set_option maxHeartbeats 4000000 in
theorem s_Mo_bound_5 {l : Launch} {X : ev_X} {bc bs n : Nat} {F : ev_H} {Q : Option Value → Nat → ev_H → Prop} {r0 : Nat} {j1 : Int64} {j3 : Int64} {i5 : Int32} {ir0_drafted : Int32} {ir0_rows : Int32} {ir0_segments : Int32} {ir0_stopped : Int32} {ir0_fuse : Int32} {ir0_written : Int32} {ir0_tokens : Int32} {ir0_height : Int32} {ir0_results : Int32} {ir0_weighed : Int32} {r0p7_f : Nat → Int32} {v32 : Int64} (h_r0 : F r0 = some (moO r0 ir0_drafted ir0_rows ir0_segments ir0_stopped ir0_fuse ir0_written ir0_tokens ir0_height ir0_results ir0_weighed)) (h_r0p7 : F (r0 + 7) = some (.inl (2, 80, .inl r0p7_f)))
    (q58_0 : (ir0_rows ≤ i5) → Q (some (.long j3)) n F)
    (in20_1 : (¬ ir0_rows ≤ i5) → vp_in i5 80)
    (c32_2 : (¬ ir0_rows ≤ i5) → ((r0p7_f i5.toNatClampNeg) = 0) → Cal l X M_Mo_weightOf 0 0 [.ref r0, .int i5, .long j1] n F (ev_pure (.long v32) n F))
    (k5_3 : (¬ ir0_rows ≤ i5) → ((r0p7_f i5.toNatClampNeg) = 0) → ((lg_cmp v32 j3) ≤ 0) → Ev l X M_Mo_bound bc bs 5 [(0, .ref r0), (1, .long j1), (3, .long j3), (5, .int (i5 + 1))] [] n F (ev_mq X Q))
    (k5_4 : (¬ ir0_rows ≤ i5) → ((r0p7_f i5.toNatClampNeg) = 0) → (¬ (lg_cmp v32 j3) ≤ 0) → Ev l X M_Mo_bound bc bs 5 [(0, .ref r0), (1, .long j1), (3, .long v32), (5, .int (i5 + 1))] [] n F (ev_mq X Q))
    (k5_5 : (¬ ir0_rows ≤ i5) → (¬ (r0p7_f i5.toNatClampNeg) = 0) → ((lg_cmp 0 j3) ≤ 0) → Ev l X M_Mo_bound bc bs 5 [(0, .ref r0), (1, .long j1), (3, .long j3), (5, .int (i5 + 1))] [] n F (ev_mq X Q))
    (k5_6 : (¬ ir0_rows ≤ i5) → (¬ (r0p7_f i5.toNatClampNeg) = 0) → (¬ (lg_cmp 0 j3) ≤ 0) → Ev l X M_Mo_bound bc bs 5 [(0, .ref r0), (1, .long j1), (3, .long 0), (5, .int (i5 + 1))] [] n F (ev_mq X Q)) :
    Ev l X M_Mo_bound bc bs 5 [(0, .ref r0), (1, .long j1), (3, .long j3), (5, .int i5)] [] n F (ev_mq X Q) := by
  refine ev_iload (pc := 5) d_Mo_bound_5 rfl ?_
  refine ev_aload_n (pc := 7) d_Mo_bound_7 rfl ?_
  refine ev_getfield (pc := 8) 5 d_Mo_bound_8 fl_Mo_158 h_r0 rfl ?_
  refine ev_icmp_ge (pc := 11) 57 d_Mo_bound_11 (by decide) (fun c11 => ?_) (fun c11 => ?_)
  · refine ev_lload_n (pc := 57) d_Mo_bound_57 rfl ?_
    exact ev_lreturn (pc := 58) d_Mo_bound_58 rfl (q58_0 c11)
  · refine ev_aload_n (pc := 14) d_Mo_bound_14 rfl ?_
    refine ev_getfield (pc := 15) 8 d_Mo_bound_15 fl_Mo_29 h_r0 rfl ?_
    refine ev_iload (pc := 18) d_Mo_bound_18 rfl ?_
    refine ev_zaload (pc := 20) d_Mo_bound_20 h_r0p7 rfl (in20_1 c11) ?_
    refine ev_if_eq (pc := 21) 28 d_Mo_bound_21 (by decide) (fun c21 => ?_) (fun c21 => ?_)
    · refine ev_aload_n (pc := 28) d_Mo_bound_28 rfl ?_
      refine ev_iload (pc := 29) d_Mo_bound_29 rfl ?_
      refine ev_lload_n (pc := 31) d_Mo_bound_31 rfl ?_
      refine ev_invokevirtual (pc := 32) (As := [.int i5, .long j1]) (st := []) (Q2 := ev_pure (.long v32) n F) (bc1 := 0) (bs1 := 0) M_Mo_weightOf rC11 d_Mo_bound_32 lc_Mo_230 wd_1157 wd_s48 rfl h_r0 rfl rfl (Nat.le_of_ble_eq_true rfl) (Nat.le_of_ble_eq_true rfl) (Nat.le_of_ble_eq_true rfl) (Nat.le_refl _) (Nat.le_refl _) (c32_2 c11 c21) ?_
      refine ev_purek ?_
      refine ev_lstore (pc := 35) d_Mo_bound_35 (Nat.le_of_ble_eq_true rfl) [1, 2, 3, 4, 0] rfl ?_
      refine ev_lload (pc := 37) d_Mo_bound_37 rfl ?_
      refine ev_lload_n (pc := 39) d_Mo_bound_39 rfl ?_
      refine ev_lcmp (pc := 40) d_Mo_bound_40 ?_
      refine ev_if_le (pc := 41) 49 d_Mo_bound_41 (by decide) (fun c41 => ?_) (fun c41 => ?_)
      · refine ev_lload_n (pc := 49) d_Mo_bound_49 rfl ?_
        refine ev_lstore_n (pc := 50) d_Mo_bound_50 (Nat.le_of_ble_eq_true rfl) [1, 2, 0, 3, 4] rfl ?_
        refine ev_iinc (pc := 51) 3 1 d_Mo_bound_51 rfl (by decide) (Nat.le_of_ble_eq_true rfl) [1, 2, 3, 0, 4] rfl ?_
        refine ev_goto (pc := 54) 5 d_Mo_bound_54 (by decide) ?_
        exact Ev.sub [0, 1, 2, 3] rfl (k5_3 c11 c21 c41)
      · refine ev_lload (pc := 44) d_Mo_bound_44 rfl ?_
        refine ev_goto (pc := 46) 50 d_Mo_bound_46 (by decide) ?_
        refine ev_lstore_n (pc := 50) d_Mo_bound_50 (Nat.le_of_ble_eq_true rfl) [1, 2, 0, 3, 4] rfl ?_
        refine ev_iinc (pc := 51) 3 1 d_Mo_bound_51 rfl (by decide) (Nat.le_of_ble_eq_true rfl) [1, 2, 3, 0, 4] rfl ?_
        refine ev_goto (pc := 54) 5 d_Mo_bound_54 (by decide) ?_
        exact Ev.sub [0, 1, 2, 3] rfl (k5_4 c11 c21 c41)
    · refine ev_lconst (pc := 24) 0 d_Mo_bound_24 (by decide) ?_
      refine ev_goto (pc := 25) 35 d_Mo_bound_25 (by decide) ?_
      refine ev_lstore (pc := 35) d_Mo_bound_35 (Nat.le_of_ble_eq_true rfl) [1, 2, 3, 4, 0] rfl ?_
      refine ev_lload (pc := 37) d_Mo_bound_37 rfl ?_
      refine ev_lload_n (pc := 39) d_Mo_bound_39 rfl ?_
      refine ev_lcmp (pc := 40) d_Mo_bound_40 ?_
      refine ev_if_le (pc := 41) 49 d_Mo_bound_41 (by decide) (fun c41 => ?_) (fun c41 => ?_)
      · refine ev_lload_n (pc := 49) d_Mo_bound_49 rfl ?_
        refine ev_lstore_n (pc := 50) d_Mo_bound_50 (Nat.le_of_ble_eq_true rfl) [1, 2, 0, 3, 4] rfl ?_
        refine ev_iinc (pc := 51) 3 1 d_Mo_bound_51 rfl (by decide) (Nat.le_of_ble_eq_true rfl) [1, 2, 3, 0, 4] rfl ?_
        refine ev_goto (pc := 54) 5 d_Mo_bound_54 (by decide) ?_
        exact Ev.sub [0, 1, 2, 3] rfl (k5_5 c11 c21 c41)
      · refine ev_lload (pc := 44) d_Mo_bound_44 rfl ?_
        refine ev_goto (pc := 46) 50 d_Mo_bound_46 (by decide) ?_
        refine ev_lstore_n (pc := 50) d_Mo_bound_50 (Nat.le_of_ble_eq_true rfl) [1, 2, 0, 3, 4] rfl ?_
        refine ev_iinc (pc := 51) 3 1 d_Mo_bound_51 rfl (by decide) (Nat.le_of_ble_eq_true rfl) [1, 2, 3, 0, 4] rfl ?_
        refine ev_goto (pc := 54) 5 d_Mo_bound_54 (by decide) ?_
        exact Ev.sub [0, 1, 2, 3] rfl (k5_6 c11 c21 c41)
set_option maxRecDepth 100000 in
set_option maxHeartbeats 4000000 in
theorem s_Mo_weightOf_0 {l : Launch} {X : ev_X} {bc bs n : Nat} {F : ev_H} {Q : Option Value → Nat → ev_H → Prop} {r0 : Nat} {i1 : Int32} {j2 : Int64} {ir0_drafted : Int32} {ir0_rows : Int32} {ir0_segments : Int32} {ir0_stopped : Int32} {ir0_fuse : Int32} {ir0_written : Int32} {ir0_tokens : Int32} {ir0_height : Int32} {ir0_results : Int32} {ir0_weighed : Int32} {v1 : Int32} {v8 : Int32} (h_r0 : F r0 = some (moO r0 ir0_drafted ir0_rows ir0_segments ir0_stopped ir0_fuse ir0_written ir0_tokens ir0_height ir0_results ir0_weighed))
    (c1_0 : Cal l X M_Mo_live 0 0 [.ref r0] n F (ev_pure (.int v1) n F))
    (c8_1 : Cal l X M_Mo_lengths 0 0 [.ref r0] n F (ev_pure (.int v8) n F))
    (k20_2 : Ev l X M_Mo_weightOf bc bs 20 [(0, .ref r0), (1, .int i1), (2, .long j2), (4, .long v1.toInt64), (6, .long v8.toInt64), (8, .long 0), (10, .int 0)] [] n F (ev_mq X Q)) :
    Ev l X M_Mo_weightOf bc bs 0 [(0, .ref r0), (1, .int i1), (2, .long j2)] [] n F (ev_mq X Q) := by
  refine ev_aload_n (pc := 0) d_Mo_weightOf_0 rfl ?_
  refine ev_invokevirtual (pc := 1) (As := []) (st := []) (Q2 := ev_pure (.int v1) n F) (bc1 := 0) (bs1 := 0) M_Mo_live rC11 d_Mo_weightOf_1 lc_Mo_177 wd_1080 wd_s37 rfl h_r0 rfl rfl (Nat.le_of_ble_eq_true rfl) (Nat.le_of_ble_eq_true rfl) (Nat.le_of_ble_eq_true rfl) (Nat.le_refl _) (Nat.le_refl _) c1_0 ?_
  refine ev_purek ?_
  refine ev_i2l (pc := 4) d_Mo_weightOf_4 ?_
  refine ev_lstore (pc := 5) d_Mo_weightOf_5 (Nat.le_of_ble_eq_true rfl) [1, 2, 3, 0] rfl ?_
  refine ev_aload_n (pc := 7) d_Mo_weightOf_7 rfl ?_
  refine ev_invokevirtual (pc := 8) (As := []) (st := []) (Q2 := ev_pure (.int v8) n F) (bc1 := 0) (bs1 := 0) M_Mo_lengths rC11 d_Mo_weightOf_8 lc_Mo_213 wd_1161 wd_s49 rfl h_r0 rfl rfl (Nat.le_of_ble_eq_true rfl) (Nat.le_of_ble_eq_true rfl) (Nat.le_of_ble_eq_true rfl) (Nat.le_refl _) (Nat.le_refl _) c8_1 ?_
  refine ev_purek ?_
  refine ev_i2l (pc := 11) d_Mo_weightOf_11 ?_
  refine ev_lstore (pc := 12) d_Mo_weightOf_12 (Nat.le_of_ble_eq_true rfl) [1, 2, 3, 4, 0] rfl ?_
  refine ev_lconst (pc := 14) 0 d_Mo_weightOf_14 (by decide) ?_
  refine ev_lstore (pc := 15) d_Mo_weightOf_15 (Nat.le_of_ble_eq_true rfl) [1, 2, 3, 4, 5, 0] rfl ?_
  refine ev_iconst (pc := 17) 0 d_Mo_weightOf_17 (by decide) ?_
  refine ev_istore (pc := 18) d_Mo_weightOf_18 (Nat.le_of_ble_eq_true rfl) [1, 2, 3, 4, 5, 6, 0] rfl ?_
  exact k20_2

set_option maxRecDepth 100000 in
set_option maxHeartbeats 4000000 in
theorem s_Mo_weightOf_20 {l : Launch} {X : ev_X} {bc bs n : Nat} {F : ev_H} {Q : Option Value → Nat → ev_H → Prop} {r0 : Nat} {i1 : Int32} {j2 : Int64} {j4 : Int64} {j6 : Int64} {j8 : Int64} {i10 : Int32} {ir0_drafted : Int32} {ir0_rows : Int32} {ir0_segments : Int32} {ir0_stopped : Int32} {ir0_fuse : Int32} {ir0_written : Int32} {ir0_tokens : Int32} {ir0_height : Int32} {ir0_results : Int32} {ir0_weighed : Int32} {v69 : Int32} {r0p7_f : Nat → Int32} {v43 : Int32} (h_r0 : F r0 = some (moO r0 ir0_drafted ir0_rows ir0_segments ir0_stopped ir0_fuse ir0_written ir0_tokens ir0_height ir0_results ir0_weighed)) (h_r0p7 : F (r0 + 7) = some (.inl (2, 80, .inl r0p7_f)))
    (c69_0 : (ir0_rows ≤ i10) → Cal l X M_Mo_times 0 0 [.ref r0, .int i1, .long j2] n F (ev_pure (.int v69) n F))
    (dz94_1 : (ir0_rows ≤ i10) → (¬ (lg_cmp v69.toInt64 0) = 0) → ¬ j8 = 0)
    (k100_2 : (ir0_rows ≤ i10) → (¬ (lg_cmp v69.toInt64 0) = 0) → Ev l X M_Mo_weightOf bc bs 100 [(0, .ref r0), (1, .int i1), (2, .long j2), (4, .long j4), (6, .long j6), (8, .long j8), (10, .long v69.toInt64), (12, .long (((j4 + 1) * 256) / j8)), (14, .int 0)] [] n F (ev_mq X Q))
    (q83_3 : (ir0_rows ≤ i10) → ((lg_cmp v69.toInt64 0) = 0) → Q (some (.long 0)) n F)
    (in35_4 : (¬ ir0_rows ≤ i10) → vp_in i10 80)
    (k20_5 : (¬ ir0_rows ≤ i10) → (¬ (r0p7_f i10.toNatClampNeg) = 0) → Ev l X M_Mo_weightOf bc bs 20 [(0, .ref r0), (1, .int i1), (2, .long j2), (4, .long j4), (6, .long j6), (8, .long j8), (10, .int (i10 + 1))] [] n F (ev_mq X Q))
    (c43_6 : (¬ ir0_rows ≤ i10) → ((r0p7_f i10.toNatClampNeg) = 0) → Cal l X M_Mo_times 0 0 [.ref r0, .int i10, .long j2] n F (ev_pure (.int v43) n F))
    (k20_7 : (¬ ir0_rows ≤ i10) → ((r0p7_f i10.toNatClampNeg) = 0) → (v43 ≤ 0) → Ev l X M_Mo_weightOf bc bs 20 [(0, .ref r0), (1, .int i1), (2, .long j2), (4, .long j4), (6, .long j6), (8, .long j8), (10, .int (i10 + 1))] [] n F (ev_mq X Q))
    (k20_8 : (¬ ir0_rows ≤ i10) → ((r0p7_f i10.toNatClampNeg) = 0) → (¬ v43 ≤ 0) → Ev l X M_Mo_weightOf bc bs 20 [(0, .ref r0), (1, .int i1), (2, .long j2), (4, .long j4), (6, .long j6), (8, .long (j8 + 1)), (10, .int (i10 + 1))] [] n F (ev_mq X Q)) :
    Ev l X M_Mo_weightOf bc bs 20 [(0, .ref r0), (1, .int i1), (2, .long j2), (4, .long j4), (6, .long j6), (8, .long j8), (10, .int i10)] [] n F (ev_mq X Q) := by
  refine ev_iload (pc := 20) d_Mo_weightOf_20 rfl ?_
  refine ev_aload_n (pc := 22) d_Mo_weightOf_22 rfl ?_
  refine ev_getfield (pc := 23) 5 d_Mo_weightOf_23 fl_Mo_158 h_r0 rfl ?_
  refine ev_icmp_ge (pc := 26) 66 d_Mo_weightOf_26 (by decide) (fun c26 => ?_) (fun c26 => ?_)
  · refine ev_aload_n (pc := 66) d_Mo_weightOf_66 rfl ?_
    refine ev_iload_n (pc := 67) d_Mo_weightOf_67 rfl ?_
    refine ev_lload_n (pc := 68) d_Mo_weightOf_68 rfl ?_
    refine ev_invokevirtual (pc := 69) (As := [.int i1, .long j2]) (st := []) (Q2 := ev_pure (.int v69) n F) (bc1 := 0) (bs1 := 0) M_Mo_times rC11 d_Mo_weightOf_69 lc_Mo_192 wd_1132 wd_s43 rfl h_r0 rfl rfl (Nat.le_of_ble_eq_true rfl) (Nat.le_of_ble_eq_true rfl) (Nat.le_of_ble_eq_true rfl) (Nat.le_refl _) (Nat.le_refl _) (c69_0 c26) ?_
    refine ev_purek ?_
    refine ev_i2l (pc := 72) d_Mo_weightOf_72 ?_
    refine ev_lstore (pc := 73) d_Mo_weightOf_73 (Nat.le_of_ble_eq_true rfl) [1, 2, 3, 4, 5, 6, 0] rfl ?_
    refine ev_lload (pc := 75) d_Mo_weightOf_75 rfl ?_
    refine ev_lconst (pc := 77) 0 d_Mo_weightOf_77 (by decide) ?_
    refine ev_lcmp (pc := 78) d_Mo_weightOf_78 ?_
    refine ev_if_ne (pc := 79) 84 d_Mo_weightOf_79 (by decide) (fun c79 => ?_) (fun c79 => ?_)
    · refine ev_lload (pc := 84) d_Mo_weightOf_84 rfl ?_
      refine ev_lconst (pc := 86) 1 d_Mo_weightOf_86 (by decide) ?_
      refine ev_ladd (pc := 87) d_Mo_weightOf_87 ?_
      refine ev_ldc2 (pc := 88) (v := 256) d_Mo_weightOf_88 wd_1167 ?_
      refine ev_lmul (pc := 91) d_Mo_weightOf_91 ?_
      refine ev_lload (pc := 92) d_Mo_weightOf_92 rfl ?_
      refine ev_ldiv (pc := 94) d_Mo_weightOf_94 (dz94_1 c26 c79) ?_
      refine ev_lstore (pc := 95) d_Mo_weightOf_95 (Nat.le_of_ble_eq_true rfl) [1, 2, 3, 4, 5, 6, 7, 0] rfl ?_
      refine ev_iconst (pc := 97) 0 d_Mo_weightOf_97 (by decide) ?_
      refine ev_istore (pc := 98) d_Mo_weightOf_98 (Nat.le_of_ble_eq_true rfl) [1, 2, 3, 4, 5, 6, 7, 8, 0] rfl ?_
      exact (k100_2 c26 c79)
    · refine ev_lconst (pc := 82) 0 d_Mo_weightOf_82 (by decide) ?_
      exact ev_lreturn (pc := 83) d_Mo_weightOf_83 rfl (q83_3 c26 c79)
  · refine ev_aload_n (pc := 29) d_Mo_weightOf_29 rfl ?_
    refine ev_getfield (pc := 30) 8 d_Mo_weightOf_30 fl_Mo_29 h_r0 rfl ?_
    refine ev_iload (pc := 33) d_Mo_weightOf_33 rfl ?_
    refine ev_zaload (pc := 35) d_Mo_weightOf_35 h_r0p7 rfl (in35_4 c26) ?_
    refine ev_if_ne (pc := 36) 56 d_Mo_weightOf_36 (by decide) (fun c36 => ?_) (fun c36 => ?_)
    · refine ev_lload (pc := 56) d_Mo_weightOf_56 rfl ?_
      refine ev_lstore (pc := 58) d_Mo_weightOf_58 (Nat.le_of_ble_eq_true rfl) [1, 2, 3, 4, 5, 0, 6] rfl ?_
      refine ev_iinc (pc := 60) 6 1 d_Mo_weightOf_60 rfl (by decide) (Nat.le_of_ble_eq_true rfl) [1, 2, 3, 4, 5, 6, 0] rfl ?_
      refine ev_goto (pc := 63) 20 d_Mo_weightOf_63 (by decide) ?_
      exact (k20_5 c26 c36)
    · refine ev_aload_n (pc := 39) d_Mo_weightOf_39 rfl ?_
      refine ev_iload (pc := 40) d_Mo_weightOf_40 rfl ?_
      refine ev_lload_n (pc := 42) d_Mo_weightOf_42 rfl ?_
      refine ev_invokevirtual (pc := 43) (As := [.int i10, .long j2]) (st := []) (Q2 := ev_pure (.int v43) n F) (bc1 := 0) (bs1 := 0) M_Mo_times rC11 d_Mo_weightOf_43 lc_Mo_192 wd_1132 wd_s43 rfl h_r0 rfl rfl (Nat.le_of_ble_eq_true rfl) (Nat.le_of_ble_eq_true rfl) (Nat.le_of_ble_eq_true rfl) (Nat.le_refl _) (Nat.le_refl _) (c43_6 c26 c36) ?_
      refine ev_purek ?_
      refine ev_if_le (pc := 46) 56 d_Mo_weightOf_46 (by decide) (fun c46 => ?_) (fun c46 => ?_)
      · refine ev_lload (pc := 56) d_Mo_weightOf_56 rfl ?_
        refine ev_lstore (pc := 58) d_Mo_weightOf_58 (Nat.le_of_ble_eq_true rfl) [1, 2, 3, 4, 5, 0, 6] rfl ?_
        refine ev_iinc (pc := 60) 6 1 d_Mo_weightOf_60 rfl (by decide) (Nat.le_of_ble_eq_true rfl) [1, 2, 3, 4, 5, 6, 0] rfl ?_
        refine ev_goto (pc := 63) 20 d_Mo_weightOf_63 (by decide) ?_
        exact (k20_7 c26 c36 c46)
      · refine ev_lload (pc := 49) d_Mo_weightOf_49 rfl ?_
        refine ev_lconst (pc := 51) 1 d_Mo_weightOf_51 (by decide) ?_
        refine ev_ladd (pc := 52) d_Mo_weightOf_52 ?_
        refine ev_goto (pc := 53) 58 d_Mo_weightOf_53 (by decide) ?_
        refine ev_lstore (pc := 58) d_Mo_weightOf_58 (Nat.le_of_ble_eq_true rfl) [1, 2, 3, 4, 5, 0, 6] rfl ?_
        refine ev_iinc (pc := 60) 6 1 d_Mo_weightOf_60 rfl (by decide) (Nat.le_of_ble_eq_true rfl) [1, 2, 3, 4, 5, 6, 0] rfl ?_
        refine ev_goto (pc := 63) 20 d_Mo_weightOf_63 (by decide) ?_
        exact (k20_8 c26 c36 c46)

set_option maxRecDepth 100000 in
set_option maxHeartbeats 4000000 in
theorem s_Mo_weightOf_100 {l : Launch} {X : ev_X} {bc bs n : Nat} {F : ev_H} {Q : Option Value → Nat → ev_H → Prop} {r0 : Nat} {i1 : Int32} {j2 : Int64} {j4 : Int64} {j6 : Int64} {j8 : Int64} {j10 : Int64} {j12 : Int64} {i14 : Int32} {ir0_drafted : Int32} {ir0_rows : Int32} {ir0_segments : Int32} {ir0_stopped : Int32} {ir0_fuse : Int32} {ir0_written : Int32} {ir0_tokens : Int32} {ir0_height : Int32} {ir0_results : Int32} {ir0_weighed : Int32} {v167 : Int32} (h_r0 : F r0 = some (moO r0 ir0_drafted ir0_rows ir0_segments ir0_stopped ir0_fuse ir0_written ir0_tokens ir0_height ir0_results ir0_weighed))
    (dz135_0 : (0 < (lg_cmp ((2 : Int64) <<< (i14.toInt64 &&& 63)) j12)) → ¬ ((1 : Int64) <<< (i14.toInt64 &&& 63)) = 0)
    (c167_1 : (0 < (lg_cmp ((2 : Int64) <<< (i14.toInt64 &&& 63)) j12)) → Cal l X M_Mo_lengthOf 0 0 [.ref r0, .int i1] n F (ev_pure (.int v167) n F))
    (dz177_2 : (0 < (lg_cmp ((2 : Int64) <<< (i14.toInt64 &&& 63)) j12)) → ¬ j6 = 0)
    (dz179_3 : (0 < (lg_cmp ((2 : Int64) <<< (i14.toInt64 &&& 63)) j12)) → ¬ (((1000 * j10) + 300) + (((900 * v167.toInt64) * j4) / j6)) = 0)
    (q180_4 : (0 < (lg_cmp ((2 : Int64) <<< (i14.toInt64 &&& 63)) j12)) → Q (some (.long ((((((16 * i14.toInt64) + ((j12 * 16) / ((1 : Int64) <<< (i14.toInt64 &&& 63)))) - 16) * j10) * 2200) / (((1000 * j10) + 300) + (((900 * v167.toInt64) * j4) / j6))))) n F)
    (k100_5 : (¬ 0 < (lg_cmp ((2 : Int64) <<< (i14.toInt64 &&& 63)) j12)) → Ev l X M_Mo_weightOf bc bs 100 [(0, .ref r0), (1, .int i1), (2, .long j2), (4, .long j4), (6, .long j6), (8, .long j8), (10, .long j10), (12, .long j12), (14, .int (i14 + 1))] [] n F (ev_mq X Q)) :
    Ev l X M_Mo_weightOf bc bs 100 [(0, .ref r0), (1, .int i1), (2, .long j2), (4, .long j4), (6, .long j6), (8, .long j8), (10, .long j10), (12, .long j12), (14, .int i14)] [] n F (ev_mq X Q) := by
  refine ev_ldc2 (pc := 100) (v := 2) d_Mo_weightOf_100 wd_1168 ?_
  refine ev_iload (pc := 103) d_Mo_weightOf_103 rfl ?_
  refine ev_lshl (pc := 105) d_Mo_weightOf_105 ?_
  refine ev_lload (pc := 106) d_Mo_weightOf_106 rfl ?_
  refine ev_lcmp (pc := 108) d_Mo_weightOf_108 ?_
  refine ev_if_gt (pc := 109) 118 d_Mo_weightOf_109 (by decide) (fun c109 => ?_) (fun c109 => ?_)
  · refine ev_ldc2 (pc := 118) (v := 16) d_Mo_weightOf_118 wd_1169 ?_
    refine ev_iload (pc := 121) d_Mo_weightOf_121 rfl ?_
    refine ev_i2l (pc := 123) d_Mo_weightOf_123 ?_
    refine ev_lmul (pc := 124) d_Mo_weightOf_124 ?_
    refine ev_lload (pc := 125) d_Mo_weightOf_125 rfl ?_
    refine ev_ldc2 (pc := 127) (v := 16) d_Mo_weightOf_127 wd_1169 ?_
    refine ev_lmul (pc := 130) d_Mo_weightOf_130 ?_
    refine ev_lconst (pc := 131) 1 d_Mo_weightOf_131 (by decide) ?_
    refine ev_iload (pc := 132) d_Mo_weightOf_132 rfl ?_
    refine ev_lshl (pc := 134) d_Mo_weightOf_134 ?_
    refine ev_ldiv (pc := 135) d_Mo_weightOf_135 (dz135_0 c109) ?_
    refine ev_ladd (pc := 136) d_Mo_weightOf_136 ?_
    refine ev_ldc2 (pc := 137) (v := 16) d_Mo_weightOf_137 wd_1169 ?_
    refine ev_lsub (pc := 140) d_Mo_weightOf_140 ?_
    refine ev_lstore (pc := 141) d_Mo_weightOf_141 (Nat.le_of_ble_eq_true rfl) [1, 2, 3, 4, 5, 6, 7, 8, 9, 0] rfl ?_
    refine ev_lload (pc := 143) d_Mo_weightOf_143 rfl ?_
    refine ev_lload (pc := 145) d_Mo_weightOf_145 rfl ?_
    refine ev_lmul (pc := 147) d_Mo_weightOf_147 ?_
    refine ev_ldc2 (pc := 148) (v := 2200) d_Mo_weightOf_148 wd_1170 ?_
    refine ev_lmul (pc := 151) d_Mo_weightOf_151 ?_
    refine ev_ldc2 (pc := 152) (v := 1000) d_Mo_weightOf_152 wd_1171 ?_
    refine ev_lload (pc := 155) d_Mo_weightOf_155 rfl ?_
    refine ev_lmul (pc := 157) d_Mo_weightOf_157 ?_
    refine ev_ldc2 (pc := 158) (v := 300) d_Mo_weightOf_158 wd_1172 ?_
    refine ev_ladd (pc := 161) d_Mo_weightOf_161 ?_
    refine ev_ldc2 (pc := 162) (v := 900) d_Mo_weightOf_162 wd_1173 ?_
    refine ev_aload_n (pc := 165) d_Mo_weightOf_165 rfl ?_
    refine ev_iload_n (pc := 166) d_Mo_weightOf_166 rfl ?_
    refine ev_invokevirtual (pc := 167) (As := [.int i1]) (st := [.long 900, .long ((1000 * j10) + 300), .long (((((16 * i14.toInt64) + ((j12 * 16) / ((1 : Int64) <<< (i14.toInt64 &&& 63)))) - 16) * j10) * 2200)]) (Q2 := ev_pure (.int v167) n F) (bc1 := 0) (bs1 := 0) M_Mo_lengthOf rC11 d_Mo_weightOf_167 lc_Mo_210 wd_1165 wd_s50 rfl h_r0 rfl rfl (Nat.le_of_ble_eq_true rfl) (Nat.le_of_ble_eq_true rfl) (Nat.le_of_ble_eq_true rfl) (Nat.le_refl _) (Nat.le_refl _) (c167_1 c109) ?_
    refine ev_purek ?_
    refine ev_i2l (pc := 170) d_Mo_weightOf_170 ?_
    refine ev_lmul (pc := 171) d_Mo_weightOf_171 ?_
    refine ev_lload (pc := 172) d_Mo_weightOf_172 rfl ?_
    refine ev_lmul (pc := 174) d_Mo_weightOf_174 ?_
    refine ev_lload (pc := 175) d_Mo_weightOf_175 rfl ?_
    refine ev_ldiv (pc := 177) d_Mo_weightOf_177 (dz177_2 c109) ?_
    refine ev_ladd (pc := 178) d_Mo_weightOf_178 ?_
    refine ev_ldiv (pc := 179) d_Mo_weightOf_179 (dz179_3 c109) ?_
    exact ev_lreturn (pc := 180) d_Mo_weightOf_180 rfl (q180_4 c109)
  · refine ev_iinc (pc := 112) 8 1 d_Mo_weightOf_112 rfl (by decide) (Nat.le_of_ble_eq_true rfl) [1, 2, 3, 4, 5, 6, 7, 8, 0] rfl ?_
    refine ev_goto (pc := 115) 100 d_Mo_weightOf_115 (by decide) ?_
    exact (k100_5 c109)
set_option maxRecDepth 100000 in
set_option maxHeartbeats 4000000 in
theorem s_Mo_lengths_0 {l : Launch} {X : ev_X} {bc bs n : Nat} {F : ev_H} {Q : Option Value → Nat → ev_H → Prop} {r0 : Nat} 
    (k4_0 : Ev l X M_Mo_lengths bc bs 4 [(0, .ref r0), (1, .int 0), (2, .int 0)] [] n F (ev_mq X Q)) :
    Ev l X M_Mo_lengths bc bs 0 [(0, .ref r0)] [] n F (ev_mq X Q) := by
  refine ev_iconst (pc := 0) 0 d_Mo_lengths_0 (by decide) ?_
  refine ev_istore_n (pc := 1) d_Mo_lengths_1 (Nat.le_of_ble_eq_true rfl) [1, 0] rfl ?_
  refine ev_iconst (pc := 2) 0 d_Mo_lengths_2 (by decide) ?_
  refine ev_istore_n (pc := 3) d_Mo_lengths_3 (Nat.le_of_ble_eq_true rfl) [1, 2, 0] rfl ?_
  exact k4_0

set_option maxRecDepth 100000 in
set_option maxHeartbeats 4000000 in
theorem s_Mo_lengths_4 {l : Launch} {X : ev_X} {bc bs n : Nat} {F : ev_H} {Q : Option Value → Nat → ev_H → Prop} {r0 : Nat} {i1 : Int32} {i2 : Int32} {ir0_drafted : Int32} {ir0_rows : Int32} {ir0_segments : Int32} {ir0_stopped : Int32} {ir0_fuse : Int32} {ir0_written : Int32} {ir0_tokens : Int32} {ir0_height : Int32} {ir0_results : Int32} {ir0_weighed : Int32} {r0p7_f : Nat → Int32} {v28 : Int32} (h_r0 : F r0 = some (moO r0 ir0_drafted ir0_rows ir0_segments ir0_stopped ir0_fuse ir0_written ir0_tokens ir0_height ir0_results ir0_weighed)) (h_r0p7 : F (r0 + 7) = some (.inl (2, 80, .inl r0p7_f)))
    (q40_0 : (ir0_rows ≤ i2) → Q (some (.int i1)) n F)
    (in18_1 : (¬ ir0_rows ≤ i2) → vp_in i2 80)
    (c28_2 : (¬ ir0_rows ≤ i2) → ((r0p7_f i2.toNatClampNeg) = 0) → Cal l X M_Mo_lengthOf 0 0 [.ref r0, .int i2] n F (ev_pure (.int v28) n F))
    (k4_3 : (¬ ir0_rows ≤ i2) → ((r0p7_f i2.toNatClampNeg) = 0) → Ev l X M_Mo_lengths bc bs 4 [(0, .ref r0), (1, .int (i1 + v28)), (2, .int (i2 + 1))] [] n F (ev_mq X Q))
    (k4_4 : (¬ ir0_rows ≤ i2) → (¬ (r0p7_f i2.toNatClampNeg) = 0) → Ev l X M_Mo_lengths bc bs 4 [(0, .ref r0), (1, .int (i1 + 0)), (2, .int (i2 + 1))] [] n F (ev_mq X Q)) :
    Ev l X M_Mo_lengths bc bs 4 [(0, .ref r0), (1, .int i1), (2, .int i2)] [] n F (ev_mq X Q) := by
  refine ev_iload_n (pc := 4) d_Mo_lengths_4 rfl ?_
  refine ev_aload_n (pc := 5) d_Mo_lengths_5 rfl ?_
  refine ev_getfield (pc := 6) 5 d_Mo_lengths_6 fl_Mo_158 h_r0 rfl ?_
  refine ev_icmp_ge (pc := 9) 39 d_Mo_lengths_9 (by decide) (fun c9 => ?_) (fun c9 => ?_)
  · refine ev_iload_n (pc := 39) d_Mo_lengths_39 rfl ?_
    exact ev_ireturn (pc := 40) d_Mo_lengths_40 rfl rfl (q40_0 c9)
  · refine ev_iload_n (pc := 12) d_Mo_lengths_12 rfl ?_
    refine ev_aload_n (pc := 13) d_Mo_lengths_13 rfl ?_
    refine ev_getfield (pc := 14) 8 d_Mo_lengths_14 fl_Mo_29 h_r0 rfl ?_
    refine ev_iload_n (pc := 17) d_Mo_lengths_17 rfl ?_
    refine ev_zaload (pc := 18) d_Mo_lengths_18 h_r0p7 rfl (in18_1 c9) ?_
    refine ev_if_eq (pc := 19) 26 d_Mo_lengths_19 (by decide) (fun c19 => ?_) (fun c19 => ?_)
    · refine ev_aload_n (pc := 26) d_Mo_lengths_26 rfl ?_
      refine ev_iload_n (pc := 27) d_Mo_lengths_27 rfl ?_
      refine ev_invokevirtual (pc := 28) (As := [.int i2]) (st := [.int i1]) (Q2 := ev_pure (.int v28) n F) (bc1 := 0) (bs1 := 0) M_Mo_lengthOf rC11 d_Mo_lengths_28 lc_Mo_210 wd_1165 wd_s50 rfl h_r0 rfl rfl (Nat.le_of_ble_eq_true rfl) (Nat.le_of_ble_eq_true rfl) (Nat.le_of_ble_eq_true rfl) (Nat.le_refl _) (Nat.le_refl _) (c28_2 c9 c19) ?_
      refine ev_purek ?_
      refine ev_iadd (pc := 31) d_Mo_lengths_31 ?_
      refine ev_istore_n (pc := 32) d_Mo_lengths_32 (Nat.le_of_ble_eq_true rfl) [1, 0, 2] rfl ?_
      refine ev_iinc (pc := 33) 2 1 d_Mo_lengths_33 rfl (by decide) (Nat.le_of_ble_eq_true rfl) [1, 2, 0] rfl ?_
      refine ev_goto (pc := 36) 4 d_Mo_lengths_36 (by decide) ?_
      exact (k4_3 c9 c19)
    · refine ev_iconst (pc := 22) 0 d_Mo_lengths_22 (by decide) ?_
      refine ev_goto (pc := 23) 31 d_Mo_lengths_23 (by decide) ?_
      refine ev_iadd (pc := 31) d_Mo_lengths_31 ?_
      refine ev_istore_n (pc := 32) d_Mo_lengths_32 (Nat.le_of_ble_eq_true rfl) [1, 0, 2] rfl ?_
      refine ev_iinc (pc := 33) 2 1 d_Mo_lengths_33 rfl (by decide) (Nat.le_of_ble_eq_true rfl) [1, 2, 0] rfl ?_
      refine ev_goto (pc := 36) 4 d_Mo_lengths_36 (by decide) ?_
      exact (k4_4 c9 c19)
set_option maxRecDepth 100000 in
set_option maxHeartbeats 4000000 in
theorem s_Mo_lengthOf_0 {l : Launch} {X : ev_X} {bc bs n : Nat} {F : ev_H} {Q : Option Value → Nat → ev_H → Prop} {r0 : Nat} {i1 : Int32} 
    (k4_0 : Ev l X M_Mo_lengthOf bc bs 4 [(0, .ref r0), (1, .int i1), (2, .int 0), (3, .int 0)] [] n F (ev_mq X Q)) :
    Ev l X M_Mo_lengthOf bc bs 0 [(0, .ref r0), (1, .int i1)] [] n F (ev_mq X Q) := by
  refine ev_iconst (pc := 0) 0 d_Mo_lengthOf_0 (by decide) ?_
  refine ev_istore_n (pc := 1) d_Mo_lengthOf_1 (Nat.le_of_ble_eq_true rfl) [1, 2, 0] rfl ?_
  refine ev_iconst (pc := 2) 0 d_Mo_lengthOf_2 (by decide) ?_
  refine ev_istore_n (pc := 3) d_Mo_lengthOf_3 (Nat.le_of_ble_eq_true rfl) [1, 2, 3, 0] rfl ?_
  exact k4_0

set_option maxRecDepth 100000 in
set_option maxHeartbeats 4000000 in
theorem s_Mo_lengthOf_4 {l : Launch} {X : ev_X} {bc bs n : Nat} {F : ev_H} {Q : Option Value → Nat → ev_H → Prop} {r0 : Nat} {i1 : Int32} {i2 : Int32} {i3 : Int32} {ir0_drafted : Int32} {ir0_rows : Int32} {ir0_segments : Int32} {ir0_stopped : Int32} {ir0_fuse : Int32} {ir0_written : Int32} {ir0_tokens : Int32} {ir0_height : Int32} {ir0_results : Int32} {ir0_weighed : Int32} {r0p8_f : Nat → Int32} {r0p9_f : Nat → Int64} (h_r0 : F r0 = some (moO r0 ir0_drafted ir0_rows ir0_segments ir0_stopped ir0_fuse ir0_written ir0_tokens ir0_height ir0_results ir0_weighed)) (h_r0p8 : F (r0 + 8) = some (.inl (0, 80, .inl r0p8_f))) (h_r0p9 : F (r0 + 9) = some (.inl (1, 960, .inr (.inl r0p9_f))))
    (in10_0 : vp_in i1 80)
    (q45_1 : ((r0p8_f i1.toNatClampNeg) ≤ i3) → Q (some (.int i2)) n F)
    (in24_2 : (¬ (r0p8_f i1.toNatClampNeg) ≤ i3) → vp_in ((12 * i1) + i3) 960)
    (k4_3 : (¬ (r0p8_f i1.toNatClampNeg) ≤ i3) → ((lg_cmp (r0p9_f ((12 * i1) + i3).toNatClampNeg) 0) = 0) → Ev l X M_Mo_lengthOf bc bs 4 [(0, .ref r0), (1, .int i1), (2, .int i2), (3, .int (i3 + 1))] [] n F (ev_mq X Q))
    (k4_4 : (¬ (r0p8_f i1.toNatClampNeg) ≤ i3) → (¬ (lg_cmp (r0p9_f ((12 * i1) + i3).toNatClampNeg) 0) = 0) → Ev l X M_Mo_lengthOf bc bs 4 [(0, .ref r0), (1, .int i1), (2, .int (i2 + 1)), (3, .int (i3 + 1))] [] n F (ev_mq X Q)) :
    Ev l X M_Mo_lengthOf bc bs 4 [(0, .ref r0), (1, .int i1), (2, .int i2), (3, .int i3)] [] n F (ev_mq X Q) := by
  refine ev_iload_n (pc := 4) d_Mo_lengthOf_4 rfl ?_
  refine ev_aload_n (pc := 5) d_Mo_lengthOf_5 rfl ?_
  refine ev_getfield (pc := 6) 9 d_Mo_lengthOf_6 fl_Mo_33 h_r0 rfl ?_
  refine ev_iload_n (pc := 9) d_Mo_lengthOf_9 rfl ?_
  refine ev_iaload (pc := 10) d_Mo_lengthOf_10 h_r0p8 rfl in10_0 ?_
  refine ev_icmp_ge (pc := 11) 44 d_Mo_lengthOf_11 (by decide) (fun c11 => ?_) (fun c11 => ?_)
  · refine ev_iload_n (pc := 44) d_Mo_lengthOf_44 rfl ?_
    exact ev_ireturn (pc := 45) d_Mo_lengthOf_45 rfl rfl (q45_1 c11)
  · refine ev_aload_n (pc := 14) d_Mo_lengthOf_14 rfl ?_
    refine ev_getfield (pc := 15) 10 d_Mo_lengthOf_15 fl_Mo_36 h_r0 rfl ?_
    refine ev_bipush (pc := 18) 12 d_Mo_lengthOf_18 (by decide) ?_
    refine ev_iload_n (pc := 20) d_Mo_lengthOf_20 rfl ?_
    refine ev_imul (pc := 21) d_Mo_lengthOf_21 ?_
    refine ev_iload_n (pc := 22) d_Mo_lengthOf_22 rfl ?_
    refine ev_iadd (pc := 23) d_Mo_lengthOf_23 ?_
    refine ev_laload (pc := 24) d_Mo_lengthOf_24 h_r0p9 rfl (in24_2 c11) ?_
    refine ev_lconst (pc := 25) 0 d_Mo_lengthOf_25 (by decide) ?_
    refine ev_lcmp (pc := 26) d_Mo_lengthOf_26 ?_
    refine ev_if_eq (pc := 27) 36 d_Mo_lengthOf_27 (by decide) (fun c27 => ?_) (fun c27 => ?_)
    · refine ev_iload_n (pc := 36) d_Mo_lengthOf_36 rfl ?_
      refine ev_istore_n (pc := 37) d_Mo_lengthOf_37 (Nat.le_of_ble_eq_true rfl) [1, 2, 0, 3] rfl ?_
      refine ev_iinc (pc := 38) 3 1 d_Mo_lengthOf_38 rfl (by decide) (Nat.le_of_ble_eq_true rfl) [1, 2, 3, 0] rfl ?_
      refine ev_goto (pc := 41) 4 d_Mo_lengthOf_41 (by decide) ?_
      exact (k4_3 c11 c27)
    · refine ev_iload_n (pc := 30) d_Mo_lengthOf_30 rfl ?_
      refine ev_iconst (pc := 31) 1 d_Mo_lengthOf_31 (by decide) ?_
      refine ev_iadd (pc := 32) d_Mo_lengthOf_32 ?_
      refine ev_goto (pc := 33) 37 d_Mo_lengthOf_33 (by decide) ?_
      refine ev_istore_n (pc := 37) d_Mo_lengthOf_37 (Nat.le_of_ble_eq_true rfl) [1, 2, 0, 3] rfl ?_
      refine ev_iinc (pc := 38) 3 1 d_Mo_lengthOf_38 rfl (by decide) (Nat.le_of_ble_eq_true rfl) [1, 2, 3, 0] rfl ?_
      refine ev_goto (pc := 41) 4 d_Mo_lengthOf_41 (by decide) ?_
      exact (k4_4 c11 c27)
set_option maxRecDepth 100000 in
set_option maxHeartbeats 4000000 in
theorem s_Mo_least_0 {l : Launch} {X : ev_X} {bc bs n : Nat} {F : ev_H} {Q : Option Value → Nat → ev_H → Prop} {r0 : Nat} {i1 : Int32} 
    (k5_0 : Ev l X M_Mo_least bc bs 5 [(0, .ref r0), (1, .int i1), (2, .long 0), (4, .int 0)] [] n F (ev_mq X Q)) :
    Ev l X M_Mo_least bc bs 0 [(0, .ref r0), (1, .int i1)] [] n F (ev_mq X Q) := by
  refine ev_lconst (pc := 0) 0 d_Mo_least_0 (by decide) ?_
  refine ev_lstore_n (pc := 1) d_Mo_least_1 (Nat.le_of_ble_eq_true rfl) [1, 2, 0] rfl ?_
  refine ev_iconst (pc := 2) 0 d_Mo_least_2 (by decide) ?_
  refine ev_istore (pc := 3) d_Mo_least_3 (Nat.le_of_ble_eq_true rfl) [1, 2, 3, 0] rfl ?_
  exact k5_0

set_option maxRecDepth 100000 in
set_option maxHeartbeats 4000000 in
theorem s_Mo_least_5 {l : Launch} {X : ev_X} {bc bs n : Nat} {F : ev_H} {Q : Option Value → Nat → ev_H → Prop} {r0 : Nat} {i1 : Int32} {j2 : Int64} {i4 : Int32} 
    (q176_0 : (12 ≤ i4) → Q (some (.long j2)) n F)
    (k21_1 : (¬ 12 ≤ i4) → Ev l X M_Mo_least bc bs 21 [(0, .ref r0), (1, .int i1), (2, .long j2), (4, .int i4), (5, .int 0), (6, .int 0), (7, .int 0)] [] n F (ev_mq X Q)) :
    Ev l X M_Mo_least bc bs 5 [(0, .ref r0), (1, .int i1), (2, .long j2), (4, .int i4)] [] n F (ev_mq X Q) := by
  refine ev_iload (pc := 5) d_Mo_least_5 rfl ?_
  refine ev_bipush (pc := 7) 12 d_Mo_least_7 (by decide) ?_
  refine ev_icmp_ge (pc := 9) 175 d_Mo_least_9 (by decide) (fun c9 => ?_) (fun c9 => ?_)
  · refine ev_lload_n (pc := 175) d_Mo_least_175 rfl ?_
    exact ev_lreturn (pc := 176) d_Mo_least_176 rfl (q176_0 c9)
  · refine ev_iconst (pc := 12) 0 d_Mo_least_12 (by decide) ?_
    refine ev_istore (pc := 13) d_Mo_least_13 (Nat.le_of_ble_eq_true rfl) [1, 2, 3, 4, 0] rfl ?_
    refine ev_iconst (pc := 15) 0 d_Mo_least_15 (by decide) ?_
    refine ev_istore (pc := 16) d_Mo_least_16 (Nat.le_of_ble_eq_true rfl) [1, 2, 3, 4, 5, 0] rfl ?_
    refine ev_iconst (pc := 18) 0 d_Mo_least_18 (by decide) ?_
    refine ev_istore (pc := 19) d_Mo_least_19 (Nat.le_of_ble_eq_true rfl) [1, 2, 3, 4, 5, 6, 0] rfl ?_
    exact (k21_1 c9)

set_option maxRecDepth 100000 in
set_option maxHeartbeats 4000000 in
theorem s_Mo_least_21 {l : Launch} {X : ev_X} {bc bs n : Nat} {F : ev_H} {Q : Option Value → Nat → ev_H → Prop} {r0 : Nat} {i1 : Int32} {j2 : Int64} {i4 : Int32} {i5 : Int32} {i6 : Int32} {i7 : Int32} {ir0_drafted : Int32} {ir0_rows : Int32} {ir0_segments : Int32} {ir0_stopped : Int32} {ir0_fuse : Int32} {ir0_written : Int32} {ir0_tokens : Int32} {ir0_height : Int32} {ir0_results : Int32} {ir0_weighed : Int32} {r0p19_f : Nat → Int32} {r0p18_f : Nat → Int64} (h_r0 : F r0 = some (moO r0 ir0_drafted ir0_rows ir0_segments ir0_stopped ir0_fuse ir0_written ir0_tokens ir0_height ir0_results ir0_weighed)) (h_r0p19 : F (r0 + 19) = some (.inl (2, 12, .inl r0p19_f))) (h_r0p18 : F (r0 + 18) = some (.inl (1, 12, .inr (.inl r0p18_f))))
    (in138_0 : (12 ≤ i7) → vp_in i4 12)
    (k5_1 : (12 ≤ i7) → ((r0p19_f i4.toNatClampNeg) = 0) → Ev l X M_Mo_least bc bs 5 [(0, .ref r0), (1, .int i1), (2, .long j2), (4, .int (i4 + 1))] [] n F (ev_mq X Q))
    (k5_2 : (12 ≤ i7) → (¬ (r0p19_f i4.toNatClampNeg) = 0) → (i1 ≤ i5) → Ev l X M_Mo_least bc bs 5 [(0, .ref r0), (1, .int i1), (2, .long j2), (4, .int (i4 + 1))] [] n F (ev_mq X Q))
    (k5_3 : (12 ≤ i7) → (¬ (r0p19_f i4.toNatClampNeg) = 0) → (¬ i1 ≤ i5) → ((i5 + i6) < i1) → Ev l X M_Mo_least bc bs 5 [(0, .ref r0), (1, .int i1), (2, .long j2), (4, .int (i4 + 1))] [] n F (ev_mq X Q))
    (in163_4 : (12 ≤ i7) → (¬ (r0p19_f i4.toNatClampNeg) = 0) → (¬ i1 ≤ i5) → (¬ (i5 + i6) < i1) → vp_in i4 12)
    (k5_5 : (12 ≤ i7) → (¬ (r0p19_f i4.toNatClampNeg) = 0) → (¬ i1 ≤ i5) → (¬ (i5 + i6) < i1) → Ev l X M_Mo_least bc bs 5 [(0, .ref r0), (1, .int i1), (2, .long (r0p18_f i4.toNatClampNeg)), (4, .int (i4 + 1))] [] n F (ev_mq X Q))
    (in34_6 : (¬ 12 ≤ i7) → vp_in i7 12)
    (k75_7 : (¬ 12 ≤ i7) → ((r0p19_f i7.toNatClampNeg) = 0) → Ev l X M_Mo_least bc bs 75 [(0, .ref r0), (1, .int i1), (2, .long j2), (4, .int i4), (5, .int i5), (6, .int i6), (7, .int i7)] [.int i5] n F (ev_mq X Q))
    (in44_8 : (¬ 12 ≤ i7) → (¬ (r0p19_f i7.toNatClampNeg) = 0) → vp_in i4 12)
    (k75_9 : (¬ 12 ≤ i7) → (¬ (r0p19_f i7.toNatClampNeg) = 0) → ((r0p19_f i4.toNatClampNeg) = 0) → Ev l X M_Mo_least bc bs 75 [(0, .ref r0), (1, .int i1), (2, .long j2), (4, .int i4), (5, .int i5), (6, .int i6), (7, .int i7)] [.int i5] n F (ev_mq X Q))
    (in54_10 : (¬ 12 ≤ i7) → (¬ (r0p19_f i7.toNatClampNeg) = 0) → (¬ (r0p19_f i4.toNatClampNeg) = 0) → vp_in i7 12)
    (in61_11 : (¬ 12 ≤ i7) → (¬ (r0p19_f i7.toNatClampNeg) = 0) → (¬ (r0p19_f i4.toNatClampNeg) = 0) → vp_in i4 12)
    (k75_12 : (¬ 12 ≤ i7) → (¬ (r0p19_f i7.toNatClampNeg) = 0) → (¬ (r0p19_f i4.toNatClampNeg) = 0) → ((lg_cmp (r0p18_f i7.toNatClampNeg) (r0p18_f i4.toNatClampNeg)) ≤ 0) → Ev l X M_Mo_least bc bs 75 [(0, .ref r0), (1, .int i1), (2, .long j2), (4, .int i4), (5, .int i5), (6, .int i6), (7, .int i7)] [.int i5] n F (ev_mq X Q))
    (k75_13 : (¬ 12 ≤ i7) → (¬ (r0p19_f i7.toNatClampNeg) = 0) → (¬ (r0p19_f i4.toNatClampNeg) = 0) → (¬ (lg_cmp (r0p18_f i7.toNatClampNeg) (r0p18_f i4.toNatClampNeg)) ≤ 0) → Ev l X M_Mo_least bc bs 75 [(0, .ref r0), (1, .int i1), (2, .long j2), (4, .int i4), (5, .int i5), (6, .int i6), (7, .int i7)] [.int (i5 + 1)] n F (ev_mq X Q)) :
    Ev l X M_Mo_least bc bs 21 [(0, .ref r0), (1, .int i1), (2, .long j2), (4, .int i4), (5, .int i5), (6, .int i6), (7, .int i7)] [] n F (ev_mq X Q) := by
  refine ev_iload (pc := 21) d_Mo_least_21 rfl ?_
  refine ev_bipush (pc := 23) 12 d_Mo_least_23 (by decide) ?_
  refine ev_icmp_ge (pc := 25) 132 d_Mo_least_25 (by decide) (fun c25 => ?_) (fun c25 => ?_)
  · refine ev_aload_n (pc := 132) d_Mo_least_132 rfl ?_
    refine ev_getfield (pc := 133) 28 d_Mo_least_133 fl_Mo_66 h_r0 rfl ?_
    refine ev_iload (pc := 136) d_Mo_least_136 rfl ?_
    refine ev_zaload (pc := 138) d_Mo_least_138 h_r0p19 rfl (in138_0 c25) ?_
    refine ev_if_eq (pc := 139) 167 d_Mo_least_139 (by decide) (fun c139 => ?_) (fun c139 => ?_)
    · refine ev_lload_n (pc := 167) d_Mo_least_167 rfl ?_
      refine ev_lstore_n (pc := 168) d_Mo_least_168 (Nat.le_of_ble_eq_true rfl) [1, 2, 0, 3, 4, 5, 6] rfl ?_
      refine ev_iinc (pc := 169) 3 1 d_Mo_least_169 rfl (by decide) (Nat.le_of_ble_eq_true rfl) [1, 2, 3, 0, 4, 5, 6] rfl ?_
      refine ev_goto (pc := 172) 5 d_Mo_least_172 (by decide) ?_
      exact Ev.sub [0, 1, 2, 3] rfl (k5_1 c25 c139)
    · refine ev_iload (pc := 142) d_Mo_least_142 rfl ?_
      refine ev_iload_n (pc := 144) d_Mo_least_144 rfl ?_
      refine ev_icmp_ge (pc := 145) 167 d_Mo_least_145 (by decide) (fun c145 => ?_) (fun c145 => ?_)
      · refine ev_lload_n (pc := 167) d_Mo_least_167 rfl ?_
        refine ev_lstore_n (pc := 168) d_Mo_least_168 (Nat.le_of_ble_eq_true rfl) [1, 2, 0, 3, 4, 5, 6] rfl ?_
        refine ev_iinc (pc := 169) 3 1 d_Mo_least_169 rfl (by decide) (Nat.le_of_ble_eq_true rfl) [1, 2, 3, 0, 4, 5, 6] rfl ?_
        refine ev_goto (pc := 172) 5 d_Mo_least_172 (by decide) ?_
        exact Ev.sub [0, 1, 2, 3] rfl (k5_2 c25 c139 c145)
      · refine ev_iload (pc := 148) d_Mo_least_148 rfl ?_
        refine ev_iload (pc := 150) d_Mo_least_150 rfl ?_
        refine ev_iadd (pc := 152) d_Mo_least_152 ?_
        refine ev_iload_n (pc := 153) d_Mo_least_153 rfl ?_
        refine ev_icmp_lt (pc := 154) 167 d_Mo_least_154 (by decide) (fun c154 => ?_) (fun c154 => ?_)
        · refine ev_lload_n (pc := 167) d_Mo_least_167 rfl ?_
          refine ev_lstore_n (pc := 168) d_Mo_least_168 (Nat.le_of_ble_eq_true rfl) [1, 2, 0, 3, 4, 5, 6] rfl ?_
          refine ev_iinc (pc := 169) 3 1 d_Mo_least_169 rfl (by decide) (Nat.le_of_ble_eq_true rfl) [1, 2, 3, 0, 4, 5, 6] rfl ?_
          refine ev_goto (pc := 172) 5 d_Mo_least_172 (by decide) ?_
          exact Ev.sub [0, 1, 2, 3] rfl (k5_3 c25 c139 c145 c154)
        · refine ev_aload_n (pc := 157) d_Mo_least_157 rfl ?_
          refine ev_getfield (pc := 158) 27 d_Mo_least_158 fl_Mo_63 h_r0 rfl ?_
          refine ev_iload (pc := 161) d_Mo_least_161 rfl ?_
          refine ev_laload (pc := 163) d_Mo_least_163 h_r0p18 rfl (in163_4 c25 c139 c145 c154) ?_
          refine ev_goto (pc := 164) 168 d_Mo_least_164 (by decide) ?_
          refine ev_lstore_n (pc := 168) d_Mo_least_168 (Nat.le_of_ble_eq_true rfl) [1, 2, 0, 3, 4, 5, 6] rfl ?_
          refine ev_iinc (pc := 169) 3 1 d_Mo_least_169 rfl (by decide) (Nat.le_of_ble_eq_true rfl) [1, 2, 3, 0, 4, 5, 6] rfl ?_
          refine ev_goto (pc := 172) 5 d_Mo_least_172 (by decide) ?_
          exact Ev.sub [0, 1, 2, 3] rfl (k5_5 c25 c139 c145 c154)
  · refine ev_aload_n (pc := 28) d_Mo_least_28 rfl ?_
    refine ev_getfield (pc := 29) 28 d_Mo_least_29 fl_Mo_66 h_r0 rfl ?_
    refine ev_iload (pc := 32) d_Mo_least_32 rfl ?_
    refine ev_zaload (pc := 34) d_Mo_least_34 h_r0p19 rfl (in34_6 c25) ?_
    refine ev_if_eq (pc := 35) 73 d_Mo_least_35 (by decide) (fun c35 => ?_) (fun c35 => ?_)
    · refine ev_iload (pc := 73) d_Mo_least_73 rfl ?_
      exact (k75_7 c25 c35)
    · refine ev_aload_n (pc := 38) d_Mo_least_38 rfl ?_
      refine ev_getfield (pc := 39) 28 d_Mo_least_39 fl_Mo_66 h_r0 rfl ?_
      refine ev_iload (pc := 42) d_Mo_least_42 rfl ?_
      refine ev_zaload (pc := 44) d_Mo_least_44 h_r0p19 rfl (in44_8 c25 c35) ?_
      refine ev_if_eq (pc := 45) 73 d_Mo_least_45 (by decide) (fun c45 => ?_) (fun c45 => ?_)
      · refine ev_iload (pc := 73) d_Mo_least_73 rfl ?_
        exact (k75_9 c25 c35 c45)
      · refine ev_aload_n (pc := 48) d_Mo_least_48 rfl ?_
        refine ev_getfield (pc := 49) 27 d_Mo_least_49 fl_Mo_63 h_r0 rfl ?_
        refine ev_iload (pc := 52) d_Mo_least_52 rfl ?_
        refine ev_laload (pc := 54) d_Mo_least_54 h_r0p18 rfl (in54_10 c25 c35 c45) ?_
        refine ev_aload_n (pc := 55) d_Mo_least_55 rfl ?_
        refine ev_getfield (pc := 56) 27 d_Mo_least_56 fl_Mo_63 h_r0 rfl ?_
        refine ev_iload (pc := 59) d_Mo_least_59 rfl ?_
        refine ev_laload (pc := 61) d_Mo_least_61 h_r0p18 rfl (in61_11 c25 c35 c45) ?_
        refine ev_lcmp (pc := 62) d_Mo_least_62 ?_
        refine ev_if_le (pc := 63) 73 d_Mo_least_63 (by decide) (fun c63 => ?_) (fun c63 => ?_)
        · refine ev_iload (pc := 73) d_Mo_least_73 rfl ?_
          exact (k75_12 c25 c35 c45 c63)
        · refine ev_iload (pc := 66) d_Mo_least_66 rfl ?_
          refine ev_iconst (pc := 68) 1 d_Mo_least_68 (by decide) ?_
          refine ev_iadd (pc := 69) d_Mo_least_69 ?_
          refine ev_goto (pc := 70) 75 d_Mo_least_70 (by decide) ?_
          exact (k75_13 c25 c35 c45 c63)

set_option maxRecDepth 100000 in
set_option maxHeartbeats 4000000 in
theorem s_Mo_least_75 {l : Launch} {X : ev_X} {bc bs n : Nat} {F : ev_H} {Q : Option Value → Nat → ev_H → Prop} {r0 : Nat} {i1 : Int32} {j2 : Int64} {i4 : Int32} {i5 : Int32} {i6 : Int32} {i7 : Int32} {is0 : Int32} {ir0_drafted : Int32} {ir0_rows : Int32} {ir0_segments : Int32} {ir0_stopped : Int32} {ir0_fuse : Int32} {ir0_written : Int32} {ir0_tokens : Int32} {ir0_height : Int32} {ir0_results : Int32} {ir0_weighed : Int32} {r0p19_f : Nat → Int32} {r0p18_f : Nat → Int64} (h_r0 : F r0 = some (moO r0 ir0_drafted ir0_rows ir0_segments ir0_stopped ir0_fuse ir0_written ir0_tokens ir0_height ir0_results ir0_weighed)) (h_r0p19 : F (r0 + 19) = some (.inl (2, 12, .inl r0p19_f))) (h_r0p18 : F (r0 + 18) = some (.inl (1, 12, .inr (.inl r0p18_f))))
    (in83_0 : vp_in i7 12)
    (k124_1 : ((r0p19_f i7.toNatClampNeg) = 0) → Ev l X M_Mo_least bc bs 124 [(0, .ref r0), (1, .int i1), (2, .long j2), (4, .int i4), (5, .int is0), (6, .int i6), (7, .int i7)] [.int i6] n F (ev_mq X Q))
    (in93_2 : (¬ (r0p19_f i7.toNatClampNeg) = 0) → vp_in i4 12)
    (k124_3 : (¬ (r0p19_f i7.toNatClampNeg) = 0) → ((r0p19_f i4.toNatClampNeg) = 0) → Ev l X M_Mo_least bc bs 124 [(0, .ref r0), (1, .int i1), (2, .long j2), (4, .int i4), (5, .int is0), (6, .int i6), (7, .int i7)] [.int i6] n F (ev_mq X Q))
    (in103_4 : (¬ (r0p19_f i7.toNatClampNeg) = 0) → (¬ (r0p19_f i4.toNatClampNeg) = 0) → vp_in i7 12)
    (in110_5 : (¬ (r0p19_f i7.toNatClampNeg) = 0) → (¬ (r0p19_f i4.toNatClampNeg) = 0) → vp_in i4 12)
    (k124_6 : (¬ (r0p19_f i7.toNatClampNeg) = 0) → (¬ (r0p19_f i4.toNatClampNeg) = 0) → (¬ (lg_cmp (r0p18_f i7.toNatClampNeg) (r0p18_f i4.toNatClampNeg)) = 0) → Ev l X M_Mo_least bc bs 124 [(0, .ref r0), (1, .int i1), (2, .long j2), (4, .int i4), (5, .int is0), (6, .int i6), (7, .int i7)] [.int i6] n F (ev_mq X Q))
    (k124_7 : (¬ (r0p19_f i7.toNatClampNeg) = 0) → (¬ (r0p19_f i4.toNatClampNeg) = 0) → ((lg_cmp (r0p18_f i7.toNatClampNeg) (r0p18_f i4.toNatClampNeg)) = 0) → Ev l X M_Mo_least bc bs 124 [(0, .ref r0), (1, .int i1), (2, .long j2), (4, .int i4), (5, .int is0), (6, .int i6), (7, .int i7)] [.int (i6 + 1)] n F (ev_mq X Q)) :
    Ev l X M_Mo_least bc bs 75 [(0, .ref r0), (1, .int i1), (2, .long j2), (4, .int i4), (5, .int i5), (6, .int i6), (7, .int i7)] [.int is0] n F (ev_mq X Q) := by
  refine ev_istore (pc := 75) d_Mo_least_75 (Nat.le_of_ble_eq_true rfl) [1, 2, 3, 4, 0, 5, 6] rfl ?_
  refine ev_aload_n (pc := 77) d_Mo_least_77 rfl ?_
  refine ev_getfield (pc := 78) 28 d_Mo_least_78 fl_Mo_66 h_r0 rfl ?_
  refine ev_iload (pc := 81) d_Mo_least_81 rfl ?_
  refine ev_zaload (pc := 83) d_Mo_least_83 h_r0p19 rfl in83_0 ?_
  refine ev_if_eq (pc := 84) 122 d_Mo_least_84 (by decide) (fun c84 => ?_) (fun c84 => ?_)
  · refine ev_iload (pc := 122) d_Mo_least_122 rfl ?_
    exact (k124_1 c84)
  · refine ev_aload_n (pc := 87) d_Mo_least_87 rfl ?_
    refine ev_getfield (pc := 88) 28 d_Mo_least_88 fl_Mo_66 h_r0 rfl ?_
    refine ev_iload (pc := 91) d_Mo_least_91 rfl ?_
    refine ev_zaload (pc := 93) d_Mo_least_93 h_r0p19 rfl (in93_2 c84) ?_
    refine ev_if_eq (pc := 94) 122 d_Mo_least_94 (by decide) (fun c94 => ?_) (fun c94 => ?_)
    · refine ev_iload (pc := 122) d_Mo_least_122 rfl ?_
      exact (k124_3 c84 c94)
    · refine ev_aload_n (pc := 97) d_Mo_least_97 rfl ?_
      refine ev_getfield (pc := 98) 27 d_Mo_least_98 fl_Mo_63 h_r0 rfl ?_
      refine ev_iload (pc := 101) d_Mo_least_101 rfl ?_
      refine ev_laload (pc := 103) d_Mo_least_103 h_r0p18 rfl (in103_4 c84 c94) ?_
      refine ev_aload_n (pc := 104) d_Mo_least_104 rfl ?_
      refine ev_getfield (pc := 105) 27 d_Mo_least_105 fl_Mo_63 h_r0 rfl ?_
      refine ev_iload (pc := 108) d_Mo_least_108 rfl ?_
      refine ev_laload (pc := 110) d_Mo_least_110 h_r0p18 rfl (in110_5 c84 c94) ?_
      refine ev_lcmp (pc := 111) d_Mo_least_111 ?_
      refine ev_if_ne (pc := 112) 122 d_Mo_least_112 (by decide) (fun c112 => ?_) (fun c112 => ?_)
      · refine ev_iload (pc := 122) d_Mo_least_122 rfl ?_
        exact (k124_6 c84 c94 c112)
      · refine ev_iload (pc := 115) d_Mo_least_115 rfl ?_
        refine ev_iconst (pc := 117) 1 d_Mo_least_117 (by decide) ?_
        refine ev_iadd (pc := 118) d_Mo_least_118 ?_
        refine ev_goto (pc := 119) 124 d_Mo_least_119 (by decide) ?_
        exact (k124_7 c84 c94 c112)

set_option maxRecDepth 100000 in
set_option maxHeartbeats 4000000 in
theorem s_Mo_least_124 {l : Launch} {X : ev_X} {bc bs n : Nat} {F : ev_H} {Q : Option Value → Nat → ev_H → Prop} {r0 : Nat} {i1 : Int32} {j2 : Int64} {i4 : Int32} {i5 : Int32} {i6 : Int32} {i7 : Int32} {is0 : Int32} 
    (k21_0 : Ev l X M_Mo_least bc bs 21 [(0, .ref r0), (1, .int i1), (2, .long j2), (4, .int i4), (5, .int i5), (6, .int is0), (7, .int (i7 + 1))] [] n F (ev_mq X Q)) :
    Ev l X M_Mo_least bc bs 124 [(0, .ref r0), (1, .int i1), (2, .long j2), (4, .int i4), (5, .int i5), (6, .int i6), (7, .int i7)] [.int is0] n F (ev_mq X Q) := by
  refine ev_istore (pc := 124) d_Mo_least_124 (Nat.le_of_ble_eq_true rfl) [1, 2, 3, 4, 5, 0, 6] rfl ?_
  refine ev_iinc (pc := 126) 6 1 d_Mo_least_126 rfl (by decide) (Nat.le_of_ble_eq_true rfl) [1, 2, 3, 4, 5, 6, 0] rfl ?_
  refine ev_goto (pc := 129) 21 d_Mo_least_129 (by decide) ?_
  exact k21_0
