set_option maxRecDepth 100000 in
set_option maxHeartbeats 4000000 in
theorem s_Mo_commit_0 {l : Launch} {X : ev_X} {bc bs n : Nat} {F : ev_H} {Q : Option Value → Nat → ev_H → Prop} {r0 : Nat} {ir0_drafted : Int32} {ir0_rows : Int32} {ir0_segments : Int32} {ir0_stopped : Int32} {ir0_fuse : Int32} {ir0_written : Int32} {ir0_tokens : Int32} {ir0_height : Int32} {ir0_results : Int32} {ir0_weighed : Int32} {v11 : Int32} {v22 : Int32} (h_r0 : F r0 = some (moO r0 ir0_drafted ir0_rows ir0_segments ir0_stopped ir0_fuse ir0_written ir0_tokens ir0_height ir0_results ir0_weighed))
    (c11_0 : (ir0_stopped = 0) → Cal l X M_Mo_idle 0 0 [.ref r0] n F (ev_pure (.int v11) n F))
    (c22_1 : (ir0_stopped = 0) → (¬ v11 = 12) → Cal l X M_Mo_documents 0 0 [.ref r0] n F (ev_pure (.int v22) n F))
    (k46_2 : (ir0_stopped = 0) → (¬ v11 = 12) → (v22 ≤ 0) → Ev l X M_Mo_commit bc bs 46 [(0, .ref r0), (1, .int v22), (2, .int 0), (3, .int 0)] [] n F (ev_mq X Q))
    (k46_3 : (ir0_stopped = 0) → (¬ v11 = 12) → (¬ v22 ≤ 0) → (¬ ir0_segments = 6) → Ev l X M_Mo_commit bc bs 46 [(0, .ref r0), (1, .int v22), (2, .int 0), (3, .int 0)] [] n F (ev_mq X Q))
    (q41_4 : (ir0_stopped = 0) → (¬ v11 = 12) → (¬ v22 ≤ 0) → (ir0_segments = 6) → Q (some (.int (-2))) n F)
    (q20_5 : (ir0_stopped = 0) → (v11 = 12) → Q (some (.int (-1))) n F)
    (q9_6 : (¬ ir0_stopped = 0) → Q (some (.int (-9))) n F) :
    Ev l X M_Mo_commit bc bs 0 [(0, .ref r0)] [] n F (ev_mq X Q) := by
  refine ev_aload_n (pc := 0) d_Mo_commit_0 rfl ?_
  refine ev_getfield (pc := 1) 12 d_Mo_commit_1 fl_Mo_131 h_r0 rfl ?_
  refine ev_if_eq (pc := 4) 10 d_Mo_commit_4 (by decide) (fun c4 => ?_) (fun c4 => ?_)
  · refine ev_aload_n (pc := 10) d_Mo_commit_10 rfl ?_
    refine ev_invokevirtual (pc := 11) (As := []) (st := []) (Q2 := ev_pure (.int v11) n F) (bc1 := 0) (bs1 := 0) M_Mo_idle rC11 d_Mo_commit_11 lc_Mo_142 wd_1052 wd_s32 rfl h_r0 rfl rfl (Nat.le_of_ble_eq_true rfl) (Nat.le_of_ble_eq_true rfl) (Nat.le_of_ble_eq_true rfl) (Nat.le_refl _) (Nat.le_refl _) (c11_0 c4) ?_
    refine ev_purek ?_
    refine ev_bipush (pc := 14) 12 d_Mo_commit_14 (by decide) ?_
    refine ev_icmp_ne (pc := 16) 21 d_Mo_commit_16 (by decide) (fun c16 => ?_) (fun c16 => ?_)
    · refine ev_aload_n (pc := 21) d_Mo_commit_21 rfl ?_
      refine ev_invokevirtual (pc := 22) (As := []) (st := []) (Q2 := ev_pure (.int v22) n F) (bc1 := 0) (bs1 := 0) M_Mo_documents rC11 d_Mo_commit_22 lc_Mo_164 wd_1064 wd_s33 rfl h_r0 rfl rfl (Nat.le_of_ble_eq_true rfl) (Nat.le_of_ble_eq_true rfl) (Nat.le_of_ble_eq_true rfl) (Nat.le_refl _) (Nat.le_refl _) (c22_1 c4 c16) ?_
      refine ev_purek ?_
      refine ev_istore_n (pc := 25) d_Mo_commit_25 (Nat.le_of_ble_eq_true rfl) [1, 0] rfl ?_
      refine ev_iload_n (pc := 26) d_Mo_commit_26 rfl ?_
      refine ev_if_le (pc := 27) 42 d_Mo_commit_27 (by decide) (fun c27 => ?_) (fun c27 => ?_)
      · refine ev_iconst (pc := 42) 0 d_Mo_commit_42 (by decide) ?_
        refine ev_istore_n (pc := 43) d_Mo_commit_43 (Nat.le_of_ble_eq_true rfl) [1, 2, 0] rfl ?_
        refine ev_iconst (pc := 44) 0 d_Mo_commit_44 (by decide) ?_
        refine ev_istore_n (pc := 45) d_Mo_commit_45 (Nat.le_of_ble_eq_true rfl) [1, 2, 3, 0] rfl ?_
        exact (k46_2 c4 c16 c27)
      · refine ev_aload_n (pc := 30) d_Mo_commit_30 rfl ?_
        refine ev_getfield (pc := 31) 11 d_Mo_commit_31 fl_Mo_161 h_r0 rfl ?_
        refine ev_bipush (pc := 34) 6 d_Mo_commit_34 (by decide) ?_
        refine ev_icmp_ne (pc := 36) 42 d_Mo_commit_36 (by decide) (fun c36 => ?_) (fun c36 => ?_)
        · refine ev_iconst (pc := 42) 0 d_Mo_commit_42 (by decide) ?_
          refine ev_istore_n (pc := 43) d_Mo_commit_43 (Nat.le_of_ble_eq_true rfl) [1, 2, 0] rfl ?_
          refine ev_iconst (pc := 44) 0 d_Mo_commit_44 (by decide) ?_
          refine ev_istore_n (pc := 45) d_Mo_commit_45 (Nat.le_of_ble_eq_true rfl) [1, 2, 3, 0] rfl ?_
          exact (k46_3 c4 c16 c27 c36)
        · refine ev_bipush (pc := 39) (-2) d_Mo_commit_39 (by decide) ?_
          exact ev_ireturn (pc := 41) d_Mo_commit_41 rfl rfl (q41_4 c4 c16 c27 c36)
    · refine ev_iconst (pc := 19) (-1) d_Mo_commit_19 (by decide) ?_
      exact ev_ireturn (pc := 20) d_Mo_commit_20 rfl rfl (q20_5 c4 c16)
  · refine ev_bipush (pc := 7) (-9) d_Mo_commit_7 (by decide) ?_
    exact ev_ireturn (pc := 9) d_Mo_commit_9 rfl rfl (q9_6 c4)

set_option maxRecDepth 100000 in
set_option maxHeartbeats 4000000 in
theorem s_Mo_commit_46 {l : Launch} {X : ev_X} {bc bs n : Nat} {F : ev_H} {Q : Option Value → Nat → ev_H → Prop} {r0 : Nat} {i1 : Int32} {i2 : Int32} {i3 : Int32} {ir0_drafted : Int32} {ir0_rows : Int32} {ir0_segments : Int32} {ir0_stopped : Int32} {ir0_fuse : Int32} {ir0_written : Int32} {ir0_tokens : Int32} {ir0_height : Int32} {ir0_results : Int32} {ir0_weighed : Int32} {r0p7_f : Nat → Int32} {r0p5_f : Nat → Int32} {r0p2_f : Nat → Int32} (h_r0 : F r0 = some (moO r0 ir0_drafted ir0_rows ir0_segments ir0_stopped ir0_fuse ir0_written ir0_tokens ir0_height ir0_results ir0_weighed)) (h_r0p7 : F (r0 + 7) = some (.inl (2, 80, .inl r0p7_f))) (h_r0p5 : F (r0 + 5) = some (.inl (0, 80, .inl r0p5_f))) (h_r0p2 : F (r0 + 2) = some (.inl (0, 12, .inl r0p2_f)))
    (k103_0 : (ir0_rows ≤ i3) → (i2 = 0) → Ev l X M_Mo_commit bc bs 103 [(0, .ref r0), (1, .int i1), (2, .int i2), (3, .int i3)] [.int 1, .int i1] n F (ev_mq X Q))
    (k103_1 : (ir0_rows ≤ i3) → (¬ i2 = 0) → Ev l X M_Mo_commit bc bs 103 [(0, .ref r0), (1, .int i1), (2, .int i2), (3, .int i3)] [.int 2, .int i1] n F (ev_mq X Q))
    (k86_2 : (¬ ir0_rows ≤ i3) → (¬ i2 = 0) → Ev l X M_Mo_commit bc bs 86 [(0, .ref r0), (1, .int i1), (2, .int i2), (3, .int i3)] [.int 1] n F (ev_mq X Q))
    (in63_3 : (¬ ir0_rows ≤ i3) → (i2 = 0) → vp_in i3 80)
    (k86_4 : (¬ ir0_rows ≤ i3) → (i2 = 0) → (¬ (r0p7_f i3.toNatClampNeg) = 0) → Ev l X M_Mo_commit bc bs 86 [(0, .ref r0), (1, .int i1), (2, .int i2), (3, .int i3)] [.int 0] n F (ev_mq X Q))
    (in76_5 : (¬ ir0_rows ≤ i3) → (i2 = 0) → ((r0p7_f i3.toNatClampNeg) = 0) → vp_in i3 80)
    (in77_6 : (¬ ir0_rows ≤ i3) → (i2 = 0) → ((r0p7_f i3.toNatClampNeg) = 0) → vp_in (r0p5_f i3.toNatClampNeg) 12)
    (k86_7 : (¬ ir0_rows ≤ i3) → (i2 = 0) → ((r0p7_f i3.toNatClampNeg) = 0) → ((r0p2_f (r0p5_f i3.toNatClampNeg).toNatClampNeg) = 0) → Ev l X M_Mo_commit bc bs 86 [(0, .ref r0), (1, .int i1), (2, .int i2), (3, .int i3)] [.int 0] n F (ev_mq X Q))
    (k86_8 : (¬ ir0_rows ≤ i3) → (i2 = 0) → ((r0p7_f i3.toNatClampNeg) = 0) → (¬ (r0p2_f (r0p5_f i3.toNatClampNeg).toNatClampNeg) = 0) → Ev l X M_Mo_commit bc bs 86 [(0, .ref r0), (1, .int i1), (2, .int i2), (3, .int i3)] [.int 1] n F (ev_mq X Q)) :
    Ev l X M_Mo_commit bc bs 46 [(0, .ref r0), (1, .int i1), (2, .int i2), (3, .int i3)] [] n F (ev_mq X Q) := by
  refine ev_iload_n (pc := 46) d_Mo_commit_46 rfl ?_
  refine ev_aload_n (pc := 47) d_Mo_commit_47 rfl ?_
  refine ev_getfield (pc := 48) 5 d_Mo_commit_48 fl_Mo_158 h_r0 rfl ?_
  refine ev_icmp_ge (pc := 51) 93 d_Mo_commit_51 (by decide) (fun c51 => ?_) (fun c51 => ?_)
  · refine ev_iload_n (pc := 93) d_Mo_commit_93 rfl ?_
    refine ev_iload_n (pc := 94) d_Mo_commit_94 rfl ?_
    refine ev_if_eq (pc := 95) 102 d_Mo_commit_95 (by decide) (fun c95 => ?_) (fun c95 => ?_)
    · refine ev_iconst (pc := 102) 1 d_Mo_commit_102 (by decide) ?_
      exact (k103_0 c51 c95)
    · refine ev_iconst (pc := 98) 2 d_Mo_commit_98 (by decide) ?_
      refine ev_goto (pc := 99) 103 d_Mo_commit_99 (by decide) ?_
      exact (k103_1 c51 c95)
  · refine ev_iload_n (pc := 54) d_Mo_commit_54 rfl ?_
    refine ev_if_ne (pc := 55) 81 d_Mo_commit_55 (by decide) (fun c55 => ?_) (fun c55 => ?_)
    · refine ev_iconst (pc := 81) 1 d_Mo_commit_81 (by decide) ?_
      refine ev_goto (pc := 82) 86 d_Mo_commit_82 (by decide) ?_
      exact (k86_2 c51 c55)
    · refine ev_aload_n (pc := 58) d_Mo_commit_58 rfl ?_
      refine ev_getfield (pc := 59) 8 d_Mo_commit_59 fl_Mo_29 h_r0 rfl ?_
      refine ev_iload_n (pc := 62) d_Mo_commit_62 rfl ?_
      refine ev_zaload (pc := 63) d_Mo_commit_63 h_r0p7 rfl (in63_3 c51 c55) ?_
      refine ev_if_ne (pc := 64) 85 d_Mo_commit_64 (by decide) (fun c64 => ?_) (fun c64 => ?_)
      · refine ev_iconst (pc := 85) 0 d_Mo_commit_85 (by decide) ?_
        exact (k86_4 c51 c55 c64)
      · refine ev_aload_n (pc := 67) d_Mo_commit_67 rfl ?_
        refine ev_getfield (pc := 68) 2 d_Mo_commit_68 fl_Mo_13 h_r0 rfl ?_
        refine ev_aload_n (pc := 71) d_Mo_commit_71 rfl ?_
        refine ev_getfield (pc := 72) 6 d_Mo_commit_72 fl_Mo_23 h_r0 rfl ?_
        refine ev_iload_n (pc := 75) d_Mo_commit_75 rfl ?_
        refine ev_iaload (pc := 76) d_Mo_commit_76 h_r0p5 rfl (in76_5 c51 c55 c64) ?_
        refine ev_iaload (pc := 77) d_Mo_commit_77 h_r0p2 rfl (in77_6 c51 c55 c64) ?_
        refine ev_if_eq (pc := 78) 85 d_Mo_commit_78 (by decide) (fun c78 => ?_) (fun c78 => ?_)
        · refine ev_iconst (pc := 85) 0 d_Mo_commit_85 (by decide) ?_
          exact (k86_7 c51 c55 c64 c78)
        · refine ev_iconst (pc := 81) 1 d_Mo_commit_81 (by decide) ?_
          refine ev_goto (pc := 82) 86 d_Mo_commit_82 (by decide) ?_
          exact (k86_8 c51 c55 c64 c78)

set_option maxRecDepth 100000 in
set_option maxHeartbeats 4000000 in
theorem s_Mo_commit_86 {l : Launch} {X : ev_X} {bc bs n : Nat} {F : ev_H} {Q : Option Value → Nat → ev_H → Prop} {r0 : Nat} {i1 : Int32} {i2 : Int32} {i3 : Int32} {is0 : Int32} 
    (k46_0 : Ev l X M_Mo_commit bc bs 46 [(0, .ref r0), (1, .int i1), (2, .int is0), (3, .int (i3 + 1))] [] n F (ev_mq X Q)) :
    Ev l X M_Mo_commit bc bs 86 [(0, .ref r0), (1, .int i1), (2, .int i2), (3, .int i3)] [.int is0] n F (ev_mq X Q) := by
  refine ev_istore_n (pc := 86) d_Mo_commit_86 (Nat.le_of_ble_eq_true rfl) [1, 2, 0, 3] rfl ?_
  refine ev_iinc (pc := 87) 3 1 d_Mo_commit_87 rfl (by decide) (Nat.le_of_ble_eq_true rfl) [1, 2, 3, 0] rfl ?_
  refine ev_goto (pc := 90) 46 d_Mo_commit_90 (by decide) ?_
  exact k46_0

set_option maxRecDepth 100000 in
set_option maxHeartbeats 4000000 in
theorem s_Mo_commit_103 {l : Launch} {X : ev_X} {bc bs n : Nat} {F : ev_H} {Q : Option Value → Nat → ev_H → Prop} {r0 : Nat} {i1 : Int32} {i2 : Int32} {i3 : Int32} {is0 : Int32} {is1 : Int32} {ir0_drafted : Int32} {ir0_rows : Int32} {ir0_segments : Int32} {ir0_stopped : Int32} {ir0_fuse : Int32} {ir0_written : Int32} {ir0_tokens : Int32} {ir0_height : Int32} {ir0_results : Int32} {ir0_weighed : Int32} (h_r0 : F r0 = some (moO r0 ir0_drafted ir0_rows ir0_segments ir0_stopped ir0_fuse ir0_written ir0_tokens ir0_height ir0_results ir0_weighed))
    (k125_0 : (ir0_fuse = 0) → Ev l X M_Mo_commit bc bs 125 [(0, .ref r0), (1, .int i1), (2, .int i2), (3, .int (is0 + is1))] [.int 1] n F (ev_mq X Q))
    (k125_1 : (¬ ir0_fuse = 0) → (ir0_fuse ≤ (is0 + is1)) → Ev l X M_Mo_commit bc bs 125 [(0, .ref r0), (1, .int i1), (2, .int i2), (3, .int (is0 + is1))] [.int 0] n F (ev_mq X Q))
    (k125_2 : (¬ ir0_fuse = 0) → (¬ ir0_fuse ≤ (is0 + is1)) → Ev l X M_Mo_commit bc bs 125 [(0, .ref r0), (1, .int i1), (2, .int i2), (3, .int (is0 + is1))] [.int 1] n F (ev_mq X Q)) :
    Ev l X M_Mo_commit bc bs 103 [(0, .ref r0), (1, .int i1), (2, .int i2), (3, .int i3)] [.int is1, .int is0] n F (ev_mq X Q) := by
  refine ev_iadd (pc := 103) d_Mo_commit_103 ?_
  refine ev_istore_n (pc := 104) d_Mo_commit_104 (Nat.le_of_ble_eq_true rfl) [1, 2, 3, 0] rfl ?_
  refine ev_aload_n (pc := 105) d_Mo_commit_105 rfl ?_
  refine ev_getfield (pc := 106) 13 d_Mo_commit_106 fl_Mo_152 h_r0 rfl ?_
  refine ev_if_eq (pc := 109) 120 d_Mo_commit_109 (by decide) (fun c109 => ?_) (fun c109 => ?_)
  · refine ev_iconst (pc := 120) 1 d_Mo_commit_120 (by decide) ?_
    refine ev_goto (pc := 121) 125 d_Mo_commit_121 (by decide) ?_
    exact (k125_0 c109)
  · refine ev_aload_n (pc := 112) d_Mo_commit_112 rfl ?_
    refine ev_getfield (pc := 113) 13 d_Mo_commit_113 fl_Mo_152 h_r0 rfl ?_
    refine ev_iload_n (pc := 116) d_Mo_commit_116 rfl ?_
    refine ev_icmp_le (pc := 117) 124 d_Mo_commit_117 (by decide) (fun c117 => ?_) (fun c117 => ?_)
    · refine ev_iconst (pc := 124) 0 d_Mo_commit_124 (by decide) ?_
      exact (k125_1 c109 c117)
    · refine ev_iconst (pc := 120) 1 d_Mo_commit_120 (by decide) ?_
      refine ev_goto (pc := 121) 125 d_Mo_commit_121 (by decide) ?_
      exact (k125_2 c109 c117)

set_option maxRecDepth 100000 in
set_option maxHeartbeats 4000000 in
theorem s_Mo_commit_125 {l : Launch} {X : ev_X} {bc bs n : Nat} {F : ev_H} {Q : Option Value → Nat → ev_H → Prop} {r0 : Nat} {i1 : Int32} {i2 : Int32} {i3 : Int32} {is0 : Int32} {ir0_drafted : Int32} {ir0_rows : Int32} {ir0_segments : Int32} {ir0_stopped : Int32} {ir0_fuse : Int32} {ir0_written : Int32} {ir0_tokens : Int32} {ir0_height : Int32} {ir0_results : Int32} {ir0_weighed : Int32} {Q129 : Option Value → Nat → ev_H → Prop} {bc129 : Nat} {bs129 : Nat} {rc129 : Nat} {rs129 : Nat} (h_r0 : F r0 = some (moO r0 ir0_drafted ir0_rows ir0_segments ir0_stopped ir0_fuse ir0_written ir0_tokens ir0_height ir0_results ir0_weighed)) (hb_rc129 : rc129 + bc129 ≤ bc) (hs_rs129 : rs129 + bs129 ≤ bs)
    (c129_0 : Cal l X M_Mo_write bc129 bs129 [.ref r0, .int i3] n F Q129)
    (k132_1 : ∀ v2 n2 F2, Q129 v2 n2 F2 → Ev l X M_Mo_commit rc129 rs129 132 [(0, .ref r0), (1, .int i1), (2, .int i2), (3, .int i3), (4, .int is0)] (v2.toList ++ []) n2 F2 (ev_mq X Q)) :
    Ev l X M_Mo_commit bc bs 125 [(0, .ref r0), (1, .int i1), (2, .int i2), (3, .int i3)] [.int is0] n F (ev_mq X Q) := by
  refine ev_istore (pc := 125) d_Mo_commit_125 (Nat.le_of_ble_eq_true rfl) [1, 2, 3, 4, 0] rfl ?_
  refine ev_aload_n (pc := 127) d_Mo_commit_127 rfl ?_
  refine ev_iload_n (pc := 128) d_Mo_commit_128 rfl ?_
  exact ev_invokevirtual (pc := 129) (As := [.int i3]) (st := []) (Q2 := Q129) M_Mo_write rC11 d_Mo_commit_129 lc_Mo_167 wd_1068 wd_s34 rfl h_r0 rfl rfl (Nat.le_of_ble_eq_true rfl) (Nat.le_of_ble_eq_true rfl) (Nat.le_of_ble_eq_true rfl) hb_rc129 hs_rs129 c129_0 k132_1

set_option maxRecDepth 100000 in
set_option maxHeartbeats 4000000 in
theorem s_Mo_commit_132 {l : Launch} {X : ev_X} {bc bs n : Nat} {F : ev_H} {Q : Option Value → Nat → ev_H → Prop} {r0 : Nat} {i1 : Int32} {i2 : Int32} {i3 : Int32} {i4 : Int32} {is0 : Int32} {ir0_drafted : Int32} {ir0_rows : Int32} {ir0_segments : Int32} {ir0_stopped : Int32} {ir0_fuse : Int32} {ir0_written : Int32} {ir0_tokens : Int32} {ir0_height : Int32} {ir0_results : Int32} {ir0_weighed : Int32} {v153 : Int32} {Q146 : Option Value → Nat → ev_H → Prop} {bc146 : Nat} {bs146 : Nat} {rc146 : Nat} {rs146 : Nat} {Q137 : Option Value → Nat → ev_H → Prop} {bc137 : Nat} {bs137 : Nat} {rc137 : Nat} {rs137 : Nat} (h_r0 : F r0 = some (moO r0 ir0_drafted ir0_rows ir0_segments ir0_stopped ir0_fuse ir0_written ir0_tokens ir0_height ir0_results ir0_weighed)) (hb_rc146 : rc146 + bc146 ≤ bc) (hs_rs146 : rs146 + bs146 ≤ bs) (hb_rc137 : rc137 + bc137 ≤ bc) (hs_rs137 : rs137 + bs137 ≤ bs)
    (c153_0 : (¬ is0 = i3) → (¬ i4 = 0) → Cal l X M_Mo_live 0 0 [.ref r0] n F (ev_pure (.int v153) n F))
    (q156_1 : (¬ is0 = i3) → (¬ i4 = 0) → Q (some (.int v153)) n F)
    (c146_2 : (¬ is0 = i3) → (i4 = 0) → Cal l X M_Mo_stop bc146 bs146 [.ref r0] n F Q146)
    (k149_3 : (¬ is0 = i3) → (i4 = 0) → ∀ v2 n2 F2, Q146 v2 n2 F2 → Ev l X M_Mo_commit rc146 rs146 149 [(0, .ref r0), (1, .int i1), (2, .int i2), (3, .int i3), (4, .int i4)] (v2.toList ++ []) n2 F2 (ev_mq X Q))
    (c137_4 : (is0 = i3) → Cal l X M_Mo_happen bc137 bs137 [.ref r0] n F Q137)
    (k140_5 : (is0 = i3) → ∀ v2 n2 F2, Q137 v2 n2 F2 → Ev l X M_Mo_commit rc137 rs137 140 [(0, .ref r0), (1, .int i1), (2, .int i2), (3, .int i3), (4, .int i4)] (v2.toList ++ []) n2 F2 (ev_mq X Q)) :
    Ev l X M_Mo_commit bc bs 132 [(0, .ref r0), (1, .int i1), (2, .int i2), (3, .int i3), (4, .int i4)] [.int is0] n F (ev_mq X Q) := by
  refine ev_iload_n (pc := 132) d_Mo_commit_132 rfl ?_
  refine ev_icmp_ne (pc := 133) 140 d_Mo_commit_133 (by decide) (fun c133 => ?_) (fun c133 => ?_)
  · refine ev_iload (pc := 140) d_Mo_commit_140 rfl ?_
    refine ev_if_ne (pc := 142) 152 d_Mo_commit_142 (by decide) (fun c142 => ?_) (fun c142 => ?_)
    · refine ev_aload_n (pc := 152) d_Mo_commit_152 rfl ?_
      refine ev_invokevirtual (pc := 153) (As := []) (st := []) (Q2 := ev_pure (.int v153) n F) (bc1 := 0) (bs1 := 0) M_Mo_live rC11 d_Mo_commit_153 lc_Mo_177 wd_1080 wd_s37 rfl h_r0 rfl rfl (Nat.le_of_ble_eq_true rfl) (Nat.le_of_ble_eq_true rfl) (Nat.le_of_ble_eq_true rfl) (Nat.le_refl _) (Nat.le_refl _) (c153_0 c133 c142) ?_
      refine ev_purek ?_
      exact ev_ireturn (pc := 156) d_Mo_commit_156 rfl rfl (q156_1 c133 c142)
    · refine ev_aload_n (pc := 145) d_Mo_commit_145 rfl ?_
      exact ev_invokevirtual (pc := 146) (As := []) (st := []) (Q2 := Q146) M_Mo_stop rC11 d_Mo_commit_146 lc_Mo_174 wd_1076 wd_s36 rfl h_r0 rfl rfl (Nat.le_of_ble_eq_true rfl) (Nat.le_of_ble_eq_true rfl) (Nat.le_of_ble_eq_true rfl) hb_rc146 hs_rs146 (c146_2 c133 c142) (k149_3 c133 c142)
  · refine ev_aload_n (pc := 136) d_Mo_commit_136 rfl ?_
    exact ev_invokevirtual (pc := 137) (As := []) (st := []) (Q2 := Q137) M_Mo_happen rC11 d_Mo_commit_137 lc_Mo_171 wd_1072 wd_s35 rfl h_r0 rfl rfl (Nat.le_of_ble_eq_true rfl) (Nat.le_of_ble_eq_true rfl) (Nat.le_of_ble_eq_true rfl) hb_rc137 hs_rs137 (c137_4 c133) (k140_5 c133)

set_option maxRecDepth 100000 in
set_option maxHeartbeats 4000000 in
theorem s_Mo_commit_140 {l : Launch} {X : ev_X} {bc bs n : Nat} {F : ev_H} {Q : Option Value → Nat → ev_H → Prop} {r0 : Nat} {i1 : Int32} {i2 : Int32} {i3 : Int32} {i4 : Int32} {ir0_drafted : Int32} {ir0_rows : Int32} {ir0_segments : Int32} {ir0_stopped : Int32} {ir0_fuse : Int32} {ir0_written : Int32} {ir0_tokens : Int32} {ir0_height : Int32} {ir0_results : Int32} {ir0_weighed : Int32} {v153 : Int32} {Q146 : Option Value → Nat → ev_H → Prop} {bc146 : Nat} {bs146 : Nat} {rc146 : Nat} {rs146 : Nat} (h_r0 : F r0 = some (moO r0 ir0_drafted ir0_rows ir0_segments ir0_stopped ir0_fuse ir0_written ir0_tokens ir0_height ir0_results ir0_weighed)) (hb_rc146 : rc146 + bc146 ≤ bc) (hs_rs146 : rs146 + bs146 ≤ bs)
    (c153_0 : (¬ i4 = 0) → Cal l X M_Mo_live 0 0 [.ref r0] n F (ev_pure (.int v153) n F))
    (q156_1 : (¬ i4 = 0) → Q (some (.int v153)) n F)
    (c146_2 : (i4 = 0) → Cal l X M_Mo_stop bc146 bs146 [.ref r0] n F Q146)
    (k149_3 : (i4 = 0) → ∀ v2 n2 F2, Q146 v2 n2 F2 → Ev l X M_Mo_commit rc146 rs146 149 [(0, .ref r0), (1, .int i1), (2, .int i2), (3, .int i3), (4, .int i4)] (v2.toList ++ []) n2 F2 (ev_mq X Q)) :
    Ev l X M_Mo_commit bc bs 140 [(0, .ref r0), (1, .int i1), (2, .int i2), (3, .int i3), (4, .int i4)] [] n F (ev_mq X Q) := by
  refine ev_iload (pc := 140) d_Mo_commit_140 rfl ?_
  refine ev_if_ne (pc := 142) 152 d_Mo_commit_142 (by decide) (fun c142 => ?_) (fun c142 => ?_)
  · refine ev_aload_n (pc := 152) d_Mo_commit_152 rfl ?_
    refine ev_invokevirtual (pc := 153) (As := []) (st := []) (Q2 := ev_pure (.int v153) n F) (bc1 := 0) (bs1 := 0) M_Mo_live rC11 d_Mo_commit_153 lc_Mo_177 wd_1080 wd_s37 rfl h_r0 rfl rfl (Nat.le_of_ble_eq_true rfl) (Nat.le_of_ble_eq_true rfl) (Nat.le_of_ble_eq_true rfl) (Nat.le_refl _) (Nat.le_refl _) (c153_0 c142) ?_
    refine ev_purek ?_
    exact ev_ireturn (pc := 156) d_Mo_commit_156 rfl rfl (q156_1 c142)
  · refine ev_aload_n (pc := 145) d_Mo_commit_145 rfl ?_
    exact ev_invokevirtual (pc := 146) (As := []) (st := []) (Q2 := Q146) M_Mo_stop rC11 d_Mo_commit_146 lc_Mo_174 wd_1076 wd_s36 rfl h_r0 rfl rfl (Nat.le_of_ble_eq_true rfl) (Nat.le_of_ble_eq_true rfl) (Nat.le_of_ble_eq_true rfl) hb_rc146 hs_rs146 (c146_2 c142) (k149_3 c142)

set_option maxRecDepth 100000 in
set_option maxHeartbeats 4000000 in
theorem s_Mo_commit_149 {l : Launch} {X : ev_X} {bc bs n : Nat} {F : ev_H} {Q : Option Value → Nat → ev_H → Prop} {r0 : Nat} {i1 : Int32} {i2 : Int32} {i3 : Int32} {i4 : Int32} 
    (q151_0 : Q (some (.int (-9))) n F) :
    Ev l X M_Mo_commit bc bs 149 [(0, .ref r0), (1, .int i1), (2, .int i2), (3, .int i3), (4, .int i4)] [] n F (ev_mq X Q) := by
  refine ev_bipush (pc := 149) (-9) d_Mo_commit_149 (by decide) ?_
  exact ev_ireturn (pc := 151) d_Mo_commit_151 rfl rfl q151_0
set_option maxRecDepth 100000 in
set_option maxHeartbeats 4000000 in
theorem s_Mo_happen_0 {l : Launch} {X : ev_X} {bc bs n : Nat} {F : ev_H} {Q : Option Value → Nat → ev_H → Prop} {r0 : Nat} 
    (k2_0 : Ev l X M_Mo_happen bc bs 2 [(0, .ref r0), (1, .int 0)] [] n F (ev_mq X Q)) :
    Ev l X M_Mo_happen bc bs 0 [(0, .ref r0)] [] n F (ev_mq X Q) := by
  refine ev_iconst (pc := 0) 0 d_Mo_happen_0 (by decide) ?_
  refine ev_istore_n (pc := 1) d_Mo_happen_1 (Nat.le_of_ble_eq_true rfl) [1, 0] rfl ?_
  exact k2_0

set_option maxRecDepth 100000 in
set_option maxHeartbeats 4000000 in
theorem s_Mo_happen_2 {l : Launch} {X : ev_X} {bc bs n : Nat} {F : ev_H} {Q : Option Value → Nat → ev_H → Prop} {r0 : Nat} {i1 : Int32} {ir0_drafted : Int32} {ir0_rows : Int32} {ir0_segments : Int32} {ir0_stopped : Int32} {ir0_fuse : Int32} {ir0_written : Int32} {ir0_tokens : Int32} {ir0_height : Int32} {ir0_results : Int32} {ir0_weighed : Int32} {r0p7_f : Nat → Int32} {r0p5_f : Nat → Int32} {r0p2_f : Nat → Int32} (h_r0 : F r0 = some (moO r0 ir0_drafted ir0_rows ir0_segments ir0_stopped ir0_fuse ir0_written ir0_tokens ir0_height ir0_results ir0_weighed)) (h_r0p7 : F (r0 + 7) = some (.inl (2, 80, .inl r0p7_f))) (h_r0p5 : F (r0 + 5) = some (.inl (0, 80, .inl r0p5_f))) (h_r0p2 : F (r0 + 2) = some (.inl (0, 12, .inl r0p2_f)))
    (k54_0 : (ir0_rows ≤ i1) → Ev l X M_Mo_happen bc bs 54 [(0, .ref r0), (1, .int 0), (2, .int 0)] [] n F (ev_mq X Q))
    (in20_1 : (¬ ir0_rows ≤ i1) → vp_in i1 80)
    (in43_2 : (¬ ir0_rows ≤ i1) → (¬ (r0p7_f i1.toNatClampNeg) = 0) → vp_in i1 80)
    (k2_3 : (¬ ir0_rows ≤ i1) → (¬ (r0p7_f i1.toNatClampNeg) = 0) → Ev l X M_Mo_happen bc bs 2 [(0, .ref r0), (1, .int (i1 + 1))] [] n (ev_up F (r0 + 7) (.inl (2, 80, .inl (upd r0p7_f i1.toNatClampNeg 1)))) (ev_mq X Q))
    (in33_4 : (¬ ir0_rows ≤ i1) → ((r0p7_f i1.toNatClampNeg) = 0) → vp_in i1 80)
    (in34_5 : (¬ ir0_rows ≤ i1) → ((r0p7_f i1.toNatClampNeg) = 0) → vp_in (r0p5_f i1.toNatClampNeg) 12)
    (in43_6 : (¬ ir0_rows ≤ i1) → ((r0p7_f i1.toNatClampNeg) = 0) → ((r0p2_f (r0p5_f i1.toNatClampNeg).toNatClampNeg) = 0) → vp_in i1 80)
    (k2_7 : (¬ ir0_rows ≤ i1) → ((r0p7_f i1.toNatClampNeg) = 0) → ((r0p2_f (r0p5_f i1.toNatClampNeg).toNatClampNeg) = 0) → Ev l X M_Mo_happen bc bs 2 [(0, .ref r0), (1, .int (i1 + 1))] [] n (ev_up F (r0 + 7) (.inl (2, 80, .inl (upd r0p7_f i1.toNatClampNeg 0)))) (ev_mq X Q))
    (in43_8 : (¬ ir0_rows ≤ i1) → ((r0p7_f i1.toNatClampNeg) = 0) → (¬ (r0p2_f (r0p5_f i1.toNatClampNeg).toNatClampNeg) = 0) → vp_in i1 80)
    (k2_9 : (¬ ir0_rows ≤ i1) → ((r0p7_f i1.toNatClampNeg) = 0) → (¬ (r0p2_f (r0p5_f i1.toNatClampNeg).toNatClampNeg) = 0) → Ev l X M_Mo_happen bc bs 2 [(0, .ref r0), (1, .int (i1 + 1))] [] n (ev_up F (r0 + 7) (.inl (2, 80, .inl (upd r0p7_f i1.toNatClampNeg 1)))) (ev_mq X Q)) :
    Ev l X M_Mo_happen bc bs 2 [(0, .ref r0), (1, .int i1)] [] n F (ev_mq X Q) := by
  refine ev_iload_n (pc := 2) d_Mo_happen_2 rfl ?_
  refine ev_aload_n (pc := 3) d_Mo_happen_3 rfl ?_
  refine ev_getfield (pc := 4) 5 d_Mo_happen_4 fl_Mo_158 h_r0 rfl ?_
  refine ev_icmp_ge (pc := 7) 50 d_Mo_happen_7 (by decide) (fun c7 => ?_) (fun c7 => ?_)
  · refine ev_iconst (pc := 50) 0 d_Mo_happen_50 (by decide) ?_
    refine ev_istore_n (pc := 51) d_Mo_happen_51 (Nat.le_of_ble_eq_true rfl) [1, 0] rfl ?_
    refine ev_iconst (pc := 52) 0 d_Mo_happen_52 (by decide) ?_
    refine ev_istore_n (pc := 53) d_Mo_happen_53 (Nat.le_of_ble_eq_true rfl) [1, 2, 0] rfl ?_
    exact (k54_0 c7)
  · refine ev_aload_n (pc := 10) d_Mo_happen_10 rfl ?_
    refine ev_getfield (pc := 11) 8 d_Mo_happen_11 fl_Mo_29 h_r0 rfl ?_
    refine ev_iload_n (pc := 14) d_Mo_happen_14 rfl ?_
    refine ev_aload_n (pc := 15) d_Mo_happen_15 rfl ?_
    refine ev_getfield (pc := 16) 8 d_Mo_happen_16 fl_Mo_29 h_r0 rfl ?_
    refine ev_iload_n (pc := 19) d_Mo_happen_19 rfl ?_
    refine ev_zaload (pc := 20) d_Mo_happen_20 h_r0p7 rfl (in20_1 c7) ?_
    refine ev_if_ne (pc := 21) 38 d_Mo_happen_21 (by decide) (fun c21 => ?_) (fun c21 => ?_)
    · refine ev_iconst (pc := 38) 1 d_Mo_happen_38 (by decide) ?_
      refine ev_goto (pc := 39) 43 d_Mo_happen_39 (by decide) ?_
      refine ev_zastore (pc := 43) d_Mo_happen_43 h_r0p7 rfl (in43_2 c7 c21) rfl (fun F1_ hF1_ => ?_)
      have g2_ : F1_ r0 = some (moO r0 ir0_drafted ir0_rows ir0_segments ir0_stopped ir0_fuse ir0_written ir0_tokens ir0_height ir0_results ir0_weighed) := by rw [← hF1_]; exact ev_up_k (ev_ne_oa h_r0 h_r0p7) h_r0
      have g3_ : F1_ (r0 + 7) = some (.inl (2, 80, .inl (upd r0p7_f i1.toNatClampNeg 1))) := by rw [← hF1_]; exact ev_up_s
      refine ev_iinc (pc := 44) 1 1 d_Mo_happen_44 rfl (by decide) (Nat.le_of_ble_eq_true rfl) [1, 0] rfl ?_
      refine ev_goto (pc := 47) 2 d_Mo_happen_47 (by decide) ?_
      exact (by subst hF1_; exact (k2_3 c7 c21))
    · refine ev_aload_n (pc := 24) d_Mo_happen_24 rfl ?_
      refine ev_getfield (pc := 25) 2 d_Mo_happen_25 fl_Mo_13 h_r0 rfl ?_
      refine ev_aload_n (pc := 28) d_Mo_happen_28 rfl ?_
      refine ev_getfield (pc := 29) 6 d_Mo_happen_29 fl_Mo_23 h_r0 rfl ?_
      refine ev_iload_n (pc := 32) d_Mo_happen_32 rfl ?_
      refine ev_iaload (pc := 33) d_Mo_happen_33 h_r0p5 rfl (in33_4 c7 c21) ?_
      refine ev_iaload (pc := 34) d_Mo_happen_34 h_r0p2 rfl (in34_5 c7 c21) ?_
      refine ev_if_eq (pc := 35) 42 d_Mo_happen_35 (by decide) (fun c35 => ?_) (fun c35 => ?_)
      · refine ev_iconst (pc := 42) 0 d_Mo_happen_42 (by decide) ?_
        refine ev_zastore (pc := 43) d_Mo_happen_43 h_r0p7 rfl (in43_6 c7 c21 c35) rfl (fun F4_ hF4_ => ?_)
        have g5_ : F4_ r0 = some (moO r0 ir0_drafted ir0_rows ir0_segments ir0_stopped ir0_fuse ir0_written ir0_tokens ir0_height ir0_results ir0_weighed) := by rw [← hF4_]; exact ev_up_k (ev_ne_oa h_r0 h_r0p7) h_r0
        have g6_ : F4_ (r0 + 5) = some (.inl (0, 80, .inl r0p5_f)) := by rw [← hF4_]; exact ev_up_k (ev_ne_aa h_r0p5 h_r0p7 rfl) h_r0p5
        have g7_ : F4_ (r0 + 2) = some (.inl (0, 12, .inl r0p2_f)) := by rw [← hF4_]; exact ev_up_k (ev_ne_aa h_r0p2 h_r0p7 rfl) h_r0p2
        have g8_ : F4_ (r0 + 7) = some (.inl (2, 80, .inl (upd r0p7_f i1.toNatClampNeg 0))) := by rw [← hF4_]; exact ev_up_s
        refine ev_iinc (pc := 44) 1 1 d_Mo_happen_44 rfl (by decide) (Nat.le_of_ble_eq_true rfl) [1, 0] rfl ?_
        refine ev_goto (pc := 47) 2 d_Mo_happen_47 (by decide) ?_
        exact (by subst hF4_; exact (k2_7 c7 c21 c35))
      · refine ev_iconst (pc := 38) 1 d_Mo_happen_38 (by decide) ?_
        refine ev_goto (pc := 39) 43 d_Mo_happen_39 (by decide) ?_
        refine ev_zastore (pc := 43) d_Mo_happen_43 h_r0p7 rfl (in43_8 c7 c21 c35) rfl (fun F9_ hF9_ => ?_)
        have g10_ : F9_ r0 = some (moO r0 ir0_drafted ir0_rows ir0_segments ir0_stopped ir0_fuse ir0_written ir0_tokens ir0_height ir0_results ir0_weighed) := by rw [← hF9_]; exact ev_up_k (ev_ne_oa h_r0 h_r0p7) h_r0
        have g11_ : F9_ (r0 + 5) = some (.inl (0, 80, .inl r0p5_f)) := by rw [← hF9_]; exact ev_up_k (ev_ne_aa h_r0p5 h_r0p7 rfl) h_r0p5
        have g12_ : F9_ (r0 + 2) = some (.inl (0, 12, .inl r0p2_f)) := by rw [← hF9_]; exact ev_up_k (ev_ne_aa h_r0p2 h_r0p7 rfl) h_r0p2
        have g13_ : F9_ (r0 + 7) = some (.inl (2, 80, .inl (upd r0p7_f i1.toNatClampNeg 1))) := by rw [← hF9_]; exact ev_up_s
        refine ev_iinc (pc := 44) 1 1 d_Mo_happen_44 rfl (by decide) (Nat.le_of_ble_eq_true rfl) [1, 0] rfl ?_
        refine ev_goto (pc := 47) 2 d_Mo_happen_47 (by decide) ?_
        exact (by subst hF9_; exact (k2_9 c7 c21 c35))

set_option maxRecDepth 100000 in
set_option maxHeartbeats 4000000 in
theorem s_Mo_happen_54 {l : Launch} {X : ev_X} {bc bs n : Nat} {F : ev_H} {Q : Option Value → Nat → ev_H → Prop} {r0 : Nat} {i1 : Int32} {i2 : Int32} {ir0_drafted : Int32} {ir0_rows : Int32} {ir0_segments : Int32} {ir0_stopped : Int32} {ir0_fuse : Int32} {ir0_written : Int32} {ir0_tokens : Int32} {ir0_height : Int32} {ir0_results : Int32} {ir0_weighed : Int32} {r0p2_f : Nat → Int32} {r0p5_f : Nat → Int32} {r0p6_f : Nat → Int32} {r0p7_f : Nat → Int32} {r0p3_f : Nat → Int32} {r0p8_f : Nat → Int32} (h_r0 : F r0 = some (moO r0 ir0_drafted ir0_rows ir0_segments ir0_stopped ir0_fuse ir0_written ir0_tokens ir0_height ir0_results ir0_weighed)) (h_r0p2 : F (r0 + 2) = some (.inl (0, 12, .inl r0p2_f))) (h_r0p5 : F (r0 + 5) = some (.inl (0, 80, .inl r0p5_f))) (h_r0p6 : F (r0 + 6) = some (.inl (0, 80, .inl r0p6_f))) (h_r0p7 : F (r0 + 7) = some (.inl (2, 80, .inl r0p7_f))) (h_r0p3 : F (r0 + 3) = some (.inl (0, 12, .inl r0p3_f))) (h_r0p8 : F (r0 + 8) = some (.inl (0, 80, .inl r0p8_f)))
    (q207_0 : (12 ≤ i2) → (i1 = 0) → Q none n (ev_up F r0 (moO r0 ir0_drafted ir0_rows ir0_segments ir0_stopped ir0_fuse ir0_written ir0_tokens ir0_height ir0_results ir0_weighed)))
    (q207_1 : (12 ≤ i2) → (¬ i1 = 0) → Q none n (ev_up F r0 (moO r0 ir0_drafted ir0_rows (ir0_segments + 1) ir0_stopped ir0_fuse ir0_written ir0_tokens ir0_height ir0_results ir0_weighed)))
    (in65_2 : (¬ 12 ≤ i2) → vp_in i2 12)
    (in179_3 : (¬ 12 ≤ i2) → (¬ (r0p2_f i2.toNatClampNeg) = 1) → vp_in i2 12)
    (k54_4 : (¬ 12 ≤ i2) → (¬ (r0p2_f i2.toNatClampNeg) = 1) → Ev l X M_Mo_happen bc bs 54 [(0, .ref r0), (1, .int i1), (2, .int (i2 + 1))] [] n (ev_up F (r0 + 2) (.inl (0, 12, .inl (upd r0p2_f i2.toNatClampNeg 0)))) (ev_mq X Q))
    (in81_5 : (¬ 12 ≤ i2) → ((r0p2_f i2.toNatClampNeg) = 1) → vp_in ir0_rows 80)
    (in94_6 : (¬ 12 ≤ i2) → ((r0p2_f i2.toNatClampNeg) = 1) → vp_in ir0_rows 80)
    (in104_7 : (¬ 12 ≤ i2) → ((r0p2_f i2.toNatClampNeg) = 1) → vp_in ir0_rows 80)
    (in118_8 : (¬ 12 ≤ i2) → ((r0p2_f i2.toNatClampNeg) = 1) → vp_in i2 12)
    (in119_9 : (¬ 12 ≤ i2) → ((r0p2_f i2.toNatClampNeg) = 1) → vp_in ir0_rows 80)
    (k122_10 : (¬ 12 ≤ i2) → ((r0p2_f i2.toNatClampNeg) = 1) → Ev l X M_Mo_happen bc bs 122 [(0, .ref r0), (1, .int 1), (2, .int i2), (3, .int 0)] [] n (ev_up (ev_up (ev_up (ev_up F (r0 + 5) (.inl (0, 80, .inl (upd r0p5_f ir0_rows.toNatClampNeg i2)))) (r0 + 6) (.inl (0, 80, .inl (upd r0p6_f ir0_rows.toNatClampNeg ir0_segments)))) (r0 + 7) (.inl (2, 80, .inl (upd r0p7_f ir0_rows.toNatClampNeg 0)))) (r0 + 8) (.inl (0, 80, .inl (upd r0p8_f ir0_rows.toNatClampNeg (r0p3_f i2.toNatClampNeg))))) (ev_mq X Q)) :
    Ev l X M_Mo_happen bc bs 54 [(0, .ref r0), (1, .int i1), (2, .int i2)] [] n F (ev_mq X Q) := by
  refine ev_iload_n (pc := 54) d_Mo_happen_54 rfl ?_
  refine ev_bipush (pc := 55) 12 d_Mo_happen_55 (by decide) ?_
  refine ev_icmp_ge (pc := 57) 186 d_Mo_happen_57 (by decide) (fun c57 => ?_) (fun c57 => ?_)
  · refine ev_aload_n (pc := 186) d_Mo_happen_186 rfl ?_
    refine ev_iload_n (pc := 187) d_Mo_happen_187 rfl ?_
    refine ev_if_eq (pc := 188) 200 d_Mo_happen_188 (by decide) (fun c188 => ?_) (fun c188 => ?_)
    · refine ev_aload_n (pc := 200) d_Mo_happen_200 rfl ?_
      refine ev_getfield (pc := 201) 11 d_Mo_happen_201 fl_Mo_161 h_r0 rfl ?_
      refine ev_putfield (pc := 204) 11 _ d_Mo_happen_204 fl_Mo_161 h_r0 pf_11_segments rfl rfl (Nat.le_of_ble_eq_true rfl) (fun F1_ hF1_ => ?_)
      have g2_ : F1_ r0 = some (moO r0 ir0_drafted ir0_rows ir0_segments ir0_stopped ir0_fuse ir0_written ir0_tokens ir0_height ir0_results ir0_weighed) := by rw [← hF1_]; exact ev_up_s
      exact ev_return (pc := 207) d_Mo_happen_207 rfl (by subst hF1_; exact (q207_0 c57 c188))
    · refine ev_aload_n (pc := 191) d_Mo_happen_191 rfl ?_
      refine ev_getfield (pc := 192) 11 d_Mo_happen_192 fl_Mo_161 h_r0 rfl ?_
      refine ev_iconst (pc := 195) 1 d_Mo_happen_195 (by decide) ?_
      refine ev_iadd (pc := 196) d_Mo_happen_196 ?_
      refine ev_goto (pc := 197) 204 d_Mo_happen_197 (by decide) ?_
      refine ev_putfield (pc := 204) 11 _ d_Mo_happen_204 fl_Mo_161 h_r0 pf_11_segments rfl rfl (Nat.le_of_ble_eq_true rfl) (fun F3_ hF3_ => ?_)
      have g4_ : F3_ r0 = some (moO r0 ir0_drafted ir0_rows (ir0_segments + 1) ir0_stopped ir0_fuse ir0_written ir0_tokens ir0_height ir0_results ir0_weighed) := by rw [← hF3_]; exact ev_up_s
      exact ev_return (pc := 207) d_Mo_happen_207 rfl (by subst hF3_; exact (q207_1 c57 c188))
  · refine ev_aload_n (pc := 60) d_Mo_happen_60 rfl ?_
    refine ev_getfield (pc := 61) 2 d_Mo_happen_61 fl_Mo_13 h_r0 rfl ?_
    refine ev_iload_n (pc := 64) d_Mo_happen_64 rfl ?_
    refine ev_iaload (pc := 65) d_Mo_happen_65 h_r0p2 rfl (in65_2 c57) ?_
    refine ev_iconst (pc := 66) 1 d_Mo_happen_66 (by decide) ?_
    refine ev_icmp_ne (pc := 67) 173 d_Mo_happen_67 (by decide) (fun c67 => ?_) (fun c67 => ?_)
    · refine ev_aload_n (pc := 173) d_Mo_happen_173 rfl ?_
      refine ev_getfield (pc := 174) 2 d_Mo_happen_174 fl_Mo_13 h_r0 rfl ?_
      refine ev_iload_n (pc := 177) d_Mo_happen_177 rfl ?_
      refine ev_iconst (pc := 178) 0 d_Mo_happen_178 (by decide) ?_
      refine ev_iastore (pc := 179) d_Mo_happen_179 h_r0p2 rfl (in179_3 c57 c67) (fun F5_ hF5_ => ?_)
      have g6_ : F5_ r0 = some (moO r0 ir0_drafted ir0_rows ir0_segments ir0_stopped ir0_fuse ir0_written ir0_tokens ir0_height ir0_results ir0_weighed) := by rw [← hF5_]; exact ev_up_k (ev_ne_oa h_r0 h_r0p2) h_r0
      have g7_ : F5_ (r0 + 2) = some (.inl (0, 12, .inl (upd r0p2_f i2.toNatClampNeg 0))) := by rw [← hF5_]; exact ev_up_s
      refine ev_iinc (pc := 180) 2 1 d_Mo_happen_180 rfl (by decide) (Nat.le_of_ble_eq_true rfl) [1, 2, 0] rfl ?_
      refine ev_goto (pc := 183) 54 d_Mo_happen_183 (by decide) ?_
      exact (by subst hF5_; exact (k54_4 c57 c67))
    · refine ev_iconst (pc := 70) 1 d_Mo_happen_70 (by decide) ?_
      refine ev_istore_n (pc := 71) d_Mo_happen_71 (Nat.le_of_ble_eq_true rfl) [1, 0, 2] rfl ?_
      refine ev_aload_n (pc := 72) d_Mo_happen_72 rfl ?_
      refine ev_getfield (pc := 73) 6 d_Mo_happen_73 fl_Mo_23 h_r0 rfl ?_
      refine ev_aload_n (pc := 76) d_Mo_happen_76 rfl ?_
      refine ev_getfield (pc := 77) 5 d_Mo_happen_77 fl_Mo_158 h_r0 rfl ?_
      refine ev_iload_n (pc := 80) d_Mo_happen_80 rfl ?_
      refine ev_iastore (pc := 81) d_Mo_happen_81 h_r0p5 rfl (in81_5 c57 c67) (fun F8_ hF8_ => ?_)
      have g9_ : F8_ r0 = some (moO r0 ir0_drafted ir0_rows ir0_segments ir0_stopped ir0_fuse ir0_written ir0_tokens ir0_height ir0_results ir0_weighed) := by rw [← hF8_]; exact ev_up_k (ev_ne_oa h_r0 h_r0p5) h_r0
      have g10_ : F8_ (r0 + 2) = some (.inl (0, 12, .inl r0p2_f)) := by rw [← hF8_]; exact ev_up_k (by omega) h_r0p2
      have g11_ : F8_ (r0 + 5) = some (.inl (0, 80, .inl (upd r0p5_f ir0_rows.toNatClampNeg i2))) := by rw [← hF8_]; exact ev_up_s
      refine ev_aload_n (pc := 82) d_Mo_happen_82 rfl ?_
      refine ev_getfield (pc := 83) 7 d_Mo_happen_83 fl_Mo_26 g9_ rfl ?_
      refine ev_aload_n (pc := 86) d_Mo_happen_86 rfl ?_
      refine ev_getfield (pc := 87) 5 d_Mo_happen_87 fl_Mo_158 g9_ rfl ?_
      refine ev_aload_n (pc := 90) d_Mo_happen_90 rfl ?_
      refine ev_getfield (pc := 91) 11 d_Mo_happen_91 fl_Mo_161 g9_ rfl ?_
      have g12_ : F8_ (r0 + 6) = some (.inl (0, 80, .inl r0p6_f)) := by rw [← hF8_]; exact ev_up_k (by omega) h_r0p6
      refine ev_iastore (pc := 94) d_Mo_happen_94 g12_ rfl (in94_6 c57 c67) (fun F13_ hF13_ => ?_)
      have g14_ : F13_ r0 = some (moO r0 ir0_drafted ir0_rows ir0_segments ir0_stopped ir0_fuse ir0_written ir0_tokens ir0_height ir0_results ir0_weighed) := by rw [← hF13_]; exact ev_up_k (ev_ne_oa g9_ g12_) g9_
      have g15_ : F13_ (r0 + 2) = some (.inl (0, 12, .inl r0p2_f)) := by rw [← hF13_]; exact ev_up_k (by omega) g10_
      have g16_ : F13_ (r0 + 5) = some (.inl (0, 80, .inl (upd r0p5_f ir0_rows.toNatClampNeg i2))) := by rw [← hF13_]; exact ev_up_k (by omega) g11_
      have g17_ : F13_ (r0 + 6) = some (.inl (0, 80, .inl (upd r0p6_f ir0_rows.toNatClampNeg ir0_segments))) := by rw [← hF13_]; exact ev_up_s
      refine ev_aload_n (pc := 95) d_Mo_happen_95 rfl ?_
      refine ev_getfield (pc := 96) 8 d_Mo_happen_96 fl_Mo_29 g14_ rfl ?_
      refine ev_aload_n (pc := 99) d_Mo_happen_99 rfl ?_
      refine ev_getfield (pc := 100) 5 d_Mo_happen_100 fl_Mo_158 g14_ rfl ?_
      refine ev_iconst (pc := 103) 0 d_Mo_happen_103 (by decide) ?_
      have g18_ : F8_ (r0 + 7) = some (.inl (2, 80, .inl r0p7_f)) := by rw [← hF8_]; exact ev_up_k (ev_ne_aa h_r0p7 h_r0p5 rfl) h_r0p7
      have g19_ : F13_ (r0 + 7) = some (.inl (2, 80, .inl r0p7_f)) := by rw [← hF13_]; exact ev_up_k (ev_ne_aa g18_ g12_ rfl) g18_
      refine ev_zastore (pc := 104) d_Mo_happen_104 g19_ rfl (in104_7 c57 c67) rfl (fun F20_ hF20_ => ?_)
      have g21_ : F20_ r0 = some (moO r0 ir0_drafted ir0_rows ir0_segments ir0_stopped ir0_fuse ir0_written ir0_tokens ir0_height ir0_results ir0_weighed) := by rw [← hF20_]; exact ev_up_k (ev_ne_oa g14_ g19_) g14_
      have g22_ : F20_ (r0 + 2) = some (.inl (0, 12, .inl r0p2_f)) := by rw [← hF20_]; exact ev_up_k (ev_ne_aa g15_ g19_ rfl) g15_
      have g23_ : F20_ (r0 + 5) = some (.inl (0, 80, .inl (upd r0p5_f ir0_rows.toNatClampNeg i2))) := by rw [← hF20_]; exact ev_up_k (ev_ne_aa g16_ g19_ rfl) g16_
      have g24_ : F20_ (r0 + 6) = some (.inl (0, 80, .inl (upd r0p6_f ir0_rows.toNatClampNeg ir0_segments))) := by rw [← hF20_]; exact ev_up_k (ev_ne_aa g17_ g19_ rfl) g17_
      have g25_ : F20_ (r0 + 7) = some (.inl (2, 80, .inl (upd r0p7_f ir0_rows.toNatClampNeg 0))) := by rw [← hF20_]; exact ev_up_s
      refine ev_aload_n (pc := 105) d_Mo_happen_105 rfl ?_
      refine ev_getfield (pc := 106) 9 d_Mo_happen_106 fl_Mo_33 g21_ rfl ?_
      refine ev_aload_n (pc := 109) d_Mo_happen_109 rfl ?_
      refine ev_getfield (pc := 110) 5 d_Mo_happen_110 fl_Mo_158 g21_ rfl ?_
      refine ev_aload_n (pc := 113) d_Mo_happen_113 rfl ?_
      refine ev_getfield (pc := 114) 3 d_Mo_happen_114 fl_Mo_17 g21_ rfl ?_
      refine ev_iload_n (pc := 117) d_Mo_happen_117 rfl ?_
      have g26_ : F8_ (r0 + 3) = some (.inl (0, 12, .inl r0p3_f)) := by rw [← hF8_]; exact ev_up_k (by omega) h_r0p3
      have g27_ : F13_ (r0 + 3) = some (.inl (0, 12, .inl r0p3_f)) := by rw [← hF13_]; exact ev_up_k (by omega) g26_
      have g28_ : F20_ (r0 + 3) = some (.inl (0, 12, .inl r0p3_f)) := by rw [← hF20_]; exact ev_up_k (ev_ne_aa g27_ g19_ rfl) g27_
      refine ev_iaload (pc := 118) d_Mo_happen_118 g28_ rfl (in118_8 c57 c67) ?_
      have g29_ : F8_ (r0 + 8) = some (.inl (0, 80, .inl r0p8_f)) := by rw [← hF8_]; exact ev_up_k (by omega) h_r0p8
      have g30_ : F13_ (r0 + 8) = some (.inl (0, 80, .inl r0p8_f)) := by rw [← hF13_]; exact ev_up_k (by omega) g29_
      have g31_ : F20_ (r0 + 8) = some (.inl (0, 80, .inl r0p8_f)) := by rw [← hF20_]; exact ev_up_k (ev_ne_aa g30_ g19_ rfl) g30_
      refine ev_iastore (pc := 119) d_Mo_happen_119 g31_ rfl (in119_9 c57 c67) (fun F32_ hF32_ => ?_)
      have g33_ : F32_ r0 = some (moO r0 ir0_drafted ir0_rows ir0_segments ir0_stopped ir0_fuse ir0_written ir0_tokens ir0_height ir0_results ir0_weighed) := by rw [← hF32_]; exact ev_up_k (ev_ne_oa g21_ g31_) g21_
      have g34_ : F32_ (r0 + 2) = some (.inl (0, 12, .inl r0p2_f)) := by rw [← hF32_]; exact ev_up_k (by omega) g22_
      have g35_ : F32_ (r0 + 5) = some (.inl (0, 80, .inl (upd r0p5_f ir0_rows.toNatClampNeg i2))) := by rw [← hF32_]; exact ev_up_k (by omega) g23_
      have g36_ : F32_ (r0 + 6) = some (.inl (0, 80, .inl (upd r0p6_f ir0_rows.toNatClampNeg ir0_segments))) := by rw [← hF32_]; exact ev_up_k (by omega) g24_
      have g37_ : F32_ (r0 + 7) = some (.inl (2, 80, .inl (upd r0p7_f ir0_rows.toNatClampNeg 0))) := by rw [← hF32_]; exact ev_up_k (ev_ne_aa g25_ g31_ rfl) g25_
      have g38_ : F32_ (r0 + 3) = some (.inl (0, 12, .inl r0p3_f)) := by rw [← hF32_]; exact ev_up_k (by omega) g28_
      have g39_ : F32_ (r0 + 8) = some (.inl (0, 80, .inl (upd r0p8_f ir0_rows.toNatClampNeg (r0p3_f i2.toNatClampNeg)))) := by rw [← hF32_]; exact ev_up_s
      refine ev_iconst (pc := 120) 0 d_Mo_happen_120 (by decide) ?_
      refine ev_istore_n (pc := 121) d_Mo_happen_121 (Nat.le_of_ble_eq_true rfl) [1, 2, 3, 0] rfl ?_
      exact (by subst hF8_ hF13_ hF20_ hF32_; exact (k122_10 c57 c67))

set_option maxRecDepth 100000 in
set_option maxHeartbeats 4000000 in
theorem s_Mo_happen_122 {l : Launch} {X : ev_X} {bc bs n : Nat} {F : ev_H} {Q : Option Value → Nat → ev_H → Prop} {r0 : Nat} {i1 : Int32} {i2 : Int32} {i3 : Int32} {ir0_drafted : Int32} {ir0_rows : Int32} {ir0_segments : Int32} {ir0_stopped : Int32} {ir0_fuse : Int32} {ir0_written : Int32} {ir0_tokens : Int32} {ir0_height : Int32} {ir0_results : Int32} {ir0_weighed : Int32} {r0p3_f : Nat → Int32} {r0p2_f : Nat → Int32} {r0p4_f : Nat → Int64} {r0p9_f : Nat → Int64} (h_r0 : F r0 = some (moO r0 ir0_drafted ir0_rows ir0_segments ir0_stopped ir0_fuse ir0_written ir0_tokens ir0_height ir0_results ir0_weighed)) (h_r0p3 : F (r0 + 3) = some (.inl (0, 12, .inl r0p3_f))) (h_r0p2 : F (r0 + 2) = some (.inl (0, 12, .inl r0p2_f))) (h_r0p4 : F (r0 + 4) = some (.inl (1, 144, .inr (.inl r0p4_f)))) (h_r0p9 : F (r0 + 9) = some (.inl (1, 960, .inr (.inl r0p9_f))))
    (in128_0 : vp_in i2 12)
    (in179_1 : ((r0p3_f i2.toNatClampNeg) ≤ i3) → vp_in i2 12)
    (k54_2 : ((r0p3_f i2.toNatClampNeg) ≤ i3) → Ev l X M_Mo_happen bc bs 54 [(0, .ref r0), (1, .int i1), (2, .int (i2 + 1))] [] n (ev_up (ev_up F r0 (moO r0 ir0_drafted (ir0_rows + 1) ir0_segments ir0_stopped ir0_fuse ir0_written ir0_tokens ir0_height ir0_results ir0_weighed)) (r0 + 2) (.inl (0, 12, .inl (upd r0p2_f i2.toNatClampNeg 0)))) (ev_mq X Q))
    (in155_3 : (¬ (r0p3_f i2.toNatClampNeg) ≤ i3) → vp_in ((12 * i2) + i3) 144)
    (in156_4 : (¬ (r0p3_f i2.toNatClampNeg) ≤ i3) → vp_in ((12 * ir0_rows) + i3) 960)
    (k122_5 : (¬ (r0p3_f i2.toNatClampNeg) ≤ i3) → Ev l X M_Mo_happen bc bs 122 [(0, .ref r0), (1, .int i1), (2, .int i2), (3, .int (i3 + 1))] [] n (ev_up F (r0 + 9) (.inl (1, 960, .inr (.inl (vp_updL r0p9_f ((12 * ir0_rows) + i3).toNatClampNeg (r0p4_f ((12 * i2) + i3).toNatClampNeg)))))) (ev_mq X Q)) :
    Ev l X M_Mo_happen bc bs 122 [(0, .ref r0), (1, .int i1), (2, .int i2), (3, .int i3)] [] n F (ev_mq X Q) := by
  refine ev_iload_n (pc := 122) d_Mo_happen_122 rfl ?_
  refine ev_aload_n (pc := 123) d_Mo_happen_123 rfl ?_
  refine ev_getfield (pc := 124) 3 d_Mo_happen_124 fl_Mo_17 h_r0 rfl ?_
  refine ev_iload_n (pc := 127) d_Mo_happen_127 rfl ?_
  refine ev_iaload (pc := 128) d_Mo_happen_128 h_r0p3 rfl in128_0 ?_
  refine ev_icmp_ge (pc := 129) 163 d_Mo_happen_129 (by decide) (fun c129 => ?_) (fun c129 => ?_)
  · refine ev_aload_n (pc := 163) d_Mo_happen_163 rfl ?_
    refine ev_dup (pc := 164) d_Mo_happen_164 rfl ?_
    refine ev_getfield (pc := 165) 5 d_Mo_happen_165 fl_Mo_158 h_r0 rfl ?_
    refine ev_iconst (pc := 168) 1 d_Mo_happen_168 (by decide) ?_
    refine ev_iadd (pc := 169) d_Mo_happen_169 ?_
    refine ev_putfield (pc := 170) 5 _ d_Mo_happen_170 fl_Mo_158 h_r0 pf_11_rows rfl rfl (Nat.le_of_ble_eq_true rfl) (fun F1_ hF1_ => ?_)
    have g2_ : F1_ (r0 + 3) = some (.inl (0, 12, .inl r0p3_f)) := by rw [← hF1_]; exact ev_up_k (ev_ne_ao h_r0p3 h_r0) h_r0p3
    have g3_ : F1_ r0 = some (moO r0 ir0_drafted (ir0_rows + 1) ir0_segments ir0_stopped ir0_fuse ir0_written ir0_tokens ir0_height ir0_results ir0_weighed) := by rw [← hF1_]; exact ev_up_s
    refine ev_aload_n (pc := 173) d_Mo_happen_173 rfl ?_
    refine ev_getfield (pc := 174) 2 d_Mo_happen_174 fl_Mo_13 g3_ rfl ?_
    refine ev_iload_n (pc := 177) d_Mo_happen_177 rfl ?_
    refine ev_iconst (pc := 178) 0 d_Mo_happen_178 (by decide) ?_
    have g4_ : F1_ (r0 + 2) = some (.inl (0, 12, .inl r0p2_f)) := by rw [← hF1_]; exact ev_up_k (ev_ne_ao h_r0p2 h_r0) h_r0p2
    refine ev_iastore (pc := 179) d_Mo_happen_179 g4_ rfl (in179_1 c129) (fun F5_ hF5_ => ?_)
    have g6_ : F5_ (r0 + 3) = some (.inl (0, 12, .inl r0p3_f)) := by rw [← hF5_]; exact ev_up_k (by omega) g2_
    have g7_ : F5_ r0 = some (moO r0 ir0_drafted (ir0_rows + 1) ir0_segments ir0_stopped ir0_fuse ir0_written ir0_tokens ir0_height ir0_results ir0_weighed) := by rw [← hF5_]; exact ev_up_k (ev_ne_oa g3_ g4_) g3_
    have g8_ : F5_ (r0 + 2) = some (.inl (0, 12, .inl (upd r0p2_f i2.toNatClampNeg 0))) := by rw [← hF5_]; exact ev_up_s
    refine ev_iinc (pc := 180) 2 1 d_Mo_happen_180 rfl (by decide) (Nat.le_of_ble_eq_true rfl) [1, 2, 0, 3] rfl ?_
    refine ev_goto (pc := 183) 54 d_Mo_happen_183 (by decide) ?_
    exact Ev.sub [0, 1, 2] rfl (by subst hF1_ hF5_; exact (k54_2 c129))
  · refine ev_aload_n (pc := 132) d_Mo_happen_132 rfl ?_
    refine ev_getfield (pc := 133) 10 d_Mo_happen_133 fl_Mo_36 h_r0 rfl ?_
    refine ev_bipush (pc := 136) 12 d_Mo_happen_136 (by decide) ?_
    refine ev_aload_n (pc := 138) d_Mo_happen_138 rfl ?_
    refine ev_getfield (pc := 139) 5 d_Mo_happen_139 fl_Mo_158 h_r0 rfl ?_
    refine ev_imul (pc := 142) d_Mo_happen_142 ?_
    refine ev_iload_n (pc := 143) d_Mo_happen_143 rfl ?_
    refine ev_iadd (pc := 144) d_Mo_happen_144 ?_
    refine ev_aload_n (pc := 145) d_Mo_happen_145 rfl ?_
    refine ev_getfield (pc := 146) 4 d_Mo_happen_146 fl_Mo_20 h_r0 rfl ?_
    refine ev_bipush (pc := 149) 12 d_Mo_happen_149 (by decide) ?_
    refine ev_iload_n (pc := 151) d_Mo_happen_151 rfl ?_
    refine ev_imul (pc := 152) d_Mo_happen_152 ?_
    refine ev_iload_n (pc := 153) d_Mo_happen_153 rfl ?_
    refine ev_iadd (pc := 154) d_Mo_happen_154 ?_
    refine ev_laload (pc := 155) d_Mo_happen_155 h_r0p4 rfl (in155_3 c129) ?_
    refine ev_lastore (pc := 156) d_Mo_happen_156 h_r0p9 rfl (in156_4 c129) (fun F9_ hF9_ => ?_)
    have g10_ : F9_ r0 = some (moO r0 ir0_drafted ir0_rows ir0_segments ir0_stopped ir0_fuse ir0_written ir0_tokens ir0_height ir0_results ir0_weighed) := by rw [← hF9_]; exact ev_up_k (ev_ne_oa h_r0 h_r0p9) h_r0
    have g11_ : F9_ (r0 + 3) = some (.inl (0, 12, .inl r0p3_f)) := by rw [← hF9_]; exact ev_up_k (ev_ne_aa h_r0p3 h_r0p9 rfl) h_r0p3
    have g12_ : F9_ (r0 + 4) = some (.inl (1, 144, .inr (.inl r0p4_f))) := by rw [← hF9_]; exact ev_up_k (by omega) h_r0p4
    have g13_ : F9_ (r0 + 9) = some (.inl (1, 960, .inr (.inl (vp_updL r0p9_f ((12 * ir0_rows) + i3).toNatClampNeg (r0p4_f ((12 * i2) + i3).toNatClampNeg))))) := by rw [← hF9_]; exact ev_up_s
    refine ev_iinc (pc := 157) 3 1 d_Mo_happen_157 rfl (by decide) (Nat.le_of_ble_eq_true rfl) [1, 2, 3, 0] rfl ?_
    refine ev_goto (pc := 160) 122 d_Mo_happen_160 (by decide) ?_
    exact (by subst hF9_; exact (k122_5 c129))
set_option maxRecDepth 100000 in
set_option maxHeartbeats 4000000 in
theorem s_Mo_merge_0 {l : Launch} {X : ev_X} {bc bs n : Nat} {F : ev_H} {Q : Option Value → Nat → ev_H → Prop} {r0 : Nat} {i1 : Int32} {ir0_drafted : Int32} {ir0_rows : Int32} {ir0_segments : Int32} {ir0_stopped : Int32} {ir0_fuse : Int32} {ir0_written : Int32} {ir0_tokens : Int32} {ir0_height : Int32} {ir0_results : Int32} {ir0_weighed : Int32} (h_r0 : F r0 = some (moO r0 ir0_drafted ir0_rows ir0_segments ir0_stopped ir0_fuse ir0_written ir0_tokens ir0_height ir0_results ir0_weighed))
    (q25_0 : (ir0_stopped = 0) → (i1 < 0) → Q (some (.int (-1))) n F)
    (k30_1 : (ir0_stopped = 0) → (¬ i1 < 0) → (i1 < (ir0_segments - 1)) → Ev l X M_Mo_merge bc bs 30 [(0, .ref r0), (1, .int i1), (2, .int 1), (3, .int 0)] [] n F (ev_mq X Q))
    (q25_2 : (ir0_stopped = 0) → (¬ i1 < 0) → (¬ i1 < (ir0_segments - 1)) → Q (some (.int (-1))) n F)
    (q9_3 : (¬ ir0_stopped = 0) → Q (some (.int (-9))) n F) :
    Ev l X M_Mo_merge bc bs 0 [(0, .ref r0), (1, .int i1)] [] n F (ev_mq X Q) := by
  refine ev_aload_n (pc := 0) d_Mo_merge_0 rfl ?_
  refine ev_getfield (pc := 1) 12 d_Mo_merge_1 fl_Mo_131 h_r0 rfl ?_
  refine ev_if_eq (pc := 4) 10 d_Mo_merge_4 (by decide) (fun c4 => ?_) (fun c4 => ?_)
  · refine ev_iload_n (pc := 10) d_Mo_merge_10 rfl ?_
    refine ev_if_lt (pc := 11) 24 d_Mo_merge_11 (by decide) (fun c11 => ?_) (fun c11 => ?_)
    · refine ev_iconst (pc := 24) (-1) d_Mo_merge_24 (by decide) ?_
      exact ev_ireturn (pc := 25) d_Mo_merge_25 rfl rfl (q25_0 c4 c11)
    · refine ev_iload_n (pc := 14) d_Mo_merge_14 rfl ?_
      refine ev_aload_n (pc := 15) d_Mo_merge_15 rfl ?_
      refine ev_getfield (pc := 16) 11 d_Mo_merge_16 fl_Mo_161 h_r0 rfl ?_
      refine ev_iconst (pc := 19) 1 d_Mo_merge_19 (by decide) ?_
      refine ev_isub (pc := 20) d_Mo_merge_20 ?_
      refine ev_icmp_lt (pc := 21) 26 d_Mo_merge_21 (by decide) (fun c21 => ?_) (fun c21 => ?_)
      · refine ev_iconst (pc := 26) 1 d_Mo_merge_26 (by decide) ?_
        refine ev_istore_n (pc := 27) d_Mo_merge_27 (Nat.le_of_ble_eq_true rfl) [1, 2, 0] rfl ?_
        refine ev_iconst (pc := 28) 0 d_Mo_merge_28 (by decide) ?_
        refine ev_istore_n (pc := 29) d_Mo_merge_29 (Nat.le_of_ble_eq_true rfl) [1, 2, 3, 0] rfl ?_
        exact (k30_1 c4 c11 c21)
      · refine ev_iconst (pc := 24) (-1) d_Mo_merge_24 (by decide) ?_
        exact ev_ireturn (pc := 25) d_Mo_merge_25 rfl rfl (q25_2 c4 c11 c21)
  · refine ev_bipush (pc := 7) (-9) d_Mo_merge_7 (by decide) ?_
    exact ev_ireturn (pc := 9) d_Mo_merge_9 rfl rfl (q9_3 c4)

set_option maxRecDepth 100000 in
set_option maxHeartbeats 4000000 in
theorem s_Mo_merge_30 {l : Launch} {X : ev_X} {bc bs n : Nat} {F : ev_H} {Q : Option Value → Nat → ev_H → Prop} {r0 : Nat} {i1 : Int32} {i2 : Int32} {i3 : Int32} {ir0_drafted : Int32} {ir0_rows : Int32} {ir0_segments : Int32} {ir0_stopped : Int32} {ir0_fuse : Int32} {ir0_written : Int32} {ir0_tokens : Int32} {ir0_height : Int32} {ir0_results : Int32} {ir0_weighed : Int32} {r0p6_f : Nat → Int32} (h_r0 : F r0 = some (moO r0 ir0_drafted ir0_rows ir0_segments ir0_stopped ir0_fuse ir0_written ir0_tokens ir0_height ir0_results ir0_weighed)) (h_r0p6 : F (r0 + 6) = some (.inl (0, 80, .inl r0p6_f)))
    (k115_0 : (ir0_rows ≤ i3) → (ir0_fuse = 0) → Ev l X M_Mo_merge bc bs 115 [(0, .ref r0), (1, .int i1), (2, .int i2), (3, .int i3)] [.int 1] n F (ev_mq X Q))
    (k115_1 : (ir0_rows ≤ i3) → (¬ ir0_fuse = 0) → (ir0_fuse ≤ i2) → Ev l X M_Mo_merge bc bs 115 [(0, .ref r0), (1, .int i1), (2, .int i2), (3, .int i3)] [.int 0] n F (ev_mq X Q))
    (k115_2 : (ir0_rows ≤ i3) → (¬ ir0_fuse = 0) → (¬ ir0_fuse ≤ i2) → Ev l X M_Mo_merge bc bs 115 [(0, .ref r0), (1, .int i1), (2, .int i2), (3, .int i3)] [.int 1] n F (ev_mq X Q))
    (in43_3 : (¬ ir0_rows ≤ i3) → vp_in i3 80)
    (k65_4 : (¬ ir0_rows ≤ i3) → ((r0p6_f i3.toNatClampNeg) = i1) → Ev l X M_Mo_merge bc bs 65 [(0, .ref r0), (1, .int i1), (2, .int i2), (3, .int i3)] [.int 1] n F (ev_mq X Q))
    (in53_5 : (¬ ir0_rows ≤ i3) → (¬ (r0p6_f i3.toNatClampNeg) = i1) → vp_in i3 80)
    (k65_6 : (¬ ir0_rows ≤ i3) → (¬ (r0p6_f i3.toNatClampNeg) = i1) → (¬ (r0p6_f i3.toNatClampNeg) = (i1 + 1)) → Ev l X M_Mo_merge bc bs 65 [(0, .ref r0), (1, .int i1), (2, .int i2), (3, .int i3)] [.int 0] n F (ev_mq X Q))
    (k65_7 : (¬ ir0_rows ≤ i3) → (¬ (r0p6_f i3.toNatClampNeg) = i1) → ((r0p6_f i3.toNatClampNeg) = (i1 + 1)) → Ev l X M_Mo_merge bc bs 65 [(0, .ref r0), (1, .int i1), (2, .int i2), (3, .int i3)] [.int 1] n F (ev_mq X Q)) :
    Ev l X M_Mo_merge bc bs 30 [(0, .ref r0), (1, .int i1), (2, .int i2), (3, .int i3)] [] n F (ev_mq X Q) := by
  refine ev_iload_n (pc := 30) d_Mo_merge_30 rfl ?_
  refine ev_aload_n (pc := 31) d_Mo_merge_31 rfl ?_
  refine ev_getfield (pc := 32) 5 d_Mo_merge_32 fl_Mo_158 h_r0 rfl ?_
  refine ev_icmp_ge (pc := 35) 95 d_Mo_merge_35 (by decide) (fun c35 => ?_) (fun c35 => ?_)
  · refine ev_aload_n (pc := 95) d_Mo_merge_95 rfl ?_
    refine ev_getfield (pc := 96) 13 d_Mo_merge_96 fl_Mo_152 h_r0 rfl ?_
    refine ev_if_eq (pc := 99) 110 d_Mo_merge_99 (by decide) (fun c99 => ?_) (fun c99 => ?_)
    · refine ev_iconst (pc := 110) 1 d_Mo_merge_110 (by decide) ?_
      refine ev_goto (pc := 111) 115 d_Mo_merge_111 (by decide) ?_
      exact (k115_0 c35 c99)
    · refine ev_aload_n (pc := 102) d_Mo_merge_102 rfl ?_
      refine ev_getfield (pc := 103) 13 d_Mo_merge_103 fl_Mo_152 h_r0 rfl ?_
      refine ev_iload_n (pc := 106) d_Mo_merge_106 rfl ?_
      refine ev_icmp_le (pc := 107) 114 d_Mo_merge_107 (by decide) (fun c107 => ?_) (fun c107 => ?_)
      · refine ev_iconst (pc := 114) 0 d_Mo_merge_114 (by decide) ?_
        exact (k115_1 c35 c99 c107)
      · refine ev_iconst (pc := 110) 1 d_Mo_merge_110 (by decide) ?_
        refine ev_goto (pc := 111) 115 d_Mo_merge_111 (by decide) ?_
        exact (k115_2 c35 c99 c107)
  · refine ev_aload_n (pc := 38) d_Mo_merge_38 rfl ?_
    refine ev_getfield (pc := 39) 7 d_Mo_merge_39 fl_Mo_26 h_r0 rfl ?_
    refine ev_iload_n (pc := 42) d_Mo_merge_42 rfl ?_
    refine ev_iaload (pc := 43) d_Mo_merge_43 h_r0p6 rfl (in43_3 c35) ?_
    refine ev_iload_n (pc := 44) d_Mo_merge_44 rfl ?_
    refine ev_icmp_eq (pc := 45) 60 d_Mo_merge_45 (by decide) (fun c45 => ?_) (fun c45 => ?_)
    · refine ev_iconst (pc := 60) 1 d_Mo_merge_60 (by decide) ?_
      refine ev_goto (pc := 61) 65 d_Mo_merge_61 (by decide) ?_
      exact (k65_4 c35 c45)
    · refine ev_aload_n (pc := 48) d_Mo_merge_48 rfl ?_
      refine ev_getfield (pc := 49) 7 d_Mo_merge_49 fl_Mo_26 h_r0 rfl ?_
      refine ev_iload_n (pc := 52) d_Mo_merge_52 rfl ?_
      refine ev_iaload (pc := 53) d_Mo_merge_53 h_r0p6 rfl (in53_5 c35 c45) ?_
      refine ev_iload_n (pc := 54) d_Mo_merge_54 rfl ?_
      refine ev_iconst (pc := 55) 1 d_Mo_merge_55 (by decide) ?_
      refine ev_iadd (pc := 56) d_Mo_merge_56 ?_
      refine ev_icmp_ne (pc := 57) 64 d_Mo_merge_57 (by decide) (fun c57 => ?_) (fun c57 => ?_)
      · refine ev_iconst (pc := 64) 0 d_Mo_merge_64 (by decide) ?_
        exact (k65_6 c35 c45 c57)
      · refine ev_iconst (pc := 60) 1 d_Mo_merge_60 (by decide) ?_
        refine ev_goto (pc := 61) 65 d_Mo_merge_61 (by decide) ?_
        exact (k65_7 c35 c45 c57)

set_option maxRecDepth 100000 in
set_option maxHeartbeats 4000000 in
theorem s_Mo_merge_65 {l : Launch} {X : ev_X} {bc bs n : Nat} {F : ev_H} {Q : Option Value → Nat → ev_H → Prop} {r0 : Nat} {i1 : Int32} {i2 : Int32} {i3 : Int32} {is0 : Int32} {ir0_drafted : Int32} {ir0_rows : Int32} {ir0_segments : Int32} {ir0_stopped : Int32} {ir0_fuse : Int32} {ir0_written : Int32} {ir0_tokens : Int32} {ir0_height : Int32} {ir0_results : Int32} {ir0_weighed : Int32} {r0p7_f : Nat → Int32} (h_r0 : F r0 = some (moO r0 ir0_drafted ir0_rows ir0_segments ir0_stopped ir0_fuse ir0_written ir0_tokens ir0_height ir0_results ir0_weighed)) (h_r0p7 : F (r0 + 7) = some (.inl (2, 80, .inl r0p7_f)))
    (k88_0 : (is0 = 0) → Ev l X M_Mo_merge bc bs 88 [(0, .ref r0), (1, .int i1), (2, .int i2), (3, .int i3), (4, .int is0)] [.int i2] n F (ev_mq X Q))
    (in77_1 : (¬ is0 = 0) → vp_in i3 80)
    (k88_2 : (¬ is0 = 0) → (¬ (r0p7_f i3.toNatClampNeg) = 0) → Ev l X M_Mo_merge bc bs 88 [(0, .ref r0), (1, .int i1), (2, .int i2), (3, .int i3), (4, .int is0)] [.int i2] n F (ev_mq X Q))
    (k88_3 : (¬ is0 = 0) → ((r0p7_f i3.toNatClampNeg) = 0) → Ev l X M_Mo_merge bc bs 88 [(0, .ref r0), (1, .int i1), (2, .int i2), (3, .int i3), (4, .int is0)] [.int (i2 + 1)] n F (ev_mq X Q)) :
    Ev l X M_Mo_merge bc bs 65 [(0, .ref r0), (1, .int i1), (2, .int i2), (3, .int i3)] [.int is0] n F (ev_mq X Q) := by
  refine ev_istore (pc := 65) d_Mo_merge_65 (Nat.le_of_ble_eq_true rfl) [1, 2, 3, 4, 0] rfl ?_
  refine ev_iload (pc := 67) d_Mo_merge_67 rfl ?_
  refine ev_if_eq (pc := 69) 87 d_Mo_merge_69 (by decide) (fun c69 => ?_) (fun c69 => ?_)
  · refine ev_iload_n (pc := 87) d_Mo_merge_87 rfl ?_
    exact (k88_0 c69)
  · refine ev_aload_n (pc := 72) d_Mo_merge_72 rfl ?_
    refine ev_getfield (pc := 73) 8 d_Mo_merge_73 fl_Mo_29 h_r0 rfl ?_
    refine ev_iload_n (pc := 76) d_Mo_merge_76 rfl ?_
    refine ev_zaload (pc := 77) d_Mo_merge_77 h_r0p7 rfl (in77_1 c69) ?_
    refine ev_if_ne (pc := 78) 87 d_Mo_merge_78 (by decide) (fun c78 => ?_) (fun c78 => ?_)
    · refine ev_iload_n (pc := 87) d_Mo_merge_87 rfl ?_
      exact (k88_2 c69 c78)
    · refine ev_iload_n (pc := 81) d_Mo_merge_81 rfl ?_
      refine ev_iconst (pc := 82) 1 d_Mo_merge_82 (by decide) ?_
      refine ev_iadd (pc := 83) d_Mo_merge_83 ?_
      refine ev_goto (pc := 84) 88 d_Mo_merge_84 (by decide) ?_
      exact (k88_3 c69 c78)

set_option maxRecDepth 100000 in
set_option maxHeartbeats 4000000 in
theorem s_Mo_merge_88 {l : Launch} {X : ev_X} {bc bs n : Nat} {F : ev_H} {Q : Option Value → Nat → ev_H → Prop} {r0 : Nat} {i1 : Int32} {i2 : Int32} {i3 : Int32} {i4 : Int32} {is0 : Int32} 
    (k30_0 : Ev l X M_Mo_merge bc bs 30 [(0, .ref r0), (1, .int i1), (2, .int is0), (3, .int (i3 + 1))] [] n F (ev_mq X Q)) :
    Ev l X M_Mo_merge bc bs 88 [(0, .ref r0), (1, .int i1), (2, .int i2), (3, .int i3), (4, .int i4)] [.int is0] n F (ev_mq X Q) := by
  refine ev_istore_n (pc := 88) d_Mo_merge_88 (Nat.le_of_ble_eq_true rfl) [1, 2, 0, 3, 4] rfl ?_
  refine ev_iinc (pc := 89) 3 1 d_Mo_merge_89 rfl (by decide) (Nat.le_of_ble_eq_true rfl) [1, 2, 3, 0, 4] rfl ?_
  refine ev_goto (pc := 92) 30 d_Mo_merge_92 (by decide) ?_
  exact Ev.sub [0, 1, 2, 3] rfl k30_0

set_option maxRecDepth 100000 in
set_option maxHeartbeats 4000000 in
theorem s_Mo_merge_115 {l : Launch} {X : ev_X} {bc bs n : Nat} {F : ev_H} {Q : Option Value → Nat → ev_H → Prop} {r0 : Nat} {i1 : Int32} {i2 : Int32} {i3 : Int32} {is0 : Int32} {ir0_drafted : Int32} {ir0_rows : Int32} {ir0_segments : Int32} {ir0_stopped : Int32} {ir0_fuse : Int32} {ir0_written : Int32} {ir0_tokens : Int32} {ir0_height : Int32} {ir0_results : Int32} {ir0_weighed : Int32} {Q118 : Option Value → Nat → ev_H → Prop} {bc118 : Nat} {bs118 : Nat} {rc118 : Nat} {rs118 : Nat} (h_r0 : F r0 = some (moO r0 ir0_drafted ir0_rows ir0_segments ir0_stopped ir0_fuse ir0_written ir0_tokens ir0_height ir0_results ir0_weighed)) (hb_rc118 : rc118 + bc118 ≤ bc) (hs_rs118 : rs118 + bs118 ≤ bs)
    (c118_0 : Cal l X M_Mo_write bc118 bs118 [.ref r0, .int i2] n F Q118)
    (k121_1 : ∀ v2 n2 F2, Q118 v2 n2 F2 → Ev l X M_Mo_merge rc118 rs118 121 [(0, .ref r0), (1, .int i1), (2, .int i2), (3, .int is0)] (v2.toList ++ []) n2 F2 (ev_mq X Q)) :
    Ev l X M_Mo_merge bc bs 115 [(0, .ref r0), (1, .int i1), (2, .int i2), (3, .int i3)] [.int is0] n F (ev_mq X Q) := by
  refine ev_istore_n (pc := 115) d_Mo_merge_115 (Nat.le_of_ble_eq_true rfl) [1, 2, 3, 0] rfl ?_
  refine ev_aload_n (pc := 116) d_Mo_merge_116 rfl ?_
  refine ev_iload_n (pc := 117) d_Mo_merge_117 rfl ?_
  exact ev_invokevirtual (pc := 118) (As := [.int i2]) (st := []) (Q2 := Q118) M_Mo_write rC11 d_Mo_merge_118 lc_Mo_167 wd_1068 wd_s34 rfl h_r0 rfl rfl (Nat.le_of_ble_eq_true rfl) (Nat.le_of_ble_eq_true rfl) (Nat.le_of_ble_eq_true rfl) hb_rc118 hs_rs118 c118_0 k121_1

set_option maxRecDepth 100000 in
set_option maxHeartbeats 4000000 in
theorem s_Mo_merge_121 {l : Launch} {X : ev_X} {bc bs n : Nat} {F : ev_H} {Q : Option Value → Nat → ev_H → Prop} {r0 : Nat} {i1 : Int32} {i2 : Int32} {i3 : Int32} {is0 : Int32} {ir0_drafted : Int32} {ir0_rows : Int32} {ir0_segments : Int32} {ir0_stopped : Int32} {ir0_fuse : Int32} {ir0_written : Int32} {ir0_tokens : Int32} {ir0_height : Int32} {ir0_results : Int32} {ir0_weighed : Int32} {Q135 : Option Value → Nat → ev_H → Prop} {bc135 : Nat} {bs135 : Nat} {rc135 : Nat} {rs135 : Nat} {Q127 : Option Value → Nat → ev_H → Prop} {bc127 : Nat} {bs127 : Nat} {rc127 : Nat} {rs127 : Nat} (h_r0 : F r0 = some (moO r0 ir0_drafted ir0_rows ir0_segments ir0_stopped ir0_fuse ir0_written ir0_tokens ir0_height ir0_results ir0_weighed)) (hb_rc135 : rc135 + bc135 ≤ bc) (hs_rs135 : rs135 + bs135 ≤ bs) (hb_rc127 : rc127 + bc127 ≤ bc) (hs_rs127 : rs127 + bs127 ≤ bs)
    (q145_0 : (¬ is0 = i2) → (¬ i3 = 0) → Q (some (.int ir0_segments)) n F)
    (c135_1 : (¬ is0 = i2) → (i3 = 0) → Cal l X M_Mo_stop bc135 bs135 [.ref r0] n F Q135)
    (k138_2 : (¬ is0 = i2) → (i3 = 0) → ∀ v2 n2 F2, Q135 v2 n2 F2 → Ev l X M_Mo_merge rc135 rs135 138 [(0, .ref r0), (1, .int i1), (2, .int i2), (3, .int i3)] (v2.toList ++ []) n2 F2 (ev_mq X Q))
    (c127_3 : (is0 = i2) → Cal l X M_Mo_join2 bc127 bs127 [.ref r0, .int i1] n F Q127)
    (k130_4 : (is0 = i2) → ∀ v2 n2 F2, Q127 v2 n2 F2 → Ev l X M_Mo_merge rc127 rs127 130 [(0, .ref r0), (1, .int i1), (2, .int i2), (3, .int i3)] (v2.toList ++ []) n2 F2 (ev_mq X Q)) :
    Ev l X M_Mo_merge bc bs 121 [(0, .ref r0), (1, .int i1), (2, .int i2), (3, .int i3)] [.int is0] n F (ev_mq X Q) := by
  refine ev_iload_n (pc := 121) d_Mo_merge_121 rfl ?_
  refine ev_icmp_ne (pc := 122) 130 d_Mo_merge_122 (by decide) (fun c122 => ?_) (fun c122 => ?_)
  · refine ev_iload_n (pc := 130) d_Mo_merge_130 rfl ?_
    refine ev_if_ne (pc := 131) 141 d_Mo_merge_131 (by decide) (fun c131 => ?_) (fun c131 => ?_)
    · refine ev_aload_n (pc := 141) d_Mo_merge_141 rfl ?_
      refine ev_getfield (pc := 142) 11 d_Mo_merge_142 fl_Mo_161 h_r0 rfl ?_
      exact ev_ireturn (pc := 145) d_Mo_merge_145 rfl rfl (q145_0 c122 c131)
    · refine ev_aload_n (pc := 134) d_Mo_merge_134 rfl ?_
      exact ev_invokevirtual (pc := 135) (As := []) (st := []) (Q2 := Q135) M_Mo_stop rC11 d_Mo_merge_135 lc_Mo_174 wd_1076 wd_s36 rfl h_r0 rfl rfl (Nat.le_of_ble_eq_true rfl) (Nat.le_of_ble_eq_true rfl) (Nat.le_of_ble_eq_true rfl) hb_rc135 hs_rs135 (c135_1 c122 c131) (k138_2 c122 c131)
  · refine ev_aload_n (pc := 125) d_Mo_merge_125 rfl ?_
    refine ev_iload_n (pc := 126) d_Mo_merge_126 rfl ?_
    exact ev_invokevirtual (pc := 127) (As := [.int i1]) (st := []) (Q2 := Q127) M_Mo_join2 rC11 d_Mo_merge_127 lc_Mo_184 wd_1088 wd_s38 rfl h_r0 rfl rfl (Nat.le_of_ble_eq_true rfl) (Nat.le_of_ble_eq_true rfl) (Nat.le_of_ble_eq_true rfl) hb_rc127 hs_rs127 (c127_3 c122) (k130_4 c122)

set_option maxRecDepth 100000 in
set_option maxHeartbeats 4000000 in
theorem s_Mo_merge_130 {l : Launch} {X : ev_X} {bc bs n : Nat} {F : ev_H} {Q : Option Value → Nat → ev_H → Prop} {r0 : Nat} {i1 : Int32} {i2 : Int32} {i3 : Int32} {ir0_drafted : Int32} {ir0_rows : Int32} {ir0_segments : Int32} {ir0_stopped : Int32} {ir0_fuse : Int32} {ir0_written : Int32} {ir0_tokens : Int32} {ir0_height : Int32} {ir0_results : Int32} {ir0_weighed : Int32} {Q135 : Option Value → Nat → ev_H → Prop} {bc135 : Nat} {bs135 : Nat} {rc135 : Nat} {rs135 : Nat} (h_r0 : F r0 = some (moO r0 ir0_drafted ir0_rows ir0_segments ir0_stopped ir0_fuse ir0_written ir0_tokens ir0_height ir0_results ir0_weighed)) (hb_rc135 : rc135 + bc135 ≤ bc) (hs_rs135 : rs135 + bs135 ≤ bs)
    (q145_0 : (¬ i3 = 0) → Q (some (.int ir0_segments)) n F)
    (c135_1 : (i3 = 0) → Cal l X M_Mo_stop bc135 bs135 [.ref r0] n F Q135)
    (k138_2 : (i3 = 0) → ∀ v2 n2 F2, Q135 v2 n2 F2 → Ev l X M_Mo_merge rc135 rs135 138 [(0, .ref r0), (1, .int i1), (2, .int i2), (3, .int i3)] (v2.toList ++ []) n2 F2 (ev_mq X Q)) :
    Ev l X M_Mo_merge bc bs 130 [(0, .ref r0), (1, .int i1), (2, .int i2), (3, .int i3)] [] n F (ev_mq X Q) := by
  refine ev_iload_n (pc := 130) d_Mo_merge_130 rfl ?_
  refine ev_if_ne (pc := 131) 141 d_Mo_merge_131 (by decide) (fun c131 => ?_) (fun c131 => ?_)
  · refine ev_aload_n (pc := 141) d_Mo_merge_141 rfl ?_
    refine ev_getfield (pc := 142) 11 d_Mo_merge_142 fl_Mo_161 h_r0 rfl ?_
    exact ev_ireturn (pc := 145) d_Mo_merge_145 rfl rfl (q145_0 c131)
  · refine ev_aload_n (pc := 134) d_Mo_merge_134 rfl ?_
    exact ev_invokevirtual (pc := 135) (As := []) (st := []) (Q2 := Q135) M_Mo_stop rC11 d_Mo_merge_135 lc_Mo_174 wd_1076 wd_s36 rfl h_r0 rfl rfl (Nat.le_of_ble_eq_true rfl) (Nat.le_of_ble_eq_true rfl) (Nat.le_of_ble_eq_true rfl) hb_rc135 hs_rs135 (c135_1 c131) (k138_2 c131)

set_option maxRecDepth 100000 in
set_option maxHeartbeats 4000000 in
theorem s_Mo_merge_138 {l : Launch} {X : ev_X} {bc bs n : Nat} {F : ev_H} {Q : Option Value → Nat → ev_H → Prop} {r0 : Nat} {i1 : Int32} {i2 : Int32} {i3 : Int32} 
    (q140_0 : Q (some (.int (-9))) n F) :
    Ev l X M_Mo_merge bc bs 138 [(0, .ref r0), (1, .int i1), (2, .int i2), (3, .int i3)] [] n F (ev_mq X Q) := by
  refine ev_bipush (pc := 138) (-9) d_Mo_merge_138 (by decide) ?_
  exact ev_ireturn (pc := 140) d_Mo_merge_140 rfl rfl q140_0
set_option maxRecDepth 100000 in
set_option maxHeartbeats 4000000 in
theorem s_Mo_join2_0 {l : Launch} {X : ev_X} {bc bs n : Nat} {F : ev_H} {Q : Option Value → Nat → ev_H → Prop} {r0 : Nat} {i1 : Int32} 
    (k7_0 : Ev l X M_Mo_join2 bc bs 7 [(0, .ref r0), (1, .int i1), (2, .int 0), (3, .int 0), (4, .int 0)] [] n F (ev_mq X Q)) :
    Ev l X M_Mo_join2 bc bs 0 [(0, .ref r0), (1, .int i1)] [] n F (ev_mq X Q) := by
  refine ev_iconst (pc := 0) 0 d_Mo_join2_0 (by decide) ?_
  refine ev_istore_n (pc := 1) d_Mo_join2_1 (Nat.le_of_ble_eq_true rfl) [1, 2, 0] rfl ?_
  refine ev_iconst (pc := 2) 0 d_Mo_join2_2 (by decide) ?_
  refine ev_istore_n (pc := 3) d_Mo_join2_3 (Nat.le_of_ble_eq_true rfl) [1, 2, 3, 0] rfl ?_
  refine ev_iconst (pc := 4) 0 d_Mo_join2_4 (by decide) ?_
  refine ev_istore (pc := 5) d_Mo_join2_5 (Nat.le_of_ble_eq_true rfl) [1, 2, 3, 4, 0] rfl ?_
  exact k7_0

set_option maxRecDepth 100000 in
set_option maxHeartbeats 4000000 in
theorem s_Mo_join2_7 {l : Launch} {X : ev_X} {bc bs n : Nat} {F : ev_H} {Q : Option Value → Nat → ev_H → Prop} {r0 : Nat} {i1 : Int32} {i2 : Int32} {i3 : Int32} {i4 : Int32} {ir0_drafted : Int32} {ir0_rows : Int32} {ir0_segments : Int32} {ir0_stopped : Int32} {ir0_fuse : Int32} {ir0_written : Int32} {ir0_tokens : Int32} {ir0_height : Int32} {ir0_results : Int32} {ir0_weighed : Int32} {r0p6_f : Nat → Int32} (h_r0 : F r0 = some (moO r0 ir0_drafted ir0_rows ir0_segments ir0_stopped ir0_fuse ir0_written ir0_tokens ir0_height ir0_results ir0_weighed)) (h_r0p6 : F (r0 + 6) = some (.inl (0, 80, .inl r0p6_f)))
    (k132_0 : (ir0_rows ≤ i4) → (i3 ≤ 0) → Ev l X M_Mo_join2 bc bs 132 [(0, .ref r0), (1, .int i1), (2, .int i2), (3, .int i3), (4, .int 2), (5, .int 0)] [] n (ev_up F r0 (moO r0 ir0_drafted i2 ir0_segments ir0_stopped ir0_fuse ir0_written ir0_tokens ir0_height ir0_results ir0_weighed)) (ev_mq X Q))
    (k132_1 : (ir0_rows ≤ i4) → (¬ i3 ≤ 0) → Ev l X M_Mo_join2 bc bs 132 [(0, .ref r0), (1, .int i1), (2, .int i2), (3, .int i3), (4, .int 1), (5, .int 0)] [] n (ev_up F r0 (moO r0 ir0_drafted i2 ir0_segments ir0_stopped ir0_fuse ir0_written ir0_tokens ir0_height ir0_results ir0_weighed)) (ev_mq X Q))
    (in22_2 : (¬ ir0_rows ≤ i4) → vp_in i4 80)
    (k45_3 : (¬ ir0_rows ≤ i4) → ((r0p6_f i4.toNatClampNeg) = i1) → Ev l X M_Mo_join2 bc bs 45 [(0, .ref r0), (1, .int i1), (2, .int i2), (3, .int i3), (4, .int i4)] [.int 1] n F (ev_mq X Q))
    (in33_4 : (¬ ir0_rows ≤ i4) → (¬ (r0p6_f i4.toNatClampNeg) = i1) → vp_in i4 80)
    (k45_5 : (¬ ir0_rows ≤ i4) → (¬ (r0p6_f i4.toNatClampNeg) = i1) → (¬ (r0p6_f i4.toNatClampNeg) = (i1 + 1)) → Ev l X M_Mo_join2 bc bs 45 [(0, .ref r0), (1, .int i1), (2, .int i2), (3, .int i3), (4, .int i4)] [.int 0] n F (ev_mq X Q))
    (k45_6 : (¬ ir0_rows ≤ i4) → (¬ (r0p6_f i4.toNatClampNeg) = i1) → ((r0p6_f i4.toNatClampNeg) = (i1 + 1)) → Ev l X M_Mo_join2 bc bs 45 [(0, .ref r0), (1, .int i1), (2, .int i2), (3, .int i3), (4, .int i4)] [.int 1] n F (ev_mq X Q)) :
    Ev l X M_Mo_join2 bc bs 7 [(0, .ref r0), (1, .int i1), (2, .int i2), (3, .int i3), (4, .int i4)] [] n F (ev_mq X Q) := by
  refine ev_iload (pc := 7) d_Mo_join2_7 rfl ?_
  refine ev_aload_n (pc := 9) d_Mo_join2_9 rfl ?_
  refine ev_getfield (pc := 10) 5 d_Mo_join2_10 fl_Mo_158 h_r0 rfl ?_
  refine ev_icmp_ge (pc := 13) 113 d_Mo_join2_13 (by decide) (fun c13 => ?_) (fun c13 => ?_)
  · refine ev_aload_n (pc := 113) d_Mo_join2_113 rfl ?_
    refine ev_iload_n (pc := 114) d_Mo_join2_114 rfl ?_
    refine ev_putfield (pc := 115) 5 _ d_Mo_join2_115 fl_Mo_158 h_r0 pf_11_rows rfl rfl (Nat.le_of_ble_eq_true rfl) (fun F1_ hF1_ => ?_)
    have g2_ : F1_ r0 = some (moO r0 ir0_drafted i2 ir0_segments ir0_stopped ir0_fuse ir0_written ir0_tokens ir0_height ir0_results ir0_weighed) := by rw [← hF1_]; exact ev_up_s
    refine ev_iload_n (pc := 118) d_Mo_join2_118 rfl ?_
    refine ev_if_le (pc := 119) 126 d_Mo_join2_119 (by decide) (fun c119 => ?_) (fun c119 => ?_)
    · refine ev_iconst (pc := 126) 2 d_Mo_join2_126 (by decide) ?_
      refine ev_istore (pc := 127) d_Mo_join2_127 (Nat.le_of_ble_eq_true rfl) [1, 2, 3, 4, 0] rfl ?_
      refine ev_iconst (pc := 129) 0 d_Mo_join2_129 (by decide) ?_
      refine ev_istore (pc := 130) d_Mo_join2_130 (Nat.le_of_ble_eq_true rfl) [1, 2, 3, 4, 5, 0] rfl ?_
      exact (by subst hF1_; exact (k132_0 c13 c119))
    · refine ev_iconst (pc := 122) 1 d_Mo_join2_122 (by decide) ?_
      refine ev_goto (pc := 123) 127 d_Mo_join2_123 (by decide) ?_
      refine ev_istore (pc := 127) d_Mo_join2_127 (Nat.le_of_ble_eq_true rfl) [1, 2, 3, 4, 0] rfl ?_
      refine ev_iconst (pc := 129) 0 d_Mo_join2_129 (by decide) ?_
      refine ev_istore (pc := 130) d_Mo_join2_130 (Nat.le_of_ble_eq_true rfl) [1, 2, 3, 4, 5, 0] rfl ?_
      exact (by subst hF1_; exact (k132_1 c13 c119))
  · refine ev_aload_n (pc := 16) d_Mo_join2_16 rfl ?_
    refine ev_getfield (pc := 17) 7 d_Mo_join2_17 fl_Mo_26 h_r0 rfl ?_
    refine ev_iload (pc := 20) d_Mo_join2_20 rfl ?_
    refine ev_iaload (pc := 22) d_Mo_join2_22 h_r0p6 rfl (in22_2 c13) ?_
    refine ev_iload_n (pc := 23) d_Mo_join2_23 rfl ?_
    refine ev_icmp_eq (pc := 24) 40 d_Mo_join2_24 (by decide) (fun c24 => ?_) (fun c24 => ?_)
    · refine ev_iconst (pc := 40) 1 d_Mo_join2_40 (by decide) ?_
      refine ev_goto (pc := 41) 45 d_Mo_join2_41 (by decide) ?_
      exact (k45_3 c13 c24)
    · refine ev_aload_n (pc := 27) d_Mo_join2_27 rfl ?_
      refine ev_getfield (pc := 28) 7 d_Mo_join2_28 fl_Mo_26 h_r0 rfl ?_
      refine ev_iload (pc := 31) d_Mo_join2_31 rfl ?_
      refine ev_iaload (pc := 33) d_Mo_join2_33 h_r0p6 rfl (in33_4 c13 c24) ?_
      refine ev_iload_n (pc := 34) d_Mo_join2_34 rfl ?_
      refine ev_iconst (pc := 35) 1 d_Mo_join2_35 (by decide) ?_
      refine ev_iadd (pc := 36) d_Mo_join2_36 ?_
      refine ev_icmp_ne (pc := 37) 44 d_Mo_join2_37 (by decide) (fun c37 => ?_) (fun c37 => ?_)
      · refine ev_iconst (pc := 44) 0 d_Mo_join2_44 (by decide) ?_
        exact (k45_5 c13 c24 c37)
      · refine ev_iconst (pc := 40) 1 d_Mo_join2_40 (by decide) ?_
        refine ev_goto (pc := 41) 45 d_Mo_join2_41 (by decide) ?_
        exact (k45_6 c13 c24 c37)

set_option maxRecDepth 100000 in
set_option maxHeartbeats 4000000 in
theorem s_Mo_join2_45 {l : Launch} {X : ev_X} {bc bs n : Nat} {F : ev_H} {Q : Option Value → Nat → ev_H → Prop} {r0 : Nat} {i1 : Int32} {i2 : Int32} {i3 : Int32} {i4 : Int32} {is0 : Int32} {ir0_drafted : Int32} {ir0_rows : Int32} {ir0_segments : Int32} {ir0_stopped : Int32} {ir0_fuse : Int32} {ir0_written : Int32} {ir0_tokens : Int32} {ir0_height : Int32} {ir0_results : Int32} {ir0_weighed : Int32} {r0p7_f : Nat → Int32} (h_r0 : F r0 = some (moO r0 ir0_drafted ir0_rows ir0_segments ir0_stopped ir0_fuse ir0_written ir0_tokens ir0_height ir0_results ir0_weighed)) (h_r0p7 : F (r0 + 7) = some (.inl (2, 80, .inl r0p7_f)))
    (k62_0 : (is0 = 0) → Ev l X M_Mo_join2 bc bs 62 [(0, .ref r0), (1, .int i1), (2, .int i2), (3, .int i3), (4, .int i4), (5, .int is0)] [] n F (ev_mq X Q))
    (in58_1 : (¬ is0 = 0) → vp_in i4 80)
    (k7_2 : (¬ is0 = 0) → (¬ (r0p7_f i4.toNatClampNeg) = 0) → Ev l X M_Mo_join2 bc bs 7 [(0, .ref r0), (1, .int i1), (2, .int i2), (3, .int i3), (4, .int (i4 + 1))] [] n F (ev_mq X Q))
    (k62_3 : (¬ is0 = 0) → ((r0p7_f i4.toNatClampNeg) = 0) → Ev l X M_Mo_join2 bc bs 62 [(0, .ref r0), (1, .int i1), (2, .int i2), (3, .int i3), (4, .int i4), (5, .int is0)] [] n F (ev_mq X Q)) :
    Ev l X M_Mo_join2 bc bs 45 [(0, .ref r0), (1, .int i1), (2, .int i2), (3, .int i3), (4, .int i4)] [.int is0] n F (ev_mq X Q) := by
  refine ev_istore (pc := 45) d_Mo_join2_45 (Nat.le_of_ble_eq_true rfl) [1, 2, 3, 4, 5, 0] rfl ?_
  refine ev_iload (pc := 47) d_Mo_join2_47 rfl ?_
  refine ev_if_eq (pc := 49) 62 d_Mo_join2_49 (by decide) (fun c49 => ?_) (fun c49 => ?_)
  · exact (k62_0 c49)
  · refine ev_aload_n (pc := 52) d_Mo_join2_52 rfl ?_
    refine ev_getfield (pc := 53) 8 d_Mo_join2_53 fl_Mo_29 h_r0 rfl ?_
    refine ev_iload (pc := 56) d_Mo_join2_56 rfl ?_
    refine ev_zaload (pc := 58) d_Mo_join2_58 h_r0p7 rfl (in58_1 c49) ?_
    refine ev_if_ne (pc := 59) 107 d_Mo_join2_59 (by decide) (fun c59 => ?_) (fun c59 => ?_)
    · refine ev_iinc (pc := 107) 4 1 d_Mo_join2_107 rfl (by decide) (Nat.le_of_ble_eq_true rfl) [1, 2, 3, 4, 0, 5] rfl ?_
      refine ev_goto (pc := 110) 7 d_Mo_join2_110 (by decide) ?_
      exact Ev.sub [0, 1, 2, 3, 4] rfl (k7_2 c49 c59)
    · exact (k62_3 c49 c59)

set_option maxRecDepth 100000 in
set_option maxHeartbeats 4000000 in
theorem s_Mo_join2_62 {l : Launch} {X : ev_X} {bc bs n : Nat} {F : ev_H} {Q : Option Value → Nat → ev_H → Prop} {r0 : Nat} {i1 : Int32} {i2 : Int32} {i3 : Int32} {i4 : Int32} {i5 : Int32} {ir0_drafted : Int32} {ir0_rows : Int32} {ir0_segments : Int32} {ir0_stopped : Int32} {ir0_fuse : Int32} {ir0_written : Int32} {ir0_tokens : Int32} {ir0_height : Int32} {ir0_results : Int32} {ir0_weighed : Int32} {Q66 : Option Value → Nat → ev_H → Prop} {bc66 : Nat} {bs66 : Nat} {rc66 : Nat} {rs66 : Nat} (h_r0 : F r0 = some (moO r0 ir0_drafted ir0_rows ir0_segments ir0_stopped ir0_fuse ir0_written ir0_tokens ir0_height ir0_results ir0_weighed)) (hb_rc66 : rc66 + bc66 ≤ bc) (hs_rs66 : rs66 + bs66 ≤ bs)
    (c66_0 : Cal l X M_Mo_copyRow bc66 bs66 [.ref r0, .int i4, .int i2] n F Q66)
    (k69_1 : ∀ v2 n2 F2, Q66 v2 n2 F2 → Ev l X M_Mo_join2 rc66 rs66 69 [(0, .ref r0), (1, .int i1), (2, .int i2), (3, .int i3), (4, .int i4), (5, .int i5)] (v2.toList ++ []) n2 F2 (ev_mq X Q)) :
    Ev l X M_Mo_join2 bc bs 62 [(0, .ref r0), (1, .int i1), (2, .int i2), (3, .int i3), (4, .int i4), (5, .int i5)] [] n F (ev_mq X Q) := by
  refine ev_aload_n (pc := 62) d_Mo_join2_62 rfl ?_
  refine ev_iload (pc := 63) d_Mo_join2_63 rfl ?_
  refine ev_iload_n (pc := 65) d_Mo_join2_65 rfl ?_
  exact ev_invokevirtual (pc := 66) (As := [.int i4, .int i2]) (st := []) (Q2 := Q66) M_Mo_copyRow rC11 d_Mo_join2_66 lc_Mo_180 wd_1092 wd_s39 rfl h_r0 rfl rfl (Nat.le_of_ble_eq_true rfl) (Nat.le_of_ble_eq_true rfl) (Nat.le_of_ble_eq_true rfl) hb_rc66 hs_rs66 c66_0 k69_1

set_option maxRecDepth 100000 in
set_option maxHeartbeats 4000000 in
theorem s_Mo_join2_90 {l : Launch} {X : ev_X} {bc bs n : Nat} {F : ev_H} {Q : Option Value → Nat → ev_H → Prop} {r0 : Nat} {i1 : Int32} {i2 : Int32} {i3 : Int32} {i4 : Int32} {i5 : Int32} {rs0 : Nat} {is1 : Int32} {is2 : Int32} {rs0_n : Nat} {rs0_f : Nat → Int32} (h_rs0 : F rs0 = some (.inl (0, rs0_n, .inl rs0_f)))
    (in90_0 : vp_in is1 rs0_n)
    (k103_1 : (i5 = 0) → Ev l X M_Mo_join2 bc bs 103 [(0, .ref r0), (1, .int i1), (2, .int i2), (3, .int i3), (4, .int i4), (5, .int i5)] [.int i3] n (ev_up F rs0 (.inl (0, rs0_n, .inl (upd rs0_f is1.toNatClampNeg is2)))) (ev_mq X Q))
    (k103_2 : (¬ i5 = 0) → Ev l X M_Mo_join2 bc bs 103 [(0, .ref r0), (1, .int i1), (2, .int i2), (3, .int i3), (4, .int i4), (5, .int i5)] [.int (i3 + 1)] n (ev_up F rs0 (.inl (0, rs0_n, .inl (upd rs0_f is1.toNatClampNeg is2)))) (ev_mq X Q)) :
    Ev l X M_Mo_join2 bc bs 90 [(0, .ref r0), (1, .int i1), (2, .int i2), (3, .int i3), (4, .int i4), (5, .int i5)] [.int is2, .int is1, .ref rs0] n F (ev_mq X Q) := by
  refine ev_iastore (pc := 90) d_Mo_join2_90 h_rs0 rfl in90_0 (fun F1_ hF1_ => ?_)
  have g2_ : F1_ rs0 = some (.inl (0, rs0_n, .inl (upd rs0_f is1.toNatClampNeg is2))) := by rw [← hF1_]; exact ev_up_s
  refine ev_iload (pc := 91) d_Mo_join2_91 rfl ?_
  refine ev_if_eq (pc := 93) 102 d_Mo_join2_93 (by decide) (fun c93 => ?_) (fun c93 => ?_)
  · refine ev_iload_n (pc := 102) d_Mo_join2_102 rfl ?_
    exact (by subst hF1_; exact (k103_1 c93))
  · refine ev_iload_n (pc := 96) d_Mo_join2_96 rfl ?_
    refine ev_iconst (pc := 97) 1 d_Mo_join2_97 (by decide) ?_
    refine ev_iadd (pc := 98) d_Mo_join2_98 ?_
    refine ev_goto (pc := 99) 103 d_Mo_join2_99 (by decide) ?_
    exact (by subst hF1_; exact (k103_2 c93))

set_option maxRecDepth 100000 in
set_option maxHeartbeats 4000000 in
theorem s_Mo_join2_103 {l : Launch} {X : ev_X} {bc bs n : Nat} {F : ev_H} {Q : Option Value → Nat → ev_H → Prop} {r0 : Nat} {i1 : Int32} {i2 : Int32} {i3 : Int32} {i4 : Int32} {i5 : Int32} {is0 : Int32} 
    (k7_0 : Ev l X M_Mo_join2 bc bs 7 [(0, .ref r0), (1, .int i1), (2, .int (i2 + 1)), (3, .int is0), (4, .int (i4 + 1))] [] n F (ev_mq X Q)) :
    Ev l X M_Mo_join2 bc bs 103 [(0, .ref r0), (1, .int i1), (2, .int i2), (3, .int i3), (4, .int i4), (5, .int i5)] [.int is0] n F (ev_mq X Q) := by
  refine ev_istore_n (pc := 103) d_Mo_join2_103 (Nat.le_of_ble_eq_true rfl) [1, 2, 3, 0, 4, 5] rfl ?_
  refine ev_iinc (pc := 104) 2 1 d_Mo_join2_104 rfl (by decide) (Nat.le_of_ble_eq_true rfl) [1, 2, 0, 3, 4, 5] rfl ?_
  refine ev_iinc (pc := 107) 4 1 d_Mo_join2_107 rfl (by decide) (Nat.le_of_ble_eq_true rfl) [1, 2, 3, 4, 0, 5] rfl ?_
  refine ev_goto (pc := 110) 7 d_Mo_join2_110 (by decide) ?_
  exact Ev.sub [0, 1, 2, 3, 4] rfl k7_0

set_option maxRecDepth 100000 in
set_option maxHeartbeats 4000000 in
theorem s_Mo_join2_132 {l : Launch} {X : ev_X} {bc bs n : Nat} {F : ev_H} {Q : Option Value → Nat → ev_H → Prop} {r0 : Nat} {i1 : Int32} {i2 : Int32} {i3 : Int32} {i4 : Int32} {i5 : Int32} {ir0_drafted : Int32} {ir0_rows : Int32} {ir0_segments : Int32} {ir0_stopped : Int32} {ir0_fuse : Int32} {ir0_written : Int32} {ir0_tokens : Int32} {ir0_height : Int32} {ir0_results : Int32} {ir0_weighed : Int32} {r0p6_f : Nat → Int32} (h_r0 : F r0 = some (moO r0 ir0_drafted ir0_rows ir0_segments ir0_stopped ir0_fuse ir0_written ir0_tokens ir0_height ir0_results ir0_weighed)) (h_r0p6 : F (r0 + 6) = some (.inl (0, 80, .inl r0p6_f)))
    (q198_0 : (ir0_rows ≤ i5) → Q none n (ev_up F r0 (moO r0 ir0_drafted ir0_rows (ir0_segments - i4) ir0_stopped ir0_fuse ir0_written ir0_tokens ir0_height ir0_results ir0_weighed)))
    (in153_1 : (¬ ir0_rows ≤ i5) → vp_in i5 80)
    (in179_2 : (¬ ir0_rows ≤ i5) → ((r0p6_f i5.toNatClampNeg) ≤ (i1 + 1)) → vp_in i5 80)
    (in180_3 : (¬ ir0_rows ≤ i5) → ((r0p6_f i5.toNatClampNeg) ≤ (i1 + 1)) → vp_in i5 80)
    (k132_4 : (¬ ir0_rows ≤ i5) → ((r0p6_f i5.toNatClampNeg) ≤ (i1 + 1)) → Ev l X M_Mo_join2 bc bs 132 [(0, .ref r0), (1, .int i1), (2, .int i2), (3, .int i3), (4, .int i4), (5, .int (i5 + 1))] [] n (ev_up F (r0 + 6) (.inl (0, 80, .inl (upd r0p6_f i5.toNatClampNeg (r0p6_f i5.toNatClampNeg))))) (ev_mq X Q))
    (in166_5 : (¬ ir0_rows ≤ i5) → (¬ (r0p6_f i5.toNatClampNeg) ≤ (i1 + 1)) → vp_in i5 80)
    (in180_6 : (¬ ir0_rows ≤ i5) → (¬ (r0p6_f i5.toNatClampNeg) ≤ (i1 + 1)) → vp_in i5 80)
    (k132_7 : (¬ ir0_rows ≤ i5) → (¬ (r0p6_f i5.toNatClampNeg) ≤ (i1 + 1)) → Ev l X M_Mo_join2 bc bs 132 [(0, .ref r0), (1, .int i1), (2, .int i2), (3, .int i3), (4, .int i4), (5, .int (i5 + 1))] [] n (ev_up F (r0 + 6) (.inl (0, 80, .inl (upd r0p6_f i5.toNatClampNeg ((r0p6_f i5.toNatClampNeg) - i4))))) (ev_mq X Q)) :
    Ev l X M_Mo_join2 bc bs 132 [(0, .ref r0), (1, .int i1), (2, .int i2), (3, .int i3), (4, .int i4), (5, .int i5)] [] n F (ev_mq X Q) := by
  refine ev_iload (pc := 132) d_Mo_join2_132 rfl ?_
  refine ev_aload_n (pc := 134) d_Mo_join2_134 rfl ?_
  refine ev_getfield (pc := 135) 5 d_Mo_join2_135 fl_Mo_158 h_r0 rfl ?_
  refine ev_icmp_ge (pc := 138) 187 d_Mo_join2_138 (by decide) (fun c138 => ?_) (fun c138 => ?_)
  · refine ev_aload_n (pc := 187) d_Mo_join2_187 rfl ?_
    refine ev_dup (pc := 188) d_Mo_join2_188 rfl ?_
    refine ev_getfield (pc := 189) 11 d_Mo_join2_189 fl_Mo_161 h_r0 rfl ?_
    refine ev_iload (pc := 192) d_Mo_join2_192 rfl ?_
    refine ev_isub (pc := 194) d_Mo_join2_194 ?_
    refine ev_putfield (pc := 195) 11 _ d_Mo_join2_195 fl_Mo_161 h_r0 pf_11_segments rfl rfl (Nat.le_of_ble_eq_true rfl) (fun F1_ hF1_ => ?_)
    have g2_ : F1_ r0 = some (moO r0 ir0_drafted ir0_rows (ir0_segments - i4) ir0_stopped ir0_fuse ir0_written ir0_tokens ir0_height ir0_results ir0_weighed) := by rw [← hF1_]; exact ev_up_s
    exact ev_return (pc := 198) d_Mo_join2_198 rfl (by subst hF1_; exact (q198_0 c138))
  · refine ev_aload_n (pc := 141) d_Mo_join2_141 rfl ?_
    refine ev_getfield (pc := 142) 7 d_Mo_join2_142 fl_Mo_26 h_r0 rfl ?_
    refine ev_iload (pc := 145) d_Mo_join2_145 rfl ?_
    refine ev_aload_n (pc := 147) d_Mo_join2_147 rfl ?_
    refine ev_getfield (pc := 148) 7 d_Mo_join2_148 fl_Mo_26 h_r0 rfl ?_
    refine ev_iload (pc := 151) d_Mo_join2_151 rfl ?_
    refine ev_iaload (pc := 153) d_Mo_join2_153 h_r0p6 rfl (in153_1 c138) ?_
    refine ev_iload_n (pc := 154) d_Mo_join2_154 rfl ?_
    refine ev_iconst (pc := 155) 1 d_Mo_join2_155 (by decide) ?_
    refine ev_iadd (pc := 156) d_Mo_join2_156 ?_
    refine ev_icmp_le (pc := 157) 173 d_Mo_join2_157 (by decide) (fun c157 => ?_) (fun c157 => ?_)
    · refine ev_aload_n (pc := 173) d_Mo_join2_173 rfl ?_
      refine ev_getfield (pc := 174) 7 d_Mo_join2_174 fl_Mo_26 h_r0 rfl ?_
      refine ev_iload (pc := 177) d_Mo_join2_177 rfl ?_
      refine ev_iaload (pc := 179) d_Mo_join2_179 h_r0p6 rfl (in179_2 c138 c157) ?_
      refine ev_iastore (pc := 180) d_Mo_join2_180 h_r0p6 rfl (in180_3 c138 c157) (fun F3_ hF3_ => ?_)
      have g4_ : F3_ r0 = some (moO r0 ir0_drafted ir0_rows ir0_segments ir0_stopped ir0_fuse ir0_written ir0_tokens ir0_height ir0_results ir0_weighed) := by rw [← hF3_]; exact ev_up_k (ev_ne_oa h_r0 h_r0p6) h_r0
      have g5_ : F3_ (r0 + 6) = some (.inl (0, 80, .inl (upd r0p6_f i5.toNatClampNeg (r0p6_f i5.toNatClampNeg)))) := by rw [← hF3_]; exact ev_up_s
      refine ev_iinc (pc := 181) 5 1 d_Mo_join2_181 rfl (by decide) (Nat.le_of_ble_eq_true rfl) [1, 2, 3, 4, 5, 0] rfl ?_
      refine ev_goto (pc := 184) 132 d_Mo_join2_184 (by decide) ?_
      exact (by subst hF3_; exact (k132_4 c138 c157))
    · refine ev_aload_n (pc := 160) d_Mo_join2_160 rfl ?_
      refine ev_getfield (pc := 161) 7 d_Mo_join2_161 fl_Mo_26 h_r0 rfl ?_
      refine ev_iload (pc := 164) d_Mo_join2_164 rfl ?_
      refine ev_iaload (pc := 166) d_Mo_join2_166 h_r0p6 rfl (in166_5 c138 c157) ?_
      refine ev_iload (pc := 167) d_Mo_join2_167 rfl ?_
      refine ev_isub (pc := 169) d_Mo_join2_169 ?_
      refine ev_goto (pc := 170) 180 d_Mo_join2_170 (by decide) ?_
      refine ev_iastore (pc := 180) d_Mo_join2_180 h_r0p6 rfl (in180_6 c138 c157) (fun F6_ hF6_ => ?_)
      have g7_ : F6_ r0 = some (moO r0 ir0_drafted ir0_rows ir0_segments ir0_stopped ir0_fuse ir0_written ir0_tokens ir0_height ir0_results ir0_weighed) := by rw [← hF6_]; exact ev_up_k (ev_ne_oa h_r0 h_r0p6) h_r0
      have g8_ : F6_ (r0 + 6) = some (.inl (0, 80, .inl (upd r0p6_f i5.toNatClampNeg ((r0p6_f i5.toNatClampNeg) - i4)))) := by rw [← hF6_]; exact ev_up_s
      refine ev_iinc (pc := 181) 5 1 d_Mo_join2_181 rfl (by decide) (Nat.le_of_ble_eq_true rfl) [1, 2, 3, 4, 5, 0] rfl ?_
      refine ev_goto (pc := 184) 132 d_Mo_join2_184 (by decide) ?_
      exact (by subst hF6_; exact (k132_7 c138 c157))

set_option maxRecDepth 100000 in
set_option maxHeartbeats 4000000 in
theorem s_Mo_join2_69 {l : Launch} {X : ev_X} {bc bs n : Nat} {F : ev_H} {Q : Option Value → Nat → ev_H → Prop} {r0 : Nat} {i1 : Int32} {i2 : Int32} {i3 : Int32} {i4 : Int32} {i5 : Int32} {ir0_drafted : Int32} {ir0_rows : Int32} {ir0_segments : Int32} {ir0_stopped : Int32} {ir0_fuse : Int32} {ir0_written : Int32} {ir0_tokens : Int32} {ir0_height : Int32} {ir0_results : Int32} {ir0_weighed : Int32} {r0p6_f : Nat → Int32} (h_r0 : F r0 = some (moO r0 ir0_drafted ir0_rows ir0_segments ir0_stopped ir0_fuse ir0_written ir0_tokens ir0_height ir0_results ir0_weighed)) (h_r0p6 : F (r0 + 6) = some (.inl (0, 80, .inl r0p6_f)))
    (in89_0 : (i5 = 0) → vp_in i4 80)
    (k90_1 : (i5 = 0) → Ev l X M_Mo_join2 bc bs 90 [(0, .ref r0), (1, .int i1), (2, .int i2), (3, .int i3), (4, .int i4), (5, .int i5)] [.int (r0p6_f i4.toNatClampNeg), .int i2, .ref (r0 + 6)] n F (ev_mq X Q))
    (k90_2 : (¬ i5 = 0) → Ev l X M_Mo_join2 bc bs 90 [(0, .ref r0), (1, .int i1), (2, .int i2), (3, .int i3), (4, .int i4), (5, .int i5)] [.int i1, .int i2, .ref (r0 + 6)] n F (ev_mq X Q)) :
    Ev l X M_Mo_join2 bc bs 69 [(0, .ref r0), (1, .int i1), (2, .int i2), (3, .int i3), (4, .int i4), (5, .int i5)] [] n F (ev_mq X Q) := by
  refine ev_aload_n (pc := 69) d_Mo_join2_69 rfl ?_
  refine ev_getfield (pc := 70) 7 d_Mo_join2_70 fl_Mo_26 h_r0 rfl ?_
  refine ev_iload_n (pc := 73) d_Mo_join2_73 rfl ?_
  refine ev_iload (pc := 74) d_Mo_join2_74 rfl ?_
  refine ev_if_eq (pc := 76) 83 d_Mo_join2_76 (by decide) (fun c76 => ?_) (fun c76 => ?_)
  · refine ev_aload_n (pc := 83) d_Mo_join2_83 rfl ?_
    refine ev_getfield (pc := 84) 7 d_Mo_join2_84 fl_Mo_26 h_r0 rfl ?_
    refine ev_iload (pc := 87) d_Mo_join2_87 rfl ?_
    refine ev_iaload (pc := 89) d_Mo_join2_89 h_r0p6 rfl (in89_0 c76) ?_
    exact (k90_1 c76)
  · refine ev_iload_n (pc := 79) d_Mo_join2_79 rfl ?_
    refine ev_goto (pc := 80) 90 d_Mo_join2_80 (by decide) ?_
    exact (k90_2 c76)
set_option maxRecDepth 100000 in
set_option maxHeartbeats 4000000 in
theorem s_Mo_fuse_0 {l : Launch} {X : ev_X} {bc bs n : Nat} {F : ev_H} {Q : Option Value → Nat → ev_H → Prop} {r0 : Nat} {i1 : Int32} {ir0_drafted : Int32} {ir0_rows : Int32} {ir0_segments : Int32} {ir0_stopped : Int32} {ir0_fuse : Int32} {ir0_written : Int32} {ir0_tokens : Int32} {ir0_height : Int32} {ir0_results : Int32} {ir0_weighed : Int32} (h_r0 : F r0 = some (moO r0 ir0_drafted ir0_rows ir0_segments ir0_stopped ir0_fuse ir0_written ir0_tokens ir0_height ir0_results ir0_weighed))
    (q19_0 : (¬ ir0_stopped = 0) → Q (some (.int 0)) n F)
    (q19_1 : (ir0_stopped = 0) → (i1 < 1) → Q (some (.int 0)) n F)
    (q26_2 : (ir0_stopped = 0) → (¬ i1 < 1) → (i1 ≤ 100) → Q (some (.int 1)) n (ev_up F r0 (moO r0 ir0_drafted ir0_rows ir0_segments ir0_stopped i1 ir0_written ir0_tokens ir0_height ir0_results ir0_weighed)))
    (q19_3 : (ir0_stopped = 0) → (¬ i1 < 1) → (¬ i1 ≤ 100) → Q (some (.int 0)) n F) :
    Ev l X M_Mo_fuse bc bs 0 [(0, .ref r0), (1, .int i1)] [] n F (ev_mq X Q) := by
  refine ev_aload_n (pc := 0) d_Mo_fuse_0 rfl ?_
  refine ev_getfield (pc := 1) 12 d_Mo_fuse_1 fl_Mo_131 h_r0 rfl ?_
  refine ev_if_ne (pc := 4) 18 d_Mo_fuse_4 (by decide) (fun c4 => ?_) (fun c4 => ?_)
  · refine ev_iconst (pc := 18) 0 d_Mo_fuse_18 (by decide) ?_
    exact ev_ireturn (pc := 19) d_Mo_fuse_19 rfl rfl (q19_0 c4)
  · refine ev_iload_n (pc := 7) d_Mo_fuse_7 rfl ?_
    refine ev_iconst (pc := 8) 1 d_Mo_fuse_8 (by decide) ?_
    refine ev_icmp_lt (pc := 9) 18 d_Mo_fuse_9 (by decide) (fun c9 => ?_) (fun c9 => ?_)
    · refine ev_iconst (pc := 18) 0 d_Mo_fuse_18 (by decide) ?_
      exact ev_ireturn (pc := 19) d_Mo_fuse_19 rfl rfl (q19_1 c4 c9)
    · refine ev_iload_n (pc := 12) d_Mo_fuse_12 rfl ?_
      refine ev_bipush (pc := 13) 100 d_Mo_fuse_13 (by decide) ?_
      refine ev_icmp_le (pc := 15) 20 d_Mo_fuse_15 (by decide) (fun c15 => ?_) (fun c15 => ?_)
      · refine ev_aload_n (pc := 20) d_Mo_fuse_20 rfl ?_
        refine ev_iload_n (pc := 21) d_Mo_fuse_21 rfl ?_
        refine ev_putfield (pc := 22) 13 _ d_Mo_fuse_22 fl_Mo_152 h_r0 pf_11_fuse rfl rfl (Nat.le_of_ble_eq_true rfl) (fun F1_ hF1_ => ?_)
        have g2_ : F1_ r0 = some (moO r0 ir0_drafted ir0_rows ir0_segments ir0_stopped i1 ir0_written ir0_tokens ir0_height ir0_results ir0_weighed) := by rw [← hF1_]; exact ev_up_s
        refine ev_iconst (pc := 25) 1 d_Mo_fuse_25 (by decide) ?_
        exact ev_ireturn (pc := 26) d_Mo_fuse_26 rfl rfl (by subst hF1_; exact (q26_2 c4 c9 c15))
      · refine ev_iconst (pc := 18) 0 d_Mo_fuse_18 (by decide) ?_
        exact ev_ireturn (pc := 19) d_Mo_fuse_19 rfl rfl (q19_3 c4 c9 c15)
set_option maxRecDepth 100000 in
set_option maxHeartbeats 4000000 in
theorem s_Mo_restart_0 {l : Launch} {X : ev_X} {bc bs n : Nat} {F : ev_H} {Q : Option Value → Nat → ev_H → Prop} {r0 : Nat} {ir0_drafted : Int32} {ir0_rows : Int32} {ir0_segments : Int32} {ir0_stopped : Int32} {ir0_fuse : Int32} {ir0_written : Int32} {ir0_tokens : Int32} {ir0_height : Int32} {ir0_results : Int32} {ir0_weighed : Int32} (h_r0 : F r0 = some (moO r0 ir0_drafted ir0_rows ir0_segments ir0_stopped ir0_fuse ir0_written ir0_tokens ir0_height ir0_results ir0_weighed))
    (q11_0 : Q (some (.int ir0_stopped)) n (ev_up F r0 (moO r0 ir0_drafted ir0_rows ir0_segments 0 ir0_fuse ir0_written ir0_tokens ir0_height ir0_results ir0_weighed)))
    (nr11_1 : narrow .boolean (.int ir0_stopped) = .int ir0_stopped) :
    Ev l X M_Mo_restart bc bs 0 [(0, .ref r0)] [] n F (ev_mq X Q) := by
  refine ev_aload_n (pc := 0) d_Mo_restart_0 rfl ?_
  refine ev_getfield (pc := 1) 12 d_Mo_restart_1 fl_Mo_131 h_r0 rfl ?_
  refine ev_istore_n (pc := 4) d_Mo_restart_4 (Nat.le_of_ble_eq_true rfl) [1, 0] rfl ?_
  refine ev_aload_n (pc := 5) d_Mo_restart_5 rfl ?_
  refine ev_iconst (pc := 6) 0 d_Mo_restart_6 (by decide) ?_
  refine ev_putfield (pc := 7) 12 _ d_Mo_restart_7 fl_Mo_131 h_r0 pf_11_stopped rfl rfl (Nat.le_of_ble_eq_true rfl) (fun F1_ hF1_ => ?_)
  have g2_ : F1_ r0 = some (moO r0 ir0_drafted ir0_rows ir0_segments 0 ir0_fuse ir0_written ir0_tokens ir0_height ir0_results ir0_weighed) := by rw [← hF1_]; exact ev_up_s
  refine ev_iload_n (pc := 10) d_Mo_restart_10 rfl ?_
  exact ev_ireturn (pc := 11) d_Mo_restart_11 rfl nr11_1 (by subst hF1_; exact q11_0)
