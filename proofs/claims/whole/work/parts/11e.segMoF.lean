set_option maxRecDepth 100000 in
set_option maxHeartbeats 4000000 in
theorem s_Mo_init_0 {l : Launch} {X : ev_X} {bc bs n : Nat} {F : ev_H} {Q : Option Value → Nat → ev_H → Prop} {r0 : Nat} {rc7 : Nat} {rs7 : Nat} {ir0_drafted : Int32} {ir0_rows : Int32} {ir0_segments : Int32} {ir0_stopped : Int32} {ir0_fuse : Int32} {ir0_written : Int32} {ir0_tokens : Int32} {ir0_height : Int32} {ir0_results : Int32} {ir0_weighed : Int32} {rc15 : Nat} {rs15 : Nat} {rc23 : Nat} {rs23 : Nat} {rc32 : Nat} {rs32 : Nat} {rc40 : Nat} {rs40 : Nat} {rc48 : Nat} {rs48 : Nat} {rc56 : Nat} {rs56 : Nat} {rc64 : Nat} {rs64 : Nat} {rc73 : Nat} {rs73 : Nat} {rc82 : Nat} {rs82 : Nat} {rc91 : Nat} {rs91 : Nat} {rc99 : Nat} {rs99 : Nat} {rc107 : Nat} {rs107 : Nat} {rc115 : Nat} {rs115 : Nat} {rc123 : Nat} {rs123 : Nat} {rc131 : Nat} {rs131 : Nat} {rc139 : Nat} {rs139 : Nat} {rc147 : Nat} {rs147 : Nat} {rc155 : Nat} {rs155 : Nat} (hb_rc7 : rc7 + 1 ≤ bc) (hs_rs7 : rs7 + 12 ≤ bs) (h_r0 : F r0 = some (moO r0 ir0_drafted ir0_rows ir0_segments ir0_stopped ir0_fuse ir0_written ir0_tokens ir0_height ir0_results ir0_weighed)) (hb_rc15 : rc15 + 1 ≤ rc7) (hs_rs15 : rs15 + 12 ≤ rs7) (hb_rc23 : rc23 + 1 ≤ rc15) (hs_rs23 : rs23 + 12 ≤ rs15) (hb_rc32 : rc32 + 1 ≤ rc23) (hs_rs32 : rs32 + 144 ≤ rs23) (hb_rc40 : rc40 + 1 ≤ rc32) (hs_rs40 : rs40 + 80 ≤ rs32) (hb_rc48 : rc48 + 1 ≤ rc40) (hs_rs48 : rs48 + 80 ≤ rs40) (hb_rc56 : rc56 + 1 ≤ rc48) (hs_rs56 : rs56 + 80 ≤ rs48) (hb_rc64 : rc64 + 1 ≤ rc56) (hs_rs64 : rs64 + 80 ≤ rs56) (hb_rc73 : rc73 + 1 ≤ rc64) (hs_rs73 : rs73 + 960 ≤ rs64) (hb_rc82 : rc82 + 1 ≤ rc73) (hs_rs82 : rs82 + 520 ≤ rs73) (hb_rc91 : rc91 + 1 ≤ rc82) (hs_rs91 : rs91 + 520 ≤ rs82) (hb_rc99 : rc99 + 1 ≤ rc91) (hs_rs99 : rs99 + 8 ≤ rs91) (hb_rc107 : rc107 + 1 ≤ rc99) (hs_rs107 : rs107 + 8 ≤ rs99) (hb_rc115 : rc115 + 1 ≤ rc107) (hs_rs115 : rs115 + 8 ≤ rs107) (hb_rc123 : rc123 + 1 ≤ rc115) (hs_rs123 : rs123 + 12 ≤ rs115) (hb_rc131 : rc131 + 1 ≤ rc123) (hs_rs131 : rs131 + 12 ≤ rs123) (hb_rc139 : rc139 + 1 ≤ rc131) (hs_rs139 : rs139 + 12 ≤ rs131) (hb_rc147 : rc147 + 1 ≤ rc139) (hs_rs147 : rs147 + 12 ≤ rs139) (hb_rc155 : rc155 + 1 ≤ rc147) (hs_rs155 : rs155 + 12 ≤ rs147)
    (q160_0 : Q none (n + 19) (ev_up (ev_up (ev_up (ev_up (ev_up (ev_up (ev_up (ev_up (ev_up (ev_up (ev_up (ev_up (ev_up (ev_up (ev_up (ev_up (ev_up (ev_up (ev_up (ev_up (ev_up (ev_up (ev_up (ev_up (ev_up (ev_up (ev_up (ev_up (ev_up (ev_up (ev_up (ev_up (ev_up (ev_up (ev_up (ev_up (ev_up (ev_up F n (.inl (1, 12, .inr (.inl (fun _ => 0))))) r0 (.inr (11, [.ref n, .int ir0_drafted, .ref (r0 + 2), .ref (r0 + 3), .ref (r0 + 4), .int ir0_rows, .ref (r0 + 5), .ref (r0 + 6), .ref (r0 + 7), .ref (r0 + 8), .ref (r0 + 9), .int ir0_segments, .int ir0_stopped, .int ir0_fuse, .int ir0_written, .int ir0_tokens, .ref (r0 + 10), .ref (r0 + 11), .int ir0_height, .ref (r0 + 12), .ref (r0 + 13), .ref (r0 + 14), .int ir0_results, .ref (r0 + 15), .ref (r0 + 16), .int ir0_weighed, .ref (r0 + 17), .ref (r0 + 18), .ref (r0 + 19)]))) (n + 1) (.inl (0, 12, .inl (fun _ => 0)))) r0 (.inr (11, [.ref n, .int ir0_drafted, .ref (n + 1), .ref (r0 + 3), .ref (r0 + 4), .int ir0_rows, .ref (r0 + 5), .ref (r0 + 6), .ref (r0 + 7), .ref (r0 + 8), .ref (r0 + 9), .int ir0_segments, .int ir0_stopped, .int ir0_fuse, .int ir0_written, .int ir0_tokens, .ref (r0 + 10), .ref (r0 + 11), .int ir0_height, .ref (r0 + 12), .ref (r0 + 13), .ref (r0 + 14), .int ir0_results, .ref (r0 + 15), .ref (r0 + 16), .int ir0_weighed, .ref (r0 + 17), .ref (r0 + 18), .ref (r0 + 19)]))) (n + 2) (.inl (0, 12, .inl (fun _ => 0)))) r0 (.inr (11, [.ref n, .int ir0_drafted, .ref (n + 1), .ref (n + 2), .ref (r0 + 4), .int ir0_rows, .ref (r0 + 5), .ref (r0 + 6), .ref (r0 + 7), .ref (r0 + 8), .ref (r0 + 9), .int ir0_segments, .int ir0_stopped, .int ir0_fuse, .int ir0_written, .int ir0_tokens, .ref (r0 + 10), .ref (r0 + 11), .int ir0_height, .ref (r0 + 12), .ref (r0 + 13), .ref (r0 + 14), .int ir0_results, .ref (r0 + 15), .ref (r0 + 16), .int ir0_weighed, .ref (r0 + 17), .ref (r0 + 18), .ref (r0 + 19)]))) (n + 3) (.inl (1, 144, .inr (.inl (fun _ => 0))))) r0 (.inr (11, [.ref n, .int ir0_drafted, .ref (n + 1), .ref (n + 2), .ref (n + 3), .int ir0_rows, .ref (r0 + 5), .ref (r0 + 6), .ref (r0 + 7), .ref (r0 + 8), .ref (r0 + 9), .int ir0_segments, .int ir0_stopped, .int ir0_fuse, .int ir0_written, .int ir0_tokens, .ref (r0 + 10), .ref (r0 + 11), .int ir0_height, .ref (r0 + 12), .ref (r0 + 13), .ref (r0 + 14), .int ir0_results, .ref (r0 + 15), .ref (r0 + 16), .int ir0_weighed, .ref (r0 + 17), .ref (r0 + 18), .ref (r0 + 19)]))) (n + 4) (.inl (0, 80, .inl (fun _ => 0)))) r0 (.inr (11, [.ref n, .int ir0_drafted, .ref (n + 1), .ref (n + 2), .ref (n + 3), .int ir0_rows, .ref (n + 4), .ref (r0 + 6), .ref (r0 + 7), .ref (r0 + 8), .ref (r0 + 9), .int ir0_segments, .int ir0_stopped, .int ir0_fuse, .int ir0_written, .int ir0_tokens, .ref (r0 + 10), .ref (r0 + 11), .int ir0_height, .ref (r0 + 12), .ref (r0 + 13), .ref (r0 + 14), .int ir0_results, .ref (r0 + 15), .ref (r0 + 16), .int ir0_weighed, .ref (r0 + 17), .ref (r0 + 18), .ref (r0 + 19)]))) (n + 5) (.inl (0, 80, .inl (fun _ => 0)))) r0 (.inr (11, [.ref n, .int ir0_drafted, .ref (n + 1), .ref (n + 2), .ref (n + 3), .int ir0_rows, .ref (n + 4), .ref (n + 5), .ref (r0 + 7), .ref (r0 + 8), .ref (r0 + 9), .int ir0_segments, .int ir0_stopped, .int ir0_fuse, .int ir0_written, .int ir0_tokens, .ref (r0 + 10), .ref (r0 + 11), .int ir0_height, .ref (r0 + 12), .ref (r0 + 13), .ref (r0 + 14), .int ir0_results, .ref (r0 + 15), .ref (r0 + 16), .int ir0_weighed, .ref (r0 + 17), .ref (r0 + 18), .ref (r0 + 19)]))) (n + 6) (.inl (2, 80, .inl (fun _ => 0)))) r0 (.inr (11, [.ref n, .int ir0_drafted, .ref (n + 1), .ref (n + 2), .ref (n + 3), .int ir0_rows, .ref (n + 4), .ref (n + 5), .ref (n + 6), .ref (r0 + 8), .ref (r0 + 9), .int ir0_segments, .int ir0_stopped, .int ir0_fuse, .int ir0_written, .int ir0_tokens, .ref (r0 + 10), .ref (r0 + 11), .int ir0_height, .ref (r0 + 12), .ref (r0 + 13), .ref (r0 + 14), .int ir0_results, .ref (r0 + 15), .ref (r0 + 16), .int ir0_weighed, .ref (r0 + 17), .ref (r0 + 18), .ref (r0 + 19)]))) (n + 7) (.inl (0, 80, .inl (fun _ => 0)))) r0 (.inr (11, [.ref n, .int ir0_drafted, .ref (n + 1), .ref (n + 2), .ref (n + 3), .int ir0_rows, .ref (n + 4), .ref (n + 5), .ref (n + 6), .ref (n + 7), .ref (r0 + 9), .int ir0_segments, .int ir0_stopped, .int ir0_fuse, .int ir0_written, .int ir0_tokens, .ref (r0 + 10), .ref (r0 + 11), .int ir0_height, .ref (r0 + 12), .ref (r0 + 13), .ref (r0 + 14), .int ir0_results, .ref (r0 + 15), .ref (r0 + 16), .int ir0_weighed, .ref (r0 + 17), .ref (r0 + 18), .ref (r0 + 19)]))) (n + 8) (.inl (1, 960, .inr (.inl (fun _ => 0))))) r0 (.inr (11, [.ref n, .int ir0_drafted, .ref (n + 1), .ref (n + 2), .ref (n + 3), .int ir0_rows, .ref (n + 4), .ref (n + 5), .ref (n + 6), .ref (n + 7), .ref (n + 8), .int ir0_segments, .int ir0_stopped, .int ir0_fuse, .int ir0_written, .int ir0_tokens, .ref (r0 + 10), .ref (r0 + 11), .int ir0_height, .ref (r0 + 12), .ref (r0 + 13), .ref (r0 + 14), .int ir0_results, .ref (r0 + 15), .ref (r0 + 16), .int ir0_weighed, .ref (r0 + 17), .ref (r0 + 18), .ref (r0 + 19)]))) (n + 9) (.inl (0, 520, .inl (fun _ => 0)))) r0 (.inr (11, [.ref n, .int ir0_drafted, .ref (n + 1), .ref (n + 2), .ref (n + 3), .int ir0_rows, .ref (n + 4), .ref (n + 5), .ref (n + 6), .ref (n + 7), .ref (n + 8), .int ir0_segments, .int ir0_stopped, .int ir0_fuse, .int ir0_written, .int ir0_tokens, .ref (n + 9), .ref (r0 + 11), .int ir0_height, .ref (r0 + 12), .ref (r0 + 13), .ref (r0 + 14), .int ir0_results, .ref (r0 + 15), .ref (r0 + 16), .int ir0_weighed, .ref (r0 + 17), .ref (r0 + 18), .ref (r0 + 19)]))) (n + 10) (.inl (1, 520, .inr (.inl (fun _ => 0))))) r0 (.inr (11, [.ref n, .int ir0_drafted, .ref (n + 1), .ref (n + 2), .ref (n + 3), .int ir0_rows, .ref (n + 4), .ref (n + 5), .ref (n + 6), .ref (n + 7), .ref (n + 8), .int ir0_segments, .int ir0_stopped, .int ir0_fuse, .int ir0_written, .int ir0_tokens, .ref (n + 9), .ref (n + 10), .int ir0_height, .ref (r0 + 12), .ref (r0 + 13), .ref (r0 + 14), .int ir0_results, .ref (r0 + 15), .ref (r0 + 16), .int ir0_weighed, .ref (r0 + 17), .ref (r0 + 18), .ref (r0 + 19)]))) (n + 11) (.inl (2, 8, .inl (fun _ => 0)))) r0 (.inr (11, [.ref n, .int ir0_drafted, .ref (n + 1), .ref (n + 2), .ref (n + 3), .int ir0_rows, .ref (n + 4), .ref (n + 5), .ref (n + 6), .ref (n + 7), .ref (n + 8), .int ir0_segments, .int ir0_stopped, .int ir0_fuse, .int ir0_written, .int ir0_tokens, .ref (n + 9), .ref (n + 10), .int ir0_height, .ref (n + 11), .ref (r0 + 13), .ref (r0 + 14), .int ir0_results, .ref (r0 + 15), .ref (r0 + 16), .int ir0_weighed, .ref (r0 + 17), .ref (r0 + 18), .ref (r0 + 19)]))) (n + 12) (.inl (0, 8, .inl (fun _ => 0)))) r0 (.inr (11, [.ref n, .int ir0_drafted, .ref (n + 1), .ref (n + 2), .ref (n + 3), .int ir0_rows, .ref (n + 4), .ref (n + 5), .ref (n + 6), .ref (n + 7), .ref (n + 8), .int ir0_segments, .int ir0_stopped, .int ir0_fuse, .int ir0_written, .int ir0_tokens, .ref (n + 9), .ref (n + 10), .int ir0_height, .ref (n + 11), .ref (n + 12), .ref (r0 + 14), .int ir0_results, .ref (r0 + 15), .ref (r0 + 16), .int ir0_weighed, .ref (r0 + 17), .ref (r0 + 18), .ref (r0 + 19)]))) (n + 13) (.inl (2, 8, .inl (fun _ => 0)))) r0 (.inr (11, [.ref n, .int ir0_drafted, .ref (n + 1), .ref (n + 2), .ref (n + 3), .int ir0_rows, .ref (n + 4), .ref (n + 5), .ref (n + 6), .ref (n + 7), .ref (n + 8), .int ir0_segments, .int ir0_stopped, .int ir0_fuse, .int ir0_written, .int ir0_tokens, .ref (n + 9), .ref (n + 10), .int ir0_height, .ref (n + 11), .ref (n + 12), .ref (n + 13), .int ir0_results, .ref (r0 + 15), .ref (r0 + 16), .int ir0_weighed, .ref (r0 + 17), .ref (r0 + 18), .ref (r0 + 19)]))) (n + 14) (.inl (0, 12, .inl (fun _ => 0)))) r0 (.inr (11, [.ref n, .int ir0_drafted, .ref (n + 1), .ref (n + 2), .ref (n + 3), .int ir0_rows, .ref (n + 4), .ref (n + 5), .ref (n + 6), .ref (n + 7), .ref (n + 8), .int ir0_segments, .int ir0_stopped, .int ir0_fuse, .int ir0_written, .int ir0_tokens, .ref (n + 9), .ref (n + 10), .int ir0_height, .ref (n + 11), .ref (n + 12), .ref (n + 13), .int ir0_results, .ref (n + 14), .ref (r0 + 16), .int ir0_weighed, .ref (r0 + 17), .ref (r0 + 18), .ref (r0 + 19)]))) (n + 15) (.inl (1, 12, .inr (.inl (fun _ => 0))))) r0 (.inr (11, [.ref n, .int ir0_drafted, .ref (n + 1), .ref (n + 2), .ref (n + 3), .int ir0_rows, .ref (n + 4), .ref (n + 5), .ref (n + 6), .ref (n + 7), .ref (n + 8), .int ir0_segments, .int ir0_stopped, .int ir0_fuse, .int ir0_written, .int ir0_tokens, .ref (n + 9), .ref (n + 10), .int ir0_height, .ref (n + 11), .ref (n + 12), .ref (n + 13), .int ir0_results, .ref (n + 14), .ref (n + 15), .int ir0_weighed, .ref (r0 + 17), .ref (r0 + 18), .ref (r0 + 19)]))) (n + 16) (.inl (0, 12, .inl (fun _ => 0)))) r0 (.inr (11, [.ref n, .int ir0_drafted, .ref (n + 1), .ref (n + 2), .ref (n + 3), .int ir0_rows, .ref (n + 4), .ref (n + 5), .ref (n + 6), .ref (n + 7), .ref (n + 8), .int ir0_segments, .int ir0_stopped, .int ir0_fuse, .int ir0_written, .int ir0_tokens, .ref (n + 9), .ref (n + 10), .int ir0_height, .ref (n + 11), .ref (n + 12), .ref (n + 13), .int ir0_results, .ref (n + 14), .ref (n + 15), .int ir0_weighed, .ref (n + 16), .ref (r0 + 18), .ref (r0 + 19)]))) (n + 17) (.inl (1, 12, .inr (.inl (fun _ => 0))))) r0 (.inr (11, [.ref n, .int ir0_drafted, .ref (n + 1), .ref (n + 2), .ref (n + 3), .int ir0_rows, .ref (n + 4), .ref (n + 5), .ref (n + 6), .ref (n + 7), .ref (n + 8), .int ir0_segments, .int ir0_stopped, .int ir0_fuse, .int ir0_written, .int ir0_tokens, .ref (n + 9), .ref (n + 10), .int ir0_height, .ref (n + 11), .ref (n + 12), .ref (n + 13), .int ir0_results, .ref (n + 14), .ref (n + 15), .int ir0_weighed, .ref (n + 16), .ref (n + 17), .ref (r0 + 19)]))) (n + 18) (.inl (2, 12, .inl (fun _ => 0)))) r0 (.inr (11, [.ref n, .int ir0_drafted, .ref (n + 1), .ref (n + 2), .ref (n + 3), .int ir0_rows, .ref (n + 4), .ref (n + 5), .ref (n + 6), .ref (n + 7), .ref (n + 8), .int ir0_segments, .int ir0_stopped, .int ir0_fuse, .int ir0_written, .int ir0_tokens, .ref (n + 9), .ref (n + 10), .int ir0_height, .ref (n + 11), .ref (n + 12), .ref (n + 13), .int ir0_results, .ref (n + 14), .ref (n + 15), .int ir0_weighed, .ref (n + 16), .ref (n + 17), .ref (n + 18)])))) :
    Ev l X M_Mo_init bc bs 0 [(0, .ref r0)] [] n F (ev_mq X Q) := by
  refine ev_aload_n (pc := 0) d_Mo_init_0 rfl ?_
  refine ev_objInit (pc := 1) d_Mo_init_1 wd_895 wd_33 wd_34 (Nat.le_of_ble_eq_true rfl) (Nat.le_of_ble_eq_true rfl) ?_
  refine ev_aload_n (pc := 4) d_Mo_init_4 rfl ?_
  refine ev_bipush (pc := 5) 12 d_Mo_init_5 (by decide) ?_
  refine ev_fresh fun fr7 => ?_
  refine ev_newarray (pc := 7) 1 12 (12, .inr (.inl (fun _ => 0))) d_Mo_init_7 wd_85 rfl rfl (fun _ _ h => h) (fun _ => rfl) (by decide) (by decide) (by decide) (bc2 := rc7) (bs2 := rs7) hb_rc7 hs_rs7 (fun F1_ hF1_ => ?_)
  have g2_ : F1_ n = some (.inl (1, 12, .inr (.inl (fun _ => 0)))) := by rw [← hF1_]; exact ev_up_s
  have g3_ : F1_ r0 = some (moO r0 ir0_drafted ir0_rows ir0_segments ir0_stopped ir0_fuse ir0_written ir0_tokens ir0_height ir0_results ir0_weighed) := by rw [← hF1_]; exact ev_up_k (ev_nf h_r0 (fr7 _ (Nat.le_refl _))) h_r0
  refine ev_putfield (pc := 9) 0 _ d_Mo_init_9 fl_Mo_7 g3_ (ev_pfn (r0 := rC11) (ty := (.array .long)) rfl (Or.inr ⟨rfl, rfl, rfl⟩) (by decide +kernel)) rfl rfl (Nat.le_of_ble_eq_true rfl) (fun F4_ hF4_ => ?_)
  have g5_ : F4_ n = some (.inl (1, 12, .inr (.inl (fun _ => 0)))) := by rw [← hF4_]; exact ev_up_k (ev_ne_ao g2_ g3_) g2_
  have g6_ : F4_ r0 = some (.inr (11, [.ref n, .int ir0_drafted, .ref (r0 + 2), .ref (r0 + 3), .ref (r0 + 4), .int ir0_rows, .ref (r0 + 5), .ref (r0 + 6), .ref (r0 + 7), .ref (r0 + 8), .ref (r0 + 9), .int ir0_segments, .int ir0_stopped, .int ir0_fuse, .int ir0_written, .int ir0_tokens, .ref (r0 + 10), .ref (r0 + 11), .int ir0_height, .ref (r0 + 12), .ref (r0 + 13), .ref (r0 + 14), .int ir0_results, .ref (r0 + 15), .ref (r0 + 16), .int ir0_weighed, .ref (r0 + 17), .ref (r0 + 18), .ref (r0 + 19)])) := by rw [← hF4_]; exact ev_up_s
  refine ev_aload_n (pc := 12) d_Mo_init_12 rfl ?_
  refine ev_bipush (pc := 13) 12 d_Mo_init_13 (by decide) ?_
  refine ev_fresh fun fr15 => ?_
  refine ev_newarray (pc := 15) 0 12 (12, .inl (fun _ => 0)) d_Mo_init_15 wd_153 rfl rfl (fun _ _ h => h) (fun _ => rfl) (by decide) (by decide) (by decide) (bc2 := rc15) (bs2 := rs15) hb_rc15 hs_rs15 (fun F7_ hF7_ => ?_)
  have g8_ : F7_ n = some (.inl (1, 12, .inr (.inl (fun _ => 0)))) := by rw [← hF7_]; exact ev_up_k (ev_nf g5_ (fr15 _ (Nat.le_refl _))) g5_
  have g9_ : F7_ r0 = some (.inr (11, [.ref n, .int ir0_drafted, .ref (r0 + 2), .ref (r0 + 3), .ref (r0 + 4), .int ir0_rows, .ref (r0 + 5), .ref (r0 + 6), .ref (r0 + 7), .ref (r0 + 8), .ref (r0 + 9), .int ir0_segments, .int ir0_stopped, .int ir0_fuse, .int ir0_written, .int ir0_tokens, .ref (r0 + 10), .ref (r0 + 11), .int ir0_height, .ref (r0 + 12), .ref (r0 + 13), .ref (r0 + 14), .int ir0_results, .ref (r0 + 15), .ref (r0 + 16), .int ir0_weighed, .ref (r0 + 17), .ref (r0 + 18), .ref (r0 + 19)])) := by rw [← hF7_]; exact ev_up_k (ev_nf g6_ (fr15 _ (Nat.le_refl _))) g6_
  have g10_ : F7_ (n + 1) = some (.inl (0, 12, .inl (fun _ => 0))) := by rw [← hF7_]; exact ev_up_s
  refine ev_putfield (pc := 17) 2 _ d_Mo_init_17 fl_Mo_13 g9_ (ev_pfn (r0 := rC11) (ty := (.array .int)) rfl (Or.inr ⟨rfl, rfl, rfl⟩) (by decide +kernel)) rfl rfl (Nat.le_of_ble_eq_true rfl) (fun F11_ hF11_ => ?_)
  have g12_ : F11_ n = some (.inl (1, 12, .inr (.inl (fun _ => 0)))) := by rw [← hF11_]; exact ev_up_k (ev_ne_ao g8_ g9_) g8_
  have g13_ : F11_ (n + 1) = some (.inl (0, 12, .inl (fun _ => 0))) := by rw [← hF11_]; exact ev_up_k (ev_ne_ao g10_ g9_) g10_
  have g14_ : F11_ r0 = some (.inr (11, [.ref n, .int ir0_drafted, .ref (n + 1), .ref (r0 + 3), .ref (r0 + 4), .int ir0_rows, .ref (r0 + 5), .ref (r0 + 6), .ref (r0 + 7), .ref (r0 + 8), .ref (r0 + 9), .int ir0_segments, .int ir0_stopped, .int ir0_fuse, .int ir0_written, .int ir0_tokens, .ref (r0 + 10), .ref (r0 + 11), .int ir0_height, .ref (r0 + 12), .ref (r0 + 13), .ref (r0 + 14), .int ir0_results, .ref (r0 + 15), .ref (r0 + 16), .int ir0_weighed, .ref (r0 + 17), .ref (r0 + 18), .ref (r0 + 19)])) := by rw [← hF11_]; exact ev_up_s
  refine ev_aload_n (pc := 20) d_Mo_init_20 rfl ?_
  refine ev_bipush (pc := 21) 12 d_Mo_init_21 (by decide) ?_
  refine ev_fresh fun fr23 => ?_
  refine ev_newarray (pc := 23) 0 12 (12, .inl (fun _ => 0)) d_Mo_init_23 wd_153 rfl rfl (fun _ _ h => h) (fun _ => rfl) (by decide) (by decide) (by decide) (bc2 := rc23) (bs2 := rs23) hb_rc23 hs_rs23 (fun F15_ hF15_ => ?_)
  have g16_ : F15_ n = some (.inl (1, 12, .inr (.inl (fun _ => 0)))) := by rw [← hF15_]; exact ev_up_k (ev_nf g12_ (fr23 _ (Nat.le_refl _))) g12_
  have g17_ : F15_ (n + 1) = some (.inl (0, 12, .inl (fun _ => 0))) := by rw [← hF15_]; exact ev_up_k (ev_nf g13_ (fr23 _ (Nat.le_refl _))) g13_
  have g18_ : F15_ r0 = some (.inr (11, [.ref n, .int ir0_drafted, .ref (n + 1), .ref (r0 + 3), .ref (r0 + 4), .int ir0_rows, .ref (r0 + 5), .ref (r0 + 6), .ref (r0 + 7), .ref (r0 + 8), .ref (r0 + 9), .int ir0_segments, .int ir0_stopped, .int ir0_fuse, .int ir0_written, .int ir0_tokens, .ref (r0 + 10), .ref (r0 + 11), .int ir0_height, .ref (r0 + 12), .ref (r0 + 13), .ref (r0 + 14), .int ir0_results, .ref (r0 + 15), .ref (r0 + 16), .int ir0_weighed, .ref (r0 + 17), .ref (r0 + 18), .ref (r0 + 19)])) := by rw [← hF15_]; exact ev_up_k (ev_nf g14_ (fr23 _ (Nat.le_refl _))) g14_
  have g19_ : F15_ (n + 2) = some (.inl (0, 12, .inl (fun _ => 0))) := by rw [← hF15_]; exact ev_up_s
  refine ev_putfield (pc := 25) 3 _ d_Mo_init_25 fl_Mo_17 g18_ (ev_pfn (r0 := rC11) (ty := (.array .int)) rfl (Or.inr ⟨rfl, rfl, rfl⟩) (by decide +kernel)) rfl rfl (Nat.le_of_ble_eq_true rfl) (fun F20_ hF20_ => ?_)
  have g21_ : F20_ n = some (.inl (1, 12, .inr (.inl (fun _ => 0)))) := by rw [← hF20_]; exact ev_up_k (ev_ne_ao g16_ g18_) g16_
  have g22_ : F20_ (n + 1) = some (.inl (0, 12, .inl (fun _ => 0))) := by rw [← hF20_]; exact ev_up_k (ev_ne_ao g17_ g18_) g17_
  have g23_ : F20_ (n + 2) = some (.inl (0, 12, .inl (fun _ => 0))) := by rw [← hF20_]; exact ev_up_k (ev_ne_ao g19_ g18_) g19_
  have g24_ : F20_ r0 = some (.inr (11, [.ref n, .int ir0_drafted, .ref (n + 1), .ref (n + 2), .ref (r0 + 4), .int ir0_rows, .ref (r0 + 5), .ref (r0 + 6), .ref (r0 + 7), .ref (r0 + 8), .ref (r0 + 9), .int ir0_segments, .int ir0_stopped, .int ir0_fuse, .int ir0_written, .int ir0_tokens, .ref (r0 + 10), .ref (r0 + 11), .int ir0_height, .ref (r0 + 12), .ref (r0 + 13), .ref (r0 + 14), .int ir0_results, .ref (r0 + 15), .ref (r0 + 16), .int ir0_weighed, .ref (r0 + 17), .ref (r0 + 18), .ref (r0 + 19)])) := by rw [← hF20_]; exact ev_up_s
  refine ev_aload_n (pc := 28) d_Mo_init_28 rfl ?_
  refine ev_sipush (pc := 29) 144 d_Mo_init_29 (by decide) ?_
  refine ev_fresh fun fr32 => ?_
  refine ev_newarray (pc := 32) 1 144 (144, .inr (.inl (fun _ => 0))) d_Mo_init_32 wd_85 rfl rfl (fun _ _ h => h) (fun _ => rfl) (by decide) (by decide) (by decide) (bc2 := rc32) (bs2 := rs32) hb_rc32 hs_rs32 (fun F25_ hF25_ => ?_)
  have g26_ : F25_ n = some (.inl (1, 12, .inr (.inl (fun _ => 0)))) := by rw [← hF25_]; exact ev_up_k (ev_nf g21_ (fr32 _ (Nat.le_refl _))) g21_
  have g27_ : F25_ (n + 1) = some (.inl (0, 12, .inl (fun _ => 0))) := by rw [← hF25_]; exact ev_up_k (ev_nf g22_ (fr32 _ (Nat.le_refl _))) g22_
  have g28_ : F25_ (n + 2) = some (.inl (0, 12, .inl (fun _ => 0))) := by rw [← hF25_]; exact ev_up_k (ev_nf g23_ (fr32 _ (Nat.le_refl _))) g23_
  have g29_ : F25_ r0 = some (.inr (11, [.ref n, .int ir0_drafted, .ref (n + 1), .ref (n + 2), .ref (r0 + 4), .int ir0_rows, .ref (r0 + 5), .ref (r0 + 6), .ref (r0 + 7), .ref (r0 + 8), .ref (r0 + 9), .int ir0_segments, .int ir0_stopped, .int ir0_fuse, .int ir0_written, .int ir0_tokens, .ref (r0 + 10), .ref (r0 + 11), .int ir0_height, .ref (r0 + 12), .ref (r0 + 13), .ref (r0 + 14), .int ir0_results, .ref (r0 + 15), .ref (r0 + 16), .int ir0_weighed, .ref (r0 + 17), .ref (r0 + 18), .ref (r0 + 19)])) := by rw [← hF25_]; exact ev_up_k (ev_nf g24_ (fr32 _ (Nat.le_refl _))) g24_
  have g30_ : F25_ (n + 3) = some (.inl (1, 144, .inr (.inl (fun _ => 0)))) := by rw [← hF25_]; exact ev_up_s
  refine ev_putfield (pc := 34) 4 _ d_Mo_init_34 fl_Mo_20 g29_ (ev_pfn (r0 := rC11) (ty := (.array .long)) rfl (Or.inr ⟨rfl, rfl, rfl⟩) (by decide +kernel)) rfl rfl (Nat.le_of_ble_eq_true rfl) (fun F31_ hF31_ => ?_)
  have g32_ : F31_ n = some (.inl (1, 12, .inr (.inl (fun _ => 0)))) := by rw [← hF31_]; exact ev_up_k (ev_ne_ao g26_ g29_) g26_
  have g33_ : F31_ (n + 1) = some (.inl (0, 12, .inl (fun _ => 0))) := by rw [← hF31_]; exact ev_up_k (ev_ne_ao g27_ g29_) g27_
  have g34_ : F31_ (n + 2) = some (.inl (0, 12, .inl (fun _ => 0))) := by rw [← hF31_]; exact ev_up_k (ev_ne_ao g28_ g29_) g28_
  have g35_ : F31_ (n + 3) = some (.inl (1, 144, .inr (.inl (fun _ => 0)))) := by rw [← hF31_]; exact ev_up_k (ev_ne_ao g30_ g29_) g30_
  have g36_ : F31_ r0 = some (.inr (11, [.ref n, .int ir0_drafted, .ref (n + 1), .ref (n + 2), .ref (n + 3), .int ir0_rows, .ref (r0 + 5), .ref (r0 + 6), .ref (r0 + 7), .ref (r0 + 8), .ref (r0 + 9), .int ir0_segments, .int ir0_stopped, .int ir0_fuse, .int ir0_written, .int ir0_tokens, .ref (r0 + 10), .ref (r0 + 11), .int ir0_height, .ref (r0 + 12), .ref (r0 + 13), .ref (r0 + 14), .int ir0_results, .ref (r0 + 15), .ref (r0 + 16), .int ir0_weighed, .ref (r0 + 17), .ref (r0 + 18), .ref (r0 + 19)])) := by rw [← hF31_]; exact ev_up_s
  refine ev_aload_n (pc := 37) d_Mo_init_37 rfl ?_
  refine ev_bipush (pc := 38) 80 d_Mo_init_38 (by decide) ?_
  refine ev_fresh fun fr40 => ?_
  refine ev_newarray (pc := 40) 0 80 (80, .inl (fun _ => 0)) d_Mo_init_40 wd_153 rfl rfl (fun _ _ h => h) (fun _ => rfl) (by decide) (by decide) (by decide) (bc2 := rc40) (bs2 := rs40) hb_rc40 hs_rs40 (fun F37_ hF37_ => ?_)
  have g38_ : F37_ n = some (.inl (1, 12, .inr (.inl (fun _ => 0)))) := by rw [← hF37_]; exact ev_up_k (ev_nf g32_ (fr40 _ (Nat.le_refl _))) g32_
  have g39_ : F37_ (n + 1) = some (.inl (0, 12, .inl (fun _ => 0))) := by rw [← hF37_]; exact ev_up_k (ev_nf g33_ (fr40 _ (Nat.le_refl _))) g33_
  have g40_ : F37_ (n + 2) = some (.inl (0, 12, .inl (fun _ => 0))) := by rw [← hF37_]; exact ev_up_k (ev_nf g34_ (fr40 _ (Nat.le_refl _))) g34_
  have g41_ : F37_ (n + 3) = some (.inl (1, 144, .inr (.inl (fun _ => 0)))) := by rw [← hF37_]; exact ev_up_k (ev_nf g35_ (fr40 _ (Nat.le_refl _))) g35_
  have g42_ : F37_ r0 = some (.inr (11, [.ref n, .int ir0_drafted, .ref (n + 1), .ref (n + 2), .ref (n + 3), .int ir0_rows, .ref (r0 + 5), .ref (r0 + 6), .ref (r0 + 7), .ref (r0 + 8), .ref (r0 + 9), .int ir0_segments, .int ir0_stopped, .int ir0_fuse, .int ir0_written, .int ir0_tokens, .ref (r0 + 10), .ref (r0 + 11), .int ir0_height, .ref (r0 + 12), .ref (r0 + 13), .ref (r0 + 14), .int ir0_results, .ref (r0 + 15), .ref (r0 + 16), .int ir0_weighed, .ref (r0 + 17), .ref (r0 + 18), .ref (r0 + 19)])) := by rw [← hF37_]; exact ev_up_k (ev_nf g36_ (fr40 _ (Nat.le_refl _))) g36_
  have g43_ : F37_ (n + 4) = some (.inl (0, 80, .inl (fun _ => 0))) := by rw [← hF37_]; exact ev_up_s
  refine ev_putfield (pc := 42) 6 _ d_Mo_init_42 fl_Mo_23 g42_ (ev_pfn (r0 := rC11) (ty := (.array .int)) rfl (Or.inr ⟨rfl, rfl, rfl⟩) (by decide +kernel)) rfl rfl (Nat.le_of_ble_eq_true rfl) (fun F44_ hF44_ => ?_)
  have g45_ : F44_ n = some (.inl (1, 12, .inr (.inl (fun _ => 0)))) := by rw [← hF44_]; exact ev_up_k (ev_ne_ao g38_ g42_) g38_
  have g46_ : F44_ (n + 1) = some (.inl (0, 12, .inl (fun _ => 0))) := by rw [← hF44_]; exact ev_up_k (ev_ne_ao g39_ g42_) g39_
  have g47_ : F44_ (n + 2) = some (.inl (0, 12, .inl (fun _ => 0))) := by rw [← hF44_]; exact ev_up_k (ev_ne_ao g40_ g42_) g40_
  have g48_ : F44_ (n + 3) = some (.inl (1, 144, .inr (.inl (fun _ => 0)))) := by rw [← hF44_]; exact ev_up_k (ev_ne_ao g41_ g42_) g41_
  have g49_ : F44_ (n + 4) = some (.inl (0, 80, .inl (fun _ => 0))) := by rw [← hF44_]; exact ev_up_k (ev_ne_ao g43_ g42_) g43_
  have g50_ : F44_ r0 = some (.inr (11, [.ref n, .int ir0_drafted, .ref (n + 1), .ref (n + 2), .ref (n + 3), .int ir0_rows, .ref (n + 4), .ref (r0 + 6), .ref (r0 + 7), .ref (r0 + 8), .ref (r0 + 9), .int ir0_segments, .int ir0_stopped, .int ir0_fuse, .int ir0_written, .int ir0_tokens, .ref (r0 + 10), .ref (r0 + 11), .int ir0_height, .ref (r0 + 12), .ref (r0 + 13), .ref (r0 + 14), .int ir0_results, .ref (r0 + 15), .ref (r0 + 16), .int ir0_weighed, .ref (r0 + 17), .ref (r0 + 18), .ref (r0 + 19)])) := by rw [← hF44_]; exact ev_up_s
  refine ev_aload_n (pc := 45) d_Mo_init_45 rfl ?_
  refine ev_bipush (pc := 46) 80 d_Mo_init_46 (by decide) ?_
  refine ev_fresh fun fr48 => ?_
  refine ev_newarray (pc := 48) 0 80 (80, .inl (fun _ => 0)) d_Mo_init_48 wd_153 rfl rfl (fun _ _ h => h) (fun _ => rfl) (by decide) (by decide) (by decide) (bc2 := rc48) (bs2 := rs48) hb_rc48 hs_rs48 (fun F51_ hF51_ => ?_)
  have g52_ : F51_ n = some (.inl (1, 12, .inr (.inl (fun _ => 0)))) := by rw [← hF51_]; exact ev_up_k (ev_nf g45_ (fr48 _ (Nat.le_refl _))) g45_
  have g53_ : F51_ (n + 1) = some (.inl (0, 12, .inl (fun _ => 0))) := by rw [← hF51_]; exact ev_up_k (ev_nf g46_ (fr48 _ (Nat.le_refl _))) g46_
  have g54_ : F51_ (n + 2) = some (.inl (0, 12, .inl (fun _ => 0))) := by rw [← hF51_]; exact ev_up_k (ev_nf g47_ (fr48 _ (Nat.le_refl _))) g47_
  have g55_ : F51_ (n + 3) = some (.inl (1, 144, .inr (.inl (fun _ => 0)))) := by rw [← hF51_]; exact ev_up_k (ev_nf g48_ (fr48 _ (Nat.le_refl _))) g48_
  have g56_ : F51_ (n + 4) = some (.inl (0, 80, .inl (fun _ => 0))) := by rw [← hF51_]; exact ev_up_k (ev_nf g49_ (fr48 _ (Nat.le_refl _))) g49_
  have g57_ : F51_ r0 = some (.inr (11, [.ref n, .int ir0_drafted, .ref (n + 1), .ref (n + 2), .ref (n + 3), .int ir0_rows, .ref (n + 4), .ref (r0 + 6), .ref (r0 + 7), .ref (r0 + 8), .ref (r0 + 9), .int ir0_segments, .int ir0_stopped, .int ir0_fuse, .int ir0_written, .int ir0_tokens, .ref (r0 + 10), .ref (r0 + 11), .int ir0_height, .ref (r0 + 12), .ref (r0 + 13), .ref (r0 + 14), .int ir0_results, .ref (r0 + 15), .ref (r0 + 16), .int ir0_weighed, .ref (r0 + 17), .ref (r0 + 18), .ref (r0 + 19)])) := by rw [← hF51_]; exact ev_up_k (ev_nf g50_ (fr48 _ (Nat.le_refl _))) g50_
  have g58_ : F51_ (n + 5) = some (.inl (0, 80, .inl (fun _ => 0))) := by rw [← hF51_]; exact ev_up_s
  refine ev_putfield (pc := 50) 7 _ d_Mo_init_50 fl_Mo_26 g57_ (ev_pfn (r0 := rC11) (ty := (.array .int)) rfl (Or.inr ⟨rfl, rfl, rfl⟩) (by decide +kernel)) rfl rfl (Nat.le_of_ble_eq_true rfl) (fun F59_ hF59_ => ?_)
  have g60_ : F59_ n = some (.inl (1, 12, .inr (.inl (fun _ => 0)))) := by rw [← hF59_]; exact ev_up_k (ev_ne_ao g52_ g57_) g52_
  have g61_ : F59_ (n + 1) = some (.inl (0, 12, .inl (fun _ => 0))) := by rw [← hF59_]; exact ev_up_k (ev_ne_ao g53_ g57_) g53_
  have g62_ : F59_ (n + 2) = some (.inl (0, 12, .inl (fun _ => 0))) := by rw [← hF59_]; exact ev_up_k (ev_ne_ao g54_ g57_) g54_
  have g63_ : F59_ (n + 3) = some (.inl (1, 144, .inr (.inl (fun _ => 0)))) := by rw [← hF59_]; exact ev_up_k (ev_ne_ao g55_ g57_) g55_
  have g64_ : F59_ (n + 4) = some (.inl (0, 80, .inl (fun _ => 0))) := by rw [← hF59_]; exact ev_up_k (ev_ne_ao g56_ g57_) g56_
  have g65_ : F59_ (n + 5) = some (.inl (0, 80, .inl (fun _ => 0))) := by rw [← hF59_]; exact ev_up_k (ev_ne_ao g58_ g57_) g58_
  have g66_ : F59_ r0 = some (.inr (11, [.ref n, .int ir0_drafted, .ref (n + 1), .ref (n + 2), .ref (n + 3), .int ir0_rows, .ref (n + 4), .ref (n + 5), .ref (r0 + 7), .ref (r0 + 8), .ref (r0 + 9), .int ir0_segments, .int ir0_stopped, .int ir0_fuse, .int ir0_written, .int ir0_tokens, .ref (r0 + 10), .ref (r0 + 11), .int ir0_height, .ref (r0 + 12), .ref (r0 + 13), .ref (r0 + 14), .int ir0_results, .ref (r0 + 15), .ref (r0 + 16), .int ir0_weighed, .ref (r0 + 17), .ref (r0 + 18), .ref (r0 + 19)])) := by rw [← hF59_]; exact ev_up_s
  refine ev_aload_n (pc := 53) d_Mo_init_53 rfl ?_
  refine ev_bipush (pc := 54) 80 d_Mo_init_54 (by decide) ?_
  refine ev_fresh fun fr56 => ?_
  refine ev_newarray (pc := 56) 2 80 (80, .inl (fun _ => 0)) d_Mo_init_56 wd_52 rfl rfl (fun _ _ h => h) (fun _ => rfl) (by decide) (by decide) (by decide) (bc2 := rc56) (bs2 := rs56) hb_rc56 hs_rs56 (fun F67_ hF67_ => ?_)
  have g68_ : F67_ n = some (.inl (1, 12, .inr (.inl (fun _ => 0)))) := by rw [← hF67_]; exact ev_up_k (ev_nf g60_ (fr56 _ (Nat.le_refl _))) g60_
  have g69_ : F67_ (n + 1) = some (.inl (0, 12, .inl (fun _ => 0))) := by rw [← hF67_]; exact ev_up_k (ev_nf g61_ (fr56 _ (Nat.le_refl _))) g61_
  have g70_ : F67_ (n + 2) = some (.inl (0, 12, .inl (fun _ => 0))) := by rw [← hF67_]; exact ev_up_k (ev_nf g62_ (fr56 _ (Nat.le_refl _))) g62_
  have g71_ : F67_ (n + 3) = some (.inl (1, 144, .inr (.inl (fun _ => 0)))) := by rw [← hF67_]; exact ev_up_k (ev_nf g63_ (fr56 _ (Nat.le_refl _))) g63_
  have g72_ : F67_ (n + 4) = some (.inl (0, 80, .inl (fun _ => 0))) := by rw [← hF67_]; exact ev_up_k (ev_nf g64_ (fr56 _ (Nat.le_refl _))) g64_
  have g73_ : F67_ (n + 5) = some (.inl (0, 80, .inl (fun _ => 0))) := by rw [← hF67_]; exact ev_up_k (ev_nf g65_ (fr56 _ (Nat.le_refl _))) g65_
  have g74_ : F67_ r0 = some (.inr (11, [.ref n, .int ir0_drafted, .ref (n + 1), .ref (n + 2), .ref (n + 3), .int ir0_rows, .ref (n + 4), .ref (n + 5), .ref (r0 + 7), .ref (r0 + 8), .ref (r0 + 9), .int ir0_segments, .int ir0_stopped, .int ir0_fuse, .int ir0_written, .int ir0_tokens, .ref (r0 + 10), .ref (r0 + 11), .int ir0_height, .ref (r0 + 12), .ref (r0 + 13), .ref (r0 + 14), .int ir0_results, .ref (r0 + 15), .ref (r0 + 16), .int ir0_weighed, .ref (r0 + 17), .ref (r0 + 18), .ref (r0 + 19)])) := by rw [← hF67_]; exact ev_up_k (ev_nf g66_ (fr56 _ (Nat.le_refl _))) g66_
  have g75_ : F67_ (n + 6) = some (.inl (2, 80, .inl (fun _ => 0))) := by rw [← hF67_]; exact ev_up_s
  refine ev_putfield (pc := 58) 8 _ d_Mo_init_58 fl_Mo_29 g74_ (ev_pfn (r0 := rC11) (ty := (.array .boolean)) rfl (Or.inr ⟨rfl, rfl, rfl⟩) (by decide +kernel)) rfl rfl (Nat.le_of_ble_eq_true rfl) (fun F76_ hF76_ => ?_)
  have g77_ : F76_ n = some (.inl (1, 12, .inr (.inl (fun _ => 0)))) := by rw [← hF76_]; exact ev_up_k (ev_ne_ao g68_ g74_) g68_
  have g78_ : F76_ (n + 1) = some (.inl (0, 12, .inl (fun _ => 0))) := by rw [← hF76_]; exact ev_up_k (ev_ne_ao g69_ g74_) g69_
  have g79_ : F76_ (n + 2) = some (.inl (0, 12, .inl (fun _ => 0))) := by rw [← hF76_]; exact ev_up_k (ev_ne_ao g70_ g74_) g70_
  have g80_ : F76_ (n + 3) = some (.inl (1, 144, .inr (.inl (fun _ => 0)))) := by rw [← hF76_]; exact ev_up_k (ev_ne_ao g71_ g74_) g71_
  have g81_ : F76_ (n + 4) = some (.inl (0, 80, .inl (fun _ => 0))) := by rw [← hF76_]; exact ev_up_k (ev_ne_ao g72_ g74_) g72_
  have g82_ : F76_ (n + 5) = some (.inl (0, 80, .inl (fun _ => 0))) := by rw [← hF76_]; exact ev_up_k (ev_ne_ao g73_ g74_) g73_
  have g83_ : F76_ (n + 6) = some (.inl (2, 80, .inl (fun _ => 0))) := by rw [← hF76_]; exact ev_up_k (ev_ne_ao g75_ g74_) g75_
  have g84_ : F76_ r0 = some (.inr (11, [.ref n, .int ir0_drafted, .ref (n + 1), .ref (n + 2), .ref (n + 3), .int ir0_rows, .ref (n + 4), .ref (n + 5), .ref (n + 6), .ref (r0 + 8), .ref (r0 + 9), .int ir0_segments, .int ir0_stopped, .int ir0_fuse, .int ir0_written, .int ir0_tokens, .ref (r0 + 10), .ref (r0 + 11), .int ir0_height, .ref (r0 + 12), .ref (r0 + 13), .ref (r0 + 14), .int ir0_results, .ref (r0 + 15), .ref (r0 + 16), .int ir0_weighed, .ref (r0 + 17), .ref (r0 + 18), .ref (r0 + 19)])) := by rw [← hF76_]; exact ev_up_s
  refine ev_aload_n (pc := 61) d_Mo_init_61 rfl ?_
  refine ev_bipush (pc := 62) 80 d_Mo_init_62 (by decide) ?_
  refine ev_fresh fun fr64 => ?_
  refine ev_newarray (pc := 64) 0 80 (80, .inl (fun _ => 0)) d_Mo_init_64 wd_153 rfl rfl (fun _ _ h => h) (fun _ => rfl) (by decide) (by decide) (by decide) (bc2 := rc64) (bs2 := rs64) hb_rc64 hs_rs64 (fun F85_ hF85_ => ?_)
  have g86_ : F85_ n = some (.inl (1, 12, .inr (.inl (fun _ => 0)))) := by rw [← hF85_]; exact ev_up_k (ev_nf g77_ (fr64 _ (Nat.le_refl _))) g77_
  have g87_ : F85_ (n + 1) = some (.inl (0, 12, .inl (fun _ => 0))) := by rw [← hF85_]; exact ev_up_k (ev_nf g78_ (fr64 _ (Nat.le_refl _))) g78_
  have g88_ : F85_ (n + 2) = some (.inl (0, 12, .inl (fun _ => 0))) := by rw [← hF85_]; exact ev_up_k (ev_nf g79_ (fr64 _ (Nat.le_refl _))) g79_
  have g89_ : F85_ (n + 3) = some (.inl (1, 144, .inr (.inl (fun _ => 0)))) := by rw [← hF85_]; exact ev_up_k (ev_nf g80_ (fr64 _ (Nat.le_refl _))) g80_
  have g90_ : F85_ (n + 4) = some (.inl (0, 80, .inl (fun _ => 0))) := by rw [← hF85_]; exact ev_up_k (ev_nf g81_ (fr64 _ (Nat.le_refl _))) g81_
  have g91_ : F85_ (n + 5) = some (.inl (0, 80, .inl (fun _ => 0))) := by rw [← hF85_]; exact ev_up_k (ev_nf g82_ (fr64 _ (Nat.le_refl _))) g82_
  have g92_ : F85_ (n + 6) = some (.inl (2, 80, .inl (fun _ => 0))) := by rw [← hF85_]; exact ev_up_k (ev_nf g83_ (fr64 _ (Nat.le_refl _))) g83_
  have g93_ : F85_ r0 = some (.inr (11, [.ref n, .int ir0_drafted, .ref (n + 1), .ref (n + 2), .ref (n + 3), .int ir0_rows, .ref (n + 4), .ref (n + 5), .ref (n + 6), .ref (r0 + 8), .ref (r0 + 9), .int ir0_segments, .int ir0_stopped, .int ir0_fuse, .int ir0_written, .int ir0_tokens, .ref (r0 + 10), .ref (r0 + 11), .int ir0_height, .ref (r0 + 12), .ref (r0 + 13), .ref (r0 + 14), .int ir0_results, .ref (r0 + 15), .ref (r0 + 16), .int ir0_weighed, .ref (r0 + 17), .ref (r0 + 18), .ref (r0 + 19)])) := by rw [← hF85_]; exact ev_up_k (ev_nf g84_ (fr64 _ (Nat.le_refl _))) g84_
  have g94_ : F85_ (n + 7) = some (.inl (0, 80, .inl (fun _ => 0))) := by rw [← hF85_]; exact ev_up_s
  refine ev_putfield (pc := 66) 9 _ d_Mo_init_66 fl_Mo_33 g93_ (ev_pfn (r0 := rC11) (ty := (.array .int)) rfl (Or.inr ⟨rfl, rfl, rfl⟩) (by decide +kernel)) rfl rfl (Nat.le_of_ble_eq_true rfl) (fun F95_ hF95_ => ?_)
  have g96_ : F95_ n = some (.inl (1, 12, .inr (.inl (fun _ => 0)))) := by rw [← hF95_]; exact ev_up_k (ev_ne_ao g86_ g93_) g86_
  have g97_ : F95_ (n + 1) = some (.inl (0, 12, .inl (fun _ => 0))) := by rw [← hF95_]; exact ev_up_k (ev_ne_ao g87_ g93_) g87_
  have g98_ : F95_ (n + 2) = some (.inl (0, 12, .inl (fun _ => 0))) := by rw [← hF95_]; exact ev_up_k (ev_ne_ao g88_ g93_) g88_
  have g99_ : F95_ (n + 3) = some (.inl (1, 144, .inr (.inl (fun _ => 0)))) := by rw [← hF95_]; exact ev_up_k (ev_ne_ao g89_ g93_) g89_
  have g100_ : F95_ (n + 4) = some (.inl (0, 80, .inl (fun _ => 0))) := by rw [← hF95_]; exact ev_up_k (ev_ne_ao g90_ g93_) g90_
  have g101_ : F95_ (n + 5) = some (.inl (0, 80, .inl (fun _ => 0))) := by rw [← hF95_]; exact ev_up_k (ev_ne_ao g91_ g93_) g91_
  have g102_ : F95_ (n + 6) = some (.inl (2, 80, .inl (fun _ => 0))) := by rw [← hF95_]; exact ev_up_k (ev_ne_ao g92_ g93_) g92_
  have g103_ : F95_ (n + 7) = some (.inl (0, 80, .inl (fun _ => 0))) := by rw [← hF95_]; exact ev_up_k (ev_ne_ao g94_ g93_) g94_
  have g104_ : F95_ r0 = some (.inr (11, [.ref n, .int ir0_drafted, .ref (n + 1), .ref (n + 2), .ref (n + 3), .int ir0_rows, .ref (n + 4), .ref (n + 5), .ref (n + 6), .ref (n + 7), .ref (r0 + 9), .int ir0_segments, .int ir0_stopped, .int ir0_fuse, .int ir0_written, .int ir0_tokens, .ref (r0 + 10), .ref (r0 + 11), .int ir0_height, .ref (r0 + 12), .ref (r0 + 13), .ref (r0 + 14), .int ir0_results, .ref (r0 + 15), .ref (r0 + 16), .int ir0_weighed, .ref (r0 + 17), .ref (r0 + 18), .ref (r0 + 19)])) := by rw [← hF95_]; exact ev_up_s
  refine ev_aload_n (pc := 69) d_Mo_init_69 rfl ?_
  refine ev_sipush (pc := 70) 960 d_Mo_init_70 (by decide) ?_
  refine ev_fresh fun fr73 => ?_
  refine ev_newarray (pc := 73) 1 960 (960, .inr (.inl (fun _ => 0))) d_Mo_init_73 wd_85 rfl rfl (fun _ _ h => h) (fun _ => rfl) (by decide) (by decide) (by decide) (bc2 := rc73) (bs2 := rs73) hb_rc73 hs_rs73 (fun F105_ hF105_ => ?_)
  have g106_ : F105_ n = some (.inl (1, 12, .inr (.inl (fun _ => 0)))) := by rw [← hF105_]; exact ev_up_k (ev_nf g96_ (fr73 _ (Nat.le_refl _))) g96_
  have g107_ : F105_ (n + 1) = some (.inl (0, 12, .inl (fun _ => 0))) := by rw [← hF105_]; exact ev_up_k (ev_nf g97_ (fr73 _ (Nat.le_refl _))) g97_
  have g108_ : F105_ (n + 2) = some (.inl (0, 12, .inl (fun _ => 0))) := by rw [← hF105_]; exact ev_up_k (ev_nf g98_ (fr73 _ (Nat.le_refl _))) g98_
  have g109_ : F105_ (n + 3) = some (.inl (1, 144, .inr (.inl (fun _ => 0)))) := by rw [← hF105_]; exact ev_up_k (ev_nf g99_ (fr73 _ (Nat.le_refl _))) g99_
  have g110_ : F105_ (n + 4) = some (.inl (0, 80, .inl (fun _ => 0))) := by rw [← hF105_]; exact ev_up_k (ev_nf g100_ (fr73 _ (Nat.le_refl _))) g100_
  have g111_ : F105_ (n + 5) = some (.inl (0, 80, .inl (fun _ => 0))) := by rw [← hF105_]; exact ev_up_k (ev_nf g101_ (fr73 _ (Nat.le_refl _))) g101_
  have g112_ : F105_ (n + 6) = some (.inl (2, 80, .inl (fun _ => 0))) := by rw [← hF105_]; exact ev_up_k (ev_nf g102_ (fr73 _ (Nat.le_refl _))) g102_
  have g113_ : F105_ (n + 7) = some (.inl (0, 80, .inl (fun _ => 0))) := by rw [← hF105_]; exact ev_up_k (ev_nf g103_ (fr73 _ (Nat.le_refl _))) g103_
  have g114_ : F105_ r0 = some (.inr (11, [.ref n, .int ir0_drafted, .ref (n + 1), .ref (n + 2), .ref (n + 3), .int ir0_rows, .ref (n + 4), .ref (n + 5), .ref (n + 6), .ref (n + 7), .ref (r0 + 9), .int ir0_segments, .int ir0_stopped, .int ir0_fuse, .int ir0_written, .int ir0_tokens, .ref (r0 + 10), .ref (r0 + 11), .int ir0_height, .ref (r0 + 12), .ref (r0 + 13), .ref (r0 + 14), .int ir0_results, .ref (r0 + 15), .ref (r0 + 16), .int ir0_weighed, .ref (r0 + 17), .ref (r0 + 18), .ref (r0 + 19)])) := by rw [← hF105_]; exact ev_up_k (ev_nf g104_ (fr73 _ (Nat.le_refl _))) g104_
  have g115_ : F105_ (n + 8) = some (.inl (1, 960, .inr (.inl (fun _ => 0)))) := by rw [← hF105_]; exact ev_up_s
  refine ev_putfield (pc := 75) 10 _ d_Mo_init_75 fl_Mo_36 g114_ (ev_pfn (r0 := rC11) (ty := (.array .long)) rfl (Or.inr ⟨rfl, rfl, rfl⟩) (by decide +kernel)) rfl rfl (Nat.le_of_ble_eq_true rfl) (fun F116_ hF116_ => ?_)
  have g117_ : F116_ n = some (.inl (1, 12, .inr (.inl (fun _ => 0)))) := by rw [← hF116_]; exact ev_up_k (ev_ne_ao g106_ g114_) g106_
  have g118_ : F116_ (n + 1) = some (.inl (0, 12, .inl (fun _ => 0))) := by rw [← hF116_]; exact ev_up_k (ev_ne_ao g107_ g114_) g107_
  have g119_ : F116_ (n + 2) = some (.inl (0, 12, .inl (fun _ => 0))) := by rw [← hF116_]; exact ev_up_k (ev_ne_ao g108_ g114_) g108_
  have g120_ : F116_ (n + 3) = some (.inl (1, 144, .inr (.inl (fun _ => 0)))) := by rw [← hF116_]; exact ev_up_k (ev_ne_ao g109_ g114_) g109_
  have g121_ : F116_ (n + 4) = some (.inl (0, 80, .inl (fun _ => 0))) := by rw [← hF116_]; exact ev_up_k (ev_ne_ao g110_ g114_) g110_
  have g122_ : F116_ (n + 5) = some (.inl (0, 80, .inl (fun _ => 0))) := by rw [← hF116_]; exact ev_up_k (ev_ne_ao g111_ g114_) g111_
  have g123_ : F116_ (n + 6) = some (.inl (2, 80, .inl (fun _ => 0))) := by rw [← hF116_]; exact ev_up_k (ev_ne_ao g112_ g114_) g112_
  have g124_ : F116_ (n + 7) = some (.inl (0, 80, .inl (fun _ => 0))) := by rw [← hF116_]; exact ev_up_k (ev_ne_ao g113_ g114_) g113_
  have g125_ : F116_ (n + 8) = some (.inl (1, 960, .inr (.inl (fun _ => 0)))) := by rw [← hF116_]; exact ev_up_k (ev_ne_ao g115_ g114_) g115_
  have g126_ : F116_ r0 = some (.inr (11, [.ref n, .int ir0_drafted, .ref (n + 1), .ref (n + 2), .ref (n + 3), .int ir0_rows, .ref (n + 4), .ref (n + 5), .ref (n + 6), .ref (n + 7), .ref (n + 8), .int ir0_segments, .int ir0_stopped, .int ir0_fuse, .int ir0_written, .int ir0_tokens, .ref (r0 + 10), .ref (r0 + 11), .int ir0_height, .ref (r0 + 12), .ref (r0 + 13), .ref (r0 + 14), .int ir0_results, .ref (r0 + 15), .ref (r0 + 16), .int ir0_weighed, .ref (r0 + 17), .ref (r0 + 18), .ref (r0 + 19)])) := by rw [← hF116_]; exact ev_up_s
  refine ev_aload_n (pc := 78) d_Mo_init_78 rfl ?_
  refine ev_sipush (pc := 79) 520 d_Mo_init_79 (by decide) ?_
  refine ev_fresh fun fr82 => ?_
  refine ev_newarray (pc := 82) 0 520 (520, .inl (fun _ => 0)) d_Mo_init_82 wd_153 rfl rfl (fun _ _ h => h) (fun _ => rfl) (by decide) (by decide) (by decide) (bc2 := rc82) (bs2 := rs82) hb_rc82 hs_rs82 (fun F127_ hF127_ => ?_)
  have g128_ : F127_ n = some (.inl (1, 12, .inr (.inl (fun _ => 0)))) := by rw [← hF127_]; exact ev_up_k (ev_nf g117_ (fr82 _ (Nat.le_refl _))) g117_
  have g129_ : F127_ (n + 1) = some (.inl (0, 12, .inl (fun _ => 0))) := by rw [← hF127_]; exact ev_up_k (ev_nf g118_ (fr82 _ (Nat.le_refl _))) g118_
  have g130_ : F127_ (n + 2) = some (.inl (0, 12, .inl (fun _ => 0))) := by rw [← hF127_]; exact ev_up_k (ev_nf g119_ (fr82 _ (Nat.le_refl _))) g119_
  have g131_ : F127_ (n + 3) = some (.inl (1, 144, .inr (.inl (fun _ => 0)))) := by rw [← hF127_]; exact ev_up_k (ev_nf g120_ (fr82 _ (Nat.le_refl _))) g120_
  have g132_ : F127_ (n + 4) = some (.inl (0, 80, .inl (fun _ => 0))) := by rw [← hF127_]; exact ev_up_k (ev_nf g121_ (fr82 _ (Nat.le_refl _))) g121_
  have g133_ : F127_ (n + 5) = some (.inl (0, 80, .inl (fun _ => 0))) := by rw [← hF127_]; exact ev_up_k (ev_nf g122_ (fr82 _ (Nat.le_refl _))) g122_
  have g134_ : F127_ (n + 6) = some (.inl (2, 80, .inl (fun _ => 0))) := by rw [← hF127_]; exact ev_up_k (ev_nf g123_ (fr82 _ (Nat.le_refl _))) g123_
  have g135_ : F127_ (n + 7) = some (.inl (0, 80, .inl (fun _ => 0))) := by rw [← hF127_]; exact ev_up_k (ev_nf g124_ (fr82 _ (Nat.le_refl _))) g124_
  have g136_ : F127_ (n + 8) = some (.inl (1, 960, .inr (.inl (fun _ => 0)))) := by rw [← hF127_]; exact ev_up_k (ev_nf g125_ (fr82 _ (Nat.le_refl _))) g125_
  have g137_ : F127_ r0 = some (.inr (11, [.ref n, .int ir0_drafted, .ref (n + 1), .ref (n + 2), .ref (n + 3), .int ir0_rows, .ref (n + 4), .ref (n + 5), .ref (n + 6), .ref (n + 7), .ref (n + 8), .int ir0_segments, .int ir0_stopped, .int ir0_fuse, .int ir0_written, .int ir0_tokens, .ref (r0 + 10), .ref (r0 + 11), .int ir0_height, .ref (r0 + 12), .ref (r0 + 13), .ref (r0 + 14), .int ir0_results, .ref (r0 + 15), .ref (r0 + 16), .int ir0_weighed, .ref (r0 + 17), .ref (r0 + 18), .ref (r0 + 19)])) := by rw [← hF127_]; exact ev_up_k (ev_nf g126_ (fr82 _ (Nat.le_refl _))) g126_
  have g138_ : F127_ (n + 9) = some (.inl (0, 520, .inl (fun _ => 0))) := by rw [← hF127_]; exact ev_up_s
  refine ev_putfield (pc := 84) 16 _ d_Mo_init_84 fl_Mo_39 g137_ (ev_pfn (r0 := rC11) (ty := (.array .int)) rfl (Or.inr ⟨rfl, rfl, rfl⟩) (by decide +kernel)) rfl rfl (Nat.le_of_ble_eq_true rfl) (fun F139_ hF139_ => ?_)
  have g140_ : F139_ n = some (.inl (1, 12, .inr (.inl (fun _ => 0)))) := by rw [← hF139_]; exact ev_up_k (ev_ne_ao g128_ g137_) g128_
  have g141_ : F139_ (n + 1) = some (.inl (0, 12, .inl (fun _ => 0))) := by rw [← hF139_]; exact ev_up_k (ev_ne_ao g129_ g137_) g129_
  have g142_ : F139_ (n + 2) = some (.inl (0, 12, .inl (fun _ => 0))) := by rw [← hF139_]; exact ev_up_k (ev_ne_ao g130_ g137_) g130_
  have g143_ : F139_ (n + 3) = some (.inl (1, 144, .inr (.inl (fun _ => 0)))) := by rw [← hF139_]; exact ev_up_k (ev_ne_ao g131_ g137_) g131_
  have g144_ : F139_ (n + 4) = some (.inl (0, 80, .inl (fun _ => 0))) := by rw [← hF139_]; exact ev_up_k (ev_ne_ao g132_ g137_) g132_
  have g145_ : F139_ (n + 5) = some (.inl (0, 80, .inl (fun _ => 0))) := by rw [← hF139_]; exact ev_up_k (ev_ne_ao g133_ g137_) g133_
  have g146_ : F139_ (n + 6) = some (.inl (2, 80, .inl (fun _ => 0))) := by rw [← hF139_]; exact ev_up_k (ev_ne_ao g134_ g137_) g134_
  have g147_ : F139_ (n + 7) = some (.inl (0, 80, .inl (fun _ => 0))) := by rw [← hF139_]; exact ev_up_k (ev_ne_ao g135_ g137_) g135_
  have g148_ : F139_ (n + 8) = some (.inl (1, 960, .inr (.inl (fun _ => 0)))) := by rw [← hF139_]; exact ev_up_k (ev_ne_ao g136_ g137_) g136_
  have g149_ : F139_ (n + 9) = some (.inl (0, 520, .inl (fun _ => 0))) := by rw [← hF139_]; exact ev_up_k (ev_ne_ao g138_ g137_) g138_
  have g150_ : F139_ r0 = some (.inr (11, [.ref n, .int ir0_drafted, .ref (n + 1), .ref (n + 2), .ref (n + 3), .int ir0_rows, .ref (n + 4), .ref (n + 5), .ref (n + 6), .ref (n + 7), .ref (n + 8), .int ir0_segments, .int ir0_stopped, .int ir0_fuse, .int ir0_written, .int ir0_tokens, .ref (n + 9), .ref (r0 + 11), .int ir0_height, .ref (r0 + 12), .ref (r0 + 13), .ref (r0 + 14), .int ir0_results, .ref (r0 + 15), .ref (r0 + 16), .int ir0_weighed, .ref (r0 + 17), .ref (r0 + 18), .ref (r0 + 19)])) := by rw [← hF139_]; exact ev_up_s
  refine ev_aload_n (pc := 87) d_Mo_init_87 rfl ?_
  refine ev_sipush (pc := 88) 520 d_Mo_init_88 (by decide) ?_
  refine ev_fresh fun fr91 => ?_
  refine ev_newarray (pc := 91) 1 520 (520, .inr (.inl (fun _ => 0))) d_Mo_init_91 wd_85 rfl rfl (fun _ _ h => h) (fun _ => rfl) (by decide) (by decide) (by decide) (bc2 := rc91) (bs2 := rs91) hb_rc91 hs_rs91 (fun F151_ hF151_ => ?_)
  have g152_ : F151_ n = some (.inl (1, 12, .inr (.inl (fun _ => 0)))) := by rw [← hF151_]; exact ev_up_k (ev_nf g140_ (fr91 _ (Nat.le_refl _))) g140_
  have g153_ : F151_ (n + 1) = some (.inl (0, 12, .inl (fun _ => 0))) := by rw [← hF151_]; exact ev_up_k (ev_nf g141_ (fr91 _ (Nat.le_refl _))) g141_
  have g154_ : F151_ (n + 2) = some (.inl (0, 12, .inl (fun _ => 0))) := by rw [← hF151_]; exact ev_up_k (ev_nf g142_ (fr91 _ (Nat.le_refl _))) g142_
  have g155_ : F151_ (n + 3) = some (.inl (1, 144, .inr (.inl (fun _ => 0)))) := by rw [← hF151_]; exact ev_up_k (ev_nf g143_ (fr91 _ (Nat.le_refl _))) g143_
  have g156_ : F151_ (n + 4) = some (.inl (0, 80, .inl (fun _ => 0))) := by rw [← hF151_]; exact ev_up_k (ev_nf g144_ (fr91 _ (Nat.le_refl _))) g144_
  have g157_ : F151_ (n + 5) = some (.inl (0, 80, .inl (fun _ => 0))) := by rw [← hF151_]; exact ev_up_k (ev_nf g145_ (fr91 _ (Nat.le_refl _))) g145_
  have g158_ : F151_ (n + 6) = some (.inl (2, 80, .inl (fun _ => 0))) := by rw [← hF151_]; exact ev_up_k (ev_nf g146_ (fr91 _ (Nat.le_refl _))) g146_
  have g159_ : F151_ (n + 7) = some (.inl (0, 80, .inl (fun _ => 0))) := by rw [← hF151_]; exact ev_up_k (ev_nf g147_ (fr91 _ (Nat.le_refl _))) g147_
  have g160_ : F151_ (n + 8) = some (.inl (1, 960, .inr (.inl (fun _ => 0)))) := by rw [← hF151_]; exact ev_up_k (ev_nf g148_ (fr91 _ (Nat.le_refl _))) g148_
  have g161_ : F151_ (n + 9) = some (.inl (0, 520, .inl (fun _ => 0))) := by rw [← hF151_]; exact ev_up_k (ev_nf g149_ (fr91 _ (Nat.le_refl _))) g149_
  have g162_ : F151_ r0 = some (.inr (11, [.ref n, .int ir0_drafted, .ref (n + 1), .ref (n + 2), .ref (n + 3), .int ir0_rows, .ref (n + 4), .ref (n + 5), .ref (n + 6), .ref (n + 7), .ref (n + 8), .int ir0_segments, .int ir0_stopped, .int ir0_fuse, .int ir0_written, .int ir0_tokens, .ref (n + 9), .ref (r0 + 11), .int ir0_height, .ref (r0 + 12), .ref (r0 + 13), .ref (r0 + 14), .int ir0_results, .ref (r0 + 15), .ref (r0 + 16), .int ir0_weighed, .ref (r0 + 17), .ref (r0 + 18), .ref (r0 + 19)])) := by rw [← hF151_]; exact ev_up_k (ev_nf g150_ (fr91 _ (Nat.le_refl _))) g150_
  have g163_ : F151_ (n + 10) = some (.inl (1, 520, .inr (.inl (fun _ => 0)))) := by rw [← hF151_]; exact ev_up_s
  refine ev_putfield (pc := 93) 17 _ d_Mo_init_93 fl_Mo_42 g162_ (ev_pfn (r0 := rC11) (ty := (.array .long)) rfl (Or.inr ⟨rfl, rfl, rfl⟩) (by decide +kernel)) rfl rfl (Nat.le_of_ble_eq_true rfl) (fun F164_ hF164_ => ?_)
  have g165_ : F164_ n = some (.inl (1, 12, .inr (.inl (fun _ => 0)))) := by rw [← hF164_]; exact ev_up_k (ev_ne_ao g152_ g162_) g152_
  have g166_ : F164_ (n + 1) = some (.inl (0, 12, .inl (fun _ => 0))) := by rw [← hF164_]; exact ev_up_k (ev_ne_ao g153_ g162_) g153_
  have g167_ : F164_ (n + 2) = some (.inl (0, 12, .inl (fun _ => 0))) := by rw [← hF164_]; exact ev_up_k (ev_ne_ao g154_ g162_) g154_
  have g168_ : F164_ (n + 3) = some (.inl (1, 144, .inr (.inl (fun _ => 0)))) := by rw [← hF164_]; exact ev_up_k (ev_ne_ao g155_ g162_) g155_
  have g169_ : F164_ (n + 4) = some (.inl (0, 80, .inl (fun _ => 0))) := by rw [← hF164_]; exact ev_up_k (ev_ne_ao g156_ g162_) g156_
  have g170_ : F164_ (n + 5) = some (.inl (0, 80, .inl (fun _ => 0))) := by rw [← hF164_]; exact ev_up_k (ev_ne_ao g157_ g162_) g157_
  have g171_ : F164_ (n + 6) = some (.inl (2, 80, .inl (fun _ => 0))) := by rw [← hF164_]; exact ev_up_k (ev_ne_ao g158_ g162_) g158_
  have g172_ : F164_ (n + 7) = some (.inl (0, 80, .inl (fun _ => 0))) := by rw [← hF164_]; exact ev_up_k (ev_ne_ao g159_ g162_) g159_
  have g173_ : F164_ (n + 8) = some (.inl (1, 960, .inr (.inl (fun _ => 0)))) := by rw [← hF164_]; exact ev_up_k (ev_ne_ao g160_ g162_) g160_
  have g174_ : F164_ (n + 9) = some (.inl (0, 520, .inl (fun _ => 0))) := by rw [← hF164_]; exact ev_up_k (ev_ne_ao g161_ g162_) g161_
  have g175_ : F164_ (n + 10) = some (.inl (1, 520, .inr (.inl (fun _ => 0)))) := by rw [← hF164_]; exact ev_up_k (ev_ne_ao g163_ g162_) g163_
  have g176_ : F164_ r0 = some (.inr (11, [.ref n, .int ir0_drafted, .ref (n + 1), .ref (n + 2), .ref (n + 3), .int ir0_rows, .ref (n + 4), .ref (n + 5), .ref (n + 6), .ref (n + 7), .ref (n + 8), .int ir0_segments, .int ir0_stopped, .int ir0_fuse, .int ir0_written, .int ir0_tokens, .ref (n + 9), .ref (n + 10), .int ir0_height, .ref (r0 + 12), .ref (r0 + 13), .ref (r0 + 14), .int ir0_results, .ref (r0 + 15), .ref (r0 + 16), .int ir0_weighed, .ref (r0 + 17), .ref (r0 + 18), .ref (r0 + 19)])) := by rw [← hF164_]; exact ev_up_s
  refine ev_aload_n (pc := 96) d_Mo_init_96 rfl ?_
  refine ev_bipush (pc := 97) 8 d_Mo_init_97 (by decide) ?_
  refine ev_fresh fun fr99 => ?_
  refine ev_newarray (pc := 99) 2 8 (8, .inl (fun _ => 0)) d_Mo_init_99 wd_52 rfl rfl (fun _ _ h => h) (fun _ => rfl) (by decide) (by decide) (by decide) (bc2 := rc99) (bs2 := rs99) hb_rc99 hs_rs99 (fun F177_ hF177_ => ?_)
  have g178_ : F177_ n = some (.inl (1, 12, .inr (.inl (fun _ => 0)))) := by rw [← hF177_]; exact ev_up_k (ev_nf g165_ (fr99 _ (Nat.le_refl _))) g165_
  have g179_ : F177_ (n + 1) = some (.inl (0, 12, .inl (fun _ => 0))) := by rw [← hF177_]; exact ev_up_k (ev_nf g166_ (fr99 _ (Nat.le_refl _))) g166_
  have g180_ : F177_ (n + 2) = some (.inl (0, 12, .inl (fun _ => 0))) := by rw [← hF177_]; exact ev_up_k (ev_nf g167_ (fr99 _ (Nat.le_refl _))) g167_
  have g181_ : F177_ (n + 3) = some (.inl (1, 144, .inr (.inl (fun _ => 0)))) := by rw [← hF177_]; exact ev_up_k (ev_nf g168_ (fr99 _ (Nat.le_refl _))) g168_
  have g182_ : F177_ (n + 4) = some (.inl (0, 80, .inl (fun _ => 0))) := by rw [← hF177_]; exact ev_up_k (ev_nf g169_ (fr99 _ (Nat.le_refl _))) g169_
  have g183_ : F177_ (n + 5) = some (.inl (0, 80, .inl (fun _ => 0))) := by rw [← hF177_]; exact ev_up_k (ev_nf g170_ (fr99 _ (Nat.le_refl _))) g170_
  have g184_ : F177_ (n + 6) = some (.inl (2, 80, .inl (fun _ => 0))) := by rw [← hF177_]; exact ev_up_k (ev_nf g171_ (fr99 _ (Nat.le_refl _))) g171_
  have g185_ : F177_ (n + 7) = some (.inl (0, 80, .inl (fun _ => 0))) := by rw [← hF177_]; exact ev_up_k (ev_nf g172_ (fr99 _ (Nat.le_refl _))) g172_
  have g186_ : F177_ (n + 8) = some (.inl (1, 960, .inr (.inl (fun _ => 0)))) := by rw [← hF177_]; exact ev_up_k (ev_nf g173_ (fr99 _ (Nat.le_refl _))) g173_
  have g187_ : F177_ (n + 9) = some (.inl (0, 520, .inl (fun _ => 0))) := by rw [← hF177_]; exact ev_up_k (ev_nf g174_ (fr99 _ (Nat.le_refl _))) g174_
  have g188_ : F177_ (n + 10) = some (.inl (1, 520, .inr (.inl (fun _ => 0)))) := by rw [← hF177_]; exact ev_up_k (ev_nf g175_ (fr99 _ (Nat.le_refl _))) g175_
  have g189_ : F177_ r0 = some (.inr (11, [.ref n, .int ir0_drafted, .ref (n + 1), .ref (n + 2), .ref (n + 3), .int ir0_rows, .ref (n + 4), .ref (n + 5), .ref (n + 6), .ref (n + 7), .ref (n + 8), .int ir0_segments, .int ir0_stopped, .int ir0_fuse, .int ir0_written, .int ir0_tokens, .ref (n + 9), .ref (n + 10), .int ir0_height, .ref (r0 + 12), .ref (r0 + 13), .ref (r0 + 14), .int ir0_results, .ref (r0 + 15), .ref (r0 + 16), .int ir0_weighed, .ref (r0 + 17), .ref (r0 + 18), .ref (r0 + 19)])) := by rw [← hF177_]; exact ev_up_k (ev_nf g176_ (fr99 _ (Nat.le_refl _))) g176_
  have g190_ : F177_ (n + 11) = some (.inl (2, 8, .inl (fun _ => 0))) := by rw [← hF177_]; exact ev_up_s
  refine ev_putfield (pc := 101) 19 _ d_Mo_init_101 fl_Mo_45 g189_ (ev_pfn (r0 := rC11) (ty := (.array .boolean)) rfl (Or.inr ⟨rfl, rfl, rfl⟩) (by decide +kernel)) rfl rfl (Nat.le_of_ble_eq_true rfl) (fun F191_ hF191_ => ?_)
  have g192_ : F191_ n = some (.inl (1, 12, .inr (.inl (fun _ => 0)))) := by rw [← hF191_]; exact ev_up_k (ev_ne_ao g178_ g189_) g178_
  have g193_ : F191_ (n + 1) = some (.inl (0, 12, .inl (fun _ => 0))) := by rw [← hF191_]; exact ev_up_k (ev_ne_ao g179_ g189_) g179_
  have g194_ : F191_ (n + 2) = some (.inl (0, 12, .inl (fun _ => 0))) := by rw [← hF191_]; exact ev_up_k (ev_ne_ao g180_ g189_) g180_
  have g195_ : F191_ (n + 3) = some (.inl (1, 144, .inr (.inl (fun _ => 0)))) := by rw [← hF191_]; exact ev_up_k (ev_ne_ao g181_ g189_) g181_
  have g196_ : F191_ (n + 4) = some (.inl (0, 80, .inl (fun _ => 0))) := by rw [← hF191_]; exact ev_up_k (ev_ne_ao g182_ g189_) g182_
  have g197_ : F191_ (n + 5) = some (.inl (0, 80, .inl (fun _ => 0))) := by rw [← hF191_]; exact ev_up_k (ev_ne_ao g183_ g189_) g183_
  have g198_ : F191_ (n + 6) = some (.inl (2, 80, .inl (fun _ => 0))) := by rw [← hF191_]; exact ev_up_k (ev_ne_ao g184_ g189_) g184_
  have g199_ : F191_ (n + 7) = some (.inl (0, 80, .inl (fun _ => 0))) := by rw [← hF191_]; exact ev_up_k (ev_ne_ao g185_ g189_) g185_
  have g200_ : F191_ (n + 8) = some (.inl (1, 960, .inr (.inl (fun _ => 0)))) := by rw [← hF191_]; exact ev_up_k (ev_ne_ao g186_ g189_) g186_
  have g201_ : F191_ (n + 9) = some (.inl (0, 520, .inl (fun _ => 0))) := by rw [← hF191_]; exact ev_up_k (ev_ne_ao g187_ g189_) g187_
  have g202_ : F191_ (n + 10) = some (.inl (1, 520, .inr (.inl (fun _ => 0)))) := by rw [← hF191_]; exact ev_up_k (ev_ne_ao g188_ g189_) g188_
  have g203_ : F191_ (n + 11) = some (.inl (2, 8, .inl (fun _ => 0))) := by rw [← hF191_]; exact ev_up_k (ev_ne_ao g190_ g189_) g190_
  have g204_ : F191_ r0 = some (.inr (11, [.ref n, .int ir0_drafted, .ref (n + 1), .ref (n + 2), .ref (n + 3), .int ir0_rows, .ref (n + 4), .ref (n + 5), .ref (n + 6), .ref (n + 7), .ref (n + 8), .int ir0_segments, .int ir0_stopped, .int ir0_fuse, .int ir0_written, .int ir0_tokens, .ref (n + 9), .ref (n + 10), .int ir0_height, .ref (n + 11), .ref (r0 + 13), .ref (r0 + 14), .int ir0_results, .ref (r0 + 15), .ref (r0 + 16), .int ir0_weighed, .ref (r0 + 17), .ref (r0 + 18), .ref (r0 + 19)])) := by rw [← hF191_]; exact ev_up_s
  refine ev_aload_n (pc := 104) d_Mo_init_104 rfl ?_
  refine ev_bipush (pc := 105) 8 d_Mo_init_105 (by decide) ?_
  refine ev_fresh fun fr107 => ?_
  refine ev_newarray (pc := 107) 0 8 (8, .inl (fun _ => 0)) d_Mo_init_107 wd_153 rfl rfl (fun _ _ h => h) (fun _ => rfl) (by decide) (by decide) (by decide) (bc2 := rc107) (bs2 := rs107) hb_rc107 hs_rs107 (fun F205_ hF205_ => ?_)
  have g206_ : F205_ n = some (.inl (1, 12, .inr (.inl (fun _ => 0)))) := by rw [← hF205_]; exact ev_up_k (ev_nf g192_ (fr107 _ (Nat.le_refl _))) g192_
  have g207_ : F205_ (n + 1) = some (.inl (0, 12, .inl (fun _ => 0))) := by rw [← hF205_]; exact ev_up_k (ev_nf g193_ (fr107 _ (Nat.le_refl _))) g193_
  have g208_ : F205_ (n + 2) = some (.inl (0, 12, .inl (fun _ => 0))) := by rw [← hF205_]; exact ev_up_k (ev_nf g194_ (fr107 _ (Nat.le_refl _))) g194_
  have g209_ : F205_ (n + 3) = some (.inl (1, 144, .inr (.inl (fun _ => 0)))) := by rw [← hF205_]; exact ev_up_k (ev_nf g195_ (fr107 _ (Nat.le_refl _))) g195_
  have g210_ : F205_ (n + 4) = some (.inl (0, 80, .inl (fun _ => 0))) := by rw [← hF205_]; exact ev_up_k (ev_nf g196_ (fr107 _ (Nat.le_refl _))) g196_
  have g211_ : F205_ (n + 5) = some (.inl (0, 80, .inl (fun _ => 0))) := by rw [← hF205_]; exact ev_up_k (ev_nf g197_ (fr107 _ (Nat.le_refl _))) g197_
  have g212_ : F205_ (n + 6) = some (.inl (2, 80, .inl (fun _ => 0))) := by rw [← hF205_]; exact ev_up_k (ev_nf g198_ (fr107 _ (Nat.le_refl _))) g198_
  have g213_ : F205_ (n + 7) = some (.inl (0, 80, .inl (fun _ => 0))) := by rw [← hF205_]; exact ev_up_k (ev_nf g199_ (fr107 _ (Nat.le_refl _))) g199_
  have g214_ : F205_ (n + 8) = some (.inl (1, 960, .inr (.inl (fun _ => 0)))) := by rw [← hF205_]; exact ev_up_k (ev_nf g200_ (fr107 _ (Nat.le_refl _))) g200_
  have g215_ : F205_ (n + 9) = some (.inl (0, 520, .inl (fun _ => 0))) := by rw [← hF205_]; exact ev_up_k (ev_nf g201_ (fr107 _ (Nat.le_refl _))) g201_
  have g216_ : F205_ (n + 10) = some (.inl (1, 520, .inr (.inl (fun _ => 0)))) := by rw [← hF205_]; exact ev_up_k (ev_nf g202_ (fr107 _ (Nat.le_refl _))) g202_
  have g217_ : F205_ (n + 11) = some (.inl (2, 8, .inl (fun _ => 0))) := by rw [← hF205_]; exact ev_up_k (ev_nf g203_ (fr107 _ (Nat.le_refl _))) g203_
  have g218_ : F205_ r0 = some (.inr (11, [.ref n, .int ir0_drafted, .ref (n + 1), .ref (n + 2), .ref (n + 3), .int ir0_rows, .ref (n + 4), .ref (n + 5), .ref (n + 6), .ref (n + 7), .ref (n + 8), .int ir0_segments, .int ir0_stopped, .int ir0_fuse, .int ir0_written, .int ir0_tokens, .ref (n + 9), .ref (n + 10), .int ir0_height, .ref (n + 11), .ref (r0 + 13), .ref (r0 + 14), .int ir0_results, .ref (r0 + 15), .ref (r0 + 16), .int ir0_weighed, .ref (r0 + 17), .ref (r0 + 18), .ref (r0 + 19)])) := by rw [← hF205_]; exact ev_up_k (ev_nf g204_ (fr107 _ (Nat.le_refl _))) g204_
  have g219_ : F205_ (n + 12) = some (.inl (0, 8, .inl (fun _ => 0))) := by rw [← hF205_]; exact ev_up_s
  refine ev_putfield (pc := 109) 20 _ d_Mo_init_109 fl_Mo_48 g218_ (ev_pfn (r0 := rC11) (ty := (.array .int)) rfl (Or.inr ⟨rfl, rfl, rfl⟩) (by decide +kernel)) rfl rfl (Nat.le_of_ble_eq_true rfl) (fun F220_ hF220_ => ?_)
  have g221_ : F220_ n = some (.inl (1, 12, .inr (.inl (fun _ => 0)))) := by rw [← hF220_]; exact ev_up_k (ev_ne_ao g206_ g218_) g206_
  have g222_ : F220_ (n + 1) = some (.inl (0, 12, .inl (fun _ => 0))) := by rw [← hF220_]; exact ev_up_k (ev_ne_ao g207_ g218_) g207_
  have g223_ : F220_ (n + 2) = some (.inl (0, 12, .inl (fun _ => 0))) := by rw [← hF220_]; exact ev_up_k (ev_ne_ao g208_ g218_) g208_
  have g224_ : F220_ (n + 3) = some (.inl (1, 144, .inr (.inl (fun _ => 0)))) := by rw [← hF220_]; exact ev_up_k (ev_ne_ao g209_ g218_) g209_
  have g225_ : F220_ (n + 4) = some (.inl (0, 80, .inl (fun _ => 0))) := by rw [← hF220_]; exact ev_up_k (ev_ne_ao g210_ g218_) g210_
  have g226_ : F220_ (n + 5) = some (.inl (0, 80, .inl (fun _ => 0))) := by rw [← hF220_]; exact ev_up_k (ev_ne_ao g211_ g218_) g211_
  have g227_ : F220_ (n + 6) = some (.inl (2, 80, .inl (fun _ => 0))) := by rw [← hF220_]; exact ev_up_k (ev_ne_ao g212_ g218_) g212_
  have g228_ : F220_ (n + 7) = some (.inl (0, 80, .inl (fun _ => 0))) := by rw [← hF220_]; exact ev_up_k (ev_ne_ao g213_ g218_) g213_
  have g229_ : F220_ (n + 8) = some (.inl (1, 960, .inr (.inl (fun _ => 0)))) := by rw [← hF220_]; exact ev_up_k (ev_ne_ao g214_ g218_) g214_
  have g230_ : F220_ (n + 9) = some (.inl (0, 520, .inl (fun _ => 0))) := by rw [← hF220_]; exact ev_up_k (ev_ne_ao g215_ g218_) g215_
  have g231_ : F220_ (n + 10) = some (.inl (1, 520, .inr (.inl (fun _ => 0)))) := by rw [← hF220_]; exact ev_up_k (ev_ne_ao g216_ g218_) g216_
  have g232_ : F220_ (n + 11) = some (.inl (2, 8, .inl (fun _ => 0))) := by rw [← hF220_]; exact ev_up_k (ev_ne_ao g217_ g218_) g217_
  have g233_ : F220_ (n + 12) = some (.inl (0, 8, .inl (fun _ => 0))) := by rw [← hF220_]; exact ev_up_k (ev_ne_ao g219_ g218_) g219_
  have g234_ : F220_ r0 = some (.inr (11, [.ref n, .int ir0_drafted, .ref (n + 1), .ref (n + 2), .ref (n + 3), .int ir0_rows, .ref (n + 4), .ref (n + 5), .ref (n + 6), .ref (n + 7), .ref (n + 8), .int ir0_segments, .int ir0_stopped, .int ir0_fuse, .int ir0_written, .int ir0_tokens, .ref (n + 9), .ref (n + 10), .int ir0_height, .ref (n + 11), .ref (n + 12), .ref (r0 + 14), .int ir0_results, .ref (r0 + 15), .ref (r0 + 16), .int ir0_weighed, .ref (r0 + 17), .ref (r0 + 18), .ref (r0 + 19)])) := by rw [← hF220_]; exact ev_up_s
  refine ev_aload_n (pc := 112) d_Mo_init_112 rfl ?_
  refine ev_bipush (pc := 113) 8 d_Mo_init_113 (by decide) ?_
  refine ev_fresh fun fr115 => ?_
  refine ev_newarray (pc := 115) 2 8 (8, .inl (fun _ => 0)) d_Mo_init_115 wd_52 rfl rfl (fun _ _ h => h) (fun _ => rfl) (by decide) (by decide) (by decide) (bc2 := rc115) (bs2 := rs115) hb_rc115 hs_rs115 (fun F235_ hF235_ => ?_)
  have g236_ : F235_ n = some (.inl (1, 12, .inr (.inl (fun _ => 0)))) := by rw [← hF235_]; exact ev_up_k (ev_nf g221_ (fr115 _ (Nat.le_refl _))) g221_
  have g237_ : F235_ (n + 1) = some (.inl (0, 12, .inl (fun _ => 0))) := by rw [← hF235_]; exact ev_up_k (ev_nf g222_ (fr115 _ (Nat.le_refl _))) g222_
  have g238_ : F235_ (n + 2) = some (.inl (0, 12, .inl (fun _ => 0))) := by rw [← hF235_]; exact ev_up_k (ev_nf g223_ (fr115 _ (Nat.le_refl _))) g223_
  have g239_ : F235_ (n + 3) = some (.inl (1, 144, .inr (.inl (fun _ => 0)))) := by rw [← hF235_]; exact ev_up_k (ev_nf g224_ (fr115 _ (Nat.le_refl _))) g224_
  have g240_ : F235_ (n + 4) = some (.inl (0, 80, .inl (fun _ => 0))) := by rw [← hF235_]; exact ev_up_k (ev_nf g225_ (fr115 _ (Nat.le_refl _))) g225_
  have g241_ : F235_ (n + 5) = some (.inl (0, 80, .inl (fun _ => 0))) := by rw [← hF235_]; exact ev_up_k (ev_nf g226_ (fr115 _ (Nat.le_refl _))) g226_
  have g242_ : F235_ (n + 6) = some (.inl (2, 80, .inl (fun _ => 0))) := by rw [← hF235_]; exact ev_up_k (ev_nf g227_ (fr115 _ (Nat.le_refl _))) g227_
  have g243_ : F235_ (n + 7) = some (.inl (0, 80, .inl (fun _ => 0))) := by rw [← hF235_]; exact ev_up_k (ev_nf g228_ (fr115 _ (Nat.le_refl _))) g228_
  have g244_ : F235_ (n + 8) = some (.inl (1, 960, .inr (.inl (fun _ => 0)))) := by rw [← hF235_]; exact ev_up_k (ev_nf g229_ (fr115 _ (Nat.le_refl _))) g229_
  have g245_ : F235_ (n + 9) = some (.inl (0, 520, .inl (fun _ => 0))) := by rw [← hF235_]; exact ev_up_k (ev_nf g230_ (fr115 _ (Nat.le_refl _))) g230_
  have g246_ : F235_ (n + 10) = some (.inl (1, 520, .inr (.inl (fun _ => 0)))) := by rw [← hF235_]; exact ev_up_k (ev_nf g231_ (fr115 _ (Nat.le_refl _))) g231_
  have g247_ : F235_ (n + 11) = some (.inl (2, 8, .inl (fun _ => 0))) := by rw [← hF235_]; exact ev_up_k (ev_nf g232_ (fr115 _ (Nat.le_refl _))) g232_
  have g248_ : F235_ (n + 12) = some (.inl (0, 8, .inl (fun _ => 0))) := by rw [← hF235_]; exact ev_up_k (ev_nf g233_ (fr115 _ (Nat.le_refl _))) g233_
  have g249_ : F235_ r0 = some (.inr (11, [.ref n, .int ir0_drafted, .ref (n + 1), .ref (n + 2), .ref (n + 3), .int ir0_rows, .ref (n + 4), .ref (n + 5), .ref (n + 6), .ref (n + 7), .ref (n + 8), .int ir0_segments, .int ir0_stopped, .int ir0_fuse, .int ir0_written, .int ir0_tokens, .ref (n + 9), .ref (n + 10), .int ir0_height, .ref (n + 11), .ref (n + 12), .ref (r0 + 14), .int ir0_results, .ref (r0 + 15), .ref (r0 + 16), .int ir0_weighed, .ref (r0 + 17), .ref (r0 + 18), .ref (r0 + 19)])) := by rw [← hF235_]; exact ev_up_k (ev_nf g234_ (fr115 _ (Nat.le_refl _))) g234_
  have g250_ : F235_ (n + 13) = some (.inl (2, 8, .inl (fun _ => 0))) := by rw [← hF235_]; exact ev_up_s
  refine ev_putfield (pc := 117) 21 _ d_Mo_init_117 fl_Mo_51 g249_ (ev_pfn (r0 := rC11) (ty := (.array .boolean)) rfl (Or.inr ⟨rfl, rfl, rfl⟩) (by decide +kernel)) rfl rfl (Nat.le_of_ble_eq_true rfl) (fun F251_ hF251_ => ?_)
  have g252_ : F251_ n = some (.inl (1, 12, .inr (.inl (fun _ => 0)))) := by rw [← hF251_]; exact ev_up_k (ev_ne_ao g236_ g249_) g236_
  have g253_ : F251_ (n + 1) = some (.inl (0, 12, .inl (fun _ => 0))) := by rw [← hF251_]; exact ev_up_k (ev_ne_ao g237_ g249_) g237_
  have g254_ : F251_ (n + 2) = some (.inl (0, 12, .inl (fun _ => 0))) := by rw [← hF251_]; exact ev_up_k (ev_ne_ao g238_ g249_) g238_
  have g255_ : F251_ (n + 3) = some (.inl (1, 144, .inr (.inl (fun _ => 0)))) := by rw [← hF251_]; exact ev_up_k (ev_ne_ao g239_ g249_) g239_
  have g256_ : F251_ (n + 4) = some (.inl (0, 80, .inl (fun _ => 0))) := by rw [← hF251_]; exact ev_up_k (ev_ne_ao g240_ g249_) g240_
  have g257_ : F251_ (n + 5) = some (.inl (0, 80, .inl (fun _ => 0))) := by rw [← hF251_]; exact ev_up_k (ev_ne_ao g241_ g249_) g241_
  have g258_ : F251_ (n + 6) = some (.inl (2, 80, .inl (fun _ => 0))) := by rw [← hF251_]; exact ev_up_k (ev_ne_ao g242_ g249_) g242_
  have g259_ : F251_ (n + 7) = some (.inl (0, 80, .inl (fun _ => 0))) := by rw [← hF251_]; exact ev_up_k (ev_ne_ao g243_ g249_) g243_
  have g260_ : F251_ (n + 8) = some (.inl (1, 960, .inr (.inl (fun _ => 0)))) := by rw [← hF251_]; exact ev_up_k (ev_ne_ao g244_ g249_) g244_
  have g261_ : F251_ (n + 9) = some (.inl (0, 520, .inl (fun _ => 0))) := by rw [← hF251_]; exact ev_up_k (ev_ne_ao g245_ g249_) g245_
  have g262_ : F251_ (n + 10) = some (.inl (1, 520, .inr (.inl (fun _ => 0)))) := by rw [← hF251_]; exact ev_up_k (ev_ne_ao g246_ g249_) g246_
  have g263_ : F251_ (n + 11) = some (.inl (2, 8, .inl (fun _ => 0))) := by rw [← hF251_]; exact ev_up_k (ev_ne_ao g247_ g249_) g247_
  have g264_ : F251_ (n + 12) = some (.inl (0, 8, .inl (fun _ => 0))) := by rw [← hF251_]; exact ev_up_k (ev_ne_ao g248_ g249_) g248_
  have g265_ : F251_ (n + 13) = some (.inl (2, 8, .inl (fun _ => 0))) := by rw [← hF251_]; exact ev_up_k (ev_ne_ao g250_ g249_) g250_
  have g266_ : F251_ r0 = some (.inr (11, [.ref n, .int ir0_drafted, .ref (n + 1), .ref (n + 2), .ref (n + 3), .int ir0_rows, .ref (n + 4), .ref (n + 5), .ref (n + 6), .ref (n + 7), .ref (n + 8), .int ir0_segments, .int ir0_stopped, .int ir0_fuse, .int ir0_written, .int ir0_tokens, .ref (n + 9), .ref (n + 10), .int ir0_height, .ref (n + 11), .ref (n + 12), .ref (n + 13), .int ir0_results, .ref (r0 + 15), .ref (r0 + 16), .int ir0_weighed, .ref (r0 + 17), .ref (r0 + 18), .ref (r0 + 19)])) := by rw [← hF251_]; exact ev_up_s
  refine ev_aload_n (pc := 120) d_Mo_init_120 rfl ?_
  refine ev_bipush (pc := 121) 12 d_Mo_init_121 (by decide) ?_
  refine ev_fresh fun fr123 => ?_
  refine ev_newarray (pc := 123) 0 12 (12, .inl (fun _ => 0)) d_Mo_init_123 wd_153 rfl rfl (fun _ _ h => h) (fun _ => rfl) (by decide) (by decide) (by decide) (bc2 := rc123) (bs2 := rs123) hb_rc123 hs_rs123 (fun F267_ hF267_ => ?_)
  have g268_ : F267_ n = some (.inl (1, 12, .inr (.inl (fun _ => 0)))) := by rw [← hF267_]; exact ev_up_k (ev_nf g252_ (fr123 _ (Nat.le_refl _))) g252_
  have g269_ : F267_ (n + 1) = some (.inl (0, 12, .inl (fun _ => 0))) := by rw [← hF267_]; exact ev_up_k (ev_nf g253_ (fr123 _ (Nat.le_refl _))) g253_
  have g270_ : F267_ (n + 2) = some (.inl (0, 12, .inl (fun _ => 0))) := by rw [← hF267_]; exact ev_up_k (ev_nf g254_ (fr123 _ (Nat.le_refl _))) g254_
  have g271_ : F267_ (n + 3) = some (.inl (1, 144, .inr (.inl (fun _ => 0)))) := by rw [← hF267_]; exact ev_up_k (ev_nf g255_ (fr123 _ (Nat.le_refl _))) g255_
  have g272_ : F267_ (n + 4) = some (.inl (0, 80, .inl (fun _ => 0))) := by rw [← hF267_]; exact ev_up_k (ev_nf g256_ (fr123 _ (Nat.le_refl _))) g256_
  have g273_ : F267_ (n + 5) = some (.inl (0, 80, .inl (fun _ => 0))) := by rw [← hF267_]; exact ev_up_k (ev_nf g257_ (fr123 _ (Nat.le_refl _))) g257_
  have g274_ : F267_ (n + 6) = some (.inl (2, 80, .inl (fun _ => 0))) := by rw [← hF267_]; exact ev_up_k (ev_nf g258_ (fr123 _ (Nat.le_refl _))) g258_
  have g275_ : F267_ (n + 7) = some (.inl (0, 80, .inl (fun _ => 0))) := by rw [← hF267_]; exact ev_up_k (ev_nf g259_ (fr123 _ (Nat.le_refl _))) g259_
  have g276_ : F267_ (n + 8) = some (.inl (1, 960, .inr (.inl (fun _ => 0)))) := by rw [← hF267_]; exact ev_up_k (ev_nf g260_ (fr123 _ (Nat.le_refl _))) g260_
  have g277_ : F267_ (n + 9) = some (.inl (0, 520, .inl (fun _ => 0))) := by rw [← hF267_]; exact ev_up_k (ev_nf g261_ (fr123 _ (Nat.le_refl _))) g261_
  have g278_ : F267_ (n + 10) = some (.inl (1, 520, .inr (.inl (fun _ => 0)))) := by rw [← hF267_]; exact ev_up_k (ev_nf g262_ (fr123 _ (Nat.le_refl _))) g262_
  have g279_ : F267_ (n + 11) = some (.inl (2, 8, .inl (fun _ => 0))) := by rw [← hF267_]; exact ev_up_k (ev_nf g263_ (fr123 _ (Nat.le_refl _))) g263_
  have g280_ : F267_ (n + 12) = some (.inl (0, 8, .inl (fun _ => 0))) := by rw [← hF267_]; exact ev_up_k (ev_nf g264_ (fr123 _ (Nat.le_refl _))) g264_
  have g281_ : F267_ (n + 13) = some (.inl (2, 8, .inl (fun _ => 0))) := by rw [← hF267_]; exact ev_up_k (ev_nf g265_ (fr123 _ (Nat.le_refl _))) g265_
  have g282_ : F267_ r0 = some (.inr (11, [.ref n, .int ir0_drafted, .ref (n + 1), .ref (n + 2), .ref (n + 3), .int ir0_rows, .ref (n + 4), .ref (n + 5), .ref (n + 6), .ref (n + 7), .ref (n + 8), .int ir0_segments, .int ir0_stopped, .int ir0_fuse, .int ir0_written, .int ir0_tokens, .ref (n + 9), .ref (n + 10), .int ir0_height, .ref (n + 11), .ref (n + 12), .ref (n + 13), .int ir0_results, .ref (r0 + 15), .ref (r0 + 16), .int ir0_weighed, .ref (r0 + 17), .ref (r0 + 18), .ref (r0 + 19)])) := by rw [← hF267_]; exact ev_up_k (ev_nf g266_ (fr123 _ (Nat.le_refl _))) g266_
  have g283_ : F267_ (n + 14) = some (.inl (0, 12, .inl (fun _ => 0))) := by rw [← hF267_]; exact ev_up_s
  refine ev_putfield (pc := 125) 23 _ d_Mo_init_125 fl_Mo_54 g282_ (ev_pfn (r0 := rC11) (ty := (.array .int)) rfl (Or.inr ⟨rfl, rfl, rfl⟩) (by decide +kernel)) rfl rfl (Nat.le_of_ble_eq_true rfl) (fun F284_ hF284_ => ?_)
  have g285_ : F284_ n = some (.inl (1, 12, .inr (.inl (fun _ => 0)))) := by rw [← hF284_]; exact ev_up_k (ev_ne_ao g268_ g282_) g268_
  have g286_ : F284_ (n + 1) = some (.inl (0, 12, .inl (fun _ => 0))) := by rw [← hF284_]; exact ev_up_k (ev_ne_ao g269_ g282_) g269_
  have g287_ : F284_ (n + 2) = some (.inl (0, 12, .inl (fun _ => 0))) := by rw [← hF284_]; exact ev_up_k (ev_ne_ao g270_ g282_) g270_
  have g288_ : F284_ (n + 3) = some (.inl (1, 144, .inr (.inl (fun _ => 0)))) := by rw [← hF284_]; exact ev_up_k (ev_ne_ao g271_ g282_) g271_
  have g289_ : F284_ (n + 4) = some (.inl (0, 80, .inl (fun _ => 0))) := by rw [← hF284_]; exact ev_up_k (ev_ne_ao g272_ g282_) g272_
  have g290_ : F284_ (n + 5) = some (.inl (0, 80, .inl (fun _ => 0))) := by rw [← hF284_]; exact ev_up_k (ev_ne_ao g273_ g282_) g273_
  have g291_ : F284_ (n + 6) = some (.inl (2, 80, .inl (fun _ => 0))) := by rw [← hF284_]; exact ev_up_k (ev_ne_ao g274_ g282_) g274_
  have g292_ : F284_ (n + 7) = some (.inl (0, 80, .inl (fun _ => 0))) := by rw [← hF284_]; exact ev_up_k (ev_ne_ao g275_ g282_) g275_
  have g293_ : F284_ (n + 8) = some (.inl (1, 960, .inr (.inl (fun _ => 0)))) := by rw [← hF284_]; exact ev_up_k (ev_ne_ao g276_ g282_) g276_
  have g294_ : F284_ (n + 9) = some (.inl (0, 520, .inl (fun _ => 0))) := by rw [← hF284_]; exact ev_up_k (ev_ne_ao g277_ g282_) g277_
  have g295_ : F284_ (n + 10) = some (.inl (1, 520, .inr (.inl (fun _ => 0)))) := by rw [← hF284_]; exact ev_up_k (ev_ne_ao g278_ g282_) g278_
  have g296_ : F284_ (n + 11) = some (.inl (2, 8, .inl (fun _ => 0))) := by rw [← hF284_]; exact ev_up_k (ev_ne_ao g279_ g282_) g279_
  have g297_ : F284_ (n + 12) = some (.inl (0, 8, .inl (fun _ => 0))) := by rw [← hF284_]; exact ev_up_k (ev_ne_ao g280_ g282_) g280_
  have g298_ : F284_ (n + 13) = some (.inl (2, 8, .inl (fun _ => 0))) := by rw [← hF284_]; exact ev_up_k (ev_ne_ao g281_ g282_) g281_
  have g299_ : F284_ (n + 14) = some (.inl (0, 12, .inl (fun _ => 0))) := by rw [← hF284_]; exact ev_up_k (ev_ne_ao g283_ g282_) g283_
  have g300_ : F284_ r0 = some (.inr (11, [.ref n, .int ir0_drafted, .ref (n + 1), .ref (n + 2), .ref (n + 3), .int ir0_rows, .ref (n + 4), .ref (n + 5), .ref (n + 6), .ref (n + 7), .ref (n + 8), .int ir0_segments, .int ir0_stopped, .int ir0_fuse, .int ir0_written, .int ir0_tokens, .ref (n + 9), .ref (n + 10), .int ir0_height, .ref (n + 11), .ref (n + 12), .ref (n + 13), .int ir0_results, .ref (n + 14), .ref (r0 + 16), .int ir0_weighed, .ref (r0 + 17), .ref (r0 + 18), .ref (r0 + 19)])) := by rw [← hF284_]; exact ev_up_s
  refine ev_aload_n (pc := 128) d_Mo_init_128 rfl ?_
  refine ev_bipush (pc := 129) 12 d_Mo_init_129 (by decide) ?_
  refine ev_fresh fun fr131 => ?_
  refine ev_newarray (pc := 131) 1 12 (12, .inr (.inl (fun _ => 0))) d_Mo_init_131 wd_85 rfl rfl (fun _ _ h => h) (fun _ => rfl) (by decide) (by decide) (by decide) (bc2 := rc131) (bs2 := rs131) hb_rc131 hs_rs131 (fun F301_ hF301_ => ?_)
  have g302_ : F301_ n = some (.inl (1, 12, .inr (.inl (fun _ => 0)))) := by rw [← hF301_]; exact ev_up_k (ev_nf g285_ (fr131 _ (Nat.le_refl _))) g285_
  have g303_ : F301_ (n + 1) = some (.inl (0, 12, .inl (fun _ => 0))) := by rw [← hF301_]; exact ev_up_k (ev_nf g286_ (fr131 _ (Nat.le_refl _))) g286_
  have g304_ : F301_ (n + 2) = some (.inl (0, 12, .inl (fun _ => 0))) := by rw [← hF301_]; exact ev_up_k (ev_nf g287_ (fr131 _ (Nat.le_refl _))) g287_
  have g305_ : F301_ (n + 3) = some (.inl (1, 144, .inr (.inl (fun _ => 0)))) := by rw [← hF301_]; exact ev_up_k (ev_nf g288_ (fr131 _ (Nat.le_refl _))) g288_
  have g306_ : F301_ (n + 4) = some (.inl (0, 80, .inl (fun _ => 0))) := by rw [← hF301_]; exact ev_up_k (ev_nf g289_ (fr131 _ (Nat.le_refl _))) g289_
  have g307_ : F301_ (n + 5) = some (.inl (0, 80, .inl (fun _ => 0))) := by rw [← hF301_]; exact ev_up_k (ev_nf g290_ (fr131 _ (Nat.le_refl _))) g290_
  have g308_ : F301_ (n + 6) = some (.inl (2, 80, .inl (fun _ => 0))) := by rw [← hF301_]; exact ev_up_k (ev_nf g291_ (fr131 _ (Nat.le_refl _))) g291_
  have g309_ : F301_ (n + 7) = some (.inl (0, 80, .inl (fun _ => 0))) := by rw [← hF301_]; exact ev_up_k (ev_nf g292_ (fr131 _ (Nat.le_refl _))) g292_
  have g310_ : F301_ (n + 8) = some (.inl (1, 960, .inr (.inl (fun _ => 0)))) := by rw [← hF301_]; exact ev_up_k (ev_nf g293_ (fr131 _ (Nat.le_refl _))) g293_
  have g311_ : F301_ (n + 9) = some (.inl (0, 520, .inl (fun _ => 0))) := by rw [← hF301_]; exact ev_up_k (ev_nf g294_ (fr131 _ (Nat.le_refl _))) g294_
  have g312_ : F301_ (n + 10) = some (.inl (1, 520, .inr (.inl (fun _ => 0)))) := by rw [← hF301_]; exact ev_up_k (ev_nf g295_ (fr131 _ (Nat.le_refl _))) g295_
  have g313_ : F301_ (n + 11) = some (.inl (2, 8, .inl (fun _ => 0))) := by rw [← hF301_]; exact ev_up_k (ev_nf g296_ (fr131 _ (Nat.le_refl _))) g296_
  have g314_ : F301_ (n + 12) = some (.inl (0, 8, .inl (fun _ => 0))) := by rw [← hF301_]; exact ev_up_k (ev_nf g297_ (fr131 _ (Nat.le_refl _))) g297_
  have g315_ : F301_ (n + 13) = some (.inl (2, 8, .inl (fun _ => 0))) := by rw [← hF301_]; exact ev_up_k (ev_nf g298_ (fr131 _ (Nat.le_refl _))) g298_
  have g316_ : F301_ (n + 14) = some (.inl (0, 12, .inl (fun _ => 0))) := by rw [← hF301_]; exact ev_up_k (ev_nf g299_ (fr131 _ (Nat.le_refl _))) g299_
  have g317_ : F301_ r0 = some (.inr (11, [.ref n, .int ir0_drafted, .ref (n + 1), .ref (n + 2), .ref (n + 3), .int ir0_rows, .ref (n + 4), .ref (n + 5), .ref (n + 6), .ref (n + 7), .ref (n + 8), .int ir0_segments, .int ir0_stopped, .int ir0_fuse, .int ir0_written, .int ir0_tokens, .ref (n + 9), .ref (n + 10), .int ir0_height, .ref (n + 11), .ref (n + 12), .ref (n + 13), .int ir0_results, .ref (n + 14), .ref (r0 + 16), .int ir0_weighed, .ref (r0 + 17), .ref (r0 + 18), .ref (r0 + 19)])) := by rw [← hF301_]; exact ev_up_k (ev_nf g300_ (fr131 _ (Nat.le_refl _))) g300_
  have g318_ : F301_ (n + 15) = some (.inl (1, 12, .inr (.inl (fun _ => 0)))) := by rw [← hF301_]; exact ev_up_s
  refine ev_putfield (pc := 133) 24 _ d_Mo_init_133 fl_Mo_57 g317_ (ev_pfn (r0 := rC11) (ty := (.array .long)) rfl (Or.inr ⟨rfl, rfl, rfl⟩) (by decide +kernel)) rfl rfl (Nat.le_of_ble_eq_true rfl) (fun F319_ hF319_ => ?_)
  have g320_ : F319_ n = some (.inl (1, 12, .inr (.inl (fun _ => 0)))) := by rw [← hF319_]; exact ev_up_k (ev_ne_ao g302_ g317_) g302_
  have g321_ : F319_ (n + 1) = some (.inl (0, 12, .inl (fun _ => 0))) := by rw [← hF319_]; exact ev_up_k (ev_ne_ao g303_ g317_) g303_
  have g322_ : F319_ (n + 2) = some (.inl (0, 12, .inl (fun _ => 0))) := by rw [← hF319_]; exact ev_up_k (ev_ne_ao g304_ g317_) g304_
  have g323_ : F319_ (n + 3) = some (.inl (1, 144, .inr (.inl (fun _ => 0)))) := by rw [← hF319_]; exact ev_up_k (ev_ne_ao g305_ g317_) g305_
  have g324_ : F319_ (n + 4) = some (.inl (0, 80, .inl (fun _ => 0))) := by rw [← hF319_]; exact ev_up_k (ev_ne_ao g306_ g317_) g306_
  have g325_ : F319_ (n + 5) = some (.inl (0, 80, .inl (fun _ => 0))) := by rw [← hF319_]; exact ev_up_k (ev_ne_ao g307_ g317_) g307_
  have g326_ : F319_ (n + 6) = some (.inl (2, 80, .inl (fun _ => 0))) := by rw [← hF319_]; exact ev_up_k (ev_ne_ao g308_ g317_) g308_
  have g327_ : F319_ (n + 7) = some (.inl (0, 80, .inl (fun _ => 0))) := by rw [← hF319_]; exact ev_up_k (ev_ne_ao g309_ g317_) g309_
  have g328_ : F319_ (n + 8) = some (.inl (1, 960, .inr (.inl (fun _ => 0)))) := by rw [← hF319_]; exact ev_up_k (ev_ne_ao g310_ g317_) g310_
  have g329_ : F319_ (n + 9) = some (.inl (0, 520, .inl (fun _ => 0))) := by rw [← hF319_]; exact ev_up_k (ev_ne_ao g311_ g317_) g311_
  have g330_ : F319_ (n + 10) = some (.inl (1, 520, .inr (.inl (fun _ => 0)))) := by rw [← hF319_]; exact ev_up_k (ev_ne_ao g312_ g317_) g312_
  have g331_ : F319_ (n + 11) = some (.inl (2, 8, .inl (fun _ => 0))) := by rw [← hF319_]; exact ev_up_k (ev_ne_ao g313_ g317_) g313_
  have g332_ : F319_ (n + 12) = some (.inl (0, 8, .inl (fun _ => 0))) := by rw [← hF319_]; exact ev_up_k (ev_ne_ao g314_ g317_) g314_
  have g333_ : F319_ (n + 13) = some (.inl (2, 8, .inl (fun _ => 0))) := by rw [← hF319_]; exact ev_up_k (ev_ne_ao g315_ g317_) g315_
  have g334_ : F319_ (n + 14) = some (.inl (0, 12, .inl (fun _ => 0))) := by rw [← hF319_]; exact ev_up_k (ev_ne_ao g316_ g317_) g316_
  have g335_ : F319_ (n + 15) = some (.inl (1, 12, .inr (.inl (fun _ => 0)))) := by rw [← hF319_]; exact ev_up_k (ev_ne_ao g318_ g317_) g318_
  have g336_ : F319_ r0 = some (.inr (11, [.ref n, .int ir0_drafted, .ref (n + 1), .ref (n + 2), .ref (n + 3), .int ir0_rows, .ref (n + 4), .ref (n + 5), .ref (n + 6), .ref (n + 7), .ref (n + 8), .int ir0_segments, .int ir0_stopped, .int ir0_fuse, .int ir0_written, .int ir0_tokens, .ref (n + 9), .ref (n + 10), .int ir0_height, .ref (n + 11), .ref (n + 12), .ref (n + 13), .int ir0_results, .ref (n + 14), .ref (n + 15), .int ir0_weighed, .ref (r0 + 17), .ref (r0 + 18), .ref (r0 + 19)])) := by rw [← hF319_]; exact ev_up_s
  refine ev_aload_n (pc := 136) d_Mo_init_136 rfl ?_
  refine ev_bipush (pc := 137) 12 d_Mo_init_137 (by decide) ?_
  refine ev_fresh fun fr139 => ?_
  refine ev_newarray (pc := 139) 0 12 (12, .inl (fun _ => 0)) d_Mo_init_139 wd_153 rfl rfl (fun _ _ h => h) (fun _ => rfl) (by decide) (by decide) (by decide) (bc2 := rc139) (bs2 := rs139) hb_rc139 hs_rs139 (fun F337_ hF337_ => ?_)
  have g338_ : F337_ n = some (.inl (1, 12, .inr (.inl (fun _ => 0)))) := by rw [← hF337_]; exact ev_up_k (ev_nf g320_ (fr139 _ (Nat.le_refl _))) g320_
  have g339_ : F337_ (n + 1) = some (.inl (0, 12, .inl (fun _ => 0))) := by rw [← hF337_]; exact ev_up_k (ev_nf g321_ (fr139 _ (Nat.le_refl _))) g321_
  have g340_ : F337_ (n + 2) = some (.inl (0, 12, .inl (fun _ => 0))) := by rw [← hF337_]; exact ev_up_k (ev_nf g322_ (fr139 _ (Nat.le_refl _))) g322_
  have g341_ : F337_ (n + 3) = some (.inl (1, 144, .inr (.inl (fun _ => 0)))) := by rw [← hF337_]; exact ev_up_k (ev_nf g323_ (fr139 _ (Nat.le_refl _))) g323_
  have g342_ : F337_ (n + 4) = some (.inl (0, 80, .inl (fun _ => 0))) := by rw [← hF337_]; exact ev_up_k (ev_nf g324_ (fr139 _ (Nat.le_refl _))) g324_
  have g343_ : F337_ (n + 5) = some (.inl (0, 80, .inl (fun _ => 0))) := by rw [← hF337_]; exact ev_up_k (ev_nf g325_ (fr139 _ (Nat.le_refl _))) g325_
  have g344_ : F337_ (n + 6) = some (.inl (2, 80, .inl (fun _ => 0))) := by rw [← hF337_]; exact ev_up_k (ev_nf g326_ (fr139 _ (Nat.le_refl _))) g326_
  have g345_ : F337_ (n + 7) = some (.inl (0, 80, .inl (fun _ => 0))) := by rw [← hF337_]; exact ev_up_k (ev_nf g327_ (fr139 _ (Nat.le_refl _))) g327_
  have g346_ : F337_ (n + 8) = some (.inl (1, 960, .inr (.inl (fun _ => 0)))) := by rw [← hF337_]; exact ev_up_k (ev_nf g328_ (fr139 _ (Nat.le_refl _))) g328_
  have g347_ : F337_ (n + 9) = some (.inl (0, 520, .inl (fun _ => 0))) := by rw [← hF337_]; exact ev_up_k (ev_nf g329_ (fr139 _ (Nat.le_refl _))) g329_
  have g348_ : F337_ (n + 10) = some (.inl (1, 520, .inr (.inl (fun _ => 0)))) := by rw [← hF337_]; exact ev_up_k (ev_nf g330_ (fr139 _ (Nat.le_refl _))) g330_
  have g349_ : F337_ (n + 11) = some (.inl (2, 8, .inl (fun _ => 0))) := by rw [← hF337_]; exact ev_up_k (ev_nf g331_ (fr139 _ (Nat.le_refl _))) g331_
  have g350_ : F337_ (n + 12) = some (.inl (0, 8, .inl (fun _ => 0))) := by rw [← hF337_]; exact ev_up_k (ev_nf g332_ (fr139 _ (Nat.le_refl _))) g332_
  have g351_ : F337_ (n + 13) = some (.inl (2, 8, .inl (fun _ => 0))) := by rw [← hF337_]; exact ev_up_k (ev_nf g333_ (fr139 _ (Nat.le_refl _))) g333_
  have g352_ : F337_ (n + 14) = some (.inl (0, 12, .inl (fun _ => 0))) := by rw [← hF337_]; exact ev_up_k (ev_nf g334_ (fr139 _ (Nat.le_refl _))) g334_
  have g353_ : F337_ (n + 15) = some (.inl (1, 12, .inr (.inl (fun _ => 0)))) := by rw [← hF337_]; exact ev_up_k (ev_nf g335_ (fr139 _ (Nat.le_refl _))) g335_
  have g354_ : F337_ r0 = some (.inr (11, [.ref n, .int ir0_drafted, .ref (n + 1), .ref (n + 2), .ref (n + 3), .int ir0_rows, .ref (n + 4), .ref (n + 5), .ref (n + 6), .ref (n + 7), .ref (n + 8), .int ir0_segments, .int ir0_stopped, .int ir0_fuse, .int ir0_written, .int ir0_tokens, .ref (n + 9), .ref (n + 10), .int ir0_height, .ref (n + 11), .ref (n + 12), .ref (n + 13), .int ir0_results, .ref (n + 14), .ref (n + 15), .int ir0_weighed, .ref (r0 + 17), .ref (r0 + 18), .ref (r0 + 19)])) := by rw [← hF337_]; exact ev_up_k (ev_nf g336_ (fr139 _ (Nat.le_refl _))) g336_
  have g355_ : F337_ (n + 16) = some (.inl (0, 12, .inl (fun _ => 0))) := by rw [← hF337_]; exact ev_up_s
  refine ev_putfield (pc := 141) 26 _ d_Mo_init_141 fl_Mo_60 g354_ (ev_pfn (r0 := rC11) (ty := (.array .int)) rfl (Or.inr ⟨rfl, rfl, rfl⟩) (by decide +kernel)) rfl rfl (Nat.le_of_ble_eq_true rfl) (fun F356_ hF356_ => ?_)
  have g357_ : F356_ n = some (.inl (1, 12, .inr (.inl (fun _ => 0)))) := by rw [← hF356_]; exact ev_up_k (ev_ne_ao g338_ g354_) g338_
  have g358_ : F356_ (n + 1) = some (.inl (0, 12, .inl (fun _ => 0))) := by rw [← hF356_]; exact ev_up_k (ev_ne_ao g339_ g354_) g339_
  have g359_ : F356_ (n + 2) = some (.inl (0, 12, .inl (fun _ => 0))) := by rw [← hF356_]; exact ev_up_k (ev_ne_ao g340_ g354_) g340_
  have g360_ : F356_ (n + 3) = some (.inl (1, 144, .inr (.inl (fun _ => 0)))) := by rw [← hF356_]; exact ev_up_k (ev_ne_ao g341_ g354_) g341_
  have g361_ : F356_ (n + 4) = some (.inl (0, 80, .inl (fun _ => 0))) := by rw [← hF356_]; exact ev_up_k (ev_ne_ao g342_ g354_) g342_
  have g362_ : F356_ (n + 5) = some (.inl (0, 80, .inl (fun _ => 0))) := by rw [← hF356_]; exact ev_up_k (ev_ne_ao g343_ g354_) g343_
  have g363_ : F356_ (n + 6) = some (.inl (2, 80, .inl (fun _ => 0))) := by rw [← hF356_]; exact ev_up_k (ev_ne_ao g344_ g354_) g344_
  have g364_ : F356_ (n + 7) = some (.inl (0, 80, .inl (fun _ => 0))) := by rw [← hF356_]; exact ev_up_k (ev_ne_ao g345_ g354_) g345_
  have g365_ : F356_ (n + 8) = some (.inl (1, 960, .inr (.inl (fun _ => 0)))) := by rw [← hF356_]; exact ev_up_k (ev_ne_ao g346_ g354_) g346_
  have g366_ : F356_ (n + 9) = some (.inl (0, 520, .inl (fun _ => 0))) := by rw [← hF356_]; exact ev_up_k (ev_ne_ao g347_ g354_) g347_
  have g367_ : F356_ (n + 10) = some (.inl (1, 520, .inr (.inl (fun _ => 0)))) := by rw [← hF356_]; exact ev_up_k (ev_ne_ao g348_ g354_) g348_
  have g368_ : F356_ (n + 11) = some (.inl (2, 8, .inl (fun _ => 0))) := by rw [← hF356_]; exact ev_up_k (ev_ne_ao g349_ g354_) g349_
  have g369_ : F356_ (n + 12) = some (.inl (0, 8, .inl (fun _ => 0))) := by rw [← hF356_]; exact ev_up_k (ev_ne_ao g350_ g354_) g350_
  have g370_ : F356_ (n + 13) = some (.inl (2, 8, .inl (fun _ => 0))) := by rw [← hF356_]; exact ev_up_k (ev_ne_ao g351_ g354_) g351_
  have g371_ : F356_ (n + 14) = some (.inl (0, 12, .inl (fun _ => 0))) := by rw [← hF356_]; exact ev_up_k (ev_ne_ao g352_ g354_) g352_
  have g372_ : F356_ (n + 15) = some (.inl (1, 12, .inr (.inl (fun _ => 0)))) := by rw [← hF356_]; exact ev_up_k (ev_ne_ao g353_ g354_) g353_
  have g373_ : F356_ (n + 16) = some (.inl (0, 12, .inl (fun _ => 0))) := by rw [← hF356_]; exact ev_up_k (ev_ne_ao g355_ g354_) g355_
  have g374_ : F356_ r0 = some (.inr (11, [.ref n, .int ir0_drafted, .ref (n + 1), .ref (n + 2), .ref (n + 3), .int ir0_rows, .ref (n + 4), .ref (n + 5), .ref (n + 6), .ref (n + 7), .ref (n + 8), .int ir0_segments, .int ir0_stopped, .int ir0_fuse, .int ir0_written, .int ir0_tokens, .ref (n + 9), .ref (n + 10), .int ir0_height, .ref (n + 11), .ref (n + 12), .ref (n + 13), .int ir0_results, .ref (n + 14), .ref (n + 15), .int ir0_weighed, .ref (n + 16), .ref (r0 + 18), .ref (r0 + 19)])) := by rw [← hF356_]; exact ev_up_s
  refine ev_aload_n (pc := 144) d_Mo_init_144 rfl ?_
  refine ev_bipush (pc := 145) 12 d_Mo_init_145 (by decide) ?_
  refine ev_fresh fun fr147 => ?_
  refine ev_newarray (pc := 147) 1 12 (12, .inr (.inl (fun _ => 0))) d_Mo_init_147 wd_85 rfl rfl (fun _ _ h => h) (fun _ => rfl) (by decide) (by decide) (by decide) (bc2 := rc147) (bs2 := rs147) hb_rc147 hs_rs147 (fun F375_ hF375_ => ?_)
  have g376_ : F375_ n = some (.inl (1, 12, .inr (.inl (fun _ => 0)))) := by rw [← hF375_]; exact ev_up_k (ev_nf g357_ (fr147 _ (Nat.le_refl _))) g357_
  have g377_ : F375_ (n + 1) = some (.inl (0, 12, .inl (fun _ => 0))) := by rw [← hF375_]; exact ev_up_k (ev_nf g358_ (fr147 _ (Nat.le_refl _))) g358_
  have g378_ : F375_ (n + 2) = some (.inl (0, 12, .inl (fun _ => 0))) := by rw [← hF375_]; exact ev_up_k (ev_nf g359_ (fr147 _ (Nat.le_refl _))) g359_
  have g379_ : F375_ (n + 3) = some (.inl (1, 144, .inr (.inl (fun _ => 0)))) := by rw [← hF375_]; exact ev_up_k (ev_nf g360_ (fr147 _ (Nat.le_refl _))) g360_
  have g380_ : F375_ (n + 4) = some (.inl (0, 80, .inl (fun _ => 0))) := by rw [← hF375_]; exact ev_up_k (ev_nf g361_ (fr147 _ (Nat.le_refl _))) g361_
  have g381_ : F375_ (n + 5) = some (.inl (0, 80, .inl (fun _ => 0))) := by rw [← hF375_]; exact ev_up_k (ev_nf g362_ (fr147 _ (Nat.le_refl _))) g362_
  have g382_ : F375_ (n + 6) = some (.inl (2, 80, .inl (fun _ => 0))) := by rw [← hF375_]; exact ev_up_k (ev_nf g363_ (fr147 _ (Nat.le_refl _))) g363_
  have g383_ : F375_ (n + 7) = some (.inl (0, 80, .inl (fun _ => 0))) := by rw [← hF375_]; exact ev_up_k (ev_nf g364_ (fr147 _ (Nat.le_refl _))) g364_
  have g384_ : F375_ (n + 8) = some (.inl (1, 960, .inr (.inl (fun _ => 0)))) := by rw [← hF375_]; exact ev_up_k (ev_nf g365_ (fr147 _ (Nat.le_refl _))) g365_
  have g385_ : F375_ (n + 9) = some (.inl (0, 520, .inl (fun _ => 0))) := by rw [← hF375_]; exact ev_up_k (ev_nf g366_ (fr147 _ (Nat.le_refl _))) g366_
  have g386_ : F375_ (n + 10) = some (.inl (1, 520, .inr (.inl (fun _ => 0)))) := by rw [← hF375_]; exact ev_up_k (ev_nf g367_ (fr147 _ (Nat.le_refl _))) g367_
  have g387_ : F375_ (n + 11) = some (.inl (2, 8, .inl (fun _ => 0))) := by rw [← hF375_]; exact ev_up_k (ev_nf g368_ (fr147 _ (Nat.le_refl _))) g368_
  have g388_ : F375_ (n + 12) = some (.inl (0, 8, .inl (fun _ => 0))) := by rw [← hF375_]; exact ev_up_k (ev_nf g369_ (fr147 _ (Nat.le_refl _))) g369_
  have g389_ : F375_ (n + 13) = some (.inl (2, 8, .inl (fun _ => 0))) := by rw [← hF375_]; exact ev_up_k (ev_nf g370_ (fr147 _ (Nat.le_refl _))) g370_
  have g390_ : F375_ (n + 14) = some (.inl (0, 12, .inl (fun _ => 0))) := by rw [← hF375_]; exact ev_up_k (ev_nf g371_ (fr147 _ (Nat.le_refl _))) g371_
  have g391_ : F375_ (n + 15) = some (.inl (1, 12, .inr (.inl (fun _ => 0)))) := by rw [← hF375_]; exact ev_up_k (ev_nf g372_ (fr147 _ (Nat.le_refl _))) g372_
  have g392_ : F375_ (n + 16) = some (.inl (0, 12, .inl (fun _ => 0))) := by rw [← hF375_]; exact ev_up_k (ev_nf g373_ (fr147 _ (Nat.le_refl _))) g373_
  have g393_ : F375_ r0 = some (.inr (11, [.ref n, .int ir0_drafted, .ref (n + 1), .ref (n + 2), .ref (n + 3), .int ir0_rows, .ref (n + 4), .ref (n + 5), .ref (n + 6), .ref (n + 7), .ref (n + 8), .int ir0_segments, .int ir0_stopped, .int ir0_fuse, .int ir0_written, .int ir0_tokens, .ref (n + 9), .ref (n + 10), .int ir0_height, .ref (n + 11), .ref (n + 12), .ref (n + 13), .int ir0_results, .ref (n + 14), .ref (n + 15), .int ir0_weighed, .ref (n + 16), .ref (r0 + 18), .ref (r0 + 19)])) := by rw [← hF375_]; exact ev_up_k (ev_nf g374_ (fr147 _ (Nat.le_refl _))) g374_
  have g394_ : F375_ (n + 17) = some (.inl (1, 12, .inr (.inl (fun _ => 0)))) := by rw [← hF375_]; exact ev_up_s
  refine ev_putfield (pc := 149) 27 _ d_Mo_init_149 fl_Mo_63 g393_ (ev_pfn (r0 := rC11) (ty := (.array .long)) rfl (Or.inr ⟨rfl, rfl, rfl⟩) (by decide +kernel)) rfl rfl (Nat.le_of_ble_eq_true rfl) (fun F395_ hF395_ => ?_)
  have g396_ : F395_ n = some (.inl (1, 12, .inr (.inl (fun _ => 0)))) := by rw [← hF395_]; exact ev_up_k (ev_ne_ao g376_ g393_) g376_
  have g397_ : F395_ (n + 1) = some (.inl (0, 12, .inl (fun _ => 0))) := by rw [← hF395_]; exact ev_up_k (ev_ne_ao g377_ g393_) g377_
  have g398_ : F395_ (n + 2) = some (.inl (0, 12, .inl (fun _ => 0))) := by rw [← hF395_]; exact ev_up_k (ev_ne_ao g378_ g393_) g378_
  have g399_ : F395_ (n + 3) = some (.inl (1, 144, .inr (.inl (fun _ => 0)))) := by rw [← hF395_]; exact ev_up_k (ev_ne_ao g379_ g393_) g379_
  have g400_ : F395_ (n + 4) = some (.inl (0, 80, .inl (fun _ => 0))) := by rw [← hF395_]; exact ev_up_k (ev_ne_ao g380_ g393_) g380_
  have g401_ : F395_ (n + 5) = some (.inl (0, 80, .inl (fun _ => 0))) := by rw [← hF395_]; exact ev_up_k (ev_ne_ao g381_ g393_) g381_
  have g402_ : F395_ (n + 6) = some (.inl (2, 80, .inl (fun _ => 0))) := by rw [← hF395_]; exact ev_up_k (ev_ne_ao g382_ g393_) g382_
  have g403_ : F395_ (n + 7) = some (.inl (0, 80, .inl (fun _ => 0))) := by rw [← hF395_]; exact ev_up_k (ev_ne_ao g383_ g393_) g383_
  have g404_ : F395_ (n + 8) = some (.inl (1, 960, .inr (.inl (fun _ => 0)))) := by rw [← hF395_]; exact ev_up_k (ev_ne_ao g384_ g393_) g384_
  have g405_ : F395_ (n + 9) = some (.inl (0, 520, .inl (fun _ => 0))) := by rw [← hF395_]; exact ev_up_k (ev_ne_ao g385_ g393_) g385_
  have g406_ : F395_ (n + 10) = some (.inl (1, 520, .inr (.inl (fun _ => 0)))) := by rw [← hF395_]; exact ev_up_k (ev_ne_ao g386_ g393_) g386_
  have g407_ : F395_ (n + 11) = some (.inl (2, 8, .inl (fun _ => 0))) := by rw [← hF395_]; exact ev_up_k (ev_ne_ao g387_ g393_) g387_
  have g408_ : F395_ (n + 12) = some (.inl (0, 8, .inl (fun _ => 0))) := by rw [← hF395_]; exact ev_up_k (ev_ne_ao g388_ g393_) g388_
  have g409_ : F395_ (n + 13) = some (.inl (2, 8, .inl (fun _ => 0))) := by rw [← hF395_]; exact ev_up_k (ev_ne_ao g389_ g393_) g389_
  have g410_ : F395_ (n + 14) = some (.inl (0, 12, .inl (fun _ => 0))) := by rw [← hF395_]; exact ev_up_k (ev_ne_ao g390_ g393_) g390_
  have g411_ : F395_ (n + 15) = some (.inl (1, 12, .inr (.inl (fun _ => 0)))) := by rw [← hF395_]; exact ev_up_k (ev_ne_ao g391_ g393_) g391_
  have g412_ : F395_ (n + 16) = some (.inl (0, 12, .inl (fun _ => 0))) := by rw [← hF395_]; exact ev_up_k (ev_ne_ao g392_ g393_) g392_
  have g413_ : F395_ (n + 17) = some (.inl (1, 12, .inr (.inl (fun _ => 0)))) := by rw [← hF395_]; exact ev_up_k (ev_ne_ao g394_ g393_) g394_
  have g414_ : F395_ r0 = some (.inr (11, [.ref n, .int ir0_drafted, .ref (n + 1), .ref (n + 2), .ref (n + 3), .int ir0_rows, .ref (n + 4), .ref (n + 5), .ref (n + 6), .ref (n + 7), .ref (n + 8), .int ir0_segments, .int ir0_stopped, .int ir0_fuse, .int ir0_written, .int ir0_tokens, .ref (n + 9), .ref (n + 10), .int ir0_height, .ref (n + 11), .ref (n + 12), .ref (n + 13), .int ir0_results, .ref (n + 14), .ref (n + 15), .int ir0_weighed, .ref (n + 16), .ref (n + 17), .ref (r0 + 19)])) := by rw [← hF395_]; exact ev_up_s
  refine ev_aload_n (pc := 152) d_Mo_init_152 rfl ?_
  refine ev_bipush (pc := 153) 12 d_Mo_init_153 (by decide) ?_
  refine ev_fresh fun fr155 => ?_
  refine ev_newarray (pc := 155) 2 12 (12, .inl (fun _ => 0)) d_Mo_init_155 wd_52 rfl rfl (fun _ _ h => h) (fun _ => rfl) (by decide) (by decide) (by decide) (bc2 := rc155) (bs2 := rs155) hb_rc155 hs_rs155 (fun F415_ hF415_ => ?_)
  have g416_ : F415_ n = some (.inl (1, 12, .inr (.inl (fun _ => 0)))) := by rw [← hF415_]; exact ev_up_k (ev_nf g396_ (fr155 _ (Nat.le_refl _))) g396_
  have g417_ : F415_ (n + 1) = some (.inl (0, 12, .inl (fun _ => 0))) := by rw [← hF415_]; exact ev_up_k (ev_nf g397_ (fr155 _ (Nat.le_refl _))) g397_
  have g418_ : F415_ (n + 2) = some (.inl (0, 12, .inl (fun _ => 0))) := by rw [← hF415_]; exact ev_up_k (ev_nf g398_ (fr155 _ (Nat.le_refl _))) g398_
  have g419_ : F415_ (n + 3) = some (.inl (1, 144, .inr (.inl (fun _ => 0)))) := by rw [← hF415_]; exact ev_up_k (ev_nf g399_ (fr155 _ (Nat.le_refl _))) g399_
  have g420_ : F415_ (n + 4) = some (.inl (0, 80, .inl (fun _ => 0))) := by rw [← hF415_]; exact ev_up_k (ev_nf g400_ (fr155 _ (Nat.le_refl _))) g400_
  have g421_ : F415_ (n + 5) = some (.inl (0, 80, .inl (fun _ => 0))) := by rw [← hF415_]; exact ev_up_k (ev_nf g401_ (fr155 _ (Nat.le_refl _))) g401_
  have g422_ : F415_ (n + 6) = some (.inl (2, 80, .inl (fun _ => 0))) := by rw [← hF415_]; exact ev_up_k (ev_nf g402_ (fr155 _ (Nat.le_refl _))) g402_
  have g423_ : F415_ (n + 7) = some (.inl (0, 80, .inl (fun _ => 0))) := by rw [← hF415_]; exact ev_up_k (ev_nf g403_ (fr155 _ (Nat.le_refl _))) g403_
  have g424_ : F415_ (n + 8) = some (.inl (1, 960, .inr (.inl (fun _ => 0)))) := by rw [← hF415_]; exact ev_up_k (ev_nf g404_ (fr155 _ (Nat.le_refl _))) g404_
  have g425_ : F415_ (n + 9) = some (.inl (0, 520, .inl (fun _ => 0))) := by rw [← hF415_]; exact ev_up_k (ev_nf g405_ (fr155 _ (Nat.le_refl _))) g405_
  have g426_ : F415_ (n + 10) = some (.inl (1, 520, .inr (.inl (fun _ => 0)))) := by rw [← hF415_]; exact ev_up_k (ev_nf g406_ (fr155 _ (Nat.le_refl _))) g406_
  have g427_ : F415_ (n + 11) = some (.inl (2, 8, .inl (fun _ => 0))) := by rw [← hF415_]; exact ev_up_k (ev_nf g407_ (fr155 _ (Nat.le_refl _))) g407_
  have g428_ : F415_ (n + 12) = some (.inl (0, 8, .inl (fun _ => 0))) := by rw [← hF415_]; exact ev_up_k (ev_nf g408_ (fr155 _ (Nat.le_refl _))) g408_
  have g429_ : F415_ (n + 13) = some (.inl (2, 8, .inl (fun _ => 0))) := by rw [← hF415_]; exact ev_up_k (ev_nf g409_ (fr155 _ (Nat.le_refl _))) g409_
  have g430_ : F415_ (n + 14) = some (.inl (0, 12, .inl (fun _ => 0))) := by rw [← hF415_]; exact ev_up_k (ev_nf g410_ (fr155 _ (Nat.le_refl _))) g410_
  have g431_ : F415_ (n + 15) = some (.inl (1, 12, .inr (.inl (fun _ => 0)))) := by rw [← hF415_]; exact ev_up_k (ev_nf g411_ (fr155 _ (Nat.le_refl _))) g411_
  have g432_ : F415_ (n + 16) = some (.inl (0, 12, .inl (fun _ => 0))) := by rw [← hF415_]; exact ev_up_k (ev_nf g412_ (fr155 _ (Nat.le_refl _))) g412_
  have g433_ : F415_ (n + 17) = some (.inl (1, 12, .inr (.inl (fun _ => 0)))) := by rw [← hF415_]; exact ev_up_k (ev_nf g413_ (fr155 _ (Nat.le_refl _))) g413_
  have g434_ : F415_ r0 = some (.inr (11, [.ref n, .int ir0_drafted, .ref (n + 1), .ref (n + 2), .ref (n + 3), .int ir0_rows, .ref (n + 4), .ref (n + 5), .ref (n + 6), .ref (n + 7), .ref (n + 8), .int ir0_segments, .int ir0_stopped, .int ir0_fuse, .int ir0_written, .int ir0_tokens, .ref (n + 9), .ref (n + 10), .int ir0_height, .ref (n + 11), .ref (n + 12), .ref (n + 13), .int ir0_results, .ref (n + 14), .ref (n + 15), .int ir0_weighed, .ref (n + 16), .ref (n + 17), .ref (r0 + 19)])) := by rw [← hF415_]; exact ev_up_k (ev_nf g414_ (fr155 _ (Nat.le_refl _))) g414_
  have g435_ : F415_ (n + 18) = some (.inl (2, 12, .inl (fun _ => 0))) := by rw [← hF415_]; exact ev_up_s
  refine ev_putfield (pc := 157) 28 _ d_Mo_init_157 fl_Mo_66 g434_ (ev_pfn (r0 := rC11) (ty := (.array .boolean)) rfl (Or.inr ⟨rfl, rfl, rfl⟩) (by decide +kernel)) rfl rfl (Nat.le_of_ble_eq_true rfl) (fun F436_ hF436_ => ?_)
  have g437_ : F436_ n = some (.inl (1, 12, .inr (.inl (fun _ => 0)))) := by rw [← hF436_]; exact ev_up_k (ev_ne_ao g416_ g434_) g416_
  have g438_ : F436_ (n + 1) = some (.inl (0, 12, .inl (fun _ => 0))) := by rw [← hF436_]; exact ev_up_k (ev_ne_ao g417_ g434_) g417_
  have g439_ : F436_ (n + 2) = some (.inl (0, 12, .inl (fun _ => 0))) := by rw [← hF436_]; exact ev_up_k (ev_ne_ao g418_ g434_) g418_
  have g440_ : F436_ (n + 3) = some (.inl (1, 144, .inr (.inl (fun _ => 0)))) := by rw [← hF436_]; exact ev_up_k (ev_ne_ao g419_ g434_) g419_
  have g441_ : F436_ (n + 4) = some (.inl (0, 80, .inl (fun _ => 0))) := by rw [← hF436_]; exact ev_up_k (ev_ne_ao g420_ g434_) g420_
  have g442_ : F436_ (n + 5) = some (.inl (0, 80, .inl (fun _ => 0))) := by rw [← hF436_]; exact ev_up_k (ev_ne_ao g421_ g434_) g421_
  have g443_ : F436_ (n + 6) = some (.inl (2, 80, .inl (fun _ => 0))) := by rw [← hF436_]; exact ev_up_k (ev_ne_ao g422_ g434_) g422_
  have g444_ : F436_ (n + 7) = some (.inl (0, 80, .inl (fun _ => 0))) := by rw [← hF436_]; exact ev_up_k (ev_ne_ao g423_ g434_) g423_
  have g445_ : F436_ (n + 8) = some (.inl (1, 960, .inr (.inl (fun _ => 0)))) := by rw [← hF436_]; exact ev_up_k (ev_ne_ao g424_ g434_) g424_
  have g446_ : F436_ (n + 9) = some (.inl (0, 520, .inl (fun _ => 0))) := by rw [← hF436_]; exact ev_up_k (ev_ne_ao g425_ g434_) g425_
  have g447_ : F436_ (n + 10) = some (.inl (1, 520, .inr (.inl (fun _ => 0)))) := by rw [← hF436_]; exact ev_up_k (ev_ne_ao g426_ g434_) g426_
  have g448_ : F436_ (n + 11) = some (.inl (2, 8, .inl (fun _ => 0))) := by rw [← hF436_]; exact ev_up_k (ev_ne_ao g427_ g434_) g427_
  have g449_ : F436_ (n + 12) = some (.inl (0, 8, .inl (fun _ => 0))) := by rw [← hF436_]; exact ev_up_k (ev_ne_ao g428_ g434_) g428_
  have g450_ : F436_ (n + 13) = some (.inl (2, 8, .inl (fun _ => 0))) := by rw [← hF436_]; exact ev_up_k (ev_ne_ao g429_ g434_) g429_
  have g451_ : F436_ (n + 14) = some (.inl (0, 12, .inl (fun _ => 0))) := by rw [← hF436_]; exact ev_up_k (ev_ne_ao g430_ g434_) g430_
  have g452_ : F436_ (n + 15) = some (.inl (1, 12, .inr (.inl (fun _ => 0)))) := by rw [← hF436_]; exact ev_up_k (ev_ne_ao g431_ g434_) g431_
  have g453_ : F436_ (n + 16) = some (.inl (0, 12, .inl (fun _ => 0))) := by rw [← hF436_]; exact ev_up_k (ev_ne_ao g432_ g434_) g432_
  have g454_ : F436_ (n + 17) = some (.inl (1, 12, .inr (.inl (fun _ => 0)))) := by rw [← hF436_]; exact ev_up_k (ev_ne_ao g433_ g434_) g433_
  have g455_ : F436_ (n + 18) = some (.inl (2, 12, .inl (fun _ => 0))) := by rw [← hF436_]; exact ev_up_k (ev_ne_ao g435_ g434_) g435_
  have g456_ : F436_ r0 = some (.inr (11, [.ref n, .int ir0_drafted, .ref (n + 1), .ref (n + 2), .ref (n + 3), .int ir0_rows, .ref (n + 4), .ref (n + 5), .ref (n + 6), .ref (n + 7), .ref (n + 8), .int ir0_segments, .int ir0_stopped, .int ir0_fuse, .int ir0_written, .int ir0_tokens, .ref (n + 9), .ref (n + 10), .int ir0_height, .ref (n + 11), .ref (n + 12), .ref (n + 13), .int ir0_results, .ref (n + 14), .ref (n + 15), .int ir0_weighed, .ref (n + 16), .ref (n + 17), .ref (n + 18)])) := by rw [← hF436_]; exact ev_up_s
  exact ev_return (pc := 160) d_Mo_init_160 rfl (by subst hF1_ hF4_ hF7_ hF11_ hF15_ hF20_ hF25_ hF31_ hF37_ hF44_ hF51_ hF59_ hF67_ hF76_ hF85_ hF95_ hF105_ hF116_ hF127_ hF139_ hF151_ hF164_ hF177_ hF191_ hF205_ hF220_ hF235_ hF251_ hF267_ hF284_ hF301_ hF319_ hF337_ hF356_ hF375_ hF395_ hF415_ hF436_; exact q160_0)
set_option maxRecDepth 100000 in
set_option maxHeartbeats 4000000 in
theorem s_Mo_rank_0 {l : Launch} {X : ev_X} {bc bs n : Nat} {F : ev_H} {Q : Option Value → Nat → ev_H → Prop} {r0 : Nat} {i1 : Int32} {ir0_drafted : Int32} {ir0_rows : Int32} {ir0_segments : Int32} {ir0_stopped : Int32} {ir0_fuse : Int32} {ir0_written : Int32} {ir0_tokens : Int32} {ir0_height : Int32} {ir0_results : Int32} {ir0_weighed : Int32} (h_r0 : F r0 = some (moO r0 ir0_drafted ir0_rows ir0_segments ir0_stopped ir0_fuse ir0_written ir0_tokens ir0_height ir0_results ir0_weighed))
    (k20_0 : (ir0_stopped = 0) → (i1 < 1) → Ev l X M_Mo_rank bc bs 20 [(0, .ref r0), (1, .int i1)] [] n F (ev_mq X Q))
    (k37_1 : (ir0_stopped = 0) → (¬ i1 < 1) → (i1 ≤ 5) → (ir0_height ≤ 0) → Ev l X M_Mo_rank bc bs 37 [(0, .ref r0), (1, .int i1), (2, .int 0), (3, .int 0)] [] n F (ev_mq X Q))
    (k37_2 : (ir0_stopped = 0) → (¬ i1 < 1) → (i1 ≤ 5) → (¬ ir0_height ≤ 0) → Ev l X M_Mo_rank bc bs 37 [(0, .ref r0), (1, .int i1), (2, .int 1), (3, .int 0)] [] n F (ev_mq X Q))
    (k20_3 : (ir0_stopped = 0) → (¬ i1 < 1) → (¬ i1 ≤ 5) → Ev l X M_Mo_rank bc bs 20 [(0, .ref r0), (1, .int i1)] [] n F (ev_mq X Q))
    (q9_4 : (¬ ir0_stopped = 0) → Q (some (.int (-9))) n F) :
    Ev l X M_Mo_rank bc bs 0 [(0, .ref r0), (1, .int i1)] [] n F (ev_mq X Q) := by
  refine ev_aload_n (pc := 0) d_Mo_rank_0 rfl ?_
  refine ev_getfield (pc := 1) 12 d_Mo_rank_1 fl_Mo_131 h_r0 rfl ?_
  refine ev_if_eq (pc := 4) 10 d_Mo_rank_4 (by decide) (fun c4 => ?_) (fun c4 => ?_)
  · refine ev_iload_n (pc := 10) d_Mo_rank_10 rfl ?_
    refine ev_iconst (pc := 11) 1 d_Mo_rank_11 (by decide) ?_
    refine ev_icmp_lt (pc := 12) 20 d_Mo_rank_12 (by decide) (fun c12 => ?_) (fun c12 => ?_)
    · exact (k20_0 c4 c12)
    · refine ev_iload_n (pc := 15) d_Mo_rank_15 rfl ?_
      refine ev_iconst (pc := 16) 5 d_Mo_rank_16 (by decide) ?_
      refine ev_icmp_le (pc := 17) 22 d_Mo_rank_17 (by decide) (fun c17 => ?_) (fun c17 => ?_)
      · refine ev_aload_n (pc := 22) d_Mo_rank_22 rfl ?_
        refine ev_getfield (pc := 23) 18 d_Mo_rank_23 fl_Mo_149 h_r0 rfl ?_
        refine ev_if_le (pc := 26) 33 d_Mo_rank_26 (by decide) (fun c26 => ?_) (fun c26 => ?_)
        · refine ev_iconst (pc := 33) 0 d_Mo_rank_33 (by decide) ?_
          refine ev_istore_n (pc := 34) d_Mo_rank_34 (Nat.le_of_ble_eq_true rfl) [1, 2, 0] rfl ?_
          refine ev_iconst (pc := 35) 0 d_Mo_rank_35 (by decide) ?_
          refine ev_istore_n (pc := 36) d_Mo_rank_36 (Nat.le_of_ble_eq_true rfl) [1, 2, 3, 0] rfl ?_
          exact (k37_1 c4 c12 c17 c26)
        · refine ev_iconst (pc := 29) 1 d_Mo_rank_29 (by decide) ?_
          refine ev_goto (pc := 30) 34 d_Mo_rank_30 (by decide) ?_
          refine ev_istore_n (pc := 34) d_Mo_rank_34 (Nat.le_of_ble_eq_true rfl) [1, 2, 0] rfl ?_
          refine ev_iconst (pc := 35) 0 d_Mo_rank_35 (by decide) ?_
          refine ev_istore_n (pc := 36) d_Mo_rank_36 (Nat.le_of_ble_eq_true rfl) [1, 2, 3, 0] rfl ?_
          exact (k37_2 c4 c12 c17 c26)
      · exact (k20_3 c4 c12 c17)
  · refine ev_bipush (pc := 7) (-9) d_Mo_rank_7 (by decide) ?_
    exact ev_ireturn (pc := 9) d_Mo_rank_9 rfl rfl (q9_4 c4)

set_option maxRecDepth 100000 in
set_option maxHeartbeats 4000000 in
theorem s_Mo_rank_20 {l : Launch} {X : ev_X} {bc bs n : Nat} {F : ev_H} {Q : Option Value → Nat → ev_H → Prop} {r0 : Nat} {i1 : Int32} 
    (q21_0 : Q (some (.int (-1))) n F) :
    Ev l X M_Mo_rank bc bs 20 [(0, .ref r0), (1, .int i1)] [] n F (ev_mq X Q) := by
  refine ev_iconst (pc := 20) (-1) d_Mo_rank_20 (by decide) ?_
  exact ev_ireturn (pc := 21) d_Mo_rank_21 rfl rfl q21_0

set_option maxRecDepth 100000 in
set_option maxHeartbeats 4000000 in
theorem s_Mo_rank_37 {l : Launch} {X : ev_X} {bc bs n : Nat} {F : ev_H} {Q : Option Value → Nat → ev_H → Prop} {r0 : Nat} {i1 : Int32} {i2 : Int32} {i3 : Int32} {ir0_drafted : Int32} {ir0_rows : Int32} {ir0_segments : Int32} {ir0_stopped : Int32} {ir0_fuse : Int32} {ir0_written : Int32} {ir0_tokens : Int32} {ir0_height : Int32} {ir0_results : Int32} {ir0_weighed : Int32} {Q85 : Option Value → Nat → ev_H → Prop} {bc85 : Nat} {bs85 : Nat} {rc85 : Nat} {rs85 : Nat} {r0p12_f : Nat → Int32} (h_r0 : F r0 = some (moO r0 ir0_drafted ir0_rows ir0_segments ir0_stopped ir0_fuse ir0_written ir0_tokens ir0_height ir0_results ir0_weighed)) (hb_rc85 : rc85 + bc85 ≤ bc) (hs_rs85 : rs85 + bs85 ≤ bs) (h_r0p12 : F (r0 + 12) = some (.inl (2, 8, .inl r0p12_f)))
    (q121_0 : (ir0_height ≤ i3) → (i2 = 0) → (i2 = 0) → Q (some (.int (-3))) n (ev_up (ev_up (ev_up (ev_up F r0 (moO r0 ir0_drafted ir0_rows ir0_segments ir0_stopped ir0_fuse ir0_written ir0_tokens ir0_height 0 ir0_weighed)) r0 (moO r0 ir0_drafted ir0_rows ir0_segments ir0_stopped ir0_fuse ir0_written ir0_tokens ir0_height 0 0)) r0 (moO r0 ir0_drafted ir0_rows ir0_segments ir0_stopped ir0_fuse ir0_written 0 ir0_height 0 0)) r0 (moO r0 ir0_drafted ir0_rows ir0_segments ir0_stopped ir0_fuse ir0_written 0 0 0 0)))
    (q121_1 : (ir0_height ≤ i3) → (i2 = 0) → (¬ i2 = 0) → Q (some (.int 0)) n (ev_up (ev_up (ev_up (ev_up F r0 (moO r0 ir0_drafted ir0_rows ir0_segments ir0_stopped ir0_fuse ir0_written ir0_tokens ir0_height 0 ir0_weighed)) r0 (moO r0 ir0_drafted ir0_rows ir0_segments ir0_stopped ir0_fuse ir0_written ir0_tokens ir0_height 0 0)) r0 (moO r0 ir0_drafted ir0_rows ir0_segments ir0_stopped ir0_fuse ir0_written 0 ir0_height 0 0)) r0 (moO r0 ir0_drafted ir0_rows ir0_segments ir0_stopped ir0_fuse ir0_written 0 0 0 0)))
    (c85_2 : (ir0_height ≤ i3) → (¬ i2 = 0) → Cal l X M_Mo_lookUp bc85 bs85 [.ref r0] n (ev_up (ev_up F r0 (moO r0 ir0_drafted ir0_rows ir0_segments ir0_stopped ir0_fuse ir0_written ir0_tokens ir0_height 0 ir0_weighed)) r0 (moO r0 ir0_drafted ir0_rows ir0_segments ir0_stopped ir0_fuse ir0_written ir0_tokens ir0_height 0 0)) Q85)
    (k88_3 : (ir0_height ≤ i3) → (¬ i2 = 0) → ∀ v2 n2 F2, Q85 v2 n2 F2 → Ev l X M_Mo_rank rc85 rs85 88 [(0, .ref r0), (1, .int i1), (2, .int i2), (3, .int i3)] (v2.toList ++ []) n2 F2 (ev_mq X Q))
    (k63_4 : (¬ ir0_height ≤ i3) → (i2 = 0) → Ev l X M_Mo_rank bc bs 63 [(0, .ref r0), (1, .int i1), (2, .int i2), (3, .int i3)] [.int 0] n F (ev_mq X Q))
    (in54_5 : (¬ ir0_height ≤ i3) → (¬ i2 = 0) → vp_in i3 8)
    (k63_6 : (¬ ir0_height ≤ i3) → (¬ i2 = 0) → ((r0p12_f i3.toNatClampNeg) = 0) → Ev l X M_Mo_rank bc bs 63 [(0, .ref r0), (1, .int i1), (2, .int i2), (3, .int i3)] [.int 0] n F (ev_mq X Q))
    (k63_7 : (¬ ir0_height ≤ i3) → (¬ i2 = 0) → (¬ (r0p12_f i3.toNatClampNeg) = 0) → Ev l X M_Mo_rank bc bs 63 [(0, .ref r0), (1, .int i1), (2, .int i2), (3, .int i3)] [.int 1] n F (ev_mq X Q)) :
    Ev l X M_Mo_rank bc bs 37 [(0, .ref r0), (1, .int i1), (2, .int i2), (3, .int i3)] [] n F (ev_mq X Q) := by
  refine ev_iload_n (pc := 37) d_Mo_rank_37 rfl ?_
  refine ev_aload_n (pc := 38) d_Mo_rank_38 rfl ?_
  refine ev_getfield (pc := 39) 18 d_Mo_rank_39 fl_Mo_149 h_r0 rfl ?_
  refine ev_icmp_ge (pc := 42) 70 d_Mo_rank_42 (by decide) (fun c42 => ?_) (fun c42 => ?_)
  · refine ev_aload_n (pc := 70) d_Mo_rank_70 rfl ?_
    refine ev_iconst (pc := 71) 0 d_Mo_rank_71 (by decide) ?_
    refine ev_putfield (pc := 72) 22 _ d_Mo_rank_72 fl_Mo_200 h_r0 pf_11_results rfl rfl (Nat.le_of_ble_eq_true rfl) (fun F1_ hF1_ => ?_)
    have g2_ : F1_ r0 = some (moO r0 ir0_drafted ir0_rows ir0_segments ir0_stopped ir0_fuse ir0_written ir0_tokens ir0_height 0 ir0_weighed) := by rw [← hF1_]; exact ev_up_s
    refine ev_aload_n (pc := 75) d_Mo_rank_75 rfl ?_
    refine ev_iconst (pc := 76) 0 d_Mo_rank_76 (by decide) ?_
    refine ev_putfield (pc := 77) 25 _ d_Mo_rank_77 fl_Mo_239 g2_ pf_11_weighed rfl rfl (Nat.le_of_ble_eq_true rfl) (fun F3_ hF3_ => ?_)
    have g4_ : F3_ r0 = some (moO r0 ir0_drafted ir0_rows ir0_segments ir0_stopped ir0_fuse ir0_written ir0_tokens ir0_height 0 0) := by rw [← hF3_]; exact ev_up_s
    refine ev_iload_n (pc := 80) d_Mo_rank_80 rfl ?_
    refine ev_if_eq (pc := 81) 98 d_Mo_rank_81 (by decide) (fun c81 => ?_) (fun c81 => ?_)
    · refine ev_aload_n (pc := 98) d_Mo_rank_98 rfl ?_
      refine ev_iconst (pc := 99) 0 d_Mo_rank_99 (by decide) ?_
      refine ev_putfield (pc := 100) 15 _ d_Mo_rank_100 fl_Mo_146 g4_ pf_11_tokens rfl rfl (Nat.le_of_ble_eq_true rfl) (fun F5_ hF5_ => ?_)
      have g6_ : F5_ r0 = some (moO r0 ir0_drafted ir0_rows ir0_segments ir0_stopped ir0_fuse ir0_written 0 ir0_height 0 0) := by rw [← hF5_]; exact ev_up_s
      refine ev_aload_n (pc := 103) d_Mo_rank_103 rfl ?_
      refine ev_iconst (pc := 104) 0 d_Mo_rank_104 (by decide) ?_
      refine ev_putfield (pc := 105) 18 _ d_Mo_rank_105 fl_Mo_149 g6_ pf_11_height rfl rfl (Nat.le_of_ble_eq_true rfl) (fun F7_ hF7_ => ?_)
      have g8_ : F7_ r0 = some (moO r0 ir0_drafted ir0_rows ir0_segments ir0_stopped ir0_fuse ir0_written 0 0 0 0) := by rw [← hF7_]; exact ev_up_s
      refine ev_iload_n (pc := 108) d_Mo_rank_108 rfl ?_
      refine ev_if_eq (pc := 109) 119 d_Mo_rank_109 (by decide) (fun c109 => ?_) (fun c109 => ?_)
      · refine ev_bipush (pc := 119) (-3) d_Mo_rank_119 (by decide) ?_
        exact ev_ireturn (pc := 121) d_Mo_rank_121 rfl rfl (by subst hF1_ hF3_ hF5_ hF7_; exact (q121_0 c42 c81 c109))
      · refine ev_aload_n (pc := 112) d_Mo_rank_112 rfl ?_
        refine ev_getfield (pc := 113) 22 d_Mo_rank_113 fl_Mo_200 g8_ rfl ?_
        refine ev_goto (pc := 116) 121 d_Mo_rank_116 (by decide) ?_
        exact ev_ireturn (pc := 121) d_Mo_rank_121 rfl rfl (by subst hF1_ hF3_ hF5_ hF7_; exact (q121_1 c42 c81 c109))
    · refine ev_aload_n (pc := 84) d_Mo_rank_84 rfl ?_
      exact ev_invokevirtual (pc := 85) (As := []) (st := []) (Q2 := Q85) M_Mo_lookUp rC11 d_Mo_rank_85 lc_Mo_203 wd_1124 wd_s41 rfl g4_ rfl rfl (Nat.le_of_ble_eq_true rfl) (Nat.le_of_ble_eq_true rfl) (Nat.le_of_ble_eq_true rfl) hb_rc85 hs_rs85 (by subst hF1_ hF3_; exact (c85_2 c42 c81)) (k88_3 c42 c81)
  · refine ev_iload_n (pc := 45) d_Mo_rank_45 rfl ?_
    refine ev_if_eq (pc := 46) 62 d_Mo_rank_46 (by decide) (fun c46 => ?_) (fun c46 => ?_)
    · refine ev_iconst (pc := 62) 0 d_Mo_rank_62 (by decide) ?_
      exact (k63_4 c42 c46)
    · refine ev_aload_n (pc := 49) d_Mo_rank_49 rfl ?_
      refine ev_getfield (pc := 50) 19 d_Mo_rank_50 fl_Mo_45 h_r0 rfl ?_
      refine ev_iload_n (pc := 53) d_Mo_rank_53 rfl ?_
      refine ev_zaload (pc := 54) d_Mo_rank_54 h_r0p12 rfl (in54_5 c42 c46) ?_
      refine ev_if_eq (pc := 55) 62 d_Mo_rank_55 (by decide) (fun c55 => ?_) (fun c55 => ?_)
      · refine ev_iconst (pc := 62) 0 d_Mo_rank_62 (by decide) ?_
        exact (k63_6 c42 c46 c55)
      · refine ev_iconst (pc := 58) 1 d_Mo_rank_58 (by decide) ?_
        refine ev_goto (pc := 59) 63 d_Mo_rank_59 (by decide) ?_
        exact (k63_7 c42 c46 c55)

set_option maxRecDepth 100000 in
set_option maxHeartbeats 4000000 in
theorem s_Mo_rank_63 {l : Launch} {X : ev_X} {bc bs n : Nat} {F : ev_H} {Q : Option Value → Nat → ev_H → Prop} {r0 : Nat} {i1 : Int32} {i2 : Int32} {i3 : Int32} {is0 : Int32} 
    (k37_0 : Ev l X M_Mo_rank bc bs 37 [(0, .ref r0), (1, .int i1), (2, .int is0), (3, .int (i3 + 1))] [] n F (ev_mq X Q)) :
    Ev l X M_Mo_rank bc bs 63 [(0, .ref r0), (1, .int i1), (2, .int i2), (3, .int i3)] [.int is0] n F (ev_mq X Q) := by
  refine ev_istore_n (pc := 63) d_Mo_rank_63 (Nat.le_of_ble_eq_true rfl) [1, 2, 0, 3] rfl ?_
  refine ev_iinc (pc := 64) 3 1 d_Mo_rank_64 rfl (by decide) (Nat.le_of_ble_eq_true rfl) [1, 2, 3, 0] rfl ?_
  refine ev_goto (pc := 67) 37 d_Mo_rank_67 (by decide) ?_
  exact k37_0

set_option maxRecDepth 100000 in
set_option maxHeartbeats 4000000 in
theorem s_Mo_rank_88 {l : Launch} {X : ev_X} {bc bs n : Nat} {F : ev_H} {Q : Option Value → Nat → ev_H → Prop} {r0 : Nat} {i1 : Int32} {i2 : Int32} {i3 : Int32} {ir0_drafted : Int32} {ir0_rows : Int32} {ir0_segments : Int32} {ir0_stopped : Int32} {ir0_fuse : Int32} {ir0_written : Int32} {ir0_tokens : Int32} {ir0_height : Int32} {ir0_results : Int32} {ir0_weighed : Int32} {Q90 : Option Value → Nat → ev_H → Prop} {bc90 : Nat} {bs90 : Nat} {rc90 : Nat} {rs90 : Nat} (h_r0 : F r0 = some (moO r0 ir0_drafted ir0_rows ir0_segments ir0_stopped ir0_fuse ir0_written ir0_tokens ir0_height ir0_results ir0_weighed)) (hb_rc90 : rc90 + bc90 ≤ bc) (hs_rs90 : rs90 + bs90 ≤ bs)
    (c90_0 : Cal l X M_Mo_weighAll bc90 bs90 [.ref r0, .int i1] n F Q90)
    (k93_1 : ∀ v2 n2 F2, Q90 v2 n2 F2 → Ev l X M_Mo_rank rc90 rs90 93 [(0, .ref r0), (1, .int i1), (2, .int i2), (3, .int i3)] (v2.toList ++ []) n2 F2 (ev_mq X Q)) :
    Ev l X M_Mo_rank bc bs 88 [(0, .ref r0), (1, .int i1), (2, .int i2), (3, .int i3)] [] n F (ev_mq X Q) := by
  refine ev_aload_n (pc := 88) d_Mo_rank_88 rfl ?_
  refine ev_iload_n (pc := 89) d_Mo_rank_89 rfl ?_
  exact ev_invokevirtual (pc := 90) (As := [.int i1]) (st := []) (Q2 := Q90) M_Mo_weighAll rC11 d_Mo_rank_90 lc_Mo_250 wd_1144 wd_s45 rfl h_r0 rfl rfl (Nat.le_of_ble_eq_true rfl) (Nat.le_of_ble_eq_true rfl) (Nat.le_of_ble_eq_true rfl) hb_rc90 hs_rs90 c90_0 k93_1

set_option maxRecDepth 100000 in
set_option maxHeartbeats 4000000 in
theorem s_Mo_rank_93 {l : Launch} {X : ev_X} {bc bs n : Nat} {F : ev_H} {Q : Option Value → Nat → ev_H → Prop} {r0 : Nat} {i1 : Int32} {i2 : Int32} {i3 : Int32} {ir0_drafted : Int32} {ir0_rows : Int32} {ir0_segments : Int32} {ir0_stopped : Int32} {ir0_fuse : Int32} {ir0_written : Int32} {ir0_tokens : Int32} {ir0_height : Int32} {ir0_results : Int32} {ir0_weighed : Int32} {Q95 : Option Value → Nat → ev_H → Prop} {bc95 : Nat} {bs95 : Nat} {rc95 : Nat} {rs95 : Nat} (h_r0 : F r0 = some (moO r0 ir0_drafted ir0_rows ir0_segments ir0_stopped ir0_fuse ir0_written ir0_tokens ir0_height ir0_results ir0_weighed)) (hb_rc95 : rc95 + bc95 ≤ bc) (hs_rs95 : rs95 + bs95 ≤ bs)
    (c95_0 : Cal l X M_Mo_best bc95 bs95 [.ref r0, .int i1] n F Q95)
    (k98_1 : ∀ v2 n2 F2, Q95 v2 n2 F2 → Ev l X M_Mo_rank rc95 rs95 98 [(0, .ref r0), (1, .int i1), (2, .int i2), (3, .int i3)] (v2.toList ++ []) n2 F2 (ev_mq X Q)) :
    Ev l X M_Mo_rank bc bs 93 [(0, .ref r0), (1, .int i1), (2, .int i2), (3, .int i3)] [] n F (ev_mq X Q) := by
  refine ev_aload_n (pc := 93) d_Mo_rank_93 rfl ?_
  refine ev_iload_n (pc := 94) d_Mo_rank_94 rfl ?_
  exact ev_invokevirtual (pc := 95) (As := [.int i1]) (st := []) (Q2 := Q95) M_Mo_best rC11 d_Mo_rank_95 lc_Mo_253 wd_1180 wd_s52 rfl h_r0 rfl rfl (Nat.le_of_ble_eq_true rfl) (Nat.le_of_ble_eq_true rfl) (Nat.le_of_ble_eq_true rfl) hb_rc95 hs_rs95 c95_0 k98_1

set_option maxRecDepth 100000 in
set_option maxHeartbeats 4000000 in
theorem s_Mo_rank_98 {l : Launch} {X : ev_X} {bc bs n : Nat} {F : ev_H} {Q : Option Value → Nat → ev_H → Prop} {r0 : Nat} {i1 : Int32} {i2 : Int32} {i3 : Int32} {ir0_drafted : Int32} {ir0_rows : Int32} {ir0_segments : Int32} {ir0_stopped : Int32} {ir0_fuse : Int32} {ir0_written : Int32} {ir0_tokens : Int32} {ir0_height : Int32} {ir0_results : Int32} {ir0_weighed : Int32} (h_r0 : F r0 = some (moO r0 ir0_drafted ir0_rows ir0_segments ir0_stopped ir0_fuse ir0_written ir0_tokens ir0_height ir0_results ir0_weighed))
    (q121_0 : (i2 = 0) → Q (some (.int (-3))) n (ev_up (ev_up F r0 (moO r0 ir0_drafted ir0_rows ir0_segments ir0_stopped ir0_fuse ir0_written 0 ir0_height ir0_results ir0_weighed)) r0 (moO r0 ir0_drafted ir0_rows ir0_segments ir0_stopped ir0_fuse ir0_written 0 0 ir0_results ir0_weighed)))
    (q121_1 : (¬ i2 = 0) → Q (some (.int ir0_results)) n (ev_up (ev_up F r0 (moO r0 ir0_drafted ir0_rows ir0_segments ir0_stopped ir0_fuse ir0_written 0 ir0_height ir0_results ir0_weighed)) r0 (moO r0 ir0_drafted ir0_rows ir0_segments ir0_stopped ir0_fuse ir0_written 0 0 ir0_results ir0_weighed))) :
    Ev l X M_Mo_rank bc bs 98 [(0, .ref r0), (1, .int i1), (2, .int i2), (3, .int i3)] [] n F (ev_mq X Q) := by
  refine ev_aload_n (pc := 98) d_Mo_rank_98 rfl ?_
  refine ev_iconst (pc := 99) 0 d_Mo_rank_99 (by decide) ?_
  refine ev_putfield (pc := 100) 15 _ d_Mo_rank_100 fl_Mo_146 h_r0 pf_11_tokens rfl rfl (Nat.le_of_ble_eq_true rfl) (fun F1_ hF1_ => ?_)
  have g2_ : F1_ r0 = some (moO r0 ir0_drafted ir0_rows ir0_segments ir0_stopped ir0_fuse ir0_written 0 ir0_height ir0_results ir0_weighed) := by rw [← hF1_]; exact ev_up_s
  refine ev_aload_n (pc := 103) d_Mo_rank_103 rfl ?_
  refine ev_iconst (pc := 104) 0 d_Mo_rank_104 (by decide) ?_
  refine ev_putfield (pc := 105) 18 _ d_Mo_rank_105 fl_Mo_149 g2_ pf_11_height rfl rfl (Nat.le_of_ble_eq_true rfl) (fun F3_ hF3_ => ?_)
  have g4_ : F3_ r0 = some (moO r0 ir0_drafted ir0_rows ir0_segments ir0_stopped ir0_fuse ir0_written 0 0 ir0_results ir0_weighed) := by rw [← hF3_]; exact ev_up_s
  refine ev_iload_n (pc := 108) d_Mo_rank_108 rfl ?_
  refine ev_if_eq (pc := 109) 119 d_Mo_rank_109 (by decide) (fun c109 => ?_) (fun c109 => ?_)
  · refine ev_bipush (pc := 119) (-3) d_Mo_rank_119 (by decide) ?_
    exact ev_ireturn (pc := 121) d_Mo_rank_121 rfl rfl (by subst hF1_ hF3_; exact (q121_0 c109))
  · refine ev_aload_n (pc := 112) d_Mo_rank_112 rfl ?_
    refine ev_getfield (pc := 113) 22 d_Mo_rank_113 fl_Mo_200 g4_ rfl ?_
    refine ev_goto (pc := 116) 121 d_Mo_rank_116 (by decide) ?_
    exact ev_ireturn (pc := 121) d_Mo_rank_121 rfl rfl (by subst hF1_ hF3_; exact (q121_1 c109))
set_option maxRecDepth 100000 in
set_option maxHeartbeats 4000000 in
theorem s_Mo_weighAll_0 {l : Launch} {X : ev_X} {bc bs n : Nat} {F : ev_H} {Q : Option Value → Nat → ev_H → Prop} {r0 : Nat} {i1 : Int32} {ir0_drafted : Int32} {ir0_rows : Int32} {ir0_segments : Int32} {ir0_stopped : Int32} {ir0_fuse : Int32} {ir0_written : Int32} {ir0_tokens : Int32} {ir0_height : Int32} {ir0_results : Int32} {ir0_weighed : Int32} (h_r0 : F r0 = some (moO r0 ir0_drafted ir0_rows ir0_segments ir0_stopped ir0_fuse ir0_written ir0_tokens ir0_height ir0_results ir0_weighed))
    (k7_0 : Ev l X M_Mo_weighAll bc bs 7 [(0, .ref r0), (1, .int i1), (2, .int 0)] [] n (ev_up F r0 (moO r0 ir0_drafted ir0_rows ir0_segments ir0_stopped ir0_fuse ir0_written ir0_tokens ir0_height ir0_results 0)) (ev_mq X Q)) :
    Ev l X M_Mo_weighAll bc bs 0 [(0, .ref r0), (1, .int i1)] [] n F (ev_mq X Q) := by
  refine ev_aload_n (pc := 0) d_Mo_weighAll_0 rfl ?_
  refine ev_iconst (pc := 1) 0 d_Mo_weighAll_1 (by decide) ?_
  refine ev_putfield (pc := 2) 25 _ d_Mo_weighAll_2 fl_Mo_239 h_r0 pf_11_weighed rfl rfl (Nat.le_of_ble_eq_true rfl) (fun F1_ hF1_ => ?_)
  have g2_ : F1_ r0 = some (moO r0 ir0_drafted ir0_rows ir0_segments ir0_stopped ir0_fuse ir0_written ir0_tokens ir0_height ir0_results 0) := by rw [← hF1_]; exact ev_up_s
  refine ev_iconst (pc := 5) 0 d_Mo_weighAll_5 (by decide) ?_
  refine ev_istore_n (pc := 6) d_Mo_weighAll_6 (Nat.le_of_ble_eq_true rfl) [1, 2, 0] rfl ?_
  exact (by subst hF1_; exact k7_0)

set_option maxRecDepth 100000 in
set_option maxHeartbeats 4000000 in
theorem s_Mo_weighAll_7 {l : Launch} {X : ev_X} {bc bs n : Nat} {F : ev_H} {Q : Option Value → Nat → ev_H → Prop} {r0 : Nat} {i1 : Int32} {i2 : Int32} {ir0_drafted : Int32} {ir0_rows : Int32} {ir0_segments : Int32} {ir0_stopped : Int32} {ir0_fuse : Int32} {ir0_written : Int32} {ir0_tokens : Int32} {ir0_height : Int32} {ir0_results : Int32} {ir0_weighed : Int32} {r0p19_f : Nat → Int32} (h_r0 : F r0 = some (moO r0 ir0_drafted ir0_rows ir0_segments ir0_stopped ir0_fuse ir0_written ir0_tokens ir0_height ir0_results ir0_weighed)) (h_r0p19 : F (r0 + 19) = some (.inl (2, 12, .inl r0p19_f)))
    (k28_0 : (12 ≤ i2) → Ev l X M_Mo_weighAll bc bs 28 [(0, .ref r0), (1, .int i1), (2, .int 0)] [] n F (ev_mq X Q))
    (in19_1 : (¬ 12 ≤ i2) → vp_in i2 12)
    (k7_2 : (¬ 12 ≤ i2) → Ev l X M_Mo_weighAll bc bs 7 [(0, .ref r0), (1, .int i1), (2, .int (i2 + 1))] [] n (ev_up F (r0 + 19) (.inl (2, 12, .inl (upd r0p19_f i2.toNatClampNeg 0)))) (ev_mq X Q)) :
    Ev l X M_Mo_weighAll bc bs 7 [(0, .ref r0), (1, .int i1), (2, .int i2)] [] n F (ev_mq X Q) := by
  refine ev_iload_n (pc := 7) d_Mo_weighAll_7 rfl ?_
  refine ev_bipush (pc := 8) 12 d_Mo_weighAll_8 (by decide) ?_
  refine ev_icmp_ge (pc := 10) 26 d_Mo_weighAll_10 (by decide) (fun c10 => ?_) (fun c10 => ?_)
  · refine ev_iconst (pc := 26) 0 d_Mo_weighAll_26 (by decide) ?_
    refine ev_istore_n (pc := 27) d_Mo_weighAll_27 (Nat.le_of_ble_eq_true rfl) [1, 2, 0] rfl ?_
    exact (k28_0 c10)
  · refine ev_aload_n (pc := 13) d_Mo_weighAll_13 rfl ?_
    refine ev_getfield (pc := 14) 28 d_Mo_weighAll_14 fl_Mo_66 h_r0 rfl ?_
    refine ev_iload_n (pc := 17) d_Mo_weighAll_17 rfl ?_
    refine ev_iconst (pc := 18) 0 d_Mo_weighAll_18 (by decide) ?_
    refine ev_zastore (pc := 19) d_Mo_weighAll_19 h_r0p19 rfl (in19_1 c10) rfl (fun F1_ hF1_ => ?_)
    have g2_ : F1_ r0 = some (moO r0 ir0_drafted ir0_rows ir0_segments ir0_stopped ir0_fuse ir0_written ir0_tokens ir0_height ir0_results ir0_weighed) := by rw [← hF1_]; exact ev_up_k (ev_ne_oa h_r0 h_r0p19) h_r0
    have g3_ : F1_ (r0 + 19) = some (.inl (2, 12, .inl (upd r0p19_f i2.toNatClampNeg 0))) := by rw [← hF1_]; exact ev_up_s
    refine ev_iinc (pc := 20) 2 1 d_Mo_weighAll_20 rfl (by decide) (Nat.le_of_ble_eq_true rfl) [1, 2, 0] rfl ?_
    refine ev_goto (pc := 23) 7 d_Mo_weighAll_23 (by decide) ?_
    exact (by subst hF1_; exact (k7_2 c10))

set_option maxRecDepth 100000 in
set_option maxHeartbeats 4000000 in
theorem s_Mo_weighAll_28 {l : Launch} {X : ev_X} {bc bs n : Nat} {F : ev_H} {Q : Option Value → Nat → ev_H → Prop} {r0 : Nat} {i1 : Int32} {i2 : Int32} {ir0_drafted : Int32} {ir0_rows : Int32} {ir0_segments : Int32} {ir0_stopped : Int32} {ir0_fuse : Int32} {ir0_written : Int32} {ir0_tokens : Int32} {ir0_height : Int32} {ir0_results : Int32} {ir0_weighed : Int32} {r0p17_f : Nat → Int32} {v57 : Int64} {r0p18_f : Nat → Int64} {r0p19_f : Nat → Int32} {v83 : Int64} {v88 : Int64} {v83_2 : Int64} {v88_2 : Int64} (h_r0 : F r0 = some (moO r0 ir0_drafted ir0_rows ir0_segments ir0_stopped ir0_fuse ir0_written ir0_tokens ir0_height ir0_results ir0_weighed)) (h_r0p17 : F (r0 + 17) = some (.inl (0, 12, .inl r0p17_f))) (h_r0p18 : F (r0 + 18) = some (.inl (1, 12, .inr (.inl r0p18_f)))) (h_r0p19 : F (r0 + 19) = some (.inl (2, 12, .inl r0p19_f)))
    (q125_0 : (12 ≤ i2) → Q none n F)
    (in39_1 : (¬ 12 ≤ i2) → vp_in i2 12)
    (in55_2 : (¬ 12 ≤ i2) → (0 ≤ (r0p17_f i2.toNatClampNeg)) → vp_in i2 12)
    (c57_3 : (¬ 12 ≤ i2) → (0 ≤ (r0p17_f i2.toNatClampNeg)) → Cal l X M_Mo_sum 0 0 [.ref r0, .int (r0p17_f i2.toNatClampNeg), .int 0] n F (ev_pure (.long v57) n F))
    (k28_4 : (¬ 12 ≤ i2) → (0 ≤ (r0p17_f i2.toNatClampNeg)) → ((lg_cmp v57 0) < 0) → Ev l X M_Mo_weighAll bc bs 28 [(0, .ref r0), (1, .int i1), (2, .int (i2 + 1))] [] n F (ev_mq X Q))
    (in101_5 : (¬ 12 ≤ i2) → (0 ≤ (r0p17_f i2.toNatClampNeg)) → (¬ (lg_cmp v57 0) < 0) → (ir0_weighed < i1) → vp_in i2 12)
    (in108_6 : (¬ 12 ≤ i2) → (0 ≤ (r0p17_f i2.toNatClampNeg)) → (¬ (lg_cmp v57 0) < 0) → (ir0_weighed < i1) → vp_in i2 12)
    (k28_7 : (¬ 12 ≤ i2) → (0 ≤ (r0p17_f i2.toNatClampNeg)) → (¬ (lg_cmp v57 0) < 0) → (ir0_weighed < i1) → Ev l X M_Mo_weighAll bc bs 28 [(0, .ref r0), (1, .int i1), (2, .int (i2 + 1))] [] n (ev_up (ev_up (ev_up F (r0 + 18) (.inl (1, 12, .inr (.inl (vp_updL r0p18_f i2.toNatClampNeg v57))))) (r0 + 19) (.inl (2, 12, .inl (upd r0p19_f i2.toNatClampNeg 1)))) r0 (moO r0 ir0_drafted ir0_rows ir0_segments ir0_stopped ir0_fuse ir0_written ir0_tokens ir0_height ir0_results (ir0_weighed + 1))) (ev_mq X Q))
    (in81_8 : (¬ 12 ≤ i2) → (0 ≤ (r0p17_f i2.toNatClampNeg)) → (¬ (lg_cmp v57 0) < 0) → (¬ ir0_weighed < i1) → vp_in i2 12)
    (c83_9 : (¬ 12 ≤ i2) → (0 ≤ (r0p17_f i2.toNatClampNeg)) → (¬ (lg_cmp v57 0) < 0) → (¬ ir0_weighed < i1) → Cal l X M_Mo_sum 0 0 [.ref r0, .int (r0p17_f i2.toNatClampNeg), .int 1] n F (ev_pure (.long v83) n F))
    (c88_10 : (¬ 12 ≤ i2) → (0 ≤ (r0p17_f i2.toNatClampNeg)) → (¬ (lg_cmp v57 0) < 0) → (¬ ir0_weighed < i1) → Cal l X M_Mo_least 0 0 [.ref r0, .int i1] n F (ev_pure (.long v88) n F))
    (k28_11 : (¬ 12 ≤ i2) → (0 ≤ (r0p17_f i2.toNatClampNeg)) → (¬ (lg_cmp v57 0) < 0) → (¬ ir0_weighed < i1) → ((lg_cmp v83 v88) ≤ 0) → Ev l X M_Mo_weighAll bc bs 28 [(0, .ref r0), (1, .int i1), (2, .int (i2 + 1))] [] n F (ev_mq X Q))
    (in101_12 : (¬ 12 ≤ i2) → (0 ≤ (r0p17_f i2.toNatClampNeg)) → (¬ (lg_cmp v57 0) < 0) → (¬ ir0_weighed < i1) → (¬ (lg_cmp v83 v88) ≤ 0) → vp_in i2 12)
    (in108_13 : (¬ 12 ≤ i2) → (0 ≤ (r0p17_f i2.toNatClampNeg)) → (¬ (lg_cmp v57 0) < 0) → (¬ ir0_weighed < i1) → (¬ (lg_cmp v83 v88) ≤ 0) → vp_in i2 12)
    (k28_14 : (¬ 12 ≤ i2) → (0 ≤ (r0p17_f i2.toNatClampNeg)) → (¬ (lg_cmp v57 0) < 0) → (¬ ir0_weighed < i1) → (¬ (lg_cmp v83 v88) ≤ 0) → Ev l X M_Mo_weighAll bc bs 28 [(0, .ref r0), (1, .int i1), (2, .int (i2 + 1))] [] n (ev_up (ev_up (ev_up F (r0 + 18) (.inl (1, 12, .inr (.inl (vp_updL r0p18_f i2.toNatClampNeg v57))))) (r0 + 19) (.inl (2, 12, .inl (upd r0p19_f i2.toNatClampNeg 1)))) r0 (moO r0 ir0_drafted ir0_rows ir0_segments ir0_stopped ir0_fuse ir0_written ir0_tokens ir0_height ir0_results (ir0_weighed + 1))) (ev_mq X Q))
    (k28_15 : (¬ 12 ≤ i2) → (¬ 0 ≤ (r0p17_f i2.toNatClampNeg)) → ((lg_cmp (-1) 0) < 0) → Ev l X M_Mo_weighAll bc bs 28 [(0, .ref r0), (1, .int i1), (2, .int (i2 + 1))] [] n F (ev_mq X Q))
    (in101_16 : (¬ 12 ≤ i2) → (¬ 0 ≤ (r0p17_f i2.toNatClampNeg)) → (¬ (lg_cmp (-1) 0) < 0) → (ir0_weighed < i1) → vp_in i2 12)
    (in108_17 : (¬ 12 ≤ i2) → (¬ 0 ≤ (r0p17_f i2.toNatClampNeg)) → (¬ (lg_cmp (-1) 0) < 0) → (ir0_weighed < i1) → vp_in i2 12)
    (k28_18 : (¬ 12 ≤ i2) → (¬ 0 ≤ (r0p17_f i2.toNatClampNeg)) → (¬ (lg_cmp (-1) 0) < 0) → (ir0_weighed < i1) → Ev l X M_Mo_weighAll bc bs 28 [(0, .ref r0), (1, .int i1), (2, .int (i2 + 1))] [] n (ev_up (ev_up (ev_up F (r0 + 18) (.inl (1, 12, .inr (.inl (vp_updL r0p18_f i2.toNatClampNeg (-1)))))) (r0 + 19) (.inl (2, 12, .inl (upd r0p19_f i2.toNatClampNeg 1)))) r0 (moO r0 ir0_drafted ir0_rows ir0_segments ir0_stopped ir0_fuse ir0_written ir0_tokens ir0_height ir0_results (ir0_weighed + 1))) (ev_mq X Q))
    (in81_19 : (¬ 12 ≤ i2) → (¬ 0 ≤ (r0p17_f i2.toNatClampNeg)) → (¬ (lg_cmp (-1) 0) < 0) → (¬ ir0_weighed < i1) → vp_in i2 12)
    (c83_20 : (¬ 12 ≤ i2) → (¬ 0 ≤ (r0p17_f i2.toNatClampNeg)) → (¬ (lg_cmp (-1) 0) < 0) → (¬ ir0_weighed < i1) → Cal l X M_Mo_sum 0 0 [.ref r0, .int (r0p17_f i2.toNatClampNeg), .int 1] n F (ev_pure (.long v83_2) n F))
    (c88_21 : (¬ 12 ≤ i2) → (¬ 0 ≤ (r0p17_f i2.toNatClampNeg)) → (¬ (lg_cmp (-1) 0) < 0) → (¬ ir0_weighed < i1) → Cal l X M_Mo_least 0 0 [.ref r0, .int i1] n F (ev_pure (.long v88_2) n F))
    (k28_22 : (¬ 12 ≤ i2) → (¬ 0 ≤ (r0p17_f i2.toNatClampNeg)) → (¬ (lg_cmp (-1) 0) < 0) → (¬ ir0_weighed < i1) → ((lg_cmp v83_2 v88_2) ≤ 0) → Ev l X M_Mo_weighAll bc bs 28 [(0, .ref r0), (1, .int i1), (2, .int (i2 + 1))] [] n F (ev_mq X Q))
    (in101_23 : (¬ 12 ≤ i2) → (¬ 0 ≤ (r0p17_f i2.toNatClampNeg)) → (¬ (lg_cmp (-1) 0) < 0) → (¬ ir0_weighed < i1) → (¬ (lg_cmp v83_2 v88_2) ≤ 0) → vp_in i2 12)
    (in108_24 : (¬ 12 ≤ i2) → (¬ 0 ≤ (r0p17_f i2.toNatClampNeg)) → (¬ (lg_cmp (-1) 0) < 0) → (¬ ir0_weighed < i1) → (¬ (lg_cmp v83_2 v88_2) ≤ 0) → vp_in i2 12)
    (k28_25 : (¬ 12 ≤ i2) → (¬ 0 ≤ (r0p17_f i2.toNatClampNeg)) → (¬ (lg_cmp (-1) 0) < 0) → (¬ ir0_weighed < i1) → (¬ (lg_cmp v83_2 v88_2) ≤ 0) → Ev l X M_Mo_weighAll bc bs 28 [(0, .ref r0), (1, .int i1), (2, .int (i2 + 1))] [] n (ev_up (ev_up (ev_up F (r0 + 18) (.inl (1, 12, .inr (.inl (vp_updL r0p18_f i2.toNatClampNeg (-1)))))) (r0 + 19) (.inl (2, 12, .inl (upd r0p19_f i2.toNatClampNeg 1)))) r0 (moO r0 ir0_drafted ir0_rows ir0_segments ir0_stopped ir0_fuse ir0_written ir0_tokens ir0_height ir0_results (ir0_weighed + 1))) (ev_mq X Q)) :
    Ev l X M_Mo_weighAll bc bs 28 [(0, .ref r0), (1, .int i1), (2, .int i2)] [] n F (ev_mq X Q) := by
  refine ev_iload_n (pc := 28) d_Mo_weighAll_28 rfl ?_
  refine ev_bipush (pc := 29) 12 d_Mo_weighAll_29 (by decide) ?_
  refine ev_icmp_ge (pc := 31) 125 d_Mo_weighAll_31 (by decide) (fun c31 => ?_) (fun c31 => ?_)
  · exact ev_return (pc := 125) d_Mo_weighAll_125 rfl (q125_0 c31)
  · refine ev_aload_n (pc := 34) d_Mo_weighAll_34 rfl ?_
    refine ev_getfield (pc := 35) 26 d_Mo_weighAll_35 fl_Mo_60 h_r0 rfl ?_
    refine ev_iload_n (pc := 38) d_Mo_weighAll_38 rfl ?_
    refine ev_iaload (pc := 39) d_Mo_weighAll_39 h_r0p17 rfl (in39_1 c31) ?_
    refine ev_if_ge (pc := 40) 49 d_Mo_weighAll_40 (by decide) (fun c40 => ?_) (fun c40 => ?_)
    · refine ev_aload_n (pc := 49) d_Mo_weighAll_49 rfl ?_
      refine ev_aload_n (pc := 50) d_Mo_weighAll_50 rfl ?_
      refine ev_getfield (pc := 51) 26 d_Mo_weighAll_51 fl_Mo_60 h_r0 rfl ?_
      refine ev_iload_n (pc := 54) d_Mo_weighAll_54 rfl ?_
      refine ev_iaload (pc := 55) d_Mo_weighAll_55 h_r0p17 rfl (in55_2 c31 c40) ?_
      refine ev_iconst (pc := 56) 0 d_Mo_weighAll_56 (by decide) ?_
      refine ev_invokevirtual (pc := 57) (As := [.int (r0p17_f i2.toNatClampNeg), .int 0]) (st := []) (Q2 := ev_pure (.long v57) n F) (bc1 := 0) (bs1 := 0) M_Mo_sum rC11 d_Mo_weighAll_57 lc_Mo_242 wd_1149 wd_s46 rfl h_r0 rfl rfl (Nat.le_of_ble_eq_true rfl) (Nat.le_of_ble_eq_true rfl) (Nat.le_of_ble_eq_true rfl) (Nat.le_refl _) (Nat.le_refl _) (c57_3 c31 c40) ?_
      refine ev_purek ?_
      refine ev_lstore_n (pc := 60) d_Mo_weighAll_60 (Nat.le_of_ble_eq_true rfl) [1, 2, 3, 0] rfl ?_
      refine ev_lload_n (pc := 61) d_Mo_weighAll_61 rfl ?_
      refine ev_lconst (pc := 62) 0 d_Mo_weighAll_62 (by decide) ?_
      refine ev_lcmp (pc := 63) d_Mo_weighAll_63 ?_
      refine ev_if_lt (pc := 64) 119 d_Mo_weighAll_64 (by decide) (fun c64 => ?_) (fun c64 => ?_)
      · refine ev_iinc (pc := 119) 2 1 d_Mo_weighAll_119 rfl (by decide) (Nat.le_of_ble_eq_true rfl) [1, 2, 0, 3] rfl ?_
        refine ev_goto (pc := 122) 28 d_Mo_weighAll_122 (by decide) ?_
        exact Ev.sub [0, 1, 2] rfl (k28_4 c31 c40 c64)
      · refine ev_aload_n (pc := 67) d_Mo_weighAll_67 rfl ?_
        refine ev_getfield (pc := 68) 25 d_Mo_weighAll_68 fl_Mo_239 h_r0 rfl ?_
        refine ev_iload_n (pc := 71) d_Mo_weighAll_71 rfl ?_
        refine ev_icmp_lt (pc := 72) 95 d_Mo_weighAll_72 (by decide) (fun c72 => ?_) (fun c72 => ?_)
        · refine ev_aload_n (pc := 95) d_Mo_weighAll_95 rfl ?_
          refine ev_getfield (pc := 96) 27 d_Mo_weighAll_96 fl_Mo_63 h_r0 rfl ?_
          refine ev_iload_n (pc := 99) d_Mo_weighAll_99 rfl ?_
          refine ev_lload_n (pc := 100) d_Mo_weighAll_100 rfl ?_
          refine ev_lastore (pc := 101) d_Mo_weighAll_101 h_r0p18 rfl (in101_5 c31 c40 c64 c72) (fun F1_ hF1_ => ?_)
          have g2_ : F1_ r0 = some (moO r0 ir0_drafted ir0_rows ir0_segments ir0_stopped ir0_fuse ir0_written ir0_tokens ir0_height ir0_results ir0_weighed) := by rw [← hF1_]; exact ev_up_k (ev_ne_oa h_r0 h_r0p18) h_r0
          have g3_ : F1_ (r0 + 17) = some (.inl (0, 12, .inl r0p17_f)) := by rw [← hF1_]; exact ev_up_k (ev_ne_aa h_r0p17 h_r0p18 rfl) h_r0p17
          have g4_ : F1_ (r0 + 18) = some (.inl (1, 12, .inr (.inl (vp_updL r0p18_f i2.toNatClampNeg v57)))) := by rw [← hF1_]; exact ev_up_s
          refine ev_aload_n (pc := 102) d_Mo_weighAll_102 rfl ?_
          refine ev_getfield (pc := 103) 28 d_Mo_weighAll_103 fl_Mo_66 g2_ rfl ?_
          refine ev_iload_n (pc := 106) d_Mo_weighAll_106 rfl ?_
          refine ev_iconst (pc := 107) 1 d_Mo_weighAll_107 (by decide) ?_
          have g5_ : F1_ (r0 + 19) = some (.inl (2, 12, .inl r0p19_f)) := by rw [← hF1_]; exact ev_up_k (ev_ne_aa h_r0p19 h_r0p18 rfl) h_r0p19
          refine ev_zastore (pc := 108) d_Mo_weighAll_108 g5_ rfl (in108_6 c31 c40 c64 c72) rfl (fun F6_ hF6_ => ?_)
          have g7_ : F6_ r0 = some (moO r0 ir0_drafted ir0_rows ir0_segments ir0_stopped ir0_fuse ir0_written ir0_tokens ir0_height ir0_results ir0_weighed) := by rw [← hF6_]; exact ev_up_k (ev_ne_oa g2_ g5_) g2_
          have g8_ : F6_ (r0 + 17) = some (.inl (0, 12, .inl r0p17_f)) := by rw [← hF6_]; exact ev_up_k (ev_ne_aa g3_ g5_ rfl) g3_
          have g9_ : F6_ (r0 + 18) = some (.inl (1, 12, .inr (.inl (vp_updL r0p18_f i2.toNatClampNeg v57)))) := by rw [← hF6_]; exact ev_up_k (ev_ne_aa g4_ g5_ rfl) g4_
          have g10_ : F6_ (r0 + 19) = some (.inl (2, 12, .inl (upd r0p19_f i2.toNatClampNeg 1))) := by rw [← hF6_]; exact ev_up_s
          refine ev_aload_n (pc := 109) d_Mo_weighAll_109 rfl ?_
          refine ev_dup (pc := 110) d_Mo_weighAll_110 rfl ?_
          refine ev_getfield (pc := 111) 25 d_Mo_weighAll_111 fl_Mo_239 g7_ rfl ?_
          refine ev_iconst (pc := 114) 1 d_Mo_weighAll_114 (by decide) ?_
          refine ev_iadd (pc := 115) d_Mo_weighAll_115 ?_
          refine ev_putfield (pc := 116) 25 _ d_Mo_weighAll_116 fl_Mo_239 g7_ pf_11_weighed rfl rfl (Nat.le_of_ble_eq_true rfl) (fun F11_ hF11_ => ?_)
          have g12_ : F11_ (r0 + 17) = some (.inl (0, 12, .inl r0p17_f)) := by rw [← hF11_]; exact ev_up_k (ev_ne_ao g8_ g7_) g8_
          have g13_ : F11_ (r0 + 18) = some (.inl (1, 12, .inr (.inl (vp_updL r0p18_f i2.toNatClampNeg v57)))) := by rw [← hF11_]; exact ev_up_k (ev_ne_ao g9_ g7_) g9_
          have g14_ : F11_ (r0 + 19) = some (.inl (2, 12, .inl (upd r0p19_f i2.toNatClampNeg 1))) := by rw [← hF11_]; exact ev_up_k (ev_ne_ao g10_ g7_) g10_
          have g15_ : F11_ r0 = some (moO r0 ir0_drafted ir0_rows ir0_segments ir0_stopped ir0_fuse ir0_written ir0_tokens ir0_height ir0_results (ir0_weighed + 1)) := by rw [← hF11_]; exact ev_up_s
          refine ev_iinc (pc := 119) 2 1 d_Mo_weighAll_119 rfl (by decide) (Nat.le_of_ble_eq_true rfl) [1, 2, 0, 3] rfl ?_
          refine ev_goto (pc := 122) 28 d_Mo_weighAll_122 (by decide) ?_
          exact Ev.sub [0, 1, 2] rfl (by subst hF1_ hF6_ hF11_; exact (k28_7 c31 c40 c64 c72))
        · refine ev_aload_n (pc := 75) d_Mo_weighAll_75 rfl ?_
          refine ev_aload_n (pc := 76) d_Mo_weighAll_76 rfl ?_
          refine ev_getfield (pc := 77) 26 d_Mo_weighAll_77 fl_Mo_60 h_r0 rfl ?_
          refine ev_iload_n (pc := 80) d_Mo_weighAll_80 rfl ?_
          refine ev_iaload (pc := 81) d_Mo_weighAll_81 h_r0p17 rfl (in81_8 c31 c40 c64 c72) ?_
          refine ev_iconst (pc := 82) 1 d_Mo_weighAll_82 (by decide) ?_
          refine ev_invokevirtual (pc := 83) (As := [.int (r0p17_f i2.toNatClampNeg), .int 1]) (st := []) (Q2 := ev_pure (.long v83) n F) (bc1 := 0) (bs1 := 0) M_Mo_sum rC11 d_Mo_weighAll_83 lc_Mo_242 wd_1149 wd_s46 rfl h_r0 rfl rfl (Nat.le_of_ble_eq_true rfl) (Nat.le_of_ble_eq_true rfl) (Nat.le_of_ble_eq_true rfl) (Nat.le_refl _) (Nat.le_refl _) (c83_9 c31 c40 c64 c72) ?_
          refine ev_purek ?_
          refine ev_aload_n (pc := 86) d_Mo_weighAll_86 rfl ?_
          refine ev_iload_n (pc := 87) d_Mo_weighAll_87 rfl ?_
          refine ev_invokevirtual (pc := 88) (As := [.int i1]) (st := [.long v83]) (Q2 := ev_pure (.long v88) n F) (bc1 := 0) (bs1 := 0) M_Mo_least rC11 d_Mo_weighAll_88 lc_Mo_246 wd_1176 wd_s51 rfl h_r0 rfl rfl (Nat.le_of_ble_eq_true rfl) (Nat.le_of_ble_eq_true rfl) (Nat.le_of_ble_eq_true rfl) (Nat.le_refl _) (Nat.le_refl _) (c88_10 c31 c40 c64 c72) ?_
          refine ev_purek ?_
          refine ev_lcmp (pc := 91) d_Mo_weighAll_91 ?_
          refine ev_if_le (pc := 92) 119 d_Mo_weighAll_92 (by decide) (fun c92 => ?_) (fun c92 => ?_)
          · refine ev_iinc (pc := 119) 2 1 d_Mo_weighAll_119 rfl (by decide) (Nat.le_of_ble_eq_true rfl) [1, 2, 0, 3] rfl ?_
            refine ev_goto (pc := 122) 28 d_Mo_weighAll_122 (by decide) ?_
            exact Ev.sub [0, 1, 2] rfl (k28_11 c31 c40 c64 c72 c92)
          · refine ev_aload_n (pc := 95) d_Mo_weighAll_95 rfl ?_
            refine ev_getfield (pc := 96) 27 d_Mo_weighAll_96 fl_Mo_63 h_r0 rfl ?_
            refine ev_iload_n (pc := 99) d_Mo_weighAll_99 rfl ?_
            refine ev_lload_n (pc := 100) d_Mo_weighAll_100 rfl ?_
            refine ev_lastore (pc := 101) d_Mo_weighAll_101 h_r0p18 rfl (in101_12 c31 c40 c64 c72 c92) (fun F16_ hF16_ => ?_)
            have g17_ : F16_ r0 = some (moO r0 ir0_drafted ir0_rows ir0_segments ir0_stopped ir0_fuse ir0_written ir0_tokens ir0_height ir0_results ir0_weighed) := by rw [← hF16_]; exact ev_up_k (ev_ne_oa h_r0 h_r0p18) h_r0
            have g18_ : F16_ (r0 + 17) = some (.inl (0, 12, .inl r0p17_f)) := by rw [← hF16_]; exact ev_up_k (ev_ne_aa h_r0p17 h_r0p18 rfl) h_r0p17
            have g19_ : F16_ (r0 + 18) = some (.inl (1, 12, .inr (.inl (vp_updL r0p18_f i2.toNatClampNeg v57)))) := by rw [← hF16_]; exact ev_up_s
            refine ev_aload_n (pc := 102) d_Mo_weighAll_102 rfl ?_
            refine ev_getfield (pc := 103) 28 d_Mo_weighAll_103 fl_Mo_66 g17_ rfl ?_
            refine ev_iload_n (pc := 106) d_Mo_weighAll_106 rfl ?_
            refine ev_iconst (pc := 107) 1 d_Mo_weighAll_107 (by decide) ?_
            have g20_ : F16_ (r0 + 19) = some (.inl (2, 12, .inl r0p19_f)) := by rw [← hF16_]; exact ev_up_k (ev_ne_aa h_r0p19 h_r0p18 rfl) h_r0p19
            refine ev_zastore (pc := 108) d_Mo_weighAll_108 g20_ rfl (in108_13 c31 c40 c64 c72 c92) rfl (fun F21_ hF21_ => ?_)
            have g22_ : F21_ r0 = some (moO r0 ir0_drafted ir0_rows ir0_segments ir0_stopped ir0_fuse ir0_written ir0_tokens ir0_height ir0_results ir0_weighed) := by rw [← hF21_]; exact ev_up_k (ev_ne_oa g17_ g20_) g17_
            have g23_ : F21_ (r0 + 17) = some (.inl (0, 12, .inl r0p17_f)) := by rw [← hF21_]; exact ev_up_k (ev_ne_aa g18_ g20_ rfl) g18_
            have g24_ : F21_ (r0 + 18) = some (.inl (1, 12, .inr (.inl (vp_updL r0p18_f i2.toNatClampNeg v57)))) := by rw [← hF21_]; exact ev_up_k (ev_ne_aa g19_ g20_ rfl) g19_
            have g25_ : F21_ (r0 + 19) = some (.inl (2, 12, .inl (upd r0p19_f i2.toNatClampNeg 1))) := by rw [← hF21_]; exact ev_up_s
            refine ev_aload_n (pc := 109) d_Mo_weighAll_109 rfl ?_
            refine ev_dup (pc := 110) d_Mo_weighAll_110 rfl ?_
            refine ev_getfield (pc := 111) 25 d_Mo_weighAll_111 fl_Mo_239 g22_ rfl ?_
            refine ev_iconst (pc := 114) 1 d_Mo_weighAll_114 (by decide) ?_
            refine ev_iadd (pc := 115) d_Mo_weighAll_115 ?_
            refine ev_putfield (pc := 116) 25 _ d_Mo_weighAll_116 fl_Mo_239 g22_ pf_11_weighed rfl rfl (Nat.le_of_ble_eq_true rfl) (fun F26_ hF26_ => ?_)
            have g27_ : F26_ (r0 + 17) = some (.inl (0, 12, .inl r0p17_f)) := by rw [← hF26_]; exact ev_up_k (ev_ne_ao g23_ g22_) g23_
            have g28_ : F26_ (r0 + 18) = some (.inl (1, 12, .inr (.inl (vp_updL r0p18_f i2.toNatClampNeg v57)))) := by rw [← hF26_]; exact ev_up_k (ev_ne_ao g24_ g22_) g24_
            have g29_ : F26_ (r0 + 19) = some (.inl (2, 12, .inl (upd r0p19_f i2.toNatClampNeg 1))) := by rw [← hF26_]; exact ev_up_k (ev_ne_ao g25_ g22_) g25_
            have g30_ : F26_ r0 = some (moO r0 ir0_drafted ir0_rows ir0_segments ir0_stopped ir0_fuse ir0_written ir0_tokens ir0_height ir0_results (ir0_weighed + 1)) := by rw [← hF26_]; exact ev_up_s
            refine ev_iinc (pc := 119) 2 1 d_Mo_weighAll_119 rfl (by decide) (Nat.le_of_ble_eq_true rfl) [1, 2, 0, 3] rfl ?_
            refine ev_goto (pc := 122) 28 d_Mo_weighAll_122 (by decide) ?_
            exact Ev.sub [0, 1, 2] rfl (by subst hF16_ hF21_ hF26_; exact (k28_14 c31 c40 c64 c72 c92))
    · refine ev_ldc2 (pc := 43) (v := (-1)) d_Mo_weighAll_43 wd_1146 ?_
      refine ev_goto (pc := 46) 60 d_Mo_weighAll_46 (by decide) ?_
      refine ev_lstore_n (pc := 60) d_Mo_weighAll_60 (Nat.le_of_ble_eq_true rfl) [1, 2, 3, 0] rfl ?_
      refine ev_lload_n (pc := 61) d_Mo_weighAll_61 rfl ?_
      refine ev_lconst (pc := 62) 0 d_Mo_weighAll_62 (by decide) ?_
      refine ev_lcmp (pc := 63) d_Mo_weighAll_63 ?_
      refine ev_if_lt (pc := 64) 119 d_Mo_weighAll_64 (by decide) (fun c64 => ?_) (fun c64 => ?_)
      · refine ev_iinc (pc := 119) 2 1 d_Mo_weighAll_119 rfl (by decide) (Nat.le_of_ble_eq_true rfl) [1, 2, 0, 3] rfl ?_
        refine ev_goto (pc := 122) 28 d_Mo_weighAll_122 (by decide) ?_
        exact Ev.sub [0, 1, 2] rfl (k28_15 c31 c40 c64)
      · refine ev_aload_n (pc := 67) d_Mo_weighAll_67 rfl ?_
        refine ev_getfield (pc := 68) 25 d_Mo_weighAll_68 fl_Mo_239 h_r0 rfl ?_
        refine ev_iload_n (pc := 71) d_Mo_weighAll_71 rfl ?_
        refine ev_icmp_lt (pc := 72) 95 d_Mo_weighAll_72 (by decide) (fun c72 => ?_) (fun c72 => ?_)
        · refine ev_aload_n (pc := 95) d_Mo_weighAll_95 rfl ?_
          refine ev_getfield (pc := 96) 27 d_Mo_weighAll_96 fl_Mo_63 h_r0 rfl ?_
          refine ev_iload_n (pc := 99) d_Mo_weighAll_99 rfl ?_
          refine ev_lload_n (pc := 100) d_Mo_weighAll_100 rfl ?_
          refine ev_lastore (pc := 101) d_Mo_weighAll_101 h_r0p18 rfl (in101_16 c31 c40 c64 c72) (fun F31_ hF31_ => ?_)
          have g32_ : F31_ r0 = some (moO r0 ir0_drafted ir0_rows ir0_segments ir0_stopped ir0_fuse ir0_written ir0_tokens ir0_height ir0_results ir0_weighed) := by rw [← hF31_]; exact ev_up_k (ev_ne_oa h_r0 h_r0p18) h_r0
          have g33_ : F31_ (r0 + 17) = some (.inl (0, 12, .inl r0p17_f)) := by rw [← hF31_]; exact ev_up_k (ev_ne_aa h_r0p17 h_r0p18 rfl) h_r0p17
          have g34_ : F31_ (r0 + 18) = some (.inl (1, 12, .inr (.inl (vp_updL r0p18_f i2.toNatClampNeg (-1))))) := by rw [← hF31_]; exact ev_up_s
          refine ev_aload_n (pc := 102) d_Mo_weighAll_102 rfl ?_
          refine ev_getfield (pc := 103) 28 d_Mo_weighAll_103 fl_Mo_66 g32_ rfl ?_
          refine ev_iload_n (pc := 106) d_Mo_weighAll_106 rfl ?_
          refine ev_iconst (pc := 107) 1 d_Mo_weighAll_107 (by decide) ?_
          have g35_ : F31_ (r0 + 19) = some (.inl (2, 12, .inl r0p19_f)) := by rw [← hF31_]; exact ev_up_k (ev_ne_aa h_r0p19 h_r0p18 rfl) h_r0p19
          refine ev_zastore (pc := 108) d_Mo_weighAll_108 g35_ rfl (in108_17 c31 c40 c64 c72) rfl (fun F36_ hF36_ => ?_)
          have g37_ : F36_ r0 = some (moO r0 ir0_drafted ir0_rows ir0_segments ir0_stopped ir0_fuse ir0_written ir0_tokens ir0_height ir0_results ir0_weighed) := by rw [← hF36_]; exact ev_up_k (ev_ne_oa g32_ g35_) g32_
          have g38_ : F36_ (r0 + 17) = some (.inl (0, 12, .inl r0p17_f)) := by rw [← hF36_]; exact ev_up_k (ev_ne_aa g33_ g35_ rfl) g33_
          have g39_ : F36_ (r0 + 18) = some (.inl (1, 12, .inr (.inl (vp_updL r0p18_f i2.toNatClampNeg (-1))))) := by rw [← hF36_]; exact ev_up_k (ev_ne_aa g34_ g35_ rfl) g34_
          have g40_ : F36_ (r0 + 19) = some (.inl (2, 12, .inl (upd r0p19_f i2.toNatClampNeg 1))) := by rw [← hF36_]; exact ev_up_s
          refine ev_aload_n (pc := 109) d_Mo_weighAll_109 rfl ?_
          refine ev_dup (pc := 110) d_Mo_weighAll_110 rfl ?_
          refine ev_getfield (pc := 111) 25 d_Mo_weighAll_111 fl_Mo_239 g37_ rfl ?_
          refine ev_iconst (pc := 114) 1 d_Mo_weighAll_114 (by decide) ?_
          refine ev_iadd (pc := 115) d_Mo_weighAll_115 ?_
          refine ev_putfield (pc := 116) 25 _ d_Mo_weighAll_116 fl_Mo_239 g37_ pf_11_weighed rfl rfl (Nat.le_of_ble_eq_true rfl) (fun F41_ hF41_ => ?_)
          have g42_ : F41_ (r0 + 17) = some (.inl (0, 12, .inl r0p17_f)) := by rw [← hF41_]; exact ev_up_k (ev_ne_ao g38_ g37_) g38_
          have g43_ : F41_ (r0 + 18) = some (.inl (1, 12, .inr (.inl (vp_updL r0p18_f i2.toNatClampNeg (-1))))) := by rw [← hF41_]; exact ev_up_k (ev_ne_ao g39_ g37_) g39_
          have g44_ : F41_ (r0 + 19) = some (.inl (2, 12, .inl (upd r0p19_f i2.toNatClampNeg 1))) := by rw [← hF41_]; exact ev_up_k (ev_ne_ao g40_ g37_) g40_
          have g45_ : F41_ r0 = some (moO r0 ir0_drafted ir0_rows ir0_segments ir0_stopped ir0_fuse ir0_written ir0_tokens ir0_height ir0_results (ir0_weighed + 1)) := by rw [← hF41_]; exact ev_up_s
          refine ev_iinc (pc := 119) 2 1 d_Mo_weighAll_119 rfl (by decide) (Nat.le_of_ble_eq_true rfl) [1, 2, 0, 3] rfl ?_
          refine ev_goto (pc := 122) 28 d_Mo_weighAll_122 (by decide) ?_
          exact Ev.sub [0, 1, 2] rfl (by subst hF31_ hF36_ hF41_; exact (k28_18 c31 c40 c64 c72))
        · refine ev_aload_n (pc := 75) d_Mo_weighAll_75 rfl ?_
          refine ev_aload_n (pc := 76) d_Mo_weighAll_76 rfl ?_
          refine ev_getfield (pc := 77) 26 d_Mo_weighAll_77 fl_Mo_60 h_r0 rfl ?_
          refine ev_iload_n (pc := 80) d_Mo_weighAll_80 rfl ?_
          refine ev_iaload (pc := 81) d_Mo_weighAll_81 h_r0p17 rfl (in81_19 c31 c40 c64 c72) ?_
          refine ev_iconst (pc := 82) 1 d_Mo_weighAll_82 (by decide) ?_
          refine ev_invokevirtual (pc := 83) (As := [.int (r0p17_f i2.toNatClampNeg), .int 1]) (st := []) (Q2 := ev_pure (.long v83_2) n F) (bc1 := 0) (bs1 := 0) M_Mo_sum rC11 d_Mo_weighAll_83 lc_Mo_242 wd_1149 wd_s46 rfl h_r0 rfl rfl (Nat.le_of_ble_eq_true rfl) (Nat.le_of_ble_eq_true rfl) (Nat.le_of_ble_eq_true rfl) (Nat.le_refl _) (Nat.le_refl _) (c83_20 c31 c40 c64 c72) ?_
          refine ev_purek ?_
          refine ev_aload_n (pc := 86) d_Mo_weighAll_86 rfl ?_
          refine ev_iload_n (pc := 87) d_Mo_weighAll_87 rfl ?_
          refine ev_invokevirtual (pc := 88) (As := [.int i1]) (st := [.long v83_2]) (Q2 := ev_pure (.long v88_2) n F) (bc1 := 0) (bs1 := 0) M_Mo_least rC11 d_Mo_weighAll_88 lc_Mo_246 wd_1176 wd_s51 rfl h_r0 rfl rfl (Nat.le_of_ble_eq_true rfl) (Nat.le_of_ble_eq_true rfl) (Nat.le_of_ble_eq_true rfl) (Nat.le_refl _) (Nat.le_refl _) (c88_21 c31 c40 c64 c72) ?_
          refine ev_purek ?_
          refine ev_lcmp (pc := 91) d_Mo_weighAll_91 ?_
          refine ev_if_le (pc := 92) 119 d_Mo_weighAll_92 (by decide) (fun c92 => ?_) (fun c92 => ?_)
          · refine ev_iinc (pc := 119) 2 1 d_Mo_weighAll_119 rfl (by decide) (Nat.le_of_ble_eq_true rfl) [1, 2, 0, 3] rfl ?_
            refine ev_goto (pc := 122) 28 d_Mo_weighAll_122 (by decide) ?_
            exact Ev.sub [0, 1, 2] rfl (k28_22 c31 c40 c64 c72 c92)
          · refine ev_aload_n (pc := 95) d_Mo_weighAll_95 rfl ?_
            refine ev_getfield (pc := 96) 27 d_Mo_weighAll_96 fl_Mo_63 h_r0 rfl ?_
            refine ev_iload_n (pc := 99) d_Mo_weighAll_99 rfl ?_
            refine ev_lload_n (pc := 100) d_Mo_weighAll_100 rfl ?_
            refine ev_lastore (pc := 101) d_Mo_weighAll_101 h_r0p18 rfl (in101_23 c31 c40 c64 c72 c92) (fun F46_ hF46_ => ?_)
            have g47_ : F46_ r0 = some (moO r0 ir0_drafted ir0_rows ir0_segments ir0_stopped ir0_fuse ir0_written ir0_tokens ir0_height ir0_results ir0_weighed) := by rw [← hF46_]; exact ev_up_k (ev_ne_oa h_r0 h_r0p18) h_r0
            have g48_ : F46_ (r0 + 17) = some (.inl (0, 12, .inl r0p17_f)) := by rw [← hF46_]; exact ev_up_k (ev_ne_aa h_r0p17 h_r0p18 rfl) h_r0p17
            have g49_ : F46_ (r0 + 18) = some (.inl (1, 12, .inr (.inl (vp_updL r0p18_f i2.toNatClampNeg (-1))))) := by rw [← hF46_]; exact ev_up_s
            refine ev_aload_n (pc := 102) d_Mo_weighAll_102 rfl ?_
            refine ev_getfield (pc := 103) 28 d_Mo_weighAll_103 fl_Mo_66 g47_ rfl ?_
            refine ev_iload_n (pc := 106) d_Mo_weighAll_106 rfl ?_
            refine ev_iconst (pc := 107) 1 d_Mo_weighAll_107 (by decide) ?_
            have g50_ : F46_ (r0 + 19) = some (.inl (2, 12, .inl r0p19_f)) := by rw [← hF46_]; exact ev_up_k (ev_ne_aa h_r0p19 h_r0p18 rfl) h_r0p19
            refine ev_zastore (pc := 108) d_Mo_weighAll_108 g50_ rfl (in108_24 c31 c40 c64 c72 c92) rfl (fun F51_ hF51_ => ?_)
            have g52_ : F51_ r0 = some (moO r0 ir0_drafted ir0_rows ir0_segments ir0_stopped ir0_fuse ir0_written ir0_tokens ir0_height ir0_results ir0_weighed) := by rw [← hF51_]; exact ev_up_k (ev_ne_oa g47_ g50_) g47_
            have g53_ : F51_ (r0 + 17) = some (.inl (0, 12, .inl r0p17_f)) := by rw [← hF51_]; exact ev_up_k (ev_ne_aa g48_ g50_ rfl) g48_
            have g54_ : F51_ (r0 + 18) = some (.inl (1, 12, .inr (.inl (vp_updL r0p18_f i2.toNatClampNeg (-1))))) := by rw [← hF51_]; exact ev_up_k (ev_ne_aa g49_ g50_ rfl) g49_
            have g55_ : F51_ (r0 + 19) = some (.inl (2, 12, .inl (upd r0p19_f i2.toNatClampNeg 1))) := by rw [← hF51_]; exact ev_up_s
            refine ev_aload_n (pc := 109) d_Mo_weighAll_109 rfl ?_
            refine ev_dup (pc := 110) d_Mo_weighAll_110 rfl ?_
            refine ev_getfield (pc := 111) 25 d_Mo_weighAll_111 fl_Mo_239 g52_ rfl ?_
            refine ev_iconst (pc := 114) 1 d_Mo_weighAll_114 (by decide) ?_
            refine ev_iadd (pc := 115) d_Mo_weighAll_115 ?_
            refine ev_putfield (pc := 116) 25 _ d_Mo_weighAll_116 fl_Mo_239 g52_ pf_11_weighed rfl rfl (Nat.le_of_ble_eq_true rfl) (fun F56_ hF56_ => ?_)
            have g57_ : F56_ (r0 + 17) = some (.inl (0, 12, .inl r0p17_f)) := by rw [← hF56_]; exact ev_up_k (ev_ne_ao g53_ g52_) g53_
            have g58_ : F56_ (r0 + 18) = some (.inl (1, 12, .inr (.inl (vp_updL r0p18_f i2.toNatClampNeg (-1))))) := by rw [← hF56_]; exact ev_up_k (ev_ne_ao g54_ g52_) g54_
            have g59_ : F56_ (r0 + 19) = some (.inl (2, 12, .inl (upd r0p19_f i2.toNatClampNeg 1))) := by rw [← hF56_]; exact ev_up_k (ev_ne_ao g55_ g52_) g55_
            have g60_ : F56_ r0 = some (moO r0 ir0_drafted ir0_rows ir0_segments ir0_stopped ir0_fuse ir0_written ir0_tokens ir0_height ir0_results (ir0_weighed + 1)) := by rw [← hF56_]; exact ev_up_s
            refine ev_iinc (pc := 119) 2 1 d_Mo_weighAll_119 rfl (by decide) (Nat.le_of_ble_eq_true rfl) [1, 2, 0, 3] rfl ?_
            refine ev_goto (pc := 122) 28 d_Mo_weighAll_122 (by decide) ?_
            exact Ev.sub [0, 1, 2] rfl (by subst hF46_ hF51_ hF56_; exact (k28_25 c31 c40 c64 c72 c92))
set_option maxRecDepth 100000 in
set_option maxHeartbeats 4000000 in
theorem s_Mo_best_0 {l : Launch} {X : ev_X} {bc bs n : Nat} {F : ev_H} {Q : Option Value → Nat → ev_H → Prop} {r0 : Nat} {i1 : Int32} 
    (k2_0 : Ev l X M_Mo_best bc bs 2 [(0, .ref r0), (1, .int i1), (2, .int 0)] [] n F (ev_mq X Q)) :
    Ev l X M_Mo_best bc bs 0 [(0, .ref r0), (1, .int i1)] [] n F (ev_mq X Q) := by
  refine ev_iconst (pc := 0) 0 d_Mo_best_0 (by decide) ?_
  refine ev_istore_n (pc := 1) d_Mo_best_1 (Nat.le_of_ble_eq_true rfl) [1, 2, 0] rfl ?_
  exact k2_0

set_option maxRecDepth 100000 in
set_option maxHeartbeats 4000000 in
theorem s_Mo_best_2 {l : Launch} {X : ev_X} {bc bs n : Nat} {F : ev_H} {Q : Option Value → Nat → ev_H → Prop} {r0 : Nat} {i1 : Int32} {i2 : Int32} {ir0_drafted : Int32} {ir0_rows : Int32} {ir0_segments : Int32} {ir0_stopped : Int32} {ir0_fuse : Int32} {ir0_written : Int32} {ir0_tokens : Int32} {ir0_height : Int32} {ir0_results : Int32} {ir0_weighed : Int32} {r0p17_f : Nat → Int32} {v36 : Int64} (h_r0 : F r0 = some (moO r0 ir0_drafted ir0_rows ir0_segments ir0_stopped ir0_fuse ir0_written ir0_tokens ir0_height ir0_results ir0_weighed)) (h_r0p17 : F (r0 + 17) = some (.inl (0, 12, .inl r0p17_f)))
    (k70_0 : (12 ≤ i2) → Ev l X M_Mo_best bc bs 70 [(0, .ref r0), (1, .int i1), (2, .int 0)] [] n F (ev_mq X Q))
    (in18_1 : (¬ 12 ≤ i2) → vp_in i2 12)
    (in34_2 : (¬ 12 ≤ i2) → (0 ≤ (r0p17_f i2.toNatClampNeg)) → vp_in i2 12)
    (c36_3 : (¬ 12 ≤ i2) → (0 ≤ (r0p17_f i2.toNatClampNeg)) → Cal l X M_Mo_sum 0 0 [.ref r0, .int (r0p17_f i2.toNatClampNeg), .int 0] n F (ev_pure (.long v36) n F))
    (k39_4 : (¬ 12 ≤ i2) → (0 ≤ (r0p17_f i2.toNatClampNeg)) → Ev l X M_Mo_best bc bs 39 [(0, .ref r0), (1, .int i1), (2, .int i2)] [.long v36, .int i2, .ref (r0 + 18)] n F (ev_mq X Q))
    (k39_5 : (¬ 12 ≤ i2) → (¬ 0 ≤ (r0p17_f i2.toNatClampNeg)) → Ev l X M_Mo_best bc bs 39 [(0, .ref r0), (1, .int i1), (2, .int i2)] [.long (-1), .int i2, .ref (r0 + 18)] n F (ev_mq X Q)) :
    Ev l X M_Mo_best bc bs 2 [(0, .ref r0), (1, .int i1), (2, .int i2)] [] n F (ev_mq X Q) := by
  refine ev_iload_n (pc := 2) d_Mo_best_2 rfl ?_
  refine ev_bipush (pc := 3) 12 d_Mo_best_3 (by decide) ?_
  refine ev_icmp_ge (pc := 5) 68 d_Mo_best_5 (by decide) (fun c5 => ?_) (fun c5 => ?_)
  · refine ev_iconst (pc := 68) 0 d_Mo_best_68 (by decide) ?_
    refine ev_istore_n (pc := 69) d_Mo_best_69 (Nat.le_of_ble_eq_true rfl) [1, 2, 0] rfl ?_
    exact (k70_0 c5)
  · refine ev_aload_n (pc := 8) d_Mo_best_8 rfl ?_
    refine ev_getfield (pc := 9) 27 d_Mo_best_9 fl_Mo_63 h_r0 rfl ?_
    refine ev_iload_n (pc := 12) d_Mo_best_12 rfl ?_
    refine ev_aload_n (pc := 13) d_Mo_best_13 rfl ?_
    refine ev_getfield (pc := 14) 26 d_Mo_best_14 fl_Mo_60 h_r0 rfl ?_
    refine ev_iload_n (pc := 17) d_Mo_best_17 rfl ?_
    refine ev_iaload (pc := 18) d_Mo_best_18 h_r0p17 rfl (in18_1 c5) ?_
    refine ev_if_ge (pc := 19) 28 d_Mo_best_19 (by decide) (fun c19 => ?_) (fun c19 => ?_)
    · refine ev_aload_n (pc := 28) d_Mo_best_28 rfl ?_
      refine ev_aload_n (pc := 29) d_Mo_best_29 rfl ?_
      refine ev_getfield (pc := 30) 26 d_Mo_best_30 fl_Mo_60 h_r0 rfl ?_
      refine ev_iload_n (pc := 33) d_Mo_best_33 rfl ?_
      refine ev_iaload (pc := 34) d_Mo_best_34 h_r0p17 rfl (in34_2 c5 c19) ?_
      refine ev_iconst (pc := 35) 0 d_Mo_best_35 (by decide) ?_
      refine ev_invokevirtual (pc := 36) (As := [.int (r0p17_f i2.toNatClampNeg), .int 0]) (st := [.int i2, .ref (r0 + 18)]) (Q2 := ev_pure (.long v36) n F) (bc1 := 0) (bs1 := 0) M_Mo_sum rC11 d_Mo_best_36 lc_Mo_242 wd_1149 wd_s46 rfl h_r0 rfl rfl (Nat.le_of_ble_eq_true rfl) (Nat.le_of_ble_eq_true rfl) (Nat.le_of_ble_eq_true rfl) (Nat.le_refl _) (Nat.le_refl _) (c36_3 c5 c19) ?_
      refine ev_purek ?_
      exact (k39_4 c5 c19)
    · refine ev_ldc2 (pc := 22) (v := (-1)) d_Mo_best_22 wd_1146 ?_
      refine ev_goto (pc := 25) 39 d_Mo_best_25 (by decide) ?_
      exact (k39_5 c5 c19)

set_option maxRecDepth 100000 in
set_option maxHeartbeats 4000000 in
theorem s_Mo_best_39 {l : Launch} {X : ev_X} {bc bs n : Nat} {F : ev_H} {Q : Option Value → Nat → ev_H → Prop} {r0 : Nat} {i1 : Int32} {i2 : Int32} {rs0 : Nat} {is1 : Int32} {js2 : Int64} {rs0_n : Nat} {rs0_f : Nat → Int64} {ir0_drafted : Int32} {ir0_rows : Int32} {ir0_segments : Int32} {ir0_stopped : Int32} {ir0_fuse : Int32} {ir0_written : Int32} {ir0_tokens : Int32} {ir0_height : Int32} {ir0_results : Int32} {ir0_weighed : Int32} {r0p18_f : Nat → Int64} {r0p19_f : Nat → Int32} (h_rs0 : F rs0 = some (.inl (1, rs0_n, .inr (.inl rs0_f)))) (h_r0 : F r0 = some (moO r0 ir0_drafted ir0_rows ir0_segments ir0_stopped ir0_fuse ir0_written ir0_tokens ir0_height ir0_results ir0_weighed)) (h_r0p18 : F (r0 + 18) = some (.inl (1, 12, .inr (.inl r0p18_f)))) (ne_r0p18_rs0 : (r0 + 18) ≠ rs0) (h_r0p19 : F (r0 + 19) = some (.inl (2, 12, .inl r0p19_f)))
    (in39_0 : vp_in is1 rs0_n)
    (in50_1 : vp_in i2 12)
    (in61_2 : (0 ≤ (lg_cmp (r0p18_f i2.toNatClampNeg) 0)) → vp_in i2 12)
    (k2_3 : (0 ≤ (lg_cmp (r0p18_f i2.toNatClampNeg) 0)) → Ev l X M_Mo_best bc bs 2 [(0, .ref r0), (1, .int i1), (2, .int (i2 + 1))] [] n (ev_up (ev_up F rs0 (.inl (1, rs0_n, .inr (.inl (vp_updL rs0_f is1.toNatClampNeg js2))))) (r0 + 19) (.inl (2, 12, .inl (upd r0p19_f i2.toNatClampNeg 0)))) (ev_mq X Q))
    (in61_4 : (¬ 0 ≤ (lg_cmp (r0p18_f i2.toNatClampNeg) 0)) → vp_in i2 12)
    (k2_5 : (¬ 0 ≤ (lg_cmp (r0p18_f i2.toNatClampNeg) 0)) → Ev l X M_Mo_best bc bs 2 [(0, .ref r0), (1, .int i1), (2, .int (i2 + 1))] [] n (ev_up (ev_up F rs0 (.inl (1, rs0_n, .inr (.inl (vp_updL rs0_f is1.toNatClampNeg js2))))) (r0 + 19) (.inl (2, 12, .inl (upd r0p19_f i2.toNatClampNeg 1)))) (ev_mq X Q)) :
    Ev l X M_Mo_best bc bs 39 [(0, .ref r0), (1, .int i1), (2, .int i2)] [.long js2, .int is1, .ref rs0] n F (ev_mq X Q) := by
  refine ev_lastore (pc := 39) d_Mo_best_39 h_rs0 rfl in39_0 (fun F1_ hF1_ => ?_)
  have g2_ : F1_ rs0 = some (.inl (1, rs0_n, .inr (.inl (vp_updL rs0_f is1.toNatClampNeg js2)))) := by rw [← hF1_]; exact ev_up_s
  refine ev_aload_n (pc := 40) d_Mo_best_40 rfl ?_
  have g3_ : F1_ r0 = some (moO r0 ir0_drafted ir0_rows ir0_segments ir0_stopped ir0_fuse ir0_written ir0_tokens ir0_height ir0_results ir0_weighed) := by rw [← hF1_]; exact ev_up_k (ev_ne_oa h_r0 h_rs0) h_r0
  refine ev_getfield (pc := 41) 28 d_Mo_best_41 fl_Mo_66 g3_ rfl ?_
  refine ev_iload_n (pc := 44) d_Mo_best_44 rfl ?_
  refine ev_aload_n (pc := 45) d_Mo_best_45 rfl ?_
  refine ev_getfield (pc := 46) 27 d_Mo_best_46 fl_Mo_63 g3_ rfl ?_
  refine ev_iload_n (pc := 49) d_Mo_best_49 rfl ?_
  have g4_ : F1_ (r0 + 18) = some (.inl (1, 12, .inr (.inl r0p18_f))) := by rw [← hF1_]; exact ev_up_k ne_r0p18_rs0 h_r0p18
  refine ev_laload (pc := 50) d_Mo_best_50 g4_ rfl in50_1 ?_
  refine ev_lconst (pc := 51) 0 d_Mo_best_51 (by decide) ?_
  refine ev_lcmp (pc := 52) d_Mo_best_52 ?_
  refine ev_if_ge (pc := 53) 60 d_Mo_best_53 (by decide) (fun c53 => ?_) (fun c53 => ?_)
  · refine ev_iconst (pc := 60) 0 d_Mo_best_60 (by decide) ?_
    have g5_ : F1_ (r0 + 19) = some (.inl (2, 12, .inl r0p19_f)) := by rw [← hF1_]; exact ev_up_k (ev_ne_aa h_r0p19 h_rs0 rfl) h_r0p19
    refine ev_zastore (pc := 61) d_Mo_best_61 g5_ rfl (in61_2 c53) rfl (fun F6_ hF6_ => ?_)
    have g7_ : F6_ rs0 = some (.inl (1, rs0_n, .inr (.inl (vp_updL rs0_f is1.toNatClampNeg js2)))) := by rw [← hF6_]; exact ev_up_k (ev_ne_aa g2_ g5_ rfl) g2_
    have g8_ : F6_ r0 = some (moO r0 ir0_drafted ir0_rows ir0_segments ir0_stopped ir0_fuse ir0_written ir0_tokens ir0_height ir0_results ir0_weighed) := by rw [← hF6_]; exact ev_up_k (ev_ne_oa g3_ g5_) g3_
    have g9_ : F6_ (r0 + 18) = some (.inl (1, 12, .inr (.inl r0p18_f))) := by rw [← hF6_]; exact ev_up_k (ev_ne_aa g4_ g5_ rfl) g4_
    have g10_ : F6_ (r0 + 19) = some (.inl (2, 12, .inl (upd r0p19_f i2.toNatClampNeg 0))) := by rw [← hF6_]; exact ev_up_s
    refine ev_iinc (pc := 62) 2 1 d_Mo_best_62 rfl (by decide) (Nat.le_of_ble_eq_true rfl) [1, 2, 0] rfl ?_
    refine ev_goto (pc := 65) 2 d_Mo_best_65 (by decide) ?_
    exact (by subst hF1_ hF6_; exact (k2_3 c53))
  · refine ev_iconst (pc := 56) 1 d_Mo_best_56 (by decide) ?_
    refine ev_goto (pc := 57) 61 d_Mo_best_57 (by decide) ?_
    have g11_ : F1_ (r0 + 19) = some (.inl (2, 12, .inl r0p19_f)) := by rw [← hF1_]; exact ev_up_k (ev_ne_aa h_r0p19 h_rs0 rfl) h_r0p19
    refine ev_zastore (pc := 61) d_Mo_best_61 g11_ rfl (in61_4 c53) rfl (fun F12_ hF12_ => ?_)
    have g13_ : F12_ rs0 = some (.inl (1, rs0_n, .inr (.inl (vp_updL rs0_f is1.toNatClampNeg js2)))) := by rw [← hF12_]; exact ev_up_k (ev_ne_aa g2_ g11_ rfl) g2_
    have g14_ : F12_ r0 = some (moO r0 ir0_drafted ir0_rows ir0_segments ir0_stopped ir0_fuse ir0_written ir0_tokens ir0_height ir0_results ir0_weighed) := by rw [← hF12_]; exact ev_up_k (ev_ne_oa g3_ g11_) g3_
    have g15_ : F12_ (r0 + 18) = some (.inl (1, 12, .inr (.inl r0p18_f))) := by rw [← hF12_]; exact ev_up_k (ev_ne_aa g4_ g11_ rfl) g4_
    have g16_ : F12_ (r0 + 19) = some (.inl (2, 12, .inl (upd r0p19_f i2.toNatClampNeg 1))) := by rw [← hF12_]; exact ev_up_s
    refine ev_iinc (pc := 62) 2 1 d_Mo_best_62 rfl (by decide) (Nat.le_of_ble_eq_true rfl) [1, 2, 0] rfl ?_
    refine ev_goto (pc := 65) 2 d_Mo_best_65 (by decide) ?_
    exact (by subst hF1_ hF12_; exact (k2_5 c53))

set_option maxRecDepth 100000 in
set_option maxHeartbeats 4000000 in
theorem s_Mo_best_70 {l : Launch} {X : ev_X} {bc bs n : Nat} {F : ev_H} {Q : Option Value → Nat → ev_H → Prop} {r0 : Nat} {i1 : Int32} {i2 : Int32} 
    (q183_0 : (i1 ≤ i2) → Q none n F)
    (k80_1 : (¬ i1 ≤ i2) → Ev l X M_Mo_best bc bs 80 [(0, .ref r0), (1, .int i1), (2, .int i2), (3, .int (-1)), (4, .int 0)] [] n F (ev_mq X Q)) :
    Ev l X M_Mo_best bc bs 70 [(0, .ref r0), (1, .int i1), (2, .int i2)] [] n F (ev_mq X Q) := by
  refine ev_iload_n (pc := 70) d_Mo_best_70 rfl ?_
  refine ev_iload_n (pc := 71) d_Mo_best_71 rfl ?_
  refine ev_icmp_ge (pc := 72) 183 d_Mo_best_72 (by decide) (fun c72 => ?_) (fun c72 => ?_)
  · exact ev_return (pc := 183) d_Mo_best_183 rfl (q183_0 c72)
  · refine ev_iconst (pc := 75) (-1) d_Mo_best_75 (by decide) ?_
    refine ev_istore_n (pc := 76) d_Mo_best_76 (Nat.le_of_ble_eq_true rfl) [1, 2, 3, 0] rfl ?_
    refine ev_iconst (pc := 77) 0 d_Mo_best_77 (by decide) ?_
    refine ev_istore (pc := 78) d_Mo_best_78 (Nat.le_of_ble_eq_true rfl) [1, 2, 3, 4, 0] rfl ?_
    exact (k80_1 c72)

set_option maxRecDepth 100000 in
set_option maxHeartbeats 4000000 in
theorem s_Mo_best_80 {l : Launch} {X : ev_X} {bc bs n : Nat} {F : ev_H} {Q : Option Value → Nat → ev_H → Prop} {r0 : Nat} {i1 : Int32} {i2 : Int32} {i3 : Int32} {i4 : Int32} {ir0_drafted : Int32} {ir0_rows : Int32} {ir0_segments : Int32} {ir0_stopped : Int32} {ir0_fuse : Int32} {ir0_written : Int32} {ir0_tokens : Int32} {ir0_height : Int32} {ir0_results : Int32} {ir0_weighed : Int32} {r0p19_f : Nat → Int32} {r0p15_f : Nat → Int32} {r0p18_f : Nat → Int64} {r0p16_f : Nat → Int64} (h_r0 : F r0 = some (moO r0 ir0_drafted ir0_rows ir0_segments ir0_stopped ir0_fuse ir0_written ir0_tokens ir0_height ir0_results ir0_weighed)) (h_r0p19 : F (r0 + 19) = some (.inl (2, 12, .inl r0p19_f))) (h_r0p15 : F (r0 + 15) = some (.inl (0, 12, .inl r0p15_f))) (h_r0p18 : F (r0 + 18) = some (.inl (1, 12, .inr (.inl r0p18_f)))) (h_r0p16 : F (r0 + 16) = some (.inl (1, 12, .inr (.inl r0p16_f))))
    (k70_0 : (12 ≤ i4) → (i3 < 0) → Ev l X M_Mo_best bc bs 70 [(0, .ref r0), (1, .int i1), (2, .int (i2 + 1))] [] n F (ev_mq X Q))
    (in141_1 : (12 ≤ i4) → (¬ i3 < 0) → vp_in i3 12)
    (in151_2 : (12 ≤ i4) → (¬ i3 < 0) → vp_in ir0_results 12)
    (in165_3 : (12 ≤ i4) → (¬ i3 < 0) → vp_in i3 12)
    (in166_4 : (12 ≤ i4) → (¬ i3 < 0) → vp_in ir0_results 12)
    (k70_5 : (12 ≤ i4) → (¬ i3 < 0) → Ev l X M_Mo_best bc bs 70 [(0, .ref r0), (1, .int i1), (2, .int (i2 + 1))] [] n (ev_up (ev_up (ev_up (ev_up F (r0 + 19) (.inl (2, 12, .inl (upd r0p19_f i3.toNatClampNeg 1)))) (r0 + 15) (.inl (0, 12, .inl (upd r0p15_f ir0_results.toNatClampNeg i3)))) (r0 + 16) (.inl (1, 12, .inr (.inl (vp_updL r0p16_f ir0_results.toNatClampNeg (r0p18_f i3.toNatClampNeg)))))) r0 (moO r0 ir0_drafted ir0_rows ir0_segments ir0_stopped ir0_fuse ir0_written ir0_tokens ir0_height (ir0_results + 1) ir0_weighed)) (ev_mq X Q))
    (in93_6 : (¬ 12 ≤ i4) → vp_in i4 12)
    (k124_7 : (¬ 12 ≤ i4) → (¬ (r0p19_f i4.toNatClampNeg) = 0) → Ev l X M_Mo_best bc bs 124 [(0, .ref r0), (1, .int i1), (2, .int i2), (3, .int i3), (4, .int i4)] [.int i3] n F (ev_mq X Q))
    (k124_8 : (¬ 12 ≤ i4) → ((r0p19_f i4.toNatClampNeg) = 0) → (i3 < 0) → Ev l X M_Mo_best bc bs 124 [(0, .ref r0), (1, .int i1), (2, .int i2), (3, .int i3), (4, .int i4)] [.int i4] n F (ev_mq X Q))
    (in107_9 : (¬ 12 ≤ i4) → ((r0p19_f i4.toNatClampNeg) = 0) → (¬ i3 < 0) → vp_in i4 12)
    (in113_10 : (¬ 12 ≤ i4) → ((r0p19_f i4.toNatClampNeg) = 0) → (¬ i3 < 0) → vp_in i3 12)
    (k124_11 : (¬ 12 ≤ i4) → ((r0p19_f i4.toNatClampNeg) = 0) → (¬ i3 < 0) → ((lg_cmp (r0p18_f i4.toNatClampNeg) (r0p18_f i3.toNatClampNeg)) ≤ 0) → Ev l X M_Mo_best bc bs 124 [(0, .ref r0), (1, .int i1), (2, .int i2), (3, .int i3), (4, .int i4)] [.int i3] n F (ev_mq X Q))
    (k124_12 : (¬ 12 ≤ i4) → ((r0p19_f i4.toNatClampNeg) = 0) → (¬ i3 < 0) → (¬ (lg_cmp (r0p18_f i4.toNatClampNeg) (r0p18_f i3.toNatClampNeg)) ≤ 0) → Ev l X M_Mo_best bc bs 124 [(0, .ref r0), (1, .int i1), (2, .int i2), (3, .int i3), (4, .int i4)] [.int i4] n F (ev_mq X Q)) :
    Ev l X M_Mo_best bc bs 80 [(0, .ref r0), (1, .int i1), (2, .int i2), (3, .int i3), (4, .int i4)] [] n F (ev_mq X Q) := by
  refine ev_iload (pc := 80) d_Mo_best_80 rfl ?_
  refine ev_bipush (pc := 82) 12 d_Mo_best_82 (by decide) ?_
  refine ev_icmp_ge (pc := 84) 131 d_Mo_best_84 (by decide) (fun c84 => ?_) (fun c84 => ?_)
  · refine ev_iload_n (pc := 131) d_Mo_best_131 rfl ?_
    refine ev_if_lt (pc := 132) 177 d_Mo_best_132 (by decide) (fun c132 => ?_) (fun c132 => ?_)
    · refine ev_iinc (pc := 177) 2 1 d_Mo_best_177 rfl (by decide) (Nat.le_of_ble_eq_true rfl) [1, 2, 0, 3, 4] rfl ?_
      refine ev_goto (pc := 180) 70 d_Mo_best_180 (by decide) ?_
      exact Ev.sub [0, 1, 2] rfl (k70_0 c84 c132)
    · refine ev_aload_n (pc := 135) d_Mo_best_135 rfl ?_
      refine ev_getfield (pc := 136) 28 d_Mo_best_136 fl_Mo_66 h_r0 rfl ?_
      refine ev_iload_n (pc := 139) d_Mo_best_139 rfl ?_
      refine ev_iconst (pc := 140) 1 d_Mo_best_140 (by decide) ?_
      refine ev_zastore (pc := 141) d_Mo_best_141 h_r0p19 rfl (in141_1 c84 c132) rfl (fun F1_ hF1_ => ?_)
      have g2_ : F1_ r0 = some (moO r0 ir0_drafted ir0_rows ir0_segments ir0_stopped ir0_fuse ir0_written ir0_tokens ir0_height ir0_results ir0_weighed) := by rw [← hF1_]; exact ev_up_k (ev_ne_oa h_r0 h_r0p19) h_r0
      have g3_ : F1_ (r0 + 19) = some (.inl (2, 12, .inl (upd r0p19_f i3.toNatClampNeg 1))) := by rw [← hF1_]; exact ev_up_s
      refine ev_aload_n (pc := 142) d_Mo_best_142 rfl ?_
      refine ev_getfield (pc := 143) 23 d_Mo_best_143 fl_Mo_54 g2_ rfl ?_
      refine ev_aload_n (pc := 146) d_Mo_best_146 rfl ?_
      refine ev_getfield (pc := 147) 22 d_Mo_best_147 fl_Mo_200 g2_ rfl ?_
      refine ev_iload_n (pc := 150) d_Mo_best_150 rfl ?_
      have g4_ : F1_ (r0 + 15) = some (.inl (0, 12, .inl r0p15_f)) := by rw [← hF1_]; exact ev_up_k (ev_ne_aa h_r0p15 h_r0p19 rfl) h_r0p15
      refine ev_iastore (pc := 151) d_Mo_best_151 g4_ rfl (in151_2 c84 c132) (fun F5_ hF5_ => ?_)
      have g6_ : F5_ r0 = some (moO r0 ir0_drafted ir0_rows ir0_segments ir0_stopped ir0_fuse ir0_written ir0_tokens ir0_height ir0_results ir0_weighed) := by rw [← hF5_]; exact ev_up_k (ev_ne_oa g2_ g4_) g2_
      have g7_ : F5_ (r0 + 19) = some (.inl (2, 12, .inl (upd r0p19_f i3.toNatClampNeg 1))) := by rw [← hF5_]; exact ev_up_k (ev_ne_aa g3_ g4_ rfl) g3_
      have g8_ : F5_ (r0 + 15) = some (.inl (0, 12, .inl (upd r0p15_f ir0_results.toNatClampNeg i3))) := by rw [← hF5_]; exact ev_up_s
      refine ev_aload_n (pc := 152) d_Mo_best_152 rfl ?_
      refine ev_getfield (pc := 153) 24 d_Mo_best_153 fl_Mo_57 g6_ rfl ?_
      refine ev_aload_n (pc := 156) d_Mo_best_156 rfl ?_
      refine ev_getfield (pc := 157) 22 d_Mo_best_157 fl_Mo_200 g6_ rfl ?_
      refine ev_aload_n (pc := 160) d_Mo_best_160 rfl ?_
      refine ev_getfield (pc := 161) 27 d_Mo_best_161 fl_Mo_63 g6_ rfl ?_
      refine ev_iload_n (pc := 164) d_Mo_best_164 rfl ?_
      have g9_ : F1_ (r0 + 18) = some (.inl (1, 12, .inr (.inl r0p18_f))) := by rw [← hF1_]; exact ev_up_k (ev_ne_aa h_r0p18 h_r0p19 rfl) h_r0p18
      have g10_ : F5_ (r0 + 18) = some (.inl (1, 12, .inr (.inl r0p18_f))) := by rw [← hF5_]; exact ev_up_k (ev_ne_aa g9_ g4_ rfl) g9_
      refine ev_laload (pc := 165) d_Mo_best_165 g10_ rfl (in165_3 c84 c132) ?_
      have g11_ : F1_ (r0 + 16) = some (.inl (1, 12, .inr (.inl r0p16_f))) := by rw [← hF1_]; exact ev_up_k (ev_ne_aa h_r0p16 h_r0p19 rfl) h_r0p16
      have g12_ : F5_ (r0 + 16) = some (.inl (1, 12, .inr (.inl r0p16_f))) := by rw [← hF5_]; exact ev_up_k (ev_ne_aa g11_ g4_ rfl) g11_
      refine ev_lastore (pc := 166) d_Mo_best_166 g12_ rfl (in166_4 c84 c132) (fun F13_ hF13_ => ?_)
      have g14_ : F13_ r0 = some (moO r0 ir0_drafted ir0_rows ir0_segments ir0_stopped ir0_fuse ir0_written ir0_tokens ir0_height ir0_results ir0_weighed) := by rw [← hF13_]; exact ev_up_k (ev_ne_oa g6_ g12_) g6_
      have g15_ : F13_ (r0 + 19) = some (.inl (2, 12, .inl (upd r0p19_f i3.toNatClampNeg 1))) := by rw [← hF13_]; exact ev_up_k (ev_ne_aa g7_ g12_ rfl) g7_
      have g16_ : F13_ (r0 + 15) = some (.inl (0, 12, .inl (upd r0p15_f ir0_results.toNatClampNeg i3))) := by rw [← hF13_]; exact ev_up_k (ev_ne_aa g8_ g12_ rfl) g8_
      have g17_ : F13_ (r0 + 18) = some (.inl (1, 12, .inr (.inl r0p18_f))) := by rw [← hF13_]; exact ev_up_k (by omega) g10_
      have g18_ : F13_ (r0 + 16) = some (.inl (1, 12, .inr (.inl (vp_updL r0p16_f ir0_results.toNatClampNeg (r0p18_f i3.toNatClampNeg))))) := by rw [← hF13_]; exact ev_up_s
      refine ev_aload_n (pc := 167) d_Mo_best_167 rfl ?_
      refine ev_dup (pc := 168) d_Mo_best_168 rfl ?_
      refine ev_getfield (pc := 169) 22 d_Mo_best_169 fl_Mo_200 g14_ rfl ?_
      refine ev_iconst (pc := 172) 1 d_Mo_best_172 (by decide) ?_
      refine ev_iadd (pc := 173) d_Mo_best_173 ?_
      refine ev_putfield (pc := 174) 22 _ d_Mo_best_174 fl_Mo_200 g14_ pf_11_results rfl rfl (Nat.le_of_ble_eq_true rfl) (fun F19_ hF19_ => ?_)
      have g20_ : F19_ (r0 + 19) = some (.inl (2, 12, .inl (upd r0p19_f i3.toNatClampNeg 1))) := by rw [← hF19_]; exact ev_up_k (ev_ne_ao g15_ g14_) g15_
      have g21_ : F19_ (r0 + 15) = some (.inl (0, 12, .inl (upd r0p15_f ir0_results.toNatClampNeg i3))) := by rw [← hF19_]; exact ev_up_k (ev_ne_ao g16_ g14_) g16_
      have g22_ : F19_ (r0 + 18) = some (.inl (1, 12, .inr (.inl r0p18_f))) := by rw [← hF19_]; exact ev_up_k (ev_ne_ao g17_ g14_) g17_
      have g23_ : F19_ (r0 + 16) = some (.inl (1, 12, .inr (.inl (vp_updL r0p16_f ir0_results.toNatClampNeg (r0p18_f i3.toNatClampNeg))))) := by rw [← hF19_]; exact ev_up_k (ev_ne_ao g18_ g14_) g18_
      have g24_ : F19_ r0 = some (moO r0 ir0_drafted ir0_rows ir0_segments ir0_stopped ir0_fuse ir0_written ir0_tokens ir0_height (ir0_results + 1) ir0_weighed) := by rw [← hF19_]; exact ev_up_s
      refine ev_iinc (pc := 177) 2 1 d_Mo_best_177 rfl (by decide) (Nat.le_of_ble_eq_true rfl) [1, 2, 0, 3, 4] rfl ?_
      refine ev_goto (pc := 180) 70 d_Mo_best_180 (by decide) ?_
      exact Ev.sub [0, 1, 2] rfl (by subst hF1_ hF5_ hF13_ hF19_; exact (k70_5 c84 c132))
  · refine ev_aload_n (pc := 87) d_Mo_best_87 rfl ?_
    refine ev_getfield (pc := 88) 28 d_Mo_best_88 fl_Mo_66 h_r0 rfl ?_
    refine ev_iload (pc := 91) d_Mo_best_91 rfl ?_
    refine ev_zaload (pc := 93) d_Mo_best_93 h_r0p19 rfl (in93_6 c84) ?_
    refine ev_if_ne (pc := 94) 123 d_Mo_best_94 (by decide) (fun c94 => ?_) (fun c94 => ?_)
    · refine ev_iload_n (pc := 123) d_Mo_best_123 rfl ?_
      exact (k124_7 c84 c94)
    · refine ev_iload_n (pc := 97) d_Mo_best_97 rfl ?_
      refine ev_if_lt (pc := 98) 118 d_Mo_best_98 (by decide) (fun c98 => ?_) (fun c98 => ?_)
      · refine ev_iload (pc := 118) d_Mo_best_118 rfl ?_
        refine ev_goto (pc := 120) 124 d_Mo_best_120 (by decide) ?_
        exact (k124_8 c84 c94 c98)
      · refine ev_aload_n (pc := 101) d_Mo_best_101 rfl ?_
        refine ev_getfield (pc := 102) 27 d_Mo_best_102 fl_Mo_63 h_r0 rfl ?_
        refine ev_iload (pc := 105) d_Mo_best_105 rfl ?_
        refine ev_laload (pc := 107) d_Mo_best_107 h_r0p18 rfl (in107_9 c84 c94 c98) ?_
        refine ev_aload_n (pc := 108) d_Mo_best_108 rfl ?_
        refine ev_getfield (pc := 109) 27 d_Mo_best_109 fl_Mo_63 h_r0 rfl ?_
        refine ev_iload_n (pc := 112) d_Mo_best_112 rfl ?_
        refine ev_laload (pc := 113) d_Mo_best_113 h_r0p18 rfl (in113_10 c84 c94 c98) ?_
        refine ev_lcmp (pc := 114) d_Mo_best_114 ?_
        refine ev_if_le (pc := 115) 123 d_Mo_best_115 (by decide) (fun c115 => ?_) (fun c115 => ?_)
        · refine ev_iload_n (pc := 123) d_Mo_best_123 rfl ?_
          exact (k124_11 c84 c94 c98 c115)
        · refine ev_iload (pc := 118) d_Mo_best_118 rfl ?_
          refine ev_goto (pc := 120) 124 d_Mo_best_120 (by decide) ?_
          exact (k124_12 c84 c94 c98 c115)

set_option maxRecDepth 100000 in
set_option maxHeartbeats 4000000 in
theorem s_Mo_best_124 {l : Launch} {X : ev_X} {bc bs n : Nat} {F : ev_H} {Q : Option Value → Nat → ev_H → Prop} {r0 : Nat} {i1 : Int32} {i2 : Int32} {i3 : Int32} {i4 : Int32} {is0 : Int32} 
    (k80_0 : Ev l X M_Mo_best bc bs 80 [(0, .ref r0), (1, .int i1), (2, .int i2), (3, .int is0), (4, .int (i4 + 1))] [] n F (ev_mq X Q)) :
    Ev l X M_Mo_best bc bs 124 [(0, .ref r0), (1, .int i1), (2, .int i2), (3, .int i3), (4, .int i4)] [.int is0] n F (ev_mq X Q) := by
  refine ev_istore_n (pc := 124) d_Mo_best_124 (Nat.le_of_ble_eq_true rfl) [1, 2, 3, 0, 4] rfl ?_
  refine ev_iinc (pc := 125) 4 1 d_Mo_best_125 rfl (by decide) (Nat.le_of_ble_eq_true rfl) [1, 2, 3, 4, 0] rfl ?_
  refine ev_goto (pc := 128) 80 d_Mo_best_128 (by decide) ?_
  exact k80_0
set_option maxRecDepth 100000 in
set_option maxHeartbeats 4000000 in
theorem s_Mo_result_0 {l : Launch} {X : ev_X} {bc bs n : Nat} {F : ev_H} {Q : Option Value → Nat → ev_H → Prop} {r0 : Nat} {i1 : Int32} {ir0_drafted : Int32} {ir0_rows : Int32} {ir0_segments : Int32} {ir0_stopped : Int32} {ir0_fuse : Int32} {ir0_written : Int32} {ir0_tokens : Int32} {ir0_height : Int32} {ir0_results : Int32} {ir0_weighed : Int32} {r0p15_f : Nat → Int32} (h_r0 : F r0 = some (moO r0 ir0_drafted ir0_rows ir0_segments ir0_stopped ir0_fuse ir0_written ir0_tokens ir0_height ir0_results ir0_weighed)) (h_r0p15 : F (r0 + 15) = some (.inl (0, 12, .inl r0p15_f)))
    (q22_0 : (i1 < 0) → Q (some (.int (-1))) n F)
    (in21_1 : (¬ i1 < 0) → (i1 < ir0_results) → vp_in i1 12)
    (q22_2 : (¬ i1 < 0) → (i1 < ir0_results) → Q (some (.int (r0p15_f i1.toNatClampNeg))) n F)
    (q22_3 : (¬ i1 < 0) → (¬ i1 < ir0_results) → Q (some (.int (-1))) n F) :
    Ev l X M_Mo_result bc bs 0 [(0, .ref r0), (1, .int i1)] [] n F (ev_mq X Q) := by
  refine ev_iload_n (pc := 0) d_Mo_result_0 rfl ?_
  refine ev_if_lt (pc := 1) 12 d_Mo_result_1 (by decide) (fun c1 => ?_) (fun c1 => ?_)
  · refine ev_iconst (pc := 12) (-1) d_Mo_result_12 (by decide) ?_
    refine ev_goto (pc := 13) 22 d_Mo_result_13 (by decide) ?_
    exact ev_ireturn (pc := 22) d_Mo_result_22 rfl rfl (q22_0 c1)
  · refine ev_iload_n (pc := 4) d_Mo_result_4 rfl ?_
    refine ev_aload_n (pc := 5) d_Mo_result_5 rfl ?_
    refine ev_getfield (pc := 6) 22 d_Mo_result_6 fl_Mo_200 h_r0 rfl ?_
    refine ev_icmp_lt (pc := 9) 16 d_Mo_result_9 (by decide) (fun c9 => ?_) (fun c9 => ?_)
    · refine ev_aload_n (pc := 16) d_Mo_result_16 rfl ?_
      refine ev_getfield (pc := 17) 23 d_Mo_result_17 fl_Mo_54 h_r0 rfl ?_
      refine ev_iload_n (pc := 20) d_Mo_result_20 rfl ?_
      refine ev_iaload (pc := 21) d_Mo_result_21 h_r0p15 rfl (in21_1 c1 c9) ?_
      exact ev_ireturn (pc := 22) d_Mo_result_22 rfl rfl (q22_2 c1 c9)
    · refine ev_iconst (pc := 12) (-1) d_Mo_result_12 (by decide) ?_
      refine ev_goto (pc := 13) 22 d_Mo_result_13 (by decide) ?_
      exact ev_ireturn (pc := 22) d_Mo_result_22 rfl rfl (q22_3 c1 c9)
set_option maxRecDepth 100000 in
set_option maxHeartbeats 4000000 in
theorem s_Mo_weight_0 {l : Launch} {X : ev_X} {bc bs n : Nat} {F : ev_H} {Q : Option Value → Nat → ev_H → Prop} {r0 : Nat} {i1 : Int32} {ir0_drafted : Int32} {ir0_rows : Int32} {ir0_segments : Int32} {ir0_stopped : Int32} {ir0_fuse : Int32} {ir0_written : Int32} {ir0_tokens : Int32} {ir0_height : Int32} {ir0_results : Int32} {ir0_weighed : Int32} {r0p16_f : Nat → Int64} (h_r0 : F r0 = some (moO r0 ir0_drafted ir0_rows ir0_segments ir0_stopped ir0_fuse ir0_written ir0_tokens ir0_height ir0_results ir0_weighed)) (h_r0p16 : F (r0 + 16) = some (.inl (1, 12, .inr (.inl r0p16_f))))
    (q23_0 : (i1 < 0) → Q (some (.int (-1))) n F)
    (in21_1 : (¬ i1 < 0) → (i1 < ir0_results) → vp_in i1 12)
    (q23_2 : (¬ i1 < 0) → (i1 < ir0_results) → Q (some (.int ((r0p16_f i1.toNatClampNeg).toInt32))) n F)
    (q23_3 : (¬ i1 < 0) → (¬ i1 < ir0_results) → Q (some (.int (-1))) n F) :
    Ev l X M_Mo_weight bc bs 0 [(0, .ref r0), (1, .int i1)] [] n F (ev_mq X Q) := by
  refine ev_iload_n (pc := 0) d_Mo_weight_0 rfl ?_
  refine ev_if_lt (pc := 1) 12 d_Mo_weight_1 (by decide) (fun c1 => ?_) (fun c1 => ?_)
  · refine ev_iconst (pc := 12) (-1) d_Mo_weight_12 (by decide) ?_
    refine ev_goto (pc := 13) 23 d_Mo_weight_13 (by decide) ?_
    exact ev_ireturn (pc := 23) d_Mo_weight_23 rfl rfl (q23_0 c1)
  · refine ev_iload_n (pc := 4) d_Mo_weight_4 rfl ?_
    refine ev_aload_n (pc := 5) d_Mo_weight_5 rfl ?_
    refine ev_getfield (pc := 6) 22 d_Mo_weight_6 fl_Mo_200 h_r0 rfl ?_
    refine ev_icmp_lt (pc := 9) 16 d_Mo_weight_9 (by decide) (fun c9 => ?_) (fun c9 => ?_)
    · refine ev_aload_n (pc := 16) d_Mo_weight_16 rfl ?_
      refine ev_getfield (pc := 17) 24 d_Mo_weight_17 fl_Mo_57 h_r0 rfl ?_
      refine ev_iload_n (pc := 20) d_Mo_weight_20 rfl ?_
      refine ev_laload (pc := 21) d_Mo_weight_21 h_r0p16 rfl (in21_1 c1 c9) ?_
      refine ev_l2i (pc := 22) d_Mo_weight_22 ?_
      exact ev_ireturn (pc := 23) d_Mo_weight_23 rfl rfl (q23_2 c1 c9)
    · refine ev_iconst (pc := 12) (-1) d_Mo_weight_12 (by decide) ?_
      refine ev_goto (pc := 13) 23 d_Mo_weight_13 (by decide) ?_
      exact ev_ireturn (pc := 23) d_Mo_weight_23 rfl rfl (q23_3 c1 c9)
set_option maxRecDepth 100000 in
set_option maxHeartbeats 4000000 in
theorem s_Mo_weighed_0 {l : Launch} {X : ev_X} {bc bs n : Nat} {F : ev_H} {Q : Option Value → Nat → ev_H → Prop} {r0 : Nat} {ir0_drafted : Int32} {ir0_rows : Int32} {ir0_segments : Int32} {ir0_stopped : Int32} {ir0_fuse : Int32} {ir0_written : Int32} {ir0_tokens : Int32} {ir0_height : Int32} {ir0_results : Int32} {ir0_weighed : Int32} (h_r0 : F r0 = some (moO r0 ir0_drafted ir0_rows ir0_segments ir0_stopped ir0_fuse ir0_written ir0_tokens ir0_height ir0_results ir0_weighed))
    (q4_0 : Q (some (.int ir0_weighed)) n F) :
    Ev l X M_Mo_weighed bc bs 0 [(0, .ref r0)] [] n F (ev_mq X Q) := by
  refine ev_aload_n (pc := 0) d_Mo_weighed_0 rfl ?_
  refine ev_getfield (pc := 1) 25 d_Mo_weighed_1 fl_Mo_239 h_r0 rfl ?_
  exact ev_ireturn (pc := 4) d_Mo_weighed_4 rfl rfl q4_0
set_option maxRecDepth 100000 in
set_option maxHeartbeats 4000000 in
theorem s_Mo_size_0 {l : Launch} {X : ev_X} {bc bs n : Nat} {F : ev_H} {Q : Option Value → Nat → ev_H → Prop} {r0 : Nat} {i1 : Int32} 
    (k4_0 : Ev l X M_Mo_size bc bs 4 [(0, .ref r0), (1, .int i1), (2, .int 0), (3, .int 0)] [] n F (ev_mq X Q)) :
    Ev l X M_Mo_size bc bs 0 [(0, .ref r0), (1, .int i1)] [] n F (ev_mq X Q) := by
  refine ev_iconst (pc := 0) 0 d_Mo_size_0 (by decide) ?_
  refine ev_istore_n (pc := 1) d_Mo_size_1 (Nat.le_of_ble_eq_true rfl) [1, 2, 0] rfl ?_
  refine ev_iconst (pc := 2) 0 d_Mo_size_2 (by decide) ?_
  refine ev_istore_n (pc := 3) d_Mo_size_3 (Nat.le_of_ble_eq_true rfl) [1, 2, 3, 0] rfl ?_
  exact k4_0

set_option maxRecDepth 100000 in
set_option maxHeartbeats 4000000 in
theorem s_Mo_size_4 {l : Launch} {X : ev_X} {bc bs n : Nat} {F : ev_H} {Q : Option Value → Nat → ev_H → Prop} {r0 : Nat} {i1 : Int32} {i2 : Int32} {i3 : Int32} {ir0_drafted : Int32} {ir0_rows : Int32} {ir0_segments : Int32} {ir0_stopped : Int32} {ir0_fuse : Int32} {ir0_written : Int32} {ir0_tokens : Int32} {ir0_height : Int32} {ir0_results : Int32} {ir0_weighed : Int32} {v81 : Int32} {v98 : Int32} {v114 : Int32} {v15 : Int32} (h_r0 : F r0 = some (moO r0 ir0_drafted ir0_rows ir0_segments ir0_stopped ir0_fuse ir0_written ir0_tokens ir0_height ir0_results ir0_weighed))
    (c81_0 : (ir0_rows ≤ i3) → (i1 = 0) → Cal l X M_Mo_live 0 0 [.ref r0] n F (ev_pure (.int v81) n F))
    (q84_1 : (ir0_rows ≤ i3) → (i1 = 0) → Q (some (.int v81)) n F)
    (q89_2 : (ir0_rows ≤ i3) → (¬ i1 = 0) → (i1 = 1) → Q (some (.int ir0_segments)) n F)
    (q94_3 : (ir0_rows ≤ i3) → (¬ i1 = 0) → (¬ i1 = 1) → (i1 = 2) → Q (some (.int ir0_rows)) n F)
    (c98_4 : (ir0_rows ≤ i3) → (¬ i1 = 0) → (¬ i1 = 1) → (¬ i1 = 2) → (i1 = 3) → Cal l X M_Mo_idle 0 0 [.ref r0] n F (ev_pure (.int v98) n F))
    (q102_5 : (ir0_rows ≤ i3) → (¬ i1 = 0) → (¬ i1 = 1) → (¬ i1 = 2) → (i1 = 3) → Q (some (.int (12 - v98))) n F)
    (q107_6 : (ir0_rows ≤ i3) → (¬ i1 = 0) → (¬ i1 = 1) → (¬ i1 = 2) → (¬ i1 = 3) → (i1 = 4) → Q (some (.int ir0_drafted)) n F)
    (q112_7 : (ir0_rows ≤ i3) → (¬ i1 = 0) → (¬ i1 = 1) → (¬ i1 = 2) → (¬ i1 = 3) → (¬ i1 = 4) → (i1 = 5) → Q (some (.int ir0_height)) n F)
    (c114_8 : (ir0_rows ≤ i3) → (¬ i1 = 0) → (¬ i1 = 1) → (¬ i1 = 2) → (¬ i1 = 3) → (¬ i1 = 4) → (¬ i1 = 5) → (i1 = 6) → Cal l X M_Mo_lengths 0 0 [.ref r0] n F (ev_pure (.int v114) n F))
    (q117_9 : (ir0_rows ≤ i3) → (¬ i1 = 0) → (¬ i1 = 1) → (¬ i1 = 2) → (¬ i1 = 3) → (¬ i1 = 4) → (¬ i1 = 5) → (i1 = 6) → Q (some (.int v114)) n F)
    (q122_10 : (ir0_rows ≤ i3) → (¬ i1 = 0) → (¬ i1 = 1) → (¬ i1 = 2) → (¬ i1 = 3) → (¬ i1 = 4) → (¬ i1 = 5) → (¬ i1 = 6) → (i1 = 7) → Q (some (.int ir0_written)) n F)
    (q135_11 : (ir0_rows ≤ i3) → (¬ i1 = 0) → (¬ i1 = 1) → (¬ i1 = 2) → (¬ i1 = 3) → (¬ i1 = 4) → (¬ i1 = 5) → (¬ i1 = 6) → (¬ i1 = 7) → (i1 = 8) → (ir0_stopped = 0) → Q (some (.int 0)) n F)
    (q135_12 : (ir0_rows ≤ i3) → (¬ i1 = 0) → (¬ i1 = 1) → (¬ i1 = 2) → (¬ i1 = 3) → (¬ i1 = 4) → (¬ i1 = 5) → (¬ i1 = 6) → (¬ i1 = 7) → (i1 = 8) → (¬ ir0_stopped = 0) → Q (some (.int 1)) n F)
    (q137_13 : (ir0_rows ≤ i3) → (¬ i1 = 0) → (¬ i1 = 1) → (¬ i1 = 2) → (¬ i1 = 3) → (¬ i1 = 4) → (¬ i1 = 5) → (¬ i1 = 6) → (¬ i1 = 7) → (¬ i1 = 8) → (i1 = 9) → Q (some (.int i2)) n F)
    (sw27_14 : (ir0_rows ≤ i3) → (¬ i1 = 0) → (¬ i1 = 1) → (¬ i1 = 2) → (¬ i1 = 3) → (¬ i1 = 4) → (¬ i1 = 5) → (¬ i1 = 6) → (¬ i1 = 7) → (¬ i1 = 8) → (¬ i1 = 9) → i1.toInt < 0 ∨ 9 < i1.toInt)
    (q139_15 : (ir0_rows ≤ i3) → (¬ i1 = 0) → (¬ i1 = 1) → (¬ i1 = 2) → (¬ i1 = 3) → (¬ i1 = 4) → (¬ i1 = 5) → (¬ i1 = 6) → (¬ i1 = 7) → (¬ i1 = 8) → (¬ i1 = 9) → Q (some (.int (-1))) n F)
    (c15_16 : (¬ ir0_rows ≤ i3) → Cal l X M_Mo_different 0 0 [.ref r0, .int i3] n F (ev_pure (.int v15) n F))
    (k4_17 : (¬ ir0_rows ≤ i3) → Ev l X M_Mo_size bc bs 4 [(0, .ref r0), (1, .int i1), (2, .int (i2 + v15)), (3, .int (i3 + 1))] [] n F (ev_mq X Q)) :
    Ev l X M_Mo_size bc bs 4 [(0, .ref r0), (1, .int i1), (2, .int i2), (3, .int i3)] [] n F (ev_mq X Q) := by
  refine ev_iload_n (pc := 4) d_Mo_size_4 rfl ?_
  refine ev_aload_n (pc := 5) d_Mo_size_5 rfl ?_
  refine ev_getfield (pc := 6) 5 d_Mo_size_6 fl_Mo_158 h_r0 rfl ?_
  refine ev_icmp_ge (pc := 9) 26 d_Mo_size_9 (by decide) (fun c9 => ?_) (fun c9 => ?_)
  · refine ev_iload_n (pc := 26) d_Mo_size_26 rfl ?_
    refine ev_swk (pc := 27) 0 0 80 d_Mo_size_27 (by decide) (by decide) rfl (by decide) (fun c27_0 => ?_) (fun c27_0 => ?_)
    · refine ev_aload_n (pc := 80) d_Mo_size_80 rfl ?_
      refine ev_invokevirtual (pc := 81) (As := []) (st := []) (Q2 := ev_pure (.int v81) n F) (bc1 := 0) (bs1 := 0) M_Mo_live rC11 d_Mo_size_81 lc_Mo_177 wd_1080 wd_s37 rfl h_r0 rfl rfl (Nat.le_of_ble_eq_true rfl) (Nat.le_of_ble_eq_true rfl) (Nat.le_of_ble_eq_true rfl) (Nat.le_refl _) (Nat.le_refl _) (c81_0 c9 c27_0) ?_
      refine ev_purek ?_
      exact ev_ireturn (pc := 84) d_Mo_size_84 rfl rfl (q84_1 c9 c27_0)
    refine ev_swk (pc := 27) 1 1 85 d_Mo_size_27 (by decide) (by decide) rfl (by decide) (fun c27_1 => ?_) (fun c27_1 => ?_)
    · refine ev_aload_n (pc := 85) d_Mo_size_85 rfl ?_
      refine ev_getfield (pc := 86) 11 d_Mo_size_86 fl_Mo_161 h_r0 rfl ?_
      exact ev_ireturn (pc := 89) d_Mo_size_89 rfl rfl (q89_2 c9 c27_0 c27_1)
    refine ev_swk (pc := 27) 2 2 90 d_Mo_size_27 (by decide) (by decide) rfl (by decide) (fun c27_2 => ?_) (fun c27_2 => ?_)
    · refine ev_aload_n (pc := 90) d_Mo_size_90 rfl ?_
      refine ev_getfield (pc := 91) 5 d_Mo_size_91 fl_Mo_158 h_r0 rfl ?_
      exact ev_ireturn (pc := 94) d_Mo_size_94 rfl rfl (q94_3 c9 c27_0 c27_1 c27_2)
    refine ev_swk (pc := 27) 3 3 95 d_Mo_size_27 (by decide) (by decide) rfl (by decide) (fun c27_3 => ?_) (fun c27_3 => ?_)
    · refine ev_bipush (pc := 95) 12 d_Mo_size_95 (by decide) ?_
      refine ev_aload_n (pc := 97) d_Mo_size_97 rfl ?_
      refine ev_invokevirtual (pc := 98) (As := []) (st := [.int 12]) (Q2 := ev_pure (.int v98) n F) (bc1 := 0) (bs1 := 0) M_Mo_idle rC11 d_Mo_size_98 lc_Mo_142 wd_1052 wd_s32 rfl h_r0 rfl rfl (Nat.le_of_ble_eq_true rfl) (Nat.le_of_ble_eq_true rfl) (Nat.le_of_ble_eq_true rfl) (Nat.le_refl _) (Nat.le_refl _) (c98_4 c9 c27_0 c27_1 c27_2 c27_3) ?_
      refine ev_purek ?_
      refine ev_isub (pc := 101) d_Mo_size_101 ?_
      exact ev_ireturn (pc := 102) d_Mo_size_102 rfl rfl (q102_5 c9 c27_0 c27_1 c27_2 c27_3)
    refine ev_swk (pc := 27) 4 4 103 d_Mo_size_27 (by decide) (by decide) rfl (by decide) (fun c27_4 => ?_) (fun c27_4 => ?_)
    · refine ev_aload_n (pc := 103) d_Mo_size_103 rfl ?_
      refine ev_getfield (pc := 104) 1 d_Mo_size_104 fl_Mo_135 h_r0 rfl ?_
      exact ev_ireturn (pc := 107) d_Mo_size_107 rfl rfl (q107_6 c9 c27_0 c27_1 c27_2 c27_3 c27_4)
    refine ev_swk (pc := 27) 5 5 108 d_Mo_size_27 (by decide) (by decide) rfl (by decide) (fun c27_5 => ?_) (fun c27_5 => ?_)
    · refine ev_aload_n (pc := 108) d_Mo_size_108 rfl ?_
      refine ev_getfield (pc := 109) 18 d_Mo_size_109 fl_Mo_149 h_r0 rfl ?_
      exact ev_ireturn (pc := 112) d_Mo_size_112 rfl rfl (q112_7 c9 c27_0 c27_1 c27_2 c27_3 c27_4 c27_5)
    refine ev_swk (pc := 27) 6 6 113 d_Mo_size_27 (by decide) (by decide) rfl (by decide) (fun c27_6 => ?_) (fun c27_6 => ?_)
    · refine ev_aload_n (pc := 113) d_Mo_size_113 rfl ?_
      refine ev_invokevirtual (pc := 114) (As := []) (st := []) (Q2 := ev_pure (.int v114) n F) (bc1 := 0) (bs1 := 0) M_Mo_lengths rC11 d_Mo_size_114 lc_Mo_213 wd_1161 wd_s49 rfl h_r0 rfl rfl (Nat.le_of_ble_eq_true rfl) (Nat.le_of_ble_eq_true rfl) (Nat.le_of_ble_eq_true rfl) (Nat.le_refl _) (Nat.le_refl _) (c114_8 c9 c27_0 c27_1 c27_2 c27_3 c27_4 c27_5 c27_6) ?_
      refine ev_purek ?_
      exact ev_ireturn (pc := 117) d_Mo_size_117 rfl rfl (q117_9 c9 c27_0 c27_1 c27_2 c27_3 c27_4 c27_5 c27_6)
    refine ev_swk (pc := 27) 7 7 118 d_Mo_size_27 (by decide) (by decide) rfl (by decide) (fun c27_7 => ?_) (fun c27_7 => ?_)
    · refine ev_aload_n (pc := 118) d_Mo_size_118 rfl ?_
      refine ev_getfield (pc := 119) 14 d_Mo_size_119 fl_Mo_155 h_r0 rfl ?_
      exact ev_ireturn (pc := 122) d_Mo_size_122 rfl rfl (q122_10 c9 c27_0 c27_1 c27_2 c27_3 c27_4 c27_5 c27_6 c27_7)
    refine ev_swk (pc := 27) 8 8 123 d_Mo_size_27 (by decide) (by decide) rfl (by decide) (fun c27_8 => ?_) (fun c27_8 => ?_)
    · refine ev_aload_n (pc := 123) d_Mo_size_123 rfl ?_
      refine ev_getfield (pc := 124) 12 d_Mo_size_124 fl_Mo_131 h_r0 rfl ?_
      refine ev_if_eq (pc := 127) 134 d_Mo_size_127 (by decide) (fun c127 => ?_) (fun c127 => ?_)
      · refine ev_iconst (pc := 134) 0 d_Mo_size_134 (by decide) ?_
        exact ev_ireturn (pc := 135) d_Mo_size_135 rfl rfl (q135_11 c9 c27_0 c27_1 c27_2 c27_3 c27_4 c27_5 c27_6 c27_7 c27_8 c127)
      · refine ev_iconst (pc := 130) 1 d_Mo_size_130 (by decide) ?_
        refine ev_goto (pc := 131) 135 d_Mo_size_131 (by decide) ?_
        exact ev_ireturn (pc := 135) d_Mo_size_135 rfl rfl (q135_12 c9 c27_0 c27_1 c27_2 c27_3 c27_4 c27_5 c27_6 c27_7 c27_8 c127)
    refine ev_swk (pc := 27) 9 9 136 d_Mo_size_27 (by decide) (by decide) rfl (by decide) (fun c27_9 => ?_) (fun c27_9 => ?_)
    · refine ev_iload_n (pc := 136) d_Mo_size_136 rfl ?_
      exact ev_ireturn (pc := 137) d_Mo_size_137 rfl rfl (q137_13 c9 c27_0 c27_1 c27_2 c27_3 c27_4 c27_5 c27_6 c27_7 c27_8 c27_9)
    refine ev_tableOut (pc := 27) 138 d_Mo_size_27 (sw27_14 c9 c27_0 c27_1 c27_2 c27_3 c27_4 c27_5 c27_6 c27_7 c27_8 c27_9) (by decide) ?_
    refine ev_iconst (pc := 138) (-1) d_Mo_size_138 (by decide) ?_
    exact ev_ireturn (pc := 139) d_Mo_size_139 rfl rfl (q139_15 c9 c27_0 c27_1 c27_2 c27_3 c27_4 c27_5 c27_6 c27_7 c27_8 c27_9)
  · refine ev_iload_n (pc := 12) d_Mo_size_12 rfl ?_
    refine ev_aload_n (pc := 13) d_Mo_size_13 rfl ?_
    refine ev_iload_n (pc := 14) d_Mo_size_14 rfl ?_
    refine ev_invokevirtual (pc := 15) (As := [.int i3]) (st := [.int i2]) (Q2 := ev_pure (.int v15) n F) (bc1 := 0) (bs1 := 0) M_Mo_different rC11 d_Mo_size_15 lc_Mo_256 wd_1200 wd_s53 rfl h_r0 rfl rfl (Nat.le_of_ble_eq_true rfl) (Nat.le_of_ble_eq_true rfl) (Nat.le_of_ble_eq_true rfl) (Nat.le_refl _) (Nat.le_refl _) (c15_16 c9) ?_
    refine ev_purek ?_
    refine ev_iadd (pc := 18) d_Mo_size_18 ?_
    refine ev_istore_n (pc := 19) d_Mo_size_19 (Nat.le_of_ble_eq_true rfl) [1, 2, 0, 3] rfl ?_
    refine ev_iinc (pc := 20) 3 1 d_Mo_size_20 rfl (by decide) (Nat.le_of_ble_eq_true rfl) [1, 2, 3, 0] rfl ?_
    refine ev_goto (pc := 23) 4 d_Mo_size_23 (by decide) ?_
    exact (k4_17 c9)
set_option maxRecDepth 100000 in
set_option maxHeartbeats 4000000 in
theorem s_Mo_different_0 {l : Launch} {X : ev_X} {bc bs n : Nat} {F : ev_H} {Q : Option Value → Nat → ev_H → Prop} {r0 : Nat} {i1 : Int32} 
    (k4_0 : Ev l X M_Mo_different bc bs 4 [(0, .ref r0), (1, .int i1), (2, .int 0), (3, .int 0)] [] n F (ev_mq X Q)) :
    Ev l X M_Mo_different bc bs 0 [(0, .ref r0), (1, .int i1)] [] n F (ev_mq X Q) := by
  refine ev_iconst (pc := 0) 0 d_Mo_different_0 (by decide) ?_
  refine ev_istore_n (pc := 1) d_Mo_different_1 (Nat.le_of_ble_eq_true rfl) [1, 2, 0] rfl ?_
  refine ev_iconst (pc := 2) 0 d_Mo_different_2 (by decide) ?_
  refine ev_istore_n (pc := 3) d_Mo_different_3 (Nat.le_of_ble_eq_true rfl) [1, 2, 3, 0] rfl ?_
  exact k4_0

set_option maxRecDepth 100000 in
set_option maxHeartbeats 4000000 in
theorem s_Mo_different_4 {l : Launch} {X : ev_X} {bc bs n : Nat} {F : ev_H} {Q : Option Value → Nat → ev_H → Prop} {r0 : Nat} {i1 : Int32} {i2 : Int32} {i3 : Int32} {ir0_drafted : Int32} {ir0_rows : Int32} {ir0_segments : Int32} {ir0_stopped : Int32} {ir0_fuse : Int32} {ir0_written : Int32} {ir0_tokens : Int32} {ir0_height : Int32} {ir0_results : Int32} {ir0_weighed : Int32} {r0p8_f : Nat → Int32} {r0p9_f : Nat → Int64} (h_r0 : F r0 = some (moO r0 ir0_drafted ir0_rows ir0_segments ir0_stopped ir0_fuse ir0_written ir0_tokens ir0_height ir0_results ir0_weighed)) (h_r0p8 : F (r0 + 8) = some (.inl (0, 80, .inl r0p8_f))) (h_r0p9 : F (r0 + 9) = some (.inl (1, 960, .inr (.inl r0p9_f))))
    (in10_0 : vp_in i1 80)
    (q106_1 : ((r0p8_f i1.toNatClampNeg) ≤ i3) → Q (some (.int i2)) n F)
    (in24_2 : (¬ (r0p8_f i1.toNatClampNeg) ≤ i3) → vp_in ((12 * i1) + i3) 960)
    (k44_3 : (¬ (r0p8_f i1.toNatClampNeg) ≤ i3) → ((lg_cmp (r0p9_f ((12 * i1) + i3).toNatClampNeg) 0) = 0) → Ev l X M_Mo_different bc bs 44 [(0, .ref r0), (1, .int i1), (2, .int i2), (3, .int i3), (4, .long (r0p9_f ((12 * i1) + i3).toNatClampNeg)), (6, .int 0), (7, .int 0)] [] n F (ev_mq X Q))
    (k44_4 : (¬ (r0p8_f i1.toNatClampNeg) ≤ i3) → (¬ (lg_cmp (r0p9_f ((12 * i1) + i3).toNatClampNeg) 0) = 0) → Ev l X M_Mo_different bc bs 44 [(0, .ref r0), (1, .int i1), (2, .int i2), (3, .int i3), (4, .long (r0p9_f ((12 * i1) + i3).toNatClampNeg)), (6, .int 1), (7, .int 0)] [] n F (ev_mq X Q)) :
    Ev l X M_Mo_different bc bs 4 [(0, .ref r0), (1, .int i1), (2, .int i2), (3, .int i3)] [] n F (ev_mq X Q) := by
  refine ev_iload_n (pc := 4) d_Mo_different_4 rfl ?_
  refine ev_aload_n (pc := 5) d_Mo_different_5 rfl ?_
  refine ev_getfield (pc := 6) 9 d_Mo_different_6 fl_Mo_33 h_r0 rfl ?_
  refine ev_iload_n (pc := 9) d_Mo_different_9 rfl ?_
  refine ev_iaload (pc := 10) d_Mo_different_10 h_r0p8 rfl in10_0 ?_
  refine ev_icmp_ge (pc := 11) 105 d_Mo_different_11 (by decide) (fun c11 => ?_) (fun c11 => ?_)
  · refine ev_iload_n (pc := 105) d_Mo_different_105 rfl ?_
    exact ev_ireturn (pc := 106) d_Mo_different_106 rfl rfl (q106_1 c11)
  · refine ev_aload_n (pc := 14) d_Mo_different_14 rfl ?_
    refine ev_getfield (pc := 15) 10 d_Mo_different_15 fl_Mo_36 h_r0 rfl ?_
    refine ev_bipush (pc := 18) 12 d_Mo_different_18 (by decide) ?_
    refine ev_iload_n (pc := 20) d_Mo_different_20 rfl ?_
    refine ev_imul (pc := 21) d_Mo_different_21 ?_
    refine ev_iload_n (pc := 22) d_Mo_different_22 rfl ?_
    refine ev_iadd (pc := 23) d_Mo_different_23 ?_
    refine ev_laload (pc := 24) d_Mo_different_24 h_r0p9 rfl (in24_2 c11) ?_
    refine ev_lstore (pc := 25) d_Mo_different_25 (Nat.le_of_ble_eq_true rfl) [1, 2, 3, 4, 0] rfl ?_
    refine ev_lload (pc := 27) d_Mo_different_27 rfl ?_
    refine ev_lconst (pc := 29) 0 d_Mo_different_29 (by decide) ?_
    refine ev_lcmp (pc := 30) d_Mo_different_30 ?_
    refine ev_if_eq (pc := 31) 38 d_Mo_different_31 (by decide) (fun c31 => ?_) (fun c31 => ?_)
    · refine ev_iconst (pc := 38) 0 d_Mo_different_38 (by decide) ?_
      refine ev_istore (pc := 39) d_Mo_different_39 (Nat.le_of_ble_eq_true rfl) [1, 2, 3, 4, 5, 0] rfl ?_
      refine ev_iconst (pc := 41) 0 d_Mo_different_41 (by decide) ?_
      refine ev_istore (pc := 42) d_Mo_different_42 (Nat.le_of_ble_eq_true rfl) [1, 2, 3, 4, 5, 6, 0] rfl ?_
      exact (k44_3 c11 c31)
    · refine ev_iconst (pc := 34) 1 d_Mo_different_34 (by decide) ?_
      refine ev_goto (pc := 35) 39 d_Mo_different_35 (by decide) ?_
      refine ev_istore (pc := 39) d_Mo_different_39 (Nat.le_of_ble_eq_true rfl) [1, 2, 3, 4, 5, 0] rfl ?_
      refine ev_iconst (pc := 41) 0 d_Mo_different_41 (by decide) ?_
      refine ev_istore (pc := 42) d_Mo_different_42 (Nat.le_of_ble_eq_true rfl) [1, 2, 3, 4, 5, 6, 0] rfl ?_
      exact (k44_4 c11 c31)

set_option maxRecDepth 100000 in
set_option maxHeartbeats 4000000 in
theorem s_Mo_different_44 {l : Launch} {X : ev_X} {bc bs n : Nat} {F : ev_H} {Q : Option Value → Nat → ev_H → Prop} {r0 : Nat} {i1 : Int32} {i2 : Int32} {i3 : Int32} {j4 : Int64} {i6 : Int32} {i7 : Int32} {ir0_drafted : Int32} {ir0_rows : Int32} {ir0_segments : Int32} {ir0_stopped : Int32} {ir0_fuse : Int32} {ir0_written : Int32} {ir0_tokens : Int32} {ir0_height : Int32} {ir0_results : Int32} {ir0_weighed : Int32} {r0p9_f : Nat → Int64} (h_r0 : F r0 = some (moO r0 ir0_drafted ir0_rows ir0_segments ir0_stopped ir0_fuse ir0_written ir0_tokens ir0_height ir0_results ir0_weighed)) (h_r0p9 : F (r0 + 9) = some (.inl (1, 960, .inr (.inl r0p9_f))))
    (k4_0 : (i3 ≤ i7) → (i6 = 0) → Ev l X M_Mo_different bc bs 4 [(0, .ref r0), (1, .int i1), (2, .int i2), (3, .int (i3 + 1))] [] n F (ev_mq X Q))
    (k4_1 : (i3 ≤ i7) → (¬ i6 = 0) → Ev l X M_Mo_different bc bs 4 [(0, .ref r0), (1, .int i1), (2, .int (i2 + 1)), (3, .int (i3 + 1))] [] n F (ev_mq X Q))
    (k44_2 : (¬ i3 ≤ i7) → (i6 = 0) → Ev l X M_Mo_different bc bs 44 [(0, .ref r0), (1, .int i1), (2, .int i2), (3, .int i3), (4, .long j4), (6, .int 0), (7, .int (i7 + 1))] [] n F (ev_mq X Q))
    (in66_3 : (¬ i3 ≤ i7) → (¬ i6 = 0) → vp_in ((12 * i1) + i7) 960)
    (k44_4 : (¬ i3 ≤ i7) → (¬ i6 = 0) → ((lg_cmp (r0p9_f ((12 * i1) + i7).toNatClampNeg) j4) = 0) → Ev l X M_Mo_different bc bs 44 [(0, .ref r0), (1, .int i1), (2, .int i2), (3, .int i3), (4, .long j4), (6, .int 0), (7, .int (i7 + 1))] [] n F (ev_mq X Q))
    (k44_5 : (¬ i3 ≤ i7) → (¬ i6 = 0) → (¬ (lg_cmp (r0p9_f ((12 * i1) + i7).toNatClampNeg) j4) = 0) → Ev l X M_Mo_different bc bs 44 [(0, .ref r0), (1, .int i1), (2, .int i2), (3, .int i3), (4, .long j4), (6, .int 1), (7, .int (i7 + 1))] [] n F (ev_mq X Q)) :
    Ev l X M_Mo_different bc bs 44 [(0, .ref r0), (1, .int i1), (2, .int i2), (3, .int i3), (4, .long j4), (6, .int i6), (7, .int i7)] [] n F (ev_mq X Q) := by
  refine ev_iload (pc := 44) d_Mo_different_44 rfl ?_
  refine ev_iload_n (pc := 46) d_Mo_different_46 rfl ?_
  refine ev_icmp_ge (pc := 47) 86 d_Mo_different_47 (by decide) (fun c47 => ?_) (fun c47 => ?_)
  · refine ev_iload (pc := 86) d_Mo_different_86 rfl ?_
    refine ev_if_eq (pc := 88) 97 d_Mo_different_88 (by decide) (fun c88 => ?_) (fun c88 => ?_)
    · refine ev_iload_n (pc := 97) d_Mo_different_97 rfl ?_
      refine ev_istore_n (pc := 98) d_Mo_different_98 (Nat.le_of_ble_eq_true rfl) [1, 2, 0, 3, 4, 5, 6] rfl ?_
      refine ev_iinc (pc := 99) 3 1 d_Mo_different_99 rfl (by decide) (Nat.le_of_ble_eq_true rfl) [1, 2, 3, 0, 4, 5, 6] rfl ?_
      refine ev_goto (pc := 102) 4 d_Mo_different_102 (by decide) ?_
      exact Ev.sub [0, 1, 2, 3] rfl (k4_0 c47 c88)
    · refine ev_iload_n (pc := 91) d_Mo_different_91 rfl ?_
      refine ev_iconst (pc := 92) 1 d_Mo_different_92 (by decide) ?_
      refine ev_iadd (pc := 93) d_Mo_different_93 ?_
      refine ev_goto (pc := 94) 98 d_Mo_different_94 (by decide) ?_
      refine ev_istore_n (pc := 98) d_Mo_different_98 (Nat.le_of_ble_eq_true rfl) [1, 2, 0, 3, 4, 5, 6] rfl ?_
      refine ev_iinc (pc := 99) 3 1 d_Mo_different_99 rfl (by decide) (Nat.le_of_ble_eq_true rfl) [1, 2, 3, 0, 4, 5, 6] rfl ?_
      refine ev_goto (pc := 102) 4 d_Mo_different_102 (by decide) ?_
      exact Ev.sub [0, 1, 2, 3] rfl (k4_1 c47 c88)
  · refine ev_iload (pc := 50) d_Mo_different_50 rfl ?_
    refine ev_if_eq (pc := 52) 77 d_Mo_different_52 (by decide) (fun c52 => ?_) (fun c52 => ?_)
    · refine ev_iconst (pc := 77) 0 d_Mo_different_77 (by decide) ?_
      refine ev_istore (pc := 78) d_Mo_different_78 (Nat.le_of_ble_eq_true rfl) [1, 2, 3, 4, 5, 0, 6] rfl ?_
      refine ev_iinc (pc := 80) 6 1 d_Mo_different_80 rfl (by decide) (Nat.le_of_ble_eq_true rfl) [1, 2, 3, 4, 5, 6, 0] rfl ?_
      refine ev_goto (pc := 83) 44 d_Mo_different_83 (by decide) ?_
      exact (k44_2 c47 c52)
    · refine ev_aload_n (pc := 55) d_Mo_different_55 rfl ?_
      refine ev_getfield (pc := 56) 10 d_Mo_different_56 fl_Mo_36 h_r0 rfl ?_
      refine ev_bipush (pc := 59) 12 d_Mo_different_59 (by decide) ?_
      refine ev_iload_n (pc := 61) d_Mo_different_61 rfl ?_
      refine ev_imul (pc := 62) d_Mo_different_62 ?_
      refine ev_iload (pc := 63) d_Mo_different_63 rfl ?_
      refine ev_iadd (pc := 65) d_Mo_different_65 ?_
      refine ev_laload (pc := 66) d_Mo_different_66 h_r0p9 rfl (in66_3 c47 c52) ?_
      refine ev_lload (pc := 67) d_Mo_different_67 rfl ?_
      refine ev_lcmp (pc := 69) d_Mo_different_69 ?_
      refine ev_if_eq (pc := 70) 77 d_Mo_different_70 (by decide) (fun c70 => ?_) (fun c70 => ?_)
      · refine ev_iconst (pc := 77) 0 d_Mo_different_77 (by decide) ?_
        refine ev_istore (pc := 78) d_Mo_different_78 (Nat.le_of_ble_eq_true rfl) [1, 2, 3, 4, 5, 0, 6] rfl ?_
        refine ev_iinc (pc := 80) 6 1 d_Mo_different_80 rfl (by decide) (Nat.le_of_ble_eq_true rfl) [1, 2, 3, 4, 5, 6, 0] rfl ?_
        refine ev_goto (pc := 83) 44 d_Mo_different_83 (by decide) ?_
        exact (k44_4 c47 c52 c70)
      · refine ev_iconst (pc := 73) 1 d_Mo_different_73 (by decide) ?_
        refine ev_goto (pc := 74) 78 d_Mo_different_74 (by decide) ?_
        refine ev_istore (pc := 78) d_Mo_different_78 (Nat.le_of_ble_eq_true rfl) [1, 2, 3, 4, 5, 0, 6] rfl ?_
        refine ev_iinc (pc := 80) 6 1 d_Mo_different_80 rfl (by decide) (Nat.le_of_ble_eq_true rfl) [1, 2, 3, 4, 5, 6, 0] rfl ?_
        refine ev_goto (pc := 83) 44 d_Mo_different_83 (by decide) ?_
        exact (k44_5 c47 c52 c70)
