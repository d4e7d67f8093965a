set_option maxRecDepth 100000 in
set_option maxHeartbeats 4000000 in
theorem s_Ma_init_0 {l : Launch} {X : ev_X} {bc bs n : Nat} {F : ev_H} {Q : Option Value → Nat → ev_H → Prop} {r0 : Nat} {ir0_blocksWritten : Int32} {ir0_blocksToStop : Int32} {ir0_stopped : Int32} (h_r0 : F r0 = some (.inr (4, [.int ir0_blocksWritten, .int ir0_blocksToStop, .int ir0_stopped])))
    (q19_0 : Q none n (ev_up (ev_up (ev_up F r0 (.inr (4, [.int 0, .int ir0_blocksToStop, .int ir0_stopped]))) r0 (.inr (4, [.int 0, .int 0, .int ir0_stopped]))) r0 (.inr (4, [.int 0, .int 0, .int 0])))) :
    Ev l X M_Ma_init bc bs 0 [(0, .ref r0)] [] n F (ev_mq X Q) := by
  refine ev_aload_n (pc := 0) d_Ma_init_0 rfl ?_
  refine ev_objInit (pc := 1) d_Ma_init_1 wd_119 wd_33 wd_34 (Nat.le_of_ble_eq_true rfl) (Nat.le_of_ble_eq_true rfl) ?_
  refine ev_aload_n (pc := 4) d_Ma_init_4 rfl ?_
  refine ev_iconst (pc := 5) 0 d_Ma_init_5 (by decide) ?_
  refine ev_putfield (pc := 6) 0 _ d_Ma_init_6 fl_Ma_7 h_r0 pf_4_blocksWritten rfl rfl (Nat.le_of_ble_eq_true rfl) (fun F1_ hF1_ => ?_)
  have g2_ : F1_ r0 = some (.inr (4, [.int 0, .int ir0_blocksToStop, .int ir0_stopped])) := by rw [← hF1_]; exact ev_up_s
  refine ev_aload_n (pc := 9) d_Ma_init_9 rfl ?_
  refine ev_iconst (pc := 10) 0 d_Ma_init_10 (by decide) ?_
  refine ev_putfield (pc := 11) 1 _ d_Ma_init_11 fl_Ma_13 g2_ pf_4_blocksToStop rfl rfl (Nat.le_of_ble_eq_true rfl) (fun F3_ hF3_ => ?_)
  have g4_ : F3_ r0 = some (.inr (4, [.int 0, .int 0, .int ir0_stopped])) := by rw [← hF3_]; exact ev_up_s
  refine ev_aload_n (pc := 14) d_Ma_init_14 rfl ?_
  refine ev_iconst (pc := 15) 0 d_Ma_init_15 (by decide) ?_
  refine ev_putfield (pc := 16) 2 _ d_Ma_init_16 fl_Ma_16 g4_ pf_4_stopped rfl rfl (Nat.le_of_ble_eq_true rfl) (fun F5_ hF5_ => ?_)
  have g6_ : F5_ r0 = some (.inr (4, [.int 0, .int 0, .int 0])) := by rw [← hF5_]; exact ev_up_s
  exact ev_return (pc := 19) d_Ma_init_19 rfl (by subst hF1_ hF3_ hF5_; exact q19_0)
set_option maxRecDepth 100000 in
set_option maxHeartbeats 4000000 in
theorem s_Re_init_0 {l : Launch} {X : ev_X} {bc bs n : Nat} {F : ev_H} {Q : Option Value → Nat → ev_H → Prop} {r0 : Nat} {rc7 : Nat} {rs7 : Nat} {ir0_count : Int32} {rc15 : Nat} {rs15 : Nat} (hb_rc7 : rc7 + 1 ≤ bc) (hs_rs7 : rs7 + 12 ≤ bs) (h_r0 : F r0 = some (.inr (7, [.null, .null, .int ir0_count]))) (hb_rc15 : rc15 + 1 ≤ rc7) (hs_rs15 : rs15 + 12 ≤ rs7)
    (q25_0 : Q none (n + 2) (ev_up (ev_up (ev_up (ev_up (ev_up F n (.inl (0, 12, .inl (fun _ => 0)))) r0 (.inr (7, [.ref n, .null, .int ir0_count]))) (n + 1) (.inl (0, 12, .inl (fun _ => 0)))) r0 (.inr (7, [.ref n, .ref (n + 1), .int ir0_count]))) r0 (.inr (7, [.ref n, .ref (n + 1), .int 0])))) :
    Ev l X M_Re_init bc bs 0 [(0, .ref r0)] [] n F (ev_mq X Q) := by
  refine ev_aload_n (pc := 0) d_Re_init_0 rfl ?_
  refine ev_objInit (pc := 1) d_Re_init_1 wd_181 wd_33 wd_34 (Nat.le_of_ble_eq_true rfl) (Nat.le_of_ble_eq_true rfl) ?_
  refine ev_aload_n (pc := 4) d_Re_init_4 rfl ?_
  refine ev_bipush (pc := 5) 12 d_Re_init_5 (by decide) ?_
  refine ev_fresh fun fr7 => ?_
  refine ev_newarray (pc := 7) 0 12 (12, .inl (fun _ => 0)) d_Re_init_7 wd_153 rfl rfl (fun _ _ h => h) (fun _ => rfl) (by decide) (by decide) (by decide) (bc2 := rc7) (bs2 := rs7) hb_rc7 hs_rs7 (fun F1_ hF1_ => ?_)
  have g2_ : F1_ n = some (.inl (0, 12, .inl (fun _ => 0))) := by rw [← hF1_]; exact ev_up_s
  have g3_ : F1_ r0 = some (.inr (7, [.null, .null, .int ir0_count])) := by rw [← hF1_]; exact ev_up_k (ev_nf h_r0 (fr7 _ (Nat.le_refl _))) h_r0
  refine ev_putfield (pc := 9) 0 _ d_Re_init_9 fl_Re_9 g3_ (ev_pfn (r0 := rC7) (ty := (.array .int)) rfl (Or.inr ⟨rfl, rfl, rfl⟩) (by decide +kernel)) rfl rfl (Nat.le_of_ble_eq_true rfl) (fun F4_ hF4_ => ?_)
  have g5_ : F4_ n = some (.inl (0, 12, .inl (fun _ => 0))) := by rw [← hF4_]; exact ev_up_k (ev_ne_ao g2_ g3_) g2_
  have g6_ : F4_ r0 = some (.inr (7, [.ref n, .null, .int ir0_count])) := by rw [← hF4_]; exact ev_up_s
  refine ev_aload_n (pc := 12) d_Re_init_12 rfl ?_
  refine ev_bipush (pc := 13) 12 d_Re_init_13 (by decide) ?_
  refine ev_fresh fun fr15 => ?_
  refine ev_newarray (pc := 15) 0 12 (12, .inl (fun _ => 0)) d_Re_init_15 wd_153 rfl rfl (fun _ _ h => h) (fun _ => rfl) (by decide) (by decide) (by decide) (bc2 := rc15) (bs2 := rs15) hb_rc15 hs_rs15 (fun F7_ hF7_ => ?_)
  have g8_ : F7_ n = some (.inl (0, 12, .inl (fun _ => 0))) := by rw [← hF7_]; exact ev_up_k (ev_nf g5_ (fr15 _ (Nat.le_refl _))) g5_
  have g9_ : F7_ r0 = some (.inr (7, [.ref n, .null, .int ir0_count])) := by rw [← hF7_]; exact ev_up_k (ev_nf g6_ (fr15 _ (Nat.le_refl _))) g6_
  have g10_ : F7_ (n + 1) = some (.inl (0, 12, .inl (fun _ => 0))) := by rw [← hF7_]; exact ev_up_s
  refine ev_putfield (pc := 17) 1 _ d_Re_init_17 fl_Re_15 g9_ (ev_pfn (r0 := rC7) (ty := (.array .int)) rfl (Or.inr ⟨rfl, rfl, rfl⟩) (by decide +kernel)) rfl rfl (Nat.le_of_ble_eq_true rfl) (fun F11_ hF11_ => ?_)
  have g12_ : F11_ n = some (.inl (0, 12, .inl (fun _ => 0))) := by rw [← hF11_]; exact ev_up_k (ev_ne_ao g8_ g9_) g8_
  have g13_ : F11_ (n + 1) = some (.inl (0, 12, .inl (fun _ => 0))) := by rw [← hF11_]; exact ev_up_k (ev_ne_ao g10_ g9_) g10_
  have g14_ : F11_ r0 = some (.inr (7, [.ref n, .ref (n + 1), .int ir0_count])) := by rw [← hF11_]; exact ev_up_s
  refine ev_aload_n (pc := 20) d_Re_init_20 rfl ?_
  refine ev_iconst (pc := 21) 0 d_Re_init_21 (by decide) ?_
  refine ev_putfield (pc := 22) 2 _ d_Re_init_22 fl_Re_18 g14_ pf_7_count rfl rfl (Nat.le_of_ble_eq_true rfl) (fun F15_ hF15_ => ?_)
  have g16_ : F15_ n = some (.inl (0, 12, .inl (fun _ => 0))) := by rw [← hF15_]; exact ev_up_k (ev_ne_ao g12_ g14_) g12_
  have g17_ : F15_ (n + 1) = some (.inl (0, 12, .inl (fun _ => 0))) := by rw [← hF15_]; exact ev_up_k (ev_ne_ao g13_ g14_) g13_
  have g18_ : F15_ r0 = some (.inr (7, [.ref n, .ref (n + 1), .int 0])) := by rw [← hF15_]; exact ev_up_s
  exact ev_return (pc := 25) d_Re_init_25 rfl (by subst hF1_ hF4_ hF7_ hF11_ hF15_; exact q25_0)
set_option maxRecDepth 100000 in
set_option maxHeartbeats 4000000 in
theorem s_D_init_0 {l : Launch} {X : ev_X} {bc bs n : Nat} {F : ev_H} {Q : Option Value → Nat → ev_H → Prop} {r0 : Nat} {i1 : Int32} {r2 : Nat} {ir0_id : Int32} (h_r0 : F r0 = some (.inr (8, [.int ir0_id, .null])))
    (q14_0 : Q none n (ev_up (ev_up F r0 (.inr (8, [.int i1, .null]))) r0 (.inr (8, [.int i1, .ref r2])))) :
    Ev l X M_D_init bc bs 0 [(0, .ref r0), (1, .int i1), (2, .ref r2)] [] n F (ev_mq X Q) := by
  refine ev_aload_n (pc := 0) d_D_init_0 rfl ?_
  refine ev_objInit (pc := 1) d_D_init_1 wd_447 wd_33 wd_34 (Nat.le_of_ble_eq_true rfl) (Nat.le_of_ble_eq_true rfl) ?_
  refine ev_aload_n (pc := 4) d_D_init_4 rfl ?_
  refine ev_iload_n (pc := 5) d_D_init_5 rfl ?_
  refine ev_putfield (pc := 6) 0 _ d_D_init_6 fl_D_9 h_r0 (ev_pfn (r0 := rC8) (ty := .int) rfl (Or.inr ⟨rfl, rfl, rfl⟩) (by decide +kernel)) rfl rfl (Nat.le_of_ble_eq_true rfl) (fun F1_ hF1_ => ?_)
  have g2_ : F1_ r0 = some (.inr (8, [.int i1, .null])) := by rw [← hF1_]; exact ev_up_s
  refine ev_aload_n (pc := 9) d_D_init_9 rfl ?_
  refine ev_aload_n (pc := 10) d_D_init_10 rfl ?_
  refine ev_putfield (pc := 11) 1 _ d_D_init_11 fl_D_15 g2_ (ev_pfn (r0 := rC8) (ty := (.array .long)) rfl (Or.inr ⟨rfl, rfl, rfl⟩) (by decide +kernel)) rfl rfl (Nat.le_of_ble_eq_true rfl) (fun F3_ hF3_ => ?_)
  have g4_ : F3_ r0 = some (.inr (8, [.int i1, .ref r2])) := by rw [← hF3_]; exact ev_up_s
  exact ev_return (pc := 14) d_D_init_14 rfl (by subst hF1_ hF3_; exact q14_0)
set_option maxRecDepth 100000 in
set_option maxHeartbeats 4000000 in
theorem s_Ma_writeBlocks_0 {l : Launch} {X : ev_X} {bc bs n : Nat} {F : ev_H} {Q : Option Value → Nat → ev_H → Prop} {r0 : Nat} {i1 : Int32} 
    (k2_0 : Ev l X M_Ma_writeBlocks bc bs 2 [(0, .ref r0), (1, .int i1), (2, .int 0)] [] n F (ev_mq X Q)) :
    Ev l X M_Ma_writeBlocks bc bs 0 [(0, .ref r0), (1, .int i1)] [] n F (ev_mq X Q) := by
  refine ev_iconst (pc := 0) 0 d_Ma_writeBlocks_0 (by decide) ?_
  refine ev_istore_n (pc := 1) d_Ma_writeBlocks_1 (Nat.le_of_ble_eq_true rfl) [1, 2, 0] rfl ?_
  exact k2_0

set_option maxRecDepth 100000 in
set_option maxHeartbeats 4000000 in
theorem s_Ma_writeBlocks_2 {l : Launch} {X : ev_X} {bc bs n : Nat} {F : ev_H} {Q : Option Value → Nat → ev_H → Prop} {r0 : Nat} {i1 : Int32} {i2 : Int32} {ir0_blocksWritten : Int32} {ir0_blocksToStop : Int32} {ir0_stopped : Int32} {Q17 : Option Value → Nat → ev_H → Prop} {bc17 : Nat} {bs17 : Nat} {rc17 : Nat} {rs17 : Nat} (h_r0 : F r0 = some (.inr (4, [.int ir0_blocksWritten, .int ir0_blocksToStop, .int ir0_stopped]))) (hb_rc17 : rc17 + bc17 ≤ bc) (hs_rs17 : rs17 + bs17 ≤ bs)
    (q27_0 : (i1 ≤ i2) → Q (some (.int 1)) n F)
    (c17_1 : (¬ i1 ≤ i2) → (ir0_stopped = 0) → Cal l X M_Ma_writeBlock bc17 bs17 [.ref r0] n F Q17)
    (k20_2 : (¬ i1 ≤ i2) → (ir0_stopped = 0) → ∀ v2 n2 F2, Q17 v2 n2 F2 → Ev l X M_Ma_writeBlocks rc17 rs17 20 [(0, .ref r0), (1, .int i1), (2, .int i2)] (v2.toList ++ []) n2 F2 (ev_mq X Q))
    (q15_3 : (¬ i1 ≤ i2) → (¬ ir0_stopped = 0) → Q (some (.int 0)) n F) :
    Ev l X M_Ma_writeBlocks bc bs 2 [(0, .ref r0), (1, .int i1), (2, .int i2)] [] n F (ev_mq X Q) := by
  refine ev_iload_n (pc := 2) d_Ma_writeBlocks_2 rfl ?_
  refine ev_iload_n (pc := 3) d_Ma_writeBlocks_3 rfl ?_
  refine ev_icmp_ge (pc := 4) 26 d_Ma_writeBlocks_4 (by decide) (fun c4 => ?_) (fun c4 => ?_)
  · refine ev_iconst (pc := 26) 1 d_Ma_writeBlocks_26 (by decide) ?_
    exact ev_ireturn (pc := 27) d_Ma_writeBlocks_27 rfl rfl (q27_0 c4)
  · refine ev_aload_n (pc := 7) d_Ma_writeBlocks_7 rfl ?_
    refine ev_getfield (pc := 8) 2 d_Ma_writeBlocks_8 fl_Ma_16 h_r0 rfl ?_
    refine ev_if_eq (pc := 11) 16 d_Ma_writeBlocks_11 (by decide) (fun c11 => ?_) (fun c11 => ?_)
    · refine ev_aload_n (pc := 16) d_Ma_writeBlocks_16 rfl ?_
      exact ev_invokevirtual (pc := 17) (As := []) (st := []) (Q2 := Q17) M_Ma_writeBlock rC4 d_Ma_writeBlocks_17 lc_Ma_20 wd_589 wd_s17 rfl h_r0 rfl rfl (Nat.le_of_ble_eq_true rfl) (Nat.le_of_ble_eq_true rfl) (Nat.le_of_ble_eq_true rfl) hb_rc17 hs_rs17 (c17_1 c4 c11) (k20_2 c4 c11)
    · refine ev_iconst (pc := 14) 0 d_Ma_writeBlocks_14 (by decide) ?_
      exact ev_ireturn (pc := 15) d_Ma_writeBlocks_15 rfl rfl (q15_3 c4 c11)

set_option maxRecDepth 100000 in
set_option maxHeartbeats 4000000 in
theorem s_Ma_writeBlocks_20 {l : Launch} {X : ev_X} {bc bs n : Nat} {F : ev_H} {Q : Option Value → Nat → ev_H → Prop} {r0 : Nat} {i1 : Int32} {i2 : Int32} 
    (k2_0 : Ev l X M_Ma_writeBlocks bc bs 2 [(0, .ref r0), (1, .int i1), (2, .int (i2 + 1))] [] n F (ev_mq X Q)) :
    Ev l X M_Ma_writeBlocks bc bs 20 [(0, .ref r0), (1, .int i1), (2, .int i2)] [] n F (ev_mq X Q) := by
  refine ev_iinc (pc := 20) 2 1 d_Ma_writeBlocks_20 rfl (by decide) (Nat.le_of_ble_eq_true rfl) [1, 2, 0] rfl ?_
  refine ev_goto (pc := 23) 2 d_Ma_writeBlocks_23 (by decide) ?_
  exact k2_0
set_option maxRecDepth 100000 in
set_option maxHeartbeats 4000000 in
theorem s_Ma_writeBlock_0 {l : Launch} {X : ev_X} {bc bs n : Nat} {F : ev_H} {Q : Option Value → Nat → ev_H → Prop} {r0 : Nat} {ir0_blocksWritten : Int32} {ir0_blocksToStop : Int32} {ir0_stopped : Int32} (h_r0 : F r0 = some (.inr (4, [.int ir0_blocksWritten, .int ir0_blocksToStop, .int ir0_stopped])))
    (q43_0 : (ir0_blocksToStop ≤ 0) → Q none n (ev_up F r0 (.inr (4, [.int (ir0_blocksWritten + 1), .int ir0_blocksToStop, .int ir0_stopped]))))
    (q43_1 : (¬ ir0_blocksToStop ≤ 0) → (¬ (ir0_blocksToStop - 1) = 0) → Q none n (ev_up (ev_up (ev_up F r0 (.inr (4, [.int (ir0_blocksWritten + 1), .int ir0_blocksToStop, .int ir0_stopped]))) r0 (.inr (4, [.int (ir0_blocksWritten + 1), .int (ir0_blocksToStop - 1), .int ir0_stopped]))) r0 (.inr (4, [.int (ir0_blocksWritten + 1), .int (ir0_blocksToStop - 1), .int 0]))))
    (q43_2 : (¬ ir0_blocksToStop ≤ 0) → ((ir0_blocksToStop - 1) = 0) → Q none n (ev_up (ev_up (ev_up F r0 (.inr (4, [.int (ir0_blocksWritten + 1), .int ir0_blocksToStop, .int ir0_stopped]))) r0 (.inr (4, [.int (ir0_blocksWritten + 1), .int (ir0_blocksToStop - 1), .int ir0_stopped]))) r0 (.inr (4, [.int (ir0_blocksWritten + 1), .int (ir0_blocksToStop - 1), .int 1])))) :
    Ev l X M_Ma_writeBlock bc bs 0 [(0, .ref r0)] [] n F (ev_mq X Q) := by
  refine ev_aload_n (pc := 0) d_Ma_writeBlock_0 rfl ?_
  refine ev_dup (pc := 1) d_Ma_writeBlock_1 rfl ?_
  refine ev_getfield (pc := 2) 0 d_Ma_writeBlock_2 fl_Ma_7 h_r0 rfl ?_
  refine ev_iconst (pc := 5) 1 d_Ma_writeBlock_5 (by decide) ?_
  refine ev_iadd (pc := 6) d_Ma_writeBlock_6 ?_
  refine ev_putfield (pc := 7) 0 _ d_Ma_writeBlock_7 fl_Ma_7 h_r0 pf_4_blocksWritten rfl rfl (Nat.le_of_ble_eq_true rfl) (fun F1_ hF1_ => ?_)
  have g2_ : F1_ r0 = some (.inr (4, [.int (ir0_blocksWritten + 1), .int ir0_blocksToStop, .int ir0_stopped])) := by rw [← hF1_]; exact ev_up_s
  refine ev_aload_n (pc := 10) d_Ma_writeBlock_10 rfl ?_
  refine ev_getfield (pc := 11) 1 d_Ma_writeBlock_11 fl_Ma_13 g2_ rfl ?_
  refine ev_if_le (pc := 14) 43 d_Ma_writeBlock_14 (by decide) (fun c14 => ?_) (fun c14 => ?_)
  · exact ev_return (pc := 43) d_Ma_writeBlock_43 rfl (by subst hF1_; exact (q43_0 c14))
  · refine ev_aload_n (pc := 17) d_Ma_writeBlock_17 rfl ?_
    refine ev_dup (pc := 18) d_Ma_writeBlock_18 rfl ?_
    refine ev_getfield (pc := 19) 1 d_Ma_writeBlock_19 fl_Ma_13 g2_ rfl ?_
    refine ev_iconst (pc := 22) 1 d_Ma_writeBlock_22 (by decide) ?_
    refine ev_isub (pc := 23) d_Ma_writeBlock_23 ?_
    refine ev_putfield (pc := 24) 1 _ d_Ma_writeBlock_24 fl_Ma_13 g2_ pf_4_blocksToStop rfl rfl (Nat.le_of_ble_eq_true rfl) (fun F3_ hF3_ => ?_)
    have g4_ : F3_ r0 = some (.inr (4, [.int (ir0_blocksWritten + 1), .int (ir0_blocksToStop - 1), .int ir0_stopped])) := by rw [← hF3_]; exact ev_up_s
    refine ev_aload_n (pc := 27) d_Ma_writeBlock_27 rfl ?_
    refine ev_aload_n (pc := 28) d_Ma_writeBlock_28 rfl ?_
    refine ev_getfield (pc := 29) 1 d_Ma_writeBlock_29 fl_Ma_13 g4_ rfl ?_
    refine ev_if_ne (pc := 32) 39 d_Ma_writeBlock_32 (by decide) (fun c32 => ?_) (fun c32 => ?_)
    · refine ev_iconst (pc := 39) 0 d_Ma_writeBlock_39 (by decide) ?_
      refine ev_putfield (pc := 40) 2 _ d_Ma_writeBlock_40 fl_Ma_16 g4_ pf_4_stopped rfl rfl (Nat.le_of_ble_eq_true rfl) (fun F5_ hF5_ => ?_)
      have g6_ : F5_ r0 = some (.inr (4, [.int (ir0_blocksWritten + 1), .int (ir0_blocksToStop - 1), .int 0])) := by rw [← hF5_]; exact ev_up_s
      exact ev_return (pc := 43) d_Ma_writeBlock_43 rfl (by subst hF1_ hF3_ hF5_; exact (q43_1 c14 c32))
    · refine ev_iconst (pc := 35) 1 d_Ma_writeBlock_35 (by decide) ?_
      refine ev_goto (pc := 36) 40 d_Ma_writeBlock_36 (by decide) ?_
      refine ev_putfield (pc := 40) 2 _ d_Ma_writeBlock_40 fl_Ma_16 g4_ pf_4_stopped rfl rfl (Nat.le_of_ble_eq_true rfl) (fun F7_ hF7_ => ?_)
      have g8_ : F7_ r0 = some (.inr (4, [.int (ir0_blocksWritten + 1), .int (ir0_blocksToStop - 1), .int 1])) := by rw [← hF7_]; exact ev_up_s
      exact ev_return (pc := 43) d_Ma_writeBlock_43 rfl (by subst hF1_ hF3_ hF7_; exact (q43_2 c14 c32))
set_option maxRecDepth 100000 in
set_option maxHeartbeats 4000000 in
theorem s_Sp_init_0 {l : Launch} {X : ev_X} {bc bs n : Nat} {F : ev_H} {Q : Option Value → Nat → ev_H → Prop} {r0 : Nat} {i1 : Int32} {r2 : Nat} {ir0_kind : Int32} (h_r0 : F r0 = some (.inr (10, [.int ir0_kind, .null])))
    (q14_0 : Q none n (ev_up (ev_up F r0 (.inr (10, [.int i1, .null]))) r0 (.inr (10, [.int i1, .ref r2])))) :
    Ev l X M_Sp_init bc bs 0 [(0, .ref r0), (1, .int i1), (2, .ref r2)] [] n F (ev_mq X Q) := by
  refine ev_aload_n (pc := 0) d_Sp_init_0 rfl ?_
  refine ev_objInit (pc := 1) d_Sp_init_1 wd_703 wd_33 wd_34 (Nat.le_of_ble_eq_true rfl) (Nat.le_of_ble_eq_true rfl) ?_
  refine ev_aload_n (pc := 4) d_Sp_init_4 rfl ?_
  refine ev_iload_n (pc := 5) d_Sp_init_5 rfl ?_
  refine ev_putfield (pc := 6) 0 _ d_Sp_init_6 fl_Sp_7 h_r0 (ev_pfn (r0 := rC10) (ty := .int) rfl (Or.inr ⟨rfl, rfl, rfl⟩) (by decide +kernel)) rfl rfl (Nat.le_of_ble_eq_true rfl) (fun F1_ hF1_ => ?_)
  have g2_ : F1_ r0 = some (.inr (10, [.int i1, .null])) := by rw [← hF1_]; exact ev_up_s
  refine ev_aload_n (pc := 9) d_Sp_init_9 rfl ?_
  refine ev_aload_n (pc := 10) d_Sp_init_10 rfl ?_
  refine ev_putfield (pc := 11) 1 _ d_Sp_init_11 fl_Sp_13 g2_ (ev_pfn (r0 := rC10) (ty := (.array .long)) rfl (Or.inr ⟨rfl, rfl, rfl⟩) (by decide +kernel)) rfl rfl (Nat.le_of_ble_eq_true rfl) (fun F3_ hF3_ => ?_)
  have g4_ : F3_ r0 = some (.inr (10, [.int i1, .ref r2])) := by rw [← hF3_]; exact ev_up_s
  exact ev_return (pc := 14) d_Sp_init_14 rfl (by subst hF1_ hF3_; exact q14_0)
set_option maxRecDepth 100000 in
set_option maxHeartbeats 4000000 in
theorem s_Re_clear_0 {l : Launch} {X : ev_X} {bc bs n : Nat} {F : ev_H} {Q : Option Value → Nat → ev_H → Prop} {r0 : Nat} {ir0_count : Int32} (h_r0 : F r0 = some (.inr (7, [.ref (r0 + 1), .ref (r0 + 2), .int ir0_count])))
    (q5_0 : Q none n (ev_up F r0 (.inr (7, [.ref (r0 + 1), .ref (r0 + 2), .int 0])))) :
    Ev l X M_Re_clear bc bs 0 [(0, .ref r0)] [] n F (ev_mq X Q) := by
  refine ev_aload_n (pc := 0) d_Re_clear_0 rfl ?_
  refine ev_iconst (pc := 1) 0 d_Re_clear_1 (by decide) ?_
  refine ev_putfield (pc := 2) 2 _ d_Re_clear_2 fl_Re_18 h_r0 pf_7_count rfl rfl (Nat.le_of_ble_eq_true rfl) (fun F1_ hF1_ => ?_)
  have g2_ : F1_ r0 = some (.inr (7, [.ref (r0 + 1), .ref (r0 + 2), .int 0])) := by rw [← hF1_]; exact ev_up_s
  exact ev_return (pc := 5) d_Re_clear_5 rfl (by subst hF1_; exact q5_0)
set_option maxRecDepth 100000 in
set_option maxHeartbeats 4000000 in
theorem s_D_hasRow_0 {l : Launch} {X : ev_X} {bc bs n : Nat} {F : ev_H} {Q : Option Value → Nat → ev_H → Prop} {r0 : Nat} {r1 : Nat} 
    (k2_0 : Ev l X M_D_hasRow bc bs 2 [(0, .ref r0), (1, .ref r1), (2, .int 0)] [] n F (ev_mq X Q)) :
    Ev l X M_D_hasRow bc bs 0 [(0, .ref r0), (1, .ref r1)] [] n F (ev_mq X Q) := by
  refine ev_iconst (pc := 0) 0 d_D_hasRow_0 (by decide) ?_
  refine ev_istore_n (pc := 1) d_D_hasRow_1 (Nat.le_of_ble_eq_true rfl) [1, 2, 0] rfl ?_
  exact k2_0

set_option maxRecDepth 100000 in
set_option maxHeartbeats 4000000 in
theorem s_D_hasRow_2 {l : Launch} {X : ev_X} {bc bs n : Nat} {F : ev_H} {Q : Option Value → Nat → ev_H → Prop} {r0 : Nat} {r1 : Nat} {i2 : Int32} {r1_n : Nat} {r1_f : Nat → Int64} {ir0_id : Int32} {r0_terms : Nat} {r0_terms_n : Nat} {r0_terms_f : Nat → Int64} {v17 : Int32} (h_r1 : F r1 = some (.inl (1, r1_n, .inr (.inl r1_f)))) (h_r0 : F r0 = some (.inr (8, [.int ir0_id, .ref r0_terms]))) (h_r0_terms : F r0_terms = some (.inl (1, r0_terms_n, .inr (.inl r0_terms_f))))
    (q32_0 : ((nI r0_terms_n) < (i2 + (nI r1_n))) → Q (some (.int 0)) n F)
    (c17_1 : (¬ (nI r0_terms_n) < (i2 + (nI r1_n))) → Cal l X M_D_hasRowAt 0 0 [.ref r0, .int i2, .ref r1] n F (ev_pure (.int v17) n F))
    (k2_2 : (¬ (nI r0_terms_n) < (i2 + (nI r1_n))) → (v17 = 0) → Ev l X M_D_hasRow bc bs 2 [(0, .ref r0), (1, .ref r1), (2, .int (i2 + 1))] [] n F (ev_mq X Q))
    (q24_3 : (¬ (nI r0_terms_n) < (i2 + (nI r1_n))) → (¬ v17 = 0) → Q (some (.int 1)) n F) :
    Ev l X M_D_hasRow bc bs 2 [(0, .ref r0), (1, .ref r1), (2, .int i2)] [] n F (ev_mq X Q) := by
  refine ev_iload_n (pc := 2) d_D_hasRow_2 rfl ?_
  refine ev_aload_n (pc := 3) d_D_hasRow_3 rfl ?_
  refine ev_alen (pc := 4) d_D_hasRow_4 h_r1 rfl ?_
  refine ev_iadd (pc := 5) d_D_hasRow_5 ?_
  refine ev_aload_n (pc := 6) d_D_hasRow_6 rfl ?_
  refine ev_getfield (pc := 7) 1 d_D_hasRow_7 fl_D_15 h_r0 rfl ?_
  refine ev_alen (pc := 10) d_D_hasRow_10 h_r0_terms rfl ?_
  refine ev_icmp_gt (pc := 11) 31 d_D_hasRow_11 (by decide) (fun c11 => ?_) (fun c11 => ?_)
  · refine ev_iconst (pc := 31) 0 d_D_hasRow_31 (by decide) ?_
    exact ev_ireturn (pc := 32) d_D_hasRow_32 rfl rfl (q32_0 c11)
  · refine ev_aload_n (pc := 14) d_D_hasRow_14 rfl ?_
    refine ev_iload_n (pc := 15) d_D_hasRow_15 rfl ?_
    refine ev_aload_n (pc := 16) d_D_hasRow_16 rfl ?_
    refine ev_invokevirtual (pc := 17) (As := [.int i2, .ref r1]) (st := []) (Q2 := ev_pure (.int v17) n F) (bc1 := 0) (bs1 := 0) M_D_hasRowAt rC8 d_D_hasRow_17 lc_D_23 wd_778 wd_s26 rfl h_r0 rfl rfl (Nat.le_of_ble_eq_true rfl) (Nat.le_of_ble_eq_true rfl) (Nat.le_of_ble_eq_true rfl) (Nat.le_refl _) (Nat.le_refl _) (c17_1 c11) ?_
    refine ev_purek ?_
    refine ev_if_eq (pc := 20) 25 d_D_hasRow_20 (by decide) (fun c20 => ?_) (fun c20 => ?_)
    · refine ev_iinc (pc := 25) 2 1 d_D_hasRow_25 rfl (by decide) (Nat.le_of_ble_eq_true rfl) [1, 2, 0] rfl ?_
      refine ev_goto (pc := 28) 2 d_D_hasRow_28 (by decide) ?_
      exact (k2_2 c11 c20)
    · refine ev_iconst (pc := 23) 1 d_D_hasRow_23 (by decide) ?_
      exact ev_ireturn (pc := 24) d_D_hasRow_24 rfl rfl (q24_3 c11 c20)
set_option maxRecDepth 100000 in
set_option maxHeartbeats 4000000 in
theorem s_D_hasRowAt_0 {l : Launch} {X : ev_X} {bc bs n : Nat} {F : ev_H} {Q : Option Value → Nat → ev_H → Prop} {r0 : Nat} {i1 : Int32} {r2 : Nat} 
    (k2_0 : Ev l X M_D_hasRowAt bc bs 2 [(0, .ref r0), (1, .int i1), (2, .ref r2), (3, .int 0)] [] n F (ev_mq X Q)) :
    Ev l X M_D_hasRowAt bc bs 0 [(0, .ref r0), (1, .int i1), (2, .ref r2)] [] n F (ev_mq X Q) := by
  refine ev_iconst (pc := 0) 0 d_D_hasRowAt_0 (by decide) ?_
  refine ev_istore_n (pc := 1) d_D_hasRowAt_1 (Nat.le_of_ble_eq_true rfl) [1, 2, 3, 0] rfl ?_
  exact k2_0

set_option maxRecDepth 100000 in
set_option maxHeartbeats 4000000 in
theorem s_D_hasRowAt_2 {l : Launch} {X : ev_X} {bc bs n : Nat} {F : ev_H} {Q : Option Value → Nat → ev_H → Prop} {r0 : Nat} {i1 : Int32} {r2 : Nat} {i3 : Int32} {r2_n : Nat} {r2_f : Nat → Int64} {ir0_id : Int32} {r0_terms : Nat} {r0_terms_n : Nat} {r0_terms_f : Nat → Int64} (h_r2 : F r2 = some (.inl (1, r2_n, .inr (.inl r2_f)))) (h_r0 : F r0 = some (.inr (8, [.int ir0_id, .ref r0_terms]))) (h_r0_terms : F r0_terms = some (.inl (1, r0_terms_n, .inr (.inl r0_terms_f))))
    (q40_0 : ((nI r2_n) ≤ i3) → Q (some (.int 1)) n F)
    (in10_1 : (¬ (nI r2_n) ≤ i3) → vp_in i3 r2_n)
    (q32_2 : (¬ (nI r2_n) ≤ i3) → ((lg_cmp (r2_f i3.toNatClampNeg) 0) = 0) → Q (some (.int 0)) n F)
    (in18_3 : (¬ (nI r2_n) ≤ i3) → (¬ (lg_cmp (r2_f i3.toNatClampNeg) 0) = 0) → vp_in i3 r2_n)
    (in26_4 : (¬ (nI r2_n) ≤ i3) → (¬ (lg_cmp (r2_f i3.toNatClampNeg) 0) = 0) → vp_in (i1 + i3) r0_terms_n)
    (k2_5 : (¬ (nI r2_n) ≤ i3) → (¬ (lg_cmp (r2_f i3.toNatClampNeg) 0) = 0) → ((lg_cmp (r2_f i3.toNatClampNeg) (r0_terms_f (i1 + i3).toNatClampNeg)) = 0) → Ev l X M_D_hasRowAt bc bs 2 [(0, .ref r0), (1, .int i1), (2, .ref r2), (3, .int (i3 + 1))] [] n F (ev_mq X Q))
    (q32_6 : (¬ (nI r2_n) ≤ i3) → (¬ (lg_cmp (r2_f i3.toNatClampNeg) 0) = 0) → (¬ (lg_cmp (r2_f i3.toNatClampNeg) (r0_terms_f (i1 + i3).toNatClampNeg)) = 0) → Q (some (.int 0)) n F) :
    Ev l X M_D_hasRowAt bc bs 2 [(0, .ref r0), (1, .int i1), (2, .ref r2), (3, .int i3)] [] n F (ev_mq X Q) := by
  refine ev_iload_n (pc := 2) d_D_hasRowAt_2 rfl ?_
  refine ev_aload_n (pc := 3) d_D_hasRowAt_3 rfl ?_
  refine ev_alen (pc := 4) d_D_hasRowAt_4 h_r2 rfl ?_
  refine ev_icmp_ge (pc := 5) 39 d_D_hasRowAt_5 (by decide) (fun c5 => ?_) (fun c5 => ?_)
  · refine ev_iconst (pc := 39) 1 d_D_hasRowAt_39 (by decide) ?_
    exact ev_ireturn (pc := 40) d_D_hasRowAt_40 rfl rfl (q40_0 c5)
  · refine ev_aload_n (pc := 8) d_D_hasRowAt_8 rfl ?_
    refine ev_iload_n (pc := 9) d_D_hasRowAt_9 rfl ?_
    refine ev_laload (pc := 10) d_D_hasRowAt_10 h_r2 rfl (in10_1 c5) ?_
    refine ev_lconst (pc := 11) 0 d_D_hasRowAt_11 (by decide) ?_
    refine ev_lcmp (pc := 12) d_D_hasRowAt_12 ?_
    refine ev_if_eq (pc := 13) 31 d_D_hasRowAt_13 (by decide) (fun c13 => ?_) (fun c13 => ?_)
    · refine ev_iconst (pc := 31) 0 d_D_hasRowAt_31 (by decide) ?_
      exact ev_ireturn (pc := 32) d_D_hasRowAt_32 rfl rfl (q32_2 c5 c13)
    · refine ev_aload_n (pc := 16) d_D_hasRowAt_16 rfl ?_
      refine ev_iload_n (pc := 17) d_D_hasRowAt_17 rfl ?_
      refine ev_laload (pc := 18) d_D_hasRowAt_18 h_r2 rfl (in18_3 c5 c13) ?_
      refine ev_aload_n (pc := 19) d_D_hasRowAt_19 rfl ?_
      refine ev_getfield (pc := 20) 1 d_D_hasRowAt_20 fl_D_15 h_r0 rfl ?_
      refine ev_iload_n (pc := 23) d_D_hasRowAt_23 rfl ?_
      refine ev_iload_n (pc := 24) d_D_hasRowAt_24 rfl ?_
      refine ev_iadd (pc := 25) d_D_hasRowAt_25 ?_
      refine ev_laload (pc := 26) d_D_hasRowAt_26 h_r0_terms rfl (in26_4 c5 c13) ?_
      refine ev_lcmp (pc := 27) d_D_hasRowAt_27 ?_
      refine ev_if_eq (pc := 28) 33 d_D_hasRowAt_28 (by decide) (fun c28 => ?_) (fun c28 => ?_)
      · refine ev_iinc (pc := 33) 3 1 d_D_hasRowAt_33 rfl (by decide) (Nat.le_of_ble_eq_true rfl) [1, 2, 3, 0] rfl ?_
        refine ev_goto (pc := 36) 2 d_D_hasRowAt_36 (by decide) ?_
        exact (k2_5 c5 c13 c28)
      · refine ev_iconst (pc := 31) 0 d_D_hasRowAt_31 (by decide) ?_
        exact ev_ireturn (pc := 32) d_D_hasRowAt_32 rfl rfl (q32_6 c5 c13 c28)
set_option maxRecDepth 100000 in
set_option maxHeartbeats 4000000 in
theorem s_Re_insert_0 {l : Launch} {X : ev_X} {bc bs n : Nat} {F : ev_H} {Q : Option Value → Nat → ev_H → Prop} {r0 : Nat} {i1 : Int32} {i2 : Int32} {i3 : Int32} {ir0_count : Int32} (h_r0 : F r0 = some (.inr (7, [.ref (r0 + 1), .ref (r0 + 2), .int ir0_count])))
    (k6_0 : Ev l X M_Re_insert bc bs 6 [(0, .ref r0), (1, .int i1), (2, .int i2), (3, .int i3), (4, .int ir0_count)] [] n F (ev_mq X Q)) :
    Ev l X M_Re_insert bc bs 0 [(0, .ref r0), (1, .int i1), (2, .int i2), (3, .int i3)] [] n F (ev_mq X Q) := by
  refine ev_aload_n (pc := 0) d_Re_insert_0 rfl ?_
  refine ev_getfield (pc := 1) 2 d_Re_insert_1 fl_Re_18 h_r0 rfl ?_
  refine ev_istore (pc := 4) d_Re_insert_4 (Nat.le_of_ble_eq_true rfl) [1, 2, 3, 4, 0] rfl ?_
  exact k6_0

set_option maxRecDepth 100000 in
set_option maxHeartbeats 4000000 in
theorem s_Re_insert_6 {l : Launch} {X : ev_X} {bc bs n : Nat} {F : ev_H} {Q : Option Value → Nat → ev_H → Prop} {r0 : Nat} {i1 : Int32} {i2 : Int32} {i3 : Int32} {i4 : Int32} {ir0_count : Int32} {r0p2_f : Nat → Int32} (h_r0 : F r0 = some (.inr (7, [.ref (r0 + 1), .ref (r0 + 2), .int ir0_count]))) (h_r0p2 : F (r0 + 2) = some (.inl (0, 12, .inl r0p2_f)))
    (k30_0 : (i4 ≤ 0) → Ev l X M_Re_insert bc bs 30 [(0, .ref r0), (1, .int i1), (2, .int i2), (3, .int i3), (4, .int i4)] [] n F (ev_mq X Q))
    (in19_1 : (¬ i4 ≤ 0) → vp_in (i4 - 1) 12)
    (k30_2 : (¬ i4 ≤ 0) → (i2 ≤ (r0p2_f (i4 - 1).toNatClampNeg)) → Ev l X M_Re_insert bc bs 30 [(0, .ref r0), (1, .int i1), (2, .int i2), (3, .int i3), (4, .int i4)] [] n F (ev_mq X Q))
    (k6_3 : (¬ i4 ≤ 0) → (¬ i2 ≤ (r0p2_f (i4 - 1).toNatClampNeg)) → Ev l X M_Re_insert bc bs 6 [(0, .ref r0), (1, .int i1), (2, .int i2), (3, .int i3), (4, .int (i4 + (-1)))] [] n F (ev_mq X Q)) :
    Ev l X M_Re_insert bc bs 6 [(0, .ref r0), (1, .int i1), (2, .int i2), (3, .int i3), (4, .int i4)] [] n F (ev_mq X Q) := by
  refine ev_iload (pc := 6) d_Re_insert_6 rfl ?_
  refine ev_if_le (pc := 8) 30 d_Re_insert_8 (by decide) (fun c8 => ?_) (fun c8 => ?_)
  · exact (k30_0 c8)
  · refine ev_aload_n (pc := 11) d_Re_insert_11 rfl ?_
    refine ev_getfield (pc := 12) 1 d_Re_insert_12 fl_Re_15 h_r0 rfl ?_
    refine ev_iload (pc := 15) d_Re_insert_15 rfl ?_
    refine ev_iconst (pc := 17) 1 d_Re_insert_17 (by decide) ?_
    refine ev_isub (pc := 18) d_Re_insert_18 ?_
    refine ev_iaload (pc := 19) d_Re_insert_19 h_r0p2 rfl (in19_1 c8) ?_
    refine ev_iload_n (pc := 20) d_Re_insert_20 rfl ?_
    refine ev_icmp_ge (pc := 21) 30 d_Re_insert_21 (by decide) (fun c21 => ?_) (fun c21 => ?_)
    · exact (k30_2 c8 c21)
    · refine ev_iinc (pc := 24) 4 (-1) d_Re_insert_24 rfl (by decide) (Nat.le_of_ble_eq_true rfl) [1, 2, 3, 4, 0] rfl ?_
      refine ev_goto (pc := 27) 6 d_Re_insert_27 (by decide) ?_
      exact (k6_3 c8 c21)

set_option maxRecDepth 100000 in
set_option maxHeartbeats 4000000 in
theorem s_Re_insert_30 {l : Launch} {X : ev_X} {bc bs n : Nat} {F : ev_H} {Q : Option Value → Nat → ev_H → Prop} {r0 : Nat} {i1 : Int32} {i2 : Int32} {i3 : Int32} {i4 : Int32} {ir0_count : Int32} (h_r0 : F r0 = some (.inr (7, [.ref (r0 + 1), .ref (r0 + 2), .int ir0_count])))
    (k43_0 : (i3 ≤ i4) → Ev l X M_Re_insert bc bs 43 [(0, .ref r0), (1, .int i1), (2, .int i2), (3, .int i3), (4, .int i4)] [] n F (ev_mq X Q))
    (k71_1 : (¬ i3 ≤ i4) → (i4 < 12) → Ev l X M_Re_insert bc bs 71 [(0, .ref r0), (1, .int i1), (2, .int i2), (3, .int i3), (4, .int i4), (5, .int ((if (if 12 < i3 then 12 else i3) < (ir0_count + 1) then if 12 < i3 then 12 else i3 else ir0_count + 1) - 1))] [] n (ev_up F r0 (.inr (7, [.ref (r0 + 1), .ref (r0 + 2), .int (if (if 12 < i3 then 12 else i3) < (ir0_count + 1) then if 12 < i3 then 12 else i3 else ir0_count + 1)]))) (ev_mq X Q))
    (k43_2 : (¬ i3 ≤ i4) → (¬ i4 < 12) → Ev l X M_Re_insert bc bs 43 [(0, .ref r0), (1, .int i1), (2, .int i2), (3, .int i3), (4, .int i4)] [] n F (ev_mq X Q)) :
    Ev l X M_Re_insert bc bs 30 [(0, .ref r0), (1, .int i1), (2, .int i2), (3, .int i3), (4, .int i4)] [] n F (ev_mq X Q) := by
  refine ev_iload (pc := 30) d_Re_insert_30 rfl ?_
  refine ev_iload_n (pc := 32) d_Re_insert_32 rfl ?_
  refine ev_icmp_ge (pc := 33) 43 d_Re_insert_33 (by decide) (fun c33 => ?_) (fun c33 => ?_)
  · exact (k43_0 c33)
  · refine ev_iload (pc := 36) d_Re_insert_36 rfl ?_
    refine ev_bipush (pc := 38) 12 d_Re_insert_38 (by decide) ?_
    refine ev_icmp_lt (pc := 40) 44 d_Re_insert_40 (by decide) (fun c40 => ?_) (fun c40 => ?_)
    · refine ev_aload_n (pc := 44) d_Re_insert_44 rfl ?_
      refine ev_aload_n (pc := 45) d_Re_insert_45 rfl ?_
      refine ev_getfield (pc := 46) 2 d_Re_insert_46 fl_Re_18 h_r0 rfl ?_
      refine ev_iconst (pc := 49) 1 d_Re_insert_49 (by decide) ?_
      refine ev_iadd (pc := 50) d_Re_insert_50 ?_
      refine ev_iload_n (pc := 51) d_Re_insert_51 rfl ?_
      refine ev_bipush (pc := 52) 12 d_Re_insert_52 (by decide) ?_
      refine ev_mmin (pc := 54) d_Re_insert_54 wd_784 wd_278 wd_15 wd_279 (Nat.le_of_ble_eq_true rfl) (Nat.le_of_ble_eq_true rfl) ?_
      refine ev_mmin (pc := 57) d_Re_insert_57 wd_784 wd_278 wd_15 wd_279 (Nat.le_of_ble_eq_true rfl) (Nat.le_of_ble_eq_true rfl) ?_
      refine ev_putfield (pc := 60) 2 _ d_Re_insert_60 fl_Re_18 h_r0 pf_7_count rfl rfl (Nat.le_of_ble_eq_true rfl) (fun F1_ hF1_ => ?_)
      have g2_ : F1_ r0 = some (.inr (7, [.ref (r0 + 1), .ref (r0 + 2), .int (if (if 12 < i3 then 12 else i3) < (ir0_count + 1) then if 12 < i3 then 12 else i3 else ir0_count + 1)])) := by rw [← hF1_]; exact ev_up_s
      refine ev_aload_n (pc := 63) d_Re_insert_63 rfl ?_
      refine ev_getfield (pc := 64) 2 d_Re_insert_64 fl_Re_18 g2_ rfl ?_
      refine ev_iconst (pc := 67) 1 d_Re_insert_67 (by decide) ?_
      refine ev_isub (pc := 68) d_Re_insert_68 ?_
      refine ev_istore (pc := 69) d_Re_insert_69 (Nat.le_of_ble_eq_true rfl) [1, 2, 3, 4, 5, 0] rfl ?_
      exact (by subst hF1_; exact (k71_1 c33 c40))
    · exact (k43_2 c33 c40)

set_option maxRecDepth 100000 in
set_option maxHeartbeats 4000000 in
theorem s_Re_insert_43 {l : Launch} {X : ev_X} {bc bs n : Nat} {F : ev_H} {Q : Option Value → Nat → ev_H → Prop} {r0 : Nat} {i1 : Int32} {i2 : Int32} {i3 : Int32} {i4 : Int32} 
    (q43_0 : Q none n F) :
    Ev l X M_Re_insert bc bs 43 [(0, .ref r0), (1, .int i1), (2, .int i2), (3, .int i3), (4, .int i4)] [] n F (ev_mq X Q) := by
  exact ev_return (pc := 43) d_Re_insert_43 rfl q43_0

set_option maxRecDepth 100000 in
set_option maxHeartbeats 4000000 in
theorem s_Re_insert_71 {l : Launch} {X : ev_X} {bc bs n : Nat} {F : ev_H} {Q : Option Value → Nat → ev_H → Prop} {r0 : Nat} {i1 : Int32} {i2 : Int32} {i3 : Int32} {i4 : Int32} {i5 : Int32} {ir0_count : Int32} {r0p1_f : Nat → Int32} {r0p2_f : Nat → Int32} (h_r0 : F r0 = some (.inr (7, [.ref (r0 + 1), .ref (r0 + 2), .int ir0_count]))) (h_r0p1 : F (r0 + 1) = some (.inl (0, 12, .inl r0p1_f))) (h_r0p2 : F (r0 + 2) = some (.inl (0, 12, .inl r0p2_f)))
    (in123_0 : (i5 ≤ i4) → vp_in i4 12)
    (in131_1 : (i5 ≤ i4) → vp_in i4 12)
    (q132_2 : (i5 ≤ i4) → Q none n (ev_up (ev_up F (r0 + 1) (.inl (0, 12, .inl (upd r0p1_f i4.toNatClampNeg i1)))) (r0 + 2) (.inl (0, 12, .inl (upd r0p2_f i4.toNatClampNeg i2)))))
    (in92_3 : (¬ i5 ≤ i4) → vp_in (i5 - 1) 12)
    (in93_4 : (¬ i5 ≤ i4) → vp_in i5 12)
    (in108_5 : (¬ i5 ≤ i4) → vp_in (i5 - 1) 12)
    (in109_6 : (¬ i5 ≤ i4) → vp_in i5 12)
    (k71_7 : (¬ i5 ≤ i4) → Ev l X M_Re_insert bc bs 71 [(0, .ref r0), (1, .int i1), (2, .int i2), (3, .int i3), (4, .int i4), (5, .int (i5 + (-1)))] [] n (ev_up (ev_up F (r0 + 1) (.inl (0, 12, .inl (upd r0p1_f i5.toNatClampNeg (r0p1_f (i5 - 1).toNatClampNeg))))) (r0 + 2) (.inl (0, 12, .inl (upd r0p2_f i5.toNatClampNeg (r0p2_f (i5 - 1).toNatClampNeg))))) (ev_mq X Q)) :
    Ev l X M_Re_insert bc bs 71 [(0, .ref r0), (1, .int i1), (2, .int i2), (3, .int i3), (4, .int i4), (5, .int i5)] [] n F (ev_mq X Q) := by
  refine ev_iload (pc := 71) d_Re_insert_71 rfl ?_
  refine ev_iload (pc := 73) d_Re_insert_73 rfl ?_
  refine ev_icmp_le (pc := 75) 116 d_Re_insert_75 (by decide) (fun c75 => ?_) (fun c75 => ?_)
  · refine ev_aload_n (pc := 116) d_Re_insert_116 rfl ?_
    refine ev_getfield (pc := 117) 0 d_Re_insert_117 fl_Re_9 h_r0 rfl ?_
    refine ev_iload (pc := 120) d_Re_insert_120 rfl ?_
    refine ev_iload_n (pc := 122) d_Re_insert_122 rfl ?_
    refine ev_iastore (pc := 123) d_Re_insert_123 h_r0p1 rfl (in123_0 c75) (fun F1_ hF1_ => ?_)
    have g2_ : F1_ r0 = some (.inr (7, [.ref (r0 + 1), .ref (r0 + 2), .int ir0_count])) := by rw [← hF1_]; exact ev_up_k (ev_ne_oa h_r0 h_r0p1) h_r0
    have g3_ : F1_ (r0 + 1) = some (.inl (0, 12, .inl (upd r0p1_f i4.toNatClampNeg i1))) := by rw [← hF1_]; exact ev_up_s
    refine ev_aload_n (pc := 124) d_Re_insert_124 rfl ?_
    refine ev_getfield (pc := 125) 1 d_Re_insert_125 fl_Re_15 g2_ rfl ?_
    refine ev_iload (pc := 128) d_Re_insert_128 rfl ?_
    refine ev_iload_n (pc := 130) d_Re_insert_130 rfl ?_
    have g4_ : F1_ (r0 + 2) = some (.inl (0, 12, .inl r0p2_f)) := by rw [← hF1_]; exact ev_up_k (by omega) h_r0p2
    refine ev_iastore (pc := 131) d_Re_insert_131 g4_ rfl (in131_1 c75) (fun F5_ hF5_ => ?_)
    have g6_ : F5_ r0 = some (.inr (7, [.ref (r0 + 1), .ref (r0 + 2), .int ir0_count])) := by rw [← hF5_]; exact ev_up_k (ev_ne_oa g2_ g4_) g2_
    have g7_ : F5_ (r0 + 1) = some (.inl (0, 12, .inl (upd r0p1_f i4.toNatClampNeg i1))) := by rw [← hF5_]; exact ev_up_k (by omega) g3_
    have g8_ : F5_ (r0 + 2) = some (.inl (0, 12, .inl (upd r0p2_f i4.toNatClampNeg i2))) := by rw [← hF5_]; exact ev_up_s
    exact ev_return (pc := 132) d_Re_insert_132 rfl (by subst hF1_ hF5_; exact (q132_2 c75))
  · refine ev_aload_n (pc := 78) d_Re_insert_78 rfl ?_
    refine ev_getfield (pc := 79) 0 d_Re_insert_79 fl_Re_9 h_r0 rfl ?_
    refine ev_iload (pc := 82) d_Re_insert_82 rfl ?_
    refine ev_aload_n (pc := 84) d_Re_insert_84 rfl ?_
    refine ev_getfield (pc := 85) 0 d_Re_insert_85 fl_Re_9 h_r0 rfl ?_
    refine ev_iload (pc := 88) d_Re_insert_88 rfl ?_
    refine ev_iconst (pc := 90) 1 d_Re_insert_90 (by decide) ?_
    refine ev_isub (pc := 91) d_Re_insert_91 ?_
    refine ev_iaload (pc := 92) d_Re_insert_92 h_r0p1 rfl (in92_3 c75) ?_
    refine ev_iastore (pc := 93) d_Re_insert_93 h_r0p1 rfl (in93_4 c75) (fun F9_ hF9_ => ?_)
    have g10_ : F9_ r0 = some (.inr (7, [.ref (r0 + 1), .ref (r0 + 2), .int ir0_count])) := by rw [← hF9_]; exact ev_up_k (ev_ne_oa h_r0 h_r0p1) h_r0
    have g11_ : F9_ (r0 + 1) = some (.inl (0, 12, .inl (upd r0p1_f i5.toNatClampNeg (r0p1_f (i5 - 1).toNatClampNeg)))) := by rw [← hF9_]; exact ev_up_s
    refine ev_aload_n (pc := 94) d_Re_insert_94 rfl ?_
    refine ev_getfield (pc := 95) 1 d_Re_insert_95 fl_Re_15 g10_ rfl ?_
    refine ev_iload (pc := 98) d_Re_insert_98 rfl ?_
    refine ev_aload_n (pc := 100) d_Re_insert_100 rfl ?_
    refine ev_getfield (pc := 101) 1 d_Re_insert_101 fl_Re_15 g10_ rfl ?_
    refine ev_iload (pc := 104) d_Re_insert_104 rfl ?_
    refine ev_iconst (pc := 106) 1 d_Re_insert_106 (by decide) ?_
    refine ev_isub (pc := 107) d_Re_insert_107 ?_
    have g12_ : F9_ (r0 + 2) = some (.inl (0, 12, .inl r0p2_f)) := by rw [← hF9_]; exact ev_up_k (by omega) h_r0p2
    refine ev_iaload (pc := 108) d_Re_insert_108 g12_ rfl (in108_5 c75) ?_
    refine ev_iastore (pc := 109) d_Re_insert_109 g12_ rfl (in109_6 c75) (fun F13_ hF13_ => ?_)
    have g14_ : F13_ r0 = some (.inr (7, [.ref (r0 + 1), .ref (r0 + 2), .int ir0_count])) := by rw [← hF13_]; exact ev_up_k (ev_ne_oa g10_ g12_) g10_
    have g15_ : F13_ (r0 + 1) = some (.inl (0, 12, .inl (upd r0p1_f i5.toNatClampNeg (r0p1_f (i5 - 1).toNatClampNeg)))) := by rw [← hF13_]; exact ev_up_k (by omega) g11_
    have g16_ : F13_ (r0 + 2) = some (.inl (0, 12, .inl (upd r0p2_f i5.toNatClampNeg (r0p2_f (i5 - 1).toNatClampNeg)))) := by rw [← hF13_]; exact ev_up_s
    refine ev_iinc (pc := 110) 5 (-1) d_Re_insert_110 rfl (by decide) (Nat.le_of_ble_eq_true rfl) [1, 2, 3, 4, 5, 0] rfl ?_
    refine ev_goto (pc := 113) 71 d_Re_insert_113 (by decide) ?_
    exact (by subst hF9_ hF13_; exact (k71_7 c75))
set_option maxRecDepth 100000 in
set_option maxHeartbeats 4000000 in
theorem s_D_length_0 {l : Launch} {X : ev_X} {bc bs n : Nat} {F : ev_H} {Q : Option Value → Nat → ev_H → Prop} {r0 : Nat} 
    (k4_0 : Ev l X M_D_length bc bs 4 [(0, .ref r0), (1, .int 0), (2, .int 0)] [] n F (ev_mq X Q)) :
    Ev l X M_D_length bc bs 0 [(0, .ref r0)] [] n F (ev_mq X Q) := by
  refine ev_iconst (pc := 0) 0 d_D_length_0 (by decide) ?_
  refine ev_istore_n (pc := 1) d_D_length_1 (Nat.le_of_ble_eq_true rfl) [1, 0] rfl ?_
  refine ev_iconst (pc := 2) 0 d_D_length_2 (by decide) ?_
  refine ev_istore_n (pc := 3) d_D_length_3 (Nat.le_of_ble_eq_true rfl) [1, 2, 0] rfl ?_
  exact k4_0

set_option maxRecDepth 100000 in
set_option maxHeartbeats 4000000 in
theorem s_D_length_4 {l : Launch} {X : ev_X} {bc bs n : Nat} {F : ev_H} {Q : Option Value → Nat → ev_H → Prop} {r0 : Nat} {i1 : Int32} {i2 : Int32} {ir0_id : Int32} {r0_terms : Nat} {r0_terms_n : Nat} {r0_terms_f : Nat → Int64} (h_r0 : F r0 = some (.inr (8, [.int ir0_id, .ref r0_terms]))) (h_r0_terms : F r0_terms = some (.inl (1, r0_terms_n, .inr (.inl r0_terms_f))))
    (q34_0 : ((nI r0_terms_n) ≤ i2) → Q (some (.int i1)) n F)
    (in18_1 : (¬ (nI r0_terms_n) ≤ i2) → vp_in i2 r0_terms_n)
    (k4_2 : (¬ (nI r0_terms_n) ≤ i2) → ((lg_cmp (r0_terms_f i2.toNatClampNeg) 0) = 0) → Ev l X M_D_length bc bs 4 [(0, .ref r0), (1, .int i1), (2, .int (i2 + 1))] [] n F (ev_mq X Q))
    (k4_3 : (¬ (nI r0_terms_n) ≤ i2) → (¬ (lg_cmp (r0_terms_f i2.toNatClampNeg) 0) = 0) → Ev l X M_D_length bc bs 4 [(0, .ref r0), (1, .int (i1 + 1)), (2, .int (i2 + 1))] [] n F (ev_mq X Q)) :
    Ev l X M_D_length bc bs 4 [(0, .ref r0), (1, .int i1), (2, .int i2)] [] n F (ev_mq X Q) := by
  refine ev_iload_n (pc := 4) d_D_length_4 rfl ?_
  refine ev_aload_n (pc := 5) d_D_length_5 rfl ?_
  refine ev_getfield (pc := 6) 1 d_D_length_6 fl_D_15 h_r0 rfl ?_
  refine ev_alen (pc := 9) d_D_length_9 h_r0_terms rfl ?_
  refine ev_icmp_ge (pc := 10) 33 d_D_length_10 (by decide) (fun c10 => ?_) (fun c10 => ?_)
  · refine ev_iload_n (pc := 33) d_D_length_33 rfl ?_
    exact ev_ireturn (pc := 34) d_D_length_34 rfl rfl (q34_0 c10)
  · refine ev_aload_n (pc := 13) d_D_length_13 rfl ?_
    refine ev_getfield (pc := 14) 1 d_D_length_14 fl_D_15 h_r0 rfl ?_
    refine ev_iload_n (pc := 17) d_D_length_17 rfl ?_
    refine ev_laload (pc := 18) d_D_length_18 h_r0_terms rfl (in18_1 c10) ?_
    refine ev_lconst (pc := 19) 0 d_D_length_19 (by decide) ?_
    refine ev_lcmp (pc := 20) d_D_length_20 ?_
    refine ev_if_eq (pc := 21) 27 d_D_length_21 (by decide) (fun c21 => ?_) (fun c21 => ?_)
    · refine ev_iinc (pc := 27) 2 1 d_D_length_27 rfl (by decide) (Nat.le_of_ble_eq_true rfl) [1, 2, 0] rfl ?_
      refine ev_goto (pc := 30) 4 d_D_length_30 (by decide) ?_
      exact (k4_2 c10 c21)
    · refine ev_iinc (pc := 24) 1 1 d_D_length_24 rfl (by decide) (Nat.le_of_ble_eq_true rfl) [1, 0, 2] rfl ?_
      refine ev_iinc (pc := 27) 2 1 d_D_length_27 rfl (by decide) (Nat.le_of_ble_eq_true rfl) [1, 2, 0] rfl ?_
      refine ev_goto (pc := 30) 4 d_D_length_30 (by decide) ?_
      exact (k4_3 c10 c21)
set_option maxRecDepth 100000 in
set_option maxHeartbeats 4000000 in
theorem s_D_timesOf_0 {l : Launch} {X : ev_X} {bc bs n : Nat} {F : ev_H} {Q : Option Value → Nat → ev_H → Prop} {r0 : Nat} {j1 : Int64} 
    (k5_0 : Ev l X M_D_timesOf bc bs 5 [(0, .ref r0), (1, .long j1), (3, .int 0), (4, .int 0)] [] n F (ev_mq X Q)) :
    Ev l X M_D_timesOf bc bs 0 [(0, .ref r0), (1, .long j1)] [] n F (ev_mq X Q) := by
  refine ev_iconst (pc := 0) 0 d_D_timesOf_0 (by decide) ?_
  refine ev_istore_n (pc := 1) d_D_timesOf_1 (Nat.le_of_ble_eq_true rfl) [1, 2, 0] rfl ?_
  refine ev_iconst (pc := 2) 0 d_D_timesOf_2 (by decide) ?_
  refine ev_istore (pc := 3) d_D_timesOf_3 (Nat.le_of_ble_eq_true rfl) [1, 2, 3, 0] rfl ?_
  exact k5_0

set_option maxRecDepth 100000 in
set_option maxHeartbeats 4000000 in
theorem s_D_timesOf_5 {l : Launch} {X : ev_X} {bc bs n : Nat} {F : ev_H} {Q : Option Value → Nat → ev_H → Prop} {r0 : Nat} {j1 : Int64} {i3 : Int32} {i4 : Int32} {ir0_id : Int32} {r0_terms : Nat} {r0_terms_n : Nat} {r0_terms_f : Nat → Int64} (h_r0 : F r0 = some (.inr (8, [.int ir0_id, .ref r0_terms]))) (h_r0_terms : F r0_terms = some (.inl (1, r0_terms_n, .inr (.inl r0_terms_f))))
    (q43_0 : ((nI r0_terms_n) ≤ i4) → Q (some (.int i3)) n F)
    (in21_1 : (¬ (nI r0_terms_n) ≤ i4) → vp_in i4 r0_terms_n)
    (k5_2 : (¬ (nI r0_terms_n) ≤ i4) → (¬ (lg_cmp (r0_terms_f i4.toNatClampNeg) j1) = 0) → Ev l X M_D_timesOf bc bs 5 [(0, .ref r0), (1, .long j1), (3, .int i3), (4, .int (i4 + 1))] [] n F (ev_mq X Q))
    (k5_3 : (¬ (nI r0_terms_n) ≤ i4) → ((lg_cmp (r0_terms_f i4.toNatClampNeg) j1) = 0) → ((lg_cmp j1 0) = 0) → Ev l X M_D_timesOf bc bs 5 [(0, .ref r0), (1, .long j1), (3, .int i3), (4, .int (i4 + 1))] [] n F (ev_mq X Q))
    (k5_4 : (¬ (nI r0_terms_n) ≤ i4) → ((lg_cmp (r0_terms_f i4.toNatClampNeg) j1) = 0) → (¬ (lg_cmp j1 0) = 0) → Ev l X M_D_timesOf bc bs 5 [(0, .ref r0), (1, .long j1), (3, .int (i3 + 1)), (4, .int (i4 + 1))] [] n F (ev_mq X Q)) :
    Ev l X M_D_timesOf bc bs 5 [(0, .ref r0), (1, .long j1), (3, .int i3), (4, .int i4)] [] n F (ev_mq X Q) := by
  refine ev_iload (pc := 5) d_D_timesOf_5 rfl ?_
  refine ev_aload_n (pc := 7) d_D_timesOf_7 rfl ?_
  refine ev_getfield (pc := 8) 1 d_D_timesOf_8 fl_D_15 h_r0 rfl ?_
  refine ev_alen (pc := 11) d_D_timesOf_11 h_r0_terms rfl ?_
  refine ev_icmp_ge (pc := 12) 42 d_D_timesOf_12 (by decide) (fun c12 => ?_) (fun c12 => ?_)
  · refine ev_iload_n (pc := 42) d_D_timesOf_42 rfl ?_
    exact ev_ireturn (pc := 43) d_D_timesOf_43 rfl rfl (q43_0 c12)
  · refine ev_aload_n (pc := 15) d_D_timesOf_15 rfl ?_
    refine ev_getfield (pc := 16) 1 d_D_timesOf_16 fl_D_15 h_r0 rfl ?_
    refine ev_iload (pc := 19) d_D_timesOf_19 rfl ?_
    refine ev_laload (pc := 21) d_D_timesOf_21 h_r0_terms rfl (in21_1 c12) ?_
    refine ev_lload_n (pc := 22) d_D_timesOf_22 rfl ?_
    refine ev_lcmp (pc := 23) d_D_timesOf_23 ?_
    refine ev_if_ne (pc := 24) 36 d_D_timesOf_24 (by decide) (fun c24 => ?_) (fun c24 => ?_)
    · refine ev_iinc (pc := 36) 3 1 d_D_timesOf_36 rfl (by decide) (Nat.le_of_ble_eq_true rfl) [1, 2, 3, 0] rfl ?_
      refine ev_goto (pc := 39) 5 d_D_timesOf_39 (by decide) ?_
      exact (k5_2 c12 c24)
    · refine ev_lload_n (pc := 27) d_D_timesOf_27 rfl ?_
      refine ev_lconst (pc := 28) 0 d_D_timesOf_28 (by decide) ?_
      refine ev_lcmp (pc := 29) d_D_timesOf_29 ?_
      refine ev_if_eq (pc := 30) 36 d_D_timesOf_30 (by decide) (fun c30 => ?_) (fun c30 => ?_)
      · refine ev_iinc (pc := 36) 3 1 d_D_timesOf_36 rfl (by decide) (Nat.le_of_ble_eq_true rfl) [1, 2, 3, 0] rfl ?_
        refine ev_goto (pc := 39) 5 d_D_timesOf_39 (by decide) ?_
        exact (k5_3 c12 c24 c30)
      · refine ev_iinc (pc := 33) 2 1 d_D_timesOf_33 rfl (by decide) (Nat.le_of_ble_eq_true rfl) [1, 2, 0, 3] rfl ?_
        refine ev_iinc (pc := 36) 3 1 d_D_timesOf_36 rfl (by decide) (Nat.le_of_ble_eq_true rfl) [1, 2, 3, 0] rfl ?_
        refine ev_goto (pc := 39) 5 d_D_timesOf_39 (by decide) ?_
        exact (k5_4 c12 c24 c30)
set_option maxRecDepth 100000 in
set_option maxHeartbeats 4000000 in
theorem s_Re_leastWeight_0 {l : Launch} {X : ev_X} {bc bs n : Nat} {F : ev_H} {Q : Option Value → Nat → ev_H → Prop} {r0 : Nat} {ir0_count : Int32} {r0p2_f : Nat → Int32} (h_r0 : F r0 = some (.inr (7, [.ref (r0 + 1), .ref (r0 + 2), .int ir0_count]))) (h_r0p2 : F (r0 + 2) = some (.inl (0, 12, .inl r0p2_f)))
    (q22_0 : (ir0_count ≤ 0) → Q (some (.int 0)) n F)
    (in17_1 : (¬ ir0_count ≤ 0) → vp_in (ir0_count - 1) 12)
    (q22_2 : (¬ ir0_count ≤ 0) → Q (some (.int (r0p2_f (ir0_count - 1).toNatClampNeg))) n F) :
    Ev l X M_Re_leastWeight bc bs 0 [(0, .ref r0)] [] n F (ev_mq X Q) := by
  refine ev_aload_n (pc := 0) d_Re_leastWeight_0 rfl ?_
  refine ev_getfield (pc := 1) 2 d_Re_leastWeight_1 fl_Re_18 h_r0 rfl ?_
  refine ev_if_le (pc := 4) 21 d_Re_leastWeight_4 (by decide) (fun c4 => ?_) (fun c4 => ?_)
  · refine ev_iconst (pc := 21) 0 d_Re_leastWeight_21 (by decide) ?_
    exact ev_ireturn (pc := 22) d_Re_leastWeight_22 rfl rfl (q22_0 c4)
  · refine ev_aload_n (pc := 7) d_Re_leastWeight_7 rfl ?_
    refine ev_getfield (pc := 8) 1 d_Re_leastWeight_8 fl_Re_15 h_r0 rfl ?_
    refine ev_aload_n (pc := 11) d_Re_leastWeight_11 rfl ?_
    refine ev_getfield (pc := 12) 2 d_Re_leastWeight_12 fl_Re_18 h_r0 rfl ?_
    refine ev_iconst (pc := 15) 1 d_Re_leastWeight_15 (by decide) ?_
    refine ev_isub (pc := 16) d_Re_leastWeight_16 ?_
    refine ev_iaload (pc := 17) d_Re_leastWeight_17 h_r0p2 rfl (in17_1 c4) ?_
    refine ev_goto (pc := 18) 22 d_Re_leastWeight_18 (by decide) ?_
    exact ev_ireturn (pc := 22) d_Re_leastWeight_22 rfl rfl (q22_2 c4)
set_option maxRecDepth 100000 in
set_option maxHeartbeats 4000000 in
theorem s_Re_has_0 {l : Launch} {X : ev_X} {bc bs n : Nat} {F : ev_H} {Q : Option Value → Nat → ev_H → Prop} {r0 : Nat} {i1 : Int32} {ir0_count : Int32} (h_r0 : F r0 = some (.inr (7, [.ref (r0 + 1), .ref (r0 + 2), .int ir0_count])))
    (q17_0 : (i1 < 0) → Q (some (.int 0)) n F)
    (q17_1 : (¬ i1 < 0) → (ir0_count ≤ i1) → Q (some (.int 0)) n F)
    (q17_2 : (¬ i1 < 0) → (¬ ir0_count ≤ i1) → Q (some (.int 1)) n F) :
    Ev l X M_Re_has bc bs 0 [(0, .ref r0), (1, .int i1)] [] n F (ev_mq X Q) := by
  refine ev_iload_n (pc := 0) d_Re_has_0 rfl ?_
  refine ev_if_lt (pc := 1) 16 d_Re_has_1 (by decide) (fun c1 => ?_) (fun c1 => ?_)
  · refine ev_iconst (pc := 16) 0 d_Re_has_16 (by decide) ?_
    exact ev_ireturn (pc := 17) d_Re_has_17 rfl rfl (q17_0 c1)
  · refine ev_iload_n (pc := 4) d_Re_has_4 rfl ?_
    refine ev_aload_n (pc := 5) d_Re_has_5 rfl ?_
    refine ev_getfield (pc := 6) 2 d_Re_has_6 fl_Re_18 h_r0 rfl ?_
    refine ev_icmp_ge (pc := 9) 16 d_Re_has_9 (by decide) (fun c9 => ?_) (fun c9 => ?_)
    · refine ev_iconst (pc := 16) 0 d_Re_has_16 (by decide) ?_
      exact ev_ireturn (pc := 17) d_Re_has_17 rfl rfl (q17_1 c1 c9)
    · refine ev_iconst (pc := 12) 1 d_Re_has_12 (by decide) ?_
      refine ev_goto (pc := 13) 17 d_Re_has_13 (by decide) ?_
      exact ev_ireturn (pc := 17) d_Re_has_17 rfl rfl (q17_2 c1 c9)
set_option maxRecDepth 100000 in
set_option maxHeartbeats 4000000 in
theorem s_D_differentTerms_0 {l : Launch} {X : ev_X} {bc bs n : Nat} {F : ev_H} {Q : Option Value → Nat → ev_H → Prop} {r0 : Nat} 
    (k4_0 : Ev l X M_D_differentTerms bc bs 4 [(0, .ref r0), (1, .int 0), (2, .int 0)] [] n F (ev_mq X Q)) :
    Ev l X M_D_differentTerms bc bs 0 [(0, .ref r0)] [] n F (ev_mq X Q) := by
  refine ev_iconst (pc := 0) 0 d_D_differentTerms_0 (by decide) ?_
  refine ev_istore_n (pc := 1) d_D_differentTerms_1 (Nat.le_of_ble_eq_true rfl) [1, 0] rfl ?_
  refine ev_iconst (pc := 2) 0 d_D_differentTerms_2 (by decide) ?_
  refine ev_istore_n (pc := 3) d_D_differentTerms_3 (Nat.le_of_ble_eq_true rfl) [1, 2, 0] rfl ?_
  exact k4_0

set_option maxRecDepth 100000 in
set_option maxHeartbeats 4000000 in
theorem s_D_differentTerms_4 {l : Launch} {X : ev_X} {bc bs n : Nat} {F : ev_H} {Q : Option Value → Nat → ev_H → Prop} {r0 : Nat} {i1 : Int32} {i2 : Int32} {ir0_id : Int32} {r0_terms : Nat} {r0_terms_n : Nat} {r0_terms_f : Nat → Int64} {v26 : Int32} (h_r0 : F r0 = some (.inr (8, [.int ir0_id, .ref r0_terms]))) (h_r0_terms : F r0_terms = some (.inl (1, r0_terms_n, .inr (.inl r0_terms_f))))
    (q42_0 : ((nI r0_terms_n) ≤ i2) → Q (some (.int i1)) n F)
    (in18_1 : (¬ (nI r0_terms_n) ≤ i2) → vp_in i2 r0_terms_n)
    (k4_2 : (¬ (nI r0_terms_n) ≤ i2) → ((lg_cmp (r0_terms_f i2.toNatClampNeg) 0) = 0) → Ev l X M_D_differentTerms bc bs 4 [(0, .ref r0), (1, .int i1), (2, .int (i2 + 1))] [] n F (ev_mq X Q))
    (c26_3 : (¬ (nI r0_terms_n) ≤ i2) → (¬ (lg_cmp (r0_terms_f i2.toNatClampNeg) 0) = 0) → Cal l X M_D_isFirst 0 0 [.ref r0, .int i2] n F (ev_pure (.int v26) n F))
    (k4_4 : (¬ (nI r0_terms_n) ≤ i2) → (¬ (lg_cmp (r0_terms_f i2.toNatClampNeg) 0) = 0) → (v26 = 0) → Ev l X M_D_differentTerms bc bs 4 [(0, .ref r0), (1, .int i1), (2, .int (i2 + 1))] [] n F (ev_mq X Q))
    (k4_5 : (¬ (nI r0_terms_n) ≤ i2) → (¬ (lg_cmp (r0_terms_f i2.toNatClampNeg) 0) = 0) → (¬ v26 = 0) → Ev l X M_D_differentTerms bc bs 4 [(0, .ref r0), (1, .int (i1 + 1)), (2, .int (i2 + 1))] [] n F (ev_mq X Q)) :
    Ev l X M_D_differentTerms bc bs 4 [(0, .ref r0), (1, .int i1), (2, .int i2)] [] n F (ev_mq X Q) := by
  refine ev_iload_n (pc := 4) d_D_differentTerms_4 rfl ?_
  refine ev_aload_n (pc := 5) d_D_differentTerms_5 rfl ?_
  refine ev_getfield (pc := 6) 1 d_D_differentTerms_6 fl_D_15 h_r0 rfl ?_
  refine ev_alen (pc := 9) d_D_differentTerms_9 h_r0_terms rfl ?_
  refine ev_icmp_ge (pc := 10) 41 d_D_differentTerms_10 (by decide) (fun c10 => ?_) (fun c10 => ?_)
  · refine ev_iload_n (pc := 41) d_D_differentTerms_41 rfl ?_
    exact ev_ireturn (pc := 42) d_D_differentTerms_42 rfl rfl (q42_0 c10)
  · refine ev_aload_n (pc := 13) d_D_differentTerms_13 rfl ?_
    refine ev_getfield (pc := 14) 1 d_D_differentTerms_14 fl_D_15 h_r0 rfl ?_
    refine ev_iload_n (pc := 17) d_D_differentTerms_17 rfl ?_
    refine ev_laload (pc := 18) d_D_differentTerms_18 h_r0_terms rfl (in18_1 c10) ?_
    refine ev_lconst (pc := 19) 0 d_D_differentTerms_19 (by decide) ?_
    refine ev_lcmp (pc := 20) d_D_differentTerms_20 ?_
    refine ev_if_eq (pc := 21) 35 d_D_differentTerms_21 (by decide) (fun c21 => ?_) (fun c21 => ?_)
    · refine ev_iinc (pc := 35) 2 1 d_D_differentTerms_35 rfl (by decide) (Nat.le_of_ble_eq_true rfl) [1, 2, 0] rfl ?_
      refine ev_goto (pc := 38) 4 d_D_differentTerms_38 (by decide) ?_
      exact (k4_2 c10 c21)
    · refine ev_aload_n (pc := 24) d_D_differentTerms_24 rfl ?_
      refine ev_iload_n (pc := 25) d_D_differentTerms_25 rfl ?_
      refine ev_invokevirtual (pc := 26) (As := [.int i2]) (st := []) (Q2 := ev_pure (.int v26) n F) (bc1 := 0) (bs1 := 0) M_D_isFirst rC8 d_D_differentTerms_26 lc_D_19 wd_888 wd_s31 rfl h_r0 rfl rfl (Nat.le_of_ble_eq_true rfl) (Nat.le_of_ble_eq_true rfl) (Nat.le_of_ble_eq_true rfl) (Nat.le_refl _) (Nat.le_refl _) (c26_3 c10 c21) ?_
      refine ev_purek ?_
      refine ev_if_eq (pc := 29) 35 d_D_differentTerms_29 (by decide) (fun c29 => ?_) (fun c29 => ?_)
      · refine ev_iinc (pc := 35) 2 1 d_D_differentTerms_35 rfl (by decide) (Nat.le_of_ble_eq_true rfl) [1, 2, 0] rfl ?_
        refine ev_goto (pc := 38) 4 d_D_differentTerms_38 (by decide) ?_
        exact (k4_4 c10 c21 c29)
      · refine ev_iinc (pc := 32) 1 1 d_D_differentTerms_32 rfl (by decide) (Nat.le_of_ble_eq_true rfl) [1, 0, 2] rfl ?_
        refine ev_iinc (pc := 35) 2 1 d_D_differentTerms_35 rfl (by decide) (Nat.le_of_ble_eq_true rfl) [1, 2, 0] rfl ?_
        refine ev_goto (pc := 38) 4 d_D_differentTerms_38 (by decide) ?_
        exact (k4_5 c10 c21 c29)
set_option maxRecDepth 100000 in
set_option maxHeartbeats 4000000 in
theorem s_D_isFirst_0 {l : Launch} {X : ev_X} {bc bs n : Nat} {F : ev_H} {Q : Option Value → Nat → ev_H → Prop} {r0 : Nat} {i1 : Int32} 
    (k2_0 : Ev l X M_D_isFirst bc bs 2 [(0, .ref r0), (1, .int i1), (2, .int 0)] [] n F (ev_mq X Q)) :
    Ev l X M_D_isFirst bc bs 0 [(0, .ref r0), (1, .int i1)] [] n F (ev_mq X Q) := by
  refine ev_iconst (pc := 0) 0 d_D_isFirst_0 (by decide) ?_
  refine ev_istore_n (pc := 1) d_D_isFirst_1 (Nat.le_of_ble_eq_true rfl) [1, 2, 0] rfl ?_
  exact k2_0

set_option maxRecDepth 100000 in
set_option maxHeartbeats 4000000 in
theorem s_D_isFirst_2 {l : Launch} {X : ev_X} {bc bs n : Nat} {F : ev_H} {Q : Option Value → Nat → ev_H → Prop} {r0 : Nat} {i1 : Int32} {i2 : Int32} {ir0_id : Int32} {r0_terms : Nat} {r0_terms_n : Nat} {r0_terms_f : Nat → Int64} (h_r0 : F r0 = some (.inr (8, [.int ir0_id, .ref r0_terms]))) (h_r0_terms : F r0_terms = some (.inl (1, r0_terms_n, .inr (.inl r0_terms_f))))
    (q32_0 : (i1 ≤ i2) → Q (some (.int 1)) n F)
    (in12_1 : (¬ i1 ≤ i2) → vp_in i2 r0_terms_n)
    (in18_2 : (¬ i1 ≤ i2) → vp_in i1 r0_terms_n)
    (k2_3 : (¬ i1 ≤ i2) → (¬ (lg_cmp (r0_terms_f i2.toNatClampNeg) (r0_terms_f i1.toNatClampNeg)) = 0) → Ev l X M_D_isFirst bc bs 2 [(0, .ref r0), (1, .int i1), (2, .int (i2 + 1))] [] n F (ev_mq X Q))
    (q24_4 : (¬ i1 ≤ i2) → ((lg_cmp (r0_terms_f i2.toNatClampNeg) (r0_terms_f i1.toNatClampNeg)) = 0) → Q (some (.int 0)) n F) :
    Ev l X M_D_isFirst bc bs 2 [(0, .ref r0), (1, .int i1), (2, .int i2)] [] n F (ev_mq X Q) := by
  refine ev_iload_n (pc := 2) d_D_isFirst_2 rfl ?_
  refine ev_iload_n (pc := 3) d_D_isFirst_3 rfl ?_
  refine ev_icmp_ge (pc := 4) 31 d_D_isFirst_4 (by decide) (fun c4 => ?_) (fun c4 => ?_)
  · refine ev_iconst (pc := 31) 1 d_D_isFirst_31 (by decide) ?_
    exact ev_ireturn (pc := 32) d_D_isFirst_32 rfl rfl (q32_0 c4)
  · refine ev_aload_n (pc := 7) d_D_isFirst_7 rfl ?_
    refine ev_getfield (pc := 8) 1 d_D_isFirst_8 fl_D_15 h_r0 rfl ?_
    refine ev_iload_n (pc := 11) d_D_isFirst_11 rfl ?_
    refine ev_laload (pc := 12) d_D_isFirst_12 h_r0_terms rfl (in12_1 c4) ?_
    refine ev_aload_n (pc := 13) d_D_isFirst_13 rfl ?_
    refine ev_getfield (pc := 14) 1 d_D_isFirst_14 fl_D_15 h_r0 rfl ?_
    refine ev_iload_n (pc := 17) d_D_isFirst_17 rfl ?_
    refine ev_laload (pc := 18) d_D_isFirst_18 h_r0_terms rfl (in18_2 c4) ?_
    refine ev_lcmp (pc := 19) d_D_isFirst_19 ?_
    refine ev_if_ne (pc := 20) 25 d_D_isFirst_20 (by decide) (fun c20 => ?_) (fun c20 => ?_)
    · refine ev_iinc (pc := 25) 2 1 d_D_isFirst_25 rfl (by decide) (Nat.le_of_ble_eq_true rfl) [1, 2, 0] rfl ?_
      refine ev_goto (pc := 28) 2 d_D_isFirst_28 (by decide) ?_
      exact (k2_3 c4 c20)
    · refine ev_iconst (pc := 23) 0 d_D_isFirst_23 (by decide) ?_
      exact ev_ireturn (pc := 24) d_D_isFirst_24 rfl rfl (q24_4 c4 c20)
