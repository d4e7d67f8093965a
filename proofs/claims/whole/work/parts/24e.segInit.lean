set_option maxRecDepth 100000 in
set_option maxHeartbeats 4000000 in
theorem s_Sg_initN_0 {l : Launch} {X : ev_X} {bc bs n : Nat} {F : ev_H} {Q : Option Value → Nat → ev_H → Prop} {r0 : Nat} {rc5 : Nat} {rs5 : Nat} {Q9 : Option Value → Nat → ev_H → Prop} {bc9 : Nat} {bs9 : Nat} {rc9 : Nat} {rs9 : Nat} (hb_rc5 : rc5 + 1 ≤ bc) (hs_rs5 : rs5 + 3 ≤ bs) (hb_rc9 : rc9 + bc9 ≤ rc5) (hs_rs9 : rs9 + bs9 ≤ rs5)
    (c9_0 : Cal l X M_AL_init bc9 bs9 [.ref n] (n + 1) (ev_up F n (.inr (12, [.null, .int 0, .int 0]))) Q9)
    (k12_1 : ∀ v2 n2 F2, Q9 v2 n2 F2 → Ev l X M_Sg_init rc9 rs9 12 [(0, .ref r0)] (v2.toList ++ [.ref n, .ref r0]) n2 F2 (ev_mq X Q)) :
    Ev l X M_Sg_init bc bs 0 [(0, .ref r0)] [] n F (ev_mq X Q) := by
  refine ev_aload_n (pc := 0) d_Sg_init_0 rfl ?_
  refine ev_objInit (pc := 1) d_Sg_init_1 wd_610 wd_33 wd_34 (Nat.le_of_ble_eq_true rfl) (Nat.le_of_ble_eq_true rfl) ?_
  refine ev_aload_n (pc := 4) d_Sg_init_4 rfl ?_
  refine ev_fresh fun fr5 => ?_
  refine ev_new (pc := 5) 12 [.null, .int 0, .int 0] d_Sg_init_5 ck_12 wd_611 wd_60 wd_6 (by decide +kernel) (bc2 := rc5) (bs2 := rs5) hb_rc5 hs_rs5 (fun F1_ hF1_ => ?_)
  have g2_ : F1_ n = some (.inr (12, [.null, .int 0, .int 0])) := by rw [← hF1_]; exact ev_up_s
  refine ev_dup (pc := 8) d_Sg_init_8 rfl ?_
  exact ev_init (pc := 9) (As := []) (st := [.ref n, .ref r0]) (Q2 := Q9) M_AL_init d_Sg_init_9 lc_Sg_9 rfl rfl wd_62 rfl rfl (Nat.le_of_ble_eq_true rfl) (Nat.le_of_ble_eq_true rfl) (Nat.le_of_ble_eq_true rfl) hb_rc9 hs_rs9 (by subst hF1_; exact c9_0) k12_1

set_option maxRecDepth 100000 in
set_option maxHeartbeats 4000000 in
theorem s_Sg_initN_12 {l : Launch} {X : ev_X} {bc bs n : Nat} {F : ev_H} {Q : Option Value → Nat → ev_H → Prop} {r0 : Nat} {rs1 : Nat} {ir0_deletedIds : Int32} (h_r0 : F r0 = some (.inr (9, [.null, .int ir0_deletedIds])))
    (q20_0 : Q none n (ev_up (ev_up F r0 (.inr (9, [.ref rs1, .int ir0_deletedIds]))) r0 (.inr (9, [.ref rs1, .int 0])))) :
    Ev l X M_Sg_init bc bs 12 [(0, .ref r0)] [.ref rs1, .ref r0] n F (ev_mq X Q) := by
  refine ev_putfield (pc := 12) 0 _ d_Sg_init_12 fl_Sg_10 h_r0 (ev_pfn (r0 := rC9) (ty := (.object "java/util/ArrayList")) rfl (Or.inr ⟨rfl, rfl, rfl⟩) (by decide +kernel)) rfl rfl (Nat.le_of_ble_eq_true rfl) (fun F1_ hF1_ => ?_)
  have g2_ : F1_ r0 = some (.inr (9, [.ref rs1, .int ir0_deletedIds])) := by rw [← hF1_]; exact ev_up_s
  refine ev_aload_n (pc := 15) d_Sg_init_15 rfl ?_
  refine ev_iconst (pc := 16) 0 d_Sg_init_16 (by decide) ?_
  refine ev_putfield (pc := 17) 1 _ d_Sg_init_17 fl_Sg_16 g2_ pf_9_deletedIds rfl rfl (Nat.le_of_ble_eq_true rfl) (fun F3_ hF3_ => ?_)
  have g4_ : F3_ r0 = some (.inr (9, [.ref rs1, .int 0])) := by rw [← hF3_]; exact ev_up_s
  exact ev_return (pc := 20) d_Sg_init_20 rfl (by subst hF1_ hF3_; exact q20_0)
set_option maxRecDepth 100000 in
set_option maxHeartbeats 4000000 in
theorem s_Pe_initN_0 {l : Launch} {X : ev_X} {bc bs n : Nat} {F : ev_H} {Q : Option Value → Nat → ev_H → Prop} {r0 : Nat} {rc5 : Nat} {rs5 : Nat} {Q9 : Option Value → Nat → ev_H → Prop} {bc9 : Nat} {bs9 : Nat} {rc9 : Nat} {rs9 : Nat} (hb_rc5 : rc5 + 1 ≤ bc) (hs_rs5 : rs5 + 3 ≤ bs) (hb_rc9 : rc9 + bc9 ≤ rc5) (hs_rs9 : rs9 + bs9 ≤ rs5)
    (c9_0 : Cal l X M_AL_init bc9 bs9 [.ref n] (n + 1) (ev_up F n (.inr (12, [.null, .int 0, .int 0]))) Q9)
    (k12_1 : ∀ v2 n2 F2, Q9 v2 n2 F2 → Ev l X M_Pe_init rc9 rs9 12 [(0, .ref r0)] (v2.toList ++ [.ref n, .ref r0]) n2 F2 (ev_mq X Q)) :
    Ev l X M_Pe_init bc bs 0 [(0, .ref r0)] [] n F (ev_mq X Q) := by
  refine ev_aload_n (pc := 0) d_Pe_init_0 rfl ?_
  refine ev_objInit (pc := 1) d_Pe_init_1 wd_58 wd_33 wd_34 (Nat.le_of_ble_eq_true rfl) (Nat.le_of_ble_eq_true rfl) ?_
  refine ev_aload_n (pc := 4) d_Pe_init_4 rfl ?_
  refine ev_fresh fun fr5 => ?_
  refine ev_new (pc := 5) 12 [.null, .int 0, .int 0] d_Pe_init_5 ck_12 wd_59 wd_60 wd_6 (by decide +kernel) (bc2 := rc5) (bs2 := rs5) hb_rc5 hs_rs5 (fun F1_ hF1_ => ?_)
  have g2_ : F1_ n = some (.inr (12, [.null, .int 0, .int 0])) := by rw [← hF1_]; exact ev_up_s
  refine ev_dup (pc := 8) d_Pe_init_8 rfl ?_
  exact ev_init (pc := 9) (As := []) (st := [.ref n, .ref r0]) (Q2 := Q9) M_AL_init d_Pe_init_9 lc_Pe_9 rfl rfl wd_62 rfl rfl (Nat.le_of_ble_eq_true rfl) (Nat.le_of_ble_eq_true rfl) (Nat.le_of_ble_eq_true rfl) hb_rc9 hs_rs9 (by subst hF1_; exact c9_0) k12_1

set_option maxRecDepth 100000 in
set_option maxHeartbeats 4000000 in
theorem s_Pe_initN_12 {l : Launch} {X : ev_X} {bc bs n : Nat} {F : ev_H} {Q : Option Value → Nat → ev_H → Prop} {r0 : Nat} {rs1 : Nat} {ir0_ids : Int32} (h_r0 : F r0 = some (.inr (2, [.null, .int ir0_ids])))
    (q20_0 : Q none n (ev_up (ev_up F r0 (.inr (2, [.ref rs1, .int ir0_ids]))) r0 (.inr (2, [.ref rs1, .int 0])))) :
    Ev l X M_Pe_init bc bs 12 [(0, .ref r0)] [.ref rs1, .ref r0] n F (ev_mq X Q) := by
  refine ev_putfield (pc := 12) 0 _ d_Pe_init_12 fl_Pe_10 h_r0 (ev_pfn (r0 := rC2) (ty := (.object "java/util/ArrayList")) rfl (Or.inr ⟨rfl, rfl, rfl⟩) (by decide +kernel)) rfl rfl (Nat.le_of_ble_eq_true rfl) (fun F1_ hF1_ => ?_)
  have g2_ : F1_ r0 = some (.inr (2, [.ref rs1, .int ir0_ids])) := by rw [← hF1_]; exact ev_up_s
  refine ev_aload_n (pc := 15) d_Pe_init_15 rfl ?_
  refine ev_iconst (pc := 16) 0 d_Pe_init_16 (by decide) ?_
  refine ev_putfield (pc := 17) 1 _ d_Pe_init_17 fl_Pe_16 g2_ pf_2_ids rfl rfl (Nat.le_of_ble_eq_true rfl) (fun F3_ hF3_ => ?_)
  have g4_ : F3_ r0 = some (.inr (2, [.ref rs1, .int 0])) := by rw [← hF3_]; exact ev_up_s
  exact ev_return (pc := 20) d_Pe_init_20 rfl (by subst hF1_ hF3_; exact q20_0)
set_option maxRecDepth 100000 in
set_option maxHeartbeats 4000000 in
theorem s_Qs_initN_0 {l : Launch} {X : ev_X} {bc bs n : Nat} {F : ev_H} {Q : Option Value → Nat → ev_H → Prop} {r0 : Nat} {rc5 : Nat} {rs5 : Nat} {Q9 : Option Value → Nat → ev_H → Prop} {bc9 : Nat} {bs9 : Nat} {rc9 : Nat} {rs9 : Nat} (hb_rc5 : rc5 + 1 ≤ bc) (hs_rs5 : rs5 + 3 ≤ bs) (hb_rc9 : rc9 + bc9 ≤ rc5) (hs_rs9 : rs9 + bs9 ≤ rs5)
    (c9_0 : Cal l X M_AL_init bc9 bs9 [.ref n] (n + 1) (ev_up F n (.inr (12, [.null, .int 0, .int 0]))) Q9)
    (k12_1 : ∀ v2 n2 F2, Q9 v2 n2 F2 → Ev l X M_Qs_init rc9 rs9 12 [(0, .ref r0)] (v2.toList ++ [.ref n, .ref r0]) n2 F2 (ev_mq X Q)) :
    Ev l X M_Qs_init bc bs 0 [(0, .ref r0)] [] n F (ev_mq X Q) := by
  refine ev_aload_n (pc := 0) d_Qs_init_0 rfl ?_
  refine ev_objInit (pc := 1) d_Qs_init_1 wd_138 wd_33 wd_34 (Nat.le_of_ble_eq_true rfl) (Nat.le_of_ble_eq_true rfl) ?_
  refine ev_aload_n (pc := 4) d_Qs_init_4 rfl ?_
  refine ev_fresh fun fr5 => ?_
  refine ev_new (pc := 5) 12 [.null, .int 0, .int 0] d_Qs_init_5 ck_12 wd_139 wd_60 wd_6 (by decide +kernel) (bc2 := rc5) (bs2 := rs5) hb_rc5 hs_rs5 (fun F1_ hF1_ => ?_)
  have g2_ : F1_ n = some (.inr (12, [.null, .int 0, .int 0])) := by rw [← hF1_]; exact ev_up_s
  refine ev_dup (pc := 8) d_Qs_init_8 rfl ?_
  exact ev_init (pc := 9) (As := []) (st := [.ref n, .ref r0]) (Q2 := Q9) M_AL_init d_Qs_init_9 lc_Qs_11 rfl rfl wd_62 rfl rfl (Nat.le_of_ble_eq_true rfl) (Nat.le_of_ble_eq_true rfl) (Nat.le_of_ble_eq_true rfl) hb_rc9 hs_rs9 (by subst hF1_; exact c9_0) k12_1

set_option maxRecDepth 100000 in
set_option maxHeartbeats 4000000 in
theorem s_Qs_initN_12 {l : Launch} {X : ev_X} {bc bs n : Nat} {F : ev_H} {Q : Option Value → Nat → ev_H → Prop} {r0 : Nat} {rs1 : Nat} {ir0_height : Int32} {rc18 : Nat} {rs18 : Nat} (h_r0 : F r0 = some (.inr (5, [.null, .null, .int ir0_height]))) (hb_rc18 : rc18 + 1 ≤ bc) (hs_rs18 : rs18 + 8 ≤ bs)
    (q28_0 : Q none (n + 1) (ev_up (ev_up (ev_up (ev_up F r0 (.inr (5, [.ref rs1, .null, .int ir0_height]))) n (.inl (0, 8, .inl (fun _ => 0)))) r0 (.inr (5, [.ref rs1, .ref n, .int ir0_height]))) r0 (.inr (5, [.ref rs1, .ref n, .int 0])))) :
    Ev l X M_Qs_init bc bs 12 [(0, .ref r0)] [.ref rs1, .ref r0] n F (ev_mq X Q) := by
  refine ev_putfield (pc := 12) 0 _ d_Qs_init_12 fl_Qs_12 h_r0 (ev_pfn (r0 := rC5) (ty := (.object "java/util/ArrayList")) rfl (Or.inr ⟨rfl, rfl, rfl⟩) (by decide +kernel)) rfl rfl (Nat.le_of_ble_eq_true rfl) (fun F1_ hF1_ => ?_)
  have g2_ : F1_ r0 = some (.inr (5, [.ref rs1, .null, .int ir0_height])) := by rw [← hF1_]; exact ev_up_s
  refine ev_aload_n (pc := 15) d_Qs_init_15 rfl ?_
  refine ev_bipush (pc := 16) 8 d_Qs_init_16 (by decide) ?_
  refine ev_fresh fun fr18 => ?_
  refine ev_newarray (pc := 18) 0 8 (8, .inl (fun _ => 0)) d_Qs_init_18 wd_153 rfl rfl (fun _ _ h => h) (fun _ => rfl) (by decide) (by decide) (by decide) (bc2 := rc18) (bs2 := rs18) hb_rc18 hs_rs18 (fun F3_ hF3_ => ?_)
  have g4_ : F3_ r0 = some (.inr (5, [.ref rs1, .null, .int ir0_height])) := by rw [← hF3_]; exact ev_up_k (ev_nf g2_ (fr18 _ (Nat.le_refl _))) g2_
  have g5_ : F3_ n = some (.inl (0, 8, .inl (fun _ => 0))) := by rw [← hF3_]; exact ev_up_s
  refine ev_putfield (pc := 20) 1 _ d_Qs_init_20 fl_Qs_18 g4_ (ev_pfn (r0 := rC5) (ty := (.array .int)) rfl (Or.inr ⟨rfl, rfl, rfl⟩) (by decide +kernel)) rfl rfl (Nat.le_of_ble_eq_true rfl) (fun F6_ hF6_ => ?_)
  have g7_ : F6_ n = some (.inl (0, 8, .inl (fun _ => 0))) := by rw [← hF6_]; exact ev_up_k (ev_ne_ao g5_ g4_) g5_
  have g8_ : F6_ r0 = some (.inr (5, [.ref rs1, .ref n, .int ir0_height])) := by rw [← hF6_]; exact ev_up_s
  refine ev_aload_n (pc := 23) d_Qs_init_23 rfl ?_
  refine ev_iconst (pc := 24) 0 d_Qs_init_24 (by decide) ?_
  refine ev_putfield (pc := 25) 2 _ d_Qs_init_25 fl_Qs_22 g8_ pf_5_height rfl rfl (Nat.le_of_ble_eq_true rfl) (fun F9_ hF9_ => ?_)
  have g10_ : F9_ n = some (.inl (0, 8, .inl (fun _ => 0))) := by rw [← hF9_]; exact ev_up_k (ev_ne_ao g7_ g8_) g7_
  have g11_ : F9_ r0 = some (.inr (5, [.ref rs1, .ref n, .int 0])) := by rw [← hF9_]; exact ev_up_s
  exact ev_return (pc := 28) d_Qs_init_28 rfl (by subst hF1_ hF3_ hF6_ hF9_; exact q28_0)
set_option maxRecDepth 100000 in
set_option maxHeartbeats 4000000 in
theorem s_Sh_initN_0 {l : Launch} {X : ev_X} {bc bs n : Nat} {F : ev_H} {Q : Option Value → Nat → ev_H → Prop} {r0 : Nat} {rc5 : Nat} {rs5 : Nat} {Q9 : Option Value → Nat → ev_H → Prop} {bc9 : Nat} {bs9 : Nat} {rc9 : Nat} {rs9 : Nat} (hb_rc5 : rc5 + 1 ≤ bc) (hs_rs5 : rs5 + 3 ≤ bs) (hb_rc9 : rc9 + bc9 ≤ rc5) (hs_rs9 : rs9 + bs9 ≤ rs5)
    (c9_0 : Cal l X M_AL_init bc9 bs9 [.ref n] (n + 1) (ev_up F n (.inr (12, [.null, .int 0, .int 0]))) Q9)
    (k12_1 : ∀ v2 n2 F2, Q9 v2 n2 F2 → Ev l X M_Sh_init rc9 rs9 12 [(0, .ref r0)] (v2.toList ++ [.ref n, .ref r0]) n2 F2 (ev_mq X Q)) :
    Ev l X M_Sh_init bc bs 0 [(0, .ref r0)] [] n F (ev_mq X Q) := by
  refine ev_aload_n (pc := 0) d_Sh_init_0 rfl ?_
  refine ev_objInit (pc := 1) d_Sh_init_1 wd_102 wd_33 wd_34 (Nat.le_of_ble_eq_true rfl) (Nat.le_of_ble_eq_true rfl) ?_
  refine ev_aload_n (pc := 4) d_Sh_init_4 rfl ?_
  refine ev_fresh fun fr5 => ?_
  refine ev_new (pc := 5) 12 [.null, .int 0, .int 0] d_Sh_init_5 ck_12 wd_103 wd_60 wd_6 (by decide +kernel) (bc2 := rc5) (bs2 := rs5) hb_rc5 hs_rs5 (fun F1_ hF1_ => ?_)
  have g2_ : F1_ n = some (.inr (12, [.null, .int 0, .int 0])) := by rw [← hF1_]; exact ev_up_s
  refine ev_dup (pc := 8) d_Sh_init_8 rfl ?_
  exact ev_init (pc := 9) (As := []) (st := [.ref n, .ref r0]) (Q2 := Q9) M_AL_init d_Sh_init_9 lc_Sh_9 rfl rfl wd_62 rfl rfl (Nat.le_of_ble_eq_true rfl) (Nat.le_of_ble_eq_true rfl) (Nat.le_of_ble_eq_true rfl) hb_rc9 hs_rs9 (by subst hF1_; exact c9_0) k12_1

set_option maxRecDepth 100000 in
set_option maxHeartbeats 4000000 in
theorem s_Sh_initN_12 {l : Launch} {X : ev_X} {bc bs n : Nat} {F : ev_H} {Q : Option Value → Nat → ev_H → Prop} {r0 : Nat} {rs1 : Nat} {rc16 : Nat} {rs16 : Nat} {Q20 : Option Value → Nat → ev_H → Prop} {bc20 : Nat} {bs20 : Nat} {rc20 : Nat} {rs20 : Nat} (h_r0 : F r0 = some (.inr (3, [.null, .null]))) (hb_rc16 : rc16 + 1 ≤ bc) (hs_rs16 : rs16 + 3 ≤ bs) (hb_rc20 : rc20 + bc20 ≤ rc16) (hs_rs20 : rs20 + bs20 ≤ rs16)
    (c20_0 : Cal l X M_AL_init bc20 bs20 [.ref n] (n + 1) (ev_up (ev_up F r0 (.inr (3, [.ref rs1, .null]))) n (.inr (12, [.null, .int 0, .int 0]))) Q20)
    (k23_1 : ∀ v2 n2 F2, Q20 v2 n2 F2 → Ev l X M_Sh_init rc20 rs20 23 [(0, .ref r0)] (v2.toList ++ [.ref n, .ref r0]) n2 F2 (ev_mq X Q)) :
    Ev l X M_Sh_init bc bs 12 [(0, .ref r0)] [.ref rs1, .ref r0] n F (ev_mq X Q) := by
  refine ev_putfield (pc := 12) 0 _ d_Sh_init_12 fl_Sh_10 h_r0 (ev_pfn (r0 := rC3) (ty := (.object "java/util/ArrayList")) rfl (Or.inr ⟨rfl, rfl, rfl⟩) (by decide +kernel)) rfl rfl (Nat.le_of_ble_eq_true rfl) (fun F1_ hF1_ => ?_)
  have g2_ : F1_ r0 = some (.inr (3, [.ref rs1, .null])) := by rw [← hF1_]; exact ev_up_s
  refine ev_aload_n (pc := 15) d_Sh_init_15 rfl ?_
  refine ev_fresh fun fr16 => ?_
  refine ev_new (pc := 16) 12 [.null, .int 0, .int 0] d_Sh_init_16 ck_12 wd_103 wd_60 wd_6 (by decide +kernel) (bc2 := rc16) (bs2 := rs16) hb_rc16 hs_rs16 (fun F3_ hF3_ => ?_)
  have g4_ : F3_ r0 = some (.inr (3, [.ref rs1, .null])) := by rw [← hF3_]; exact ev_up_k (ev_nf g2_ (fr16 _ (Nat.le_refl _))) g2_
  have g5_ : F3_ n = some (.inr (12, [.null, .int 0, .int 0])) := by rw [← hF3_]; exact ev_up_s
  refine ev_dup (pc := 19) d_Sh_init_19 rfl ?_
  exact ev_init (pc := 20) (As := []) (st := [.ref n, .ref r0]) (Q2 := Q20) M_AL_init d_Sh_init_20 lc_Sh_9 rfl rfl wd_62 rfl rfl (Nat.le_of_ble_eq_true rfl) (Nat.le_of_ble_eq_true rfl) (Nat.le_of_ble_eq_true rfl) hb_rc20 hs_rs20 (by subst hF1_ hF3_; exact c20_0) k23_1

set_option maxRecDepth 100000 in
set_option maxHeartbeats 4000000 in
theorem s_Sh_initN_23 {l : Launch} {X : ev_X} {bc bs n : Nat} {F : ev_H} {Q : Option Value → Nat → ev_H → Prop} {r0 : Nat} {rs1 : Nat} (h_r0 : F r0 = some (.inr (3, [.ref (r0 + 1), .null])))
    (q26_0 : Q none n (ev_up F r0 (.inr (3, [.ref (r0 + 1), .ref rs1])))) :
    Ev l X M_Sh_init bc bs 23 [(0, .ref r0)] [.ref rs1, .ref r0] n F (ev_mq X Q) := by
  refine ev_putfield (pc := 23) 1 _ d_Sh_init_23 fl_Sh_16 h_r0 (ev_pfn (r0 := rC3) (ty := (.object "java/util/ArrayList")) rfl (Or.inr ⟨rfl, rfl, rfl⟩) (by decide +kernel)) rfl rfl (Nat.le_of_ble_eq_true rfl) (fun F1_ hF1_ => ?_)
  have g2_ : F1_ r0 = some (.inr (3, [.ref (r0 + 1), .ref rs1])) := by rw [← hF1_]; exact ev_up_s
  exact ev_return (pc := 26) d_Sh_init_26 rfl (by subst hF1_; exact q26_0)
set_option maxRecDepth 100000 in
set_option maxHeartbeats 4000000 in
theorem s_P_initN_0 {l : Launch} {X : ev_X} {bc bs n : Nat} {F : ev_H} {Q : Option Value → Nat → ev_H → Prop} {r0 : Nat} {rc5 : Nat} {rs5 : Nat} {Q9 : Option Value → Nat → ev_H → Prop} {bc9 : Nat} {bs9 : Nat} {rc9 : Nat} {rs9 : Nat} (hb_rc5 : rc5 + 1 ≤ bc) (hs_rs5 : rs5 + 3 ≤ bs) (hb_rc9 : rc9 + bc9 ≤ rc5) (hs_rs9 : rs9 + bs9 ≤ rs5)
    (c9_0 : Cal l X M_St_init bc9 bs9 [.ref n] (n + 1) (ev_up F n (.inr (1, [.null, .null, .int 0]))) Q9)
    (k12_1 : ∀ v2 n2 F2, Q9 v2 n2 F2 → Ev l X M_P_init rc9 rs9 12 [(0, .ref r0)] (v2.toList ++ [.ref n, .ref r0]) n2 F2 (ev_mq X Q)) :
    Ev l X M_P_init bc bs 0 [(0, .ref r0)] [] n F (ev_mq X Q) := by
  refine ev_aload_n (pc := 0) d_P_init_0 rfl ?_
  refine ev_objInit (pc := 1) d_P_init_1 wd_32 wd_33 wd_34 (Nat.le_of_ble_eq_true rfl) (Nat.le_of_ble_eq_true rfl) ?_
  refine ev_aload_n (pc := 4) d_P_init_4 rfl ?_
  refine ev_fresh fun fr5 => ?_
  refine ev_new (pc := 5) 1 [.null, .null, .int 0] d_P_init_5 ck_1 wd_35 wd_36 wd_2 (by decide +kernel) (bc2 := rc5) (bs2 := rs5) hb_rc5 hs_rs5 (fun F1_ hF1_ => ?_)
  have g2_ : F1_ n = some (.inr (1, [.null, .null, .int 0])) := by rw [← hF1_]; exact ev_up_s
  refine ev_dup (pc := 8) d_P_init_8 rfl ?_
  exact ev_init (pc := 9) (As := []) (st := [.ref n, .ref r0]) (Q2 := Q9) M_St_init d_P_init_9 lc_P_9 rfl rfl wd_38 rfl rfl (Nat.le_of_ble_eq_true rfl) (Nat.le_of_ble_eq_true rfl) (Nat.le_of_ble_eq_true rfl) hb_rc9 hs_rs9 (by subst hF1_; exact c9_0) k12_1

set_option maxRecDepth 100000 in
set_option maxHeartbeats 4000000 in
theorem s_P_initN_12 {l : Launch} {X : ev_X} {bc bs n : Nat} {F : ev_H} {Q : Option Value → Nat → ev_H → Prop} {r0 : Nat} {rs1 : Nat} {ir0_draftWords : Int32} {rc18 : Nat} {rs18 : Nat} {rc29 : Nat} {rs29 : Nat} {Q33 : Option Value → Nat → ev_H → Prop} {bc33 : Nat} {bs33 : Nat} {rc33 : Nat} {rs33 : Nat} (h_r0 : F r0 = some (.inr (0, [.null, .null, .int ir0_draftWords, .null, .null, .null, .null, .null, .null]))) (hb_rc18 : rc18 + 1 ≤ bc) (hs_rs18 : rs18 + 12 ≤ bs) (hb_rc29 : rc29 + 1 ≤ rc18) (hs_rs29 : rs29 + 2 ≤ rs18) (hb_rc33 : rc33 + bc33 ≤ rc29) (hs_rs33 : rs33 + bs33 ≤ rs29)
    (c33_0 : Cal l X M_Pe_init bc33 bs33 [.ref (n + 1)] (n + 2) (ev_up (ev_up (ev_up (ev_up (ev_up F r0 (.inr (0, [.ref rs1, .null, .int ir0_draftWords, .null, .null, .null, .null, .null, .null]))) n (.inl (1, 12, .inr (.inl (fun _ => 0))))) r0 (.inr (0, [.ref rs1, .ref n, .int ir0_draftWords, .null, .null, .null, .null, .null, .null]))) r0 (.inr (0, [.ref rs1, .ref n, .int 0, .null, .null, .null, .null, .null, .null]))) (n + 1) (.inr (2, [.null, .int 0]))) Q33)
    (k36_1 : ∀ v2 n2 F2, Q33 v2 n2 F2 → Ev l X M_P_init rc33 rs33 36 [(0, .ref r0)] (v2.toList ++ [.ref (n + 1), .ref r0]) n2 F2 (ev_mq X Q)) :
    Ev l X M_P_init bc bs 12 [(0, .ref r0)] [.ref rs1, .ref r0] n F (ev_mq X Q) := by
  refine ev_putfield (pc := 12) 0 _ d_P_init_12 fl_P_10 h_r0 (ev_pfn (r0 := rC0) (ty := (.object "PostingShelf$Stemmer")) rfl (Or.inr ⟨rfl, rfl, rfl⟩) (by decide +kernel)) rfl rfl (Nat.le_of_ble_eq_true rfl) (fun F1_ hF1_ => ?_)
  have g2_ : F1_ r0 = some (.inr (0, [.ref rs1, .null, .int ir0_draftWords, .null, .null, .null, .null, .null, .null])) := by rw [← hF1_]; exact ev_up_s
  refine ev_aload_n (pc := 15) d_P_init_15 rfl ?_
  refine ev_bipush (pc := 16) 12 d_P_init_16 (by decide) ?_
  refine ev_fresh fun fr18 => ?_
  refine ev_newarray (pc := 18) 1 12 (12, .inr (.inl (fun _ => 0))) d_P_init_18 wd_85 rfl rfl (fun _ _ h => h) (fun _ => rfl) (by decide) (by decide) (by decide) (bc2 := rc18) (bs2 := rs18) hb_rc18 hs_rs18 (fun F3_ hF3_ => ?_)
  have g4_ : F3_ r0 = some (.inr (0, [.ref rs1, .null, .int ir0_draftWords, .null, .null, .null, .null, .null, .null])) := by rw [← hF3_]; exact ev_up_k (ev_nf g2_ (fr18 _ (Nat.le_refl _))) g2_
  have g5_ : F3_ n = some (.inl (1, 12, .inr (.inl (fun _ => 0)))) := by rw [← hF3_]; exact ev_up_s
  refine ev_putfield (pc := 20) 1 _ d_P_init_20 fl_P_16 g4_ (ev_pfn (r0 := rC0) (ty := (.array .long)) rfl (Or.inr ⟨rfl, rfl, rfl⟩) (by decide +kernel)) rfl rfl (Nat.le_of_ble_eq_true rfl) (fun F6_ hF6_ => ?_)
  have g7_ : F6_ n = some (.inl (1, 12, .inr (.inl (fun _ => 0)))) := by rw [← hF6_]; exact ev_up_k (ev_ne_ao g5_ g4_) g5_
  have g8_ : F6_ r0 = some (.inr (0, [.ref rs1, .ref n, .int ir0_draftWords, .null, .null, .null, .null, .null, .null])) := by rw [← hF6_]; exact ev_up_s
  refine ev_aload_n (pc := 23) d_P_init_23 rfl ?_
  refine ev_iconst (pc := 24) 0 d_P_init_24 (by decide) ?_
  refine ev_putfield (pc := 25) 2 _ d_P_init_25 fl_P_20 g8_ pf_0_draftWords rfl rfl (Nat.le_of_ble_eq_true rfl) (fun F9_ hF9_ => ?_)
  have g10_ : F9_ n = some (.inl (1, 12, .inr (.inl (fun _ => 0)))) := by rw [← hF9_]; exact ev_up_k (ev_ne_ao g7_ g8_) g7_
  have g11_ : F9_ r0 = some (.inr (0, [.ref rs1, .ref n, .int 0, .null, .null, .null, .null, .null, .null])) := by rw [← hF9_]; exact ev_up_s
  refine ev_aload_n (pc := 28) d_P_init_28 rfl ?_
  refine ev_fresh fun fr29 => ?_
  refine ev_new (pc := 29) 2 [.null, .int 0] d_P_init_29 ck_2 wd_53 wd_54 wd_3 (by decide +kernel) (bc2 := rc29) (bs2 := rs29) hb_rc29 hs_rs29 (fun F12_ hF12_ => ?_)
  have g13_ : F12_ n = some (.inl (1, 12, .inr (.inl (fun _ => 0)))) := by rw [← hF12_]; exact ev_up_k (ev_nf g10_ (fr29 _ (Nat.le_refl _))) g10_
  have g14_ : F12_ r0 = some (.inr (0, [.ref rs1, .ref n, .int 0, .null, .null, .null, .null, .null, .null])) := by rw [← hF12_]; exact ev_up_k (ev_nf g11_ (fr29 _ (Nat.le_refl _))) g11_
  have g15_ : F12_ (n + 1) = some (.inr (2, [.null, .int 0])) := by rw [← hF12_]; exact ev_up_s
  refine ev_dup (pc := 32) d_P_init_32 rfl ?_
  exact ev_init (pc := 33) (As := []) (st := [.ref (n + 1), .ref r0]) (Q2 := Q33) M_Pe_init d_P_init_33 lc_P_26 rfl rfl wd_56 rfl rfl (Nat.le_of_ble_eq_true rfl) (Nat.le_of_ble_eq_true rfl) (Nat.le_of_ble_eq_true rfl) hb_rc33 hs_rs33 (by subst hF1_ hF3_ hF6_ hF9_ hF12_; exact c33_0) k36_1

set_option maxRecDepth 100000 in
set_option maxHeartbeats 4000000 in
theorem s_P_initN_36 {l : Launch} {X : ev_X} {bc bs n : Nat} {F : ev_H} {Q : Option Value → Nat → ev_H → Prop} {r0 : Nat} {rs1 : Nat} {ir0_draftWords : Int32} {rc40 : Nat} {rs40 : Nat} {Q44 : Option Value → Nat → ev_H → Prop} {bc44 : Nat} {bs44 : Nat} {rc44 : Nat} {rs44 : Nat} (h_r0 : F r0 = some (.inr (0, [.ref (r0 + 1), .ref (r0 + 4), .int ir0_draftWords, .null, .null, .null, .null, .null, .null]))) (hb_rc40 : rc40 + 1 ≤ bc) (hs_rs40 : rs40 + 2 ≤ bs) (hb_rc44 : rc44 + bc44 ≤ rc40) (hs_rs44 : rs44 + bs44 ≤ rs40)
    (c44_0 : Cal l X M_Sh_init bc44 bs44 [.ref n] (n + 1) (ev_up (ev_up F r0 (.inr (0, [.ref (r0 + 1), .ref (r0 + 4), .int ir0_draftWords, .ref rs1, .null, .null, .null, .null, .null]))) n (.inr (3, [.null, .null]))) Q44)
    (k47_1 : ∀ v2 n2 F2, Q44 v2 n2 F2 → Ev l X M_P_init rc44 rs44 47 [(0, .ref r0)] (v2.toList ++ [.ref n, .ref r0]) n2 F2 (ev_mq X Q)) :
    Ev l X M_P_init bc bs 36 [(0, .ref r0)] [.ref rs1, .ref r0] n F (ev_mq X Q) := by
  refine ev_putfield (pc := 36) 3 _ d_P_init_36 fl_P_27 h_r0 (ev_pfn (r0 := rC0) (ty := (.object "PostingShelf$Pending")) rfl (Or.inr ⟨rfl, rfl, rfl⟩) (by decide +kernel)) rfl rfl (Nat.le_of_ble_eq_true rfl) (fun F1_ hF1_ => ?_)
  have g2_ : F1_ r0 = some (.inr (0, [.ref (r0 + 1), .ref (r0 + 4), .int ir0_draftWords, .ref rs1, .null, .null, .null, .null, .null])) := by rw [← hF1_]; exact ev_up_s
  refine ev_aload_n (pc := 39) d_P_init_39 rfl ?_
  refine ev_fresh fun fr40 => ?_
  refine ev_new (pc := 40) 3 [.null, .null] d_P_init_40 ck_3 wd_97 wd_98 wd_7 (by decide +kernel) (bc2 := rc40) (bs2 := rs40) hb_rc40 hs_rs40 (fun F3_ hF3_ => ?_)
  have g4_ : F3_ r0 = some (.inr (0, [.ref (r0 + 1), .ref (r0 + 4), .int ir0_draftWords, .ref rs1, .null, .null, .null, .null, .null])) := by rw [← hF3_]; exact ev_up_k (ev_nf g2_ (fr40 _ (Nat.le_refl _))) g2_
  have g5_ : F3_ n = some (.inr (3, [.null, .null])) := by rw [← hF3_]; exact ev_up_s
  refine ev_dup (pc := 43) d_P_init_43 rfl ?_
  exact ev_init (pc := 44) (As := []) (st := [.ref n, .ref r0]) (Q2 := Q44) M_Sh_init d_P_init_44 lc_P_33 rfl rfl wd_100 rfl rfl (Nat.le_of_ble_eq_true rfl) (Nat.le_of_ble_eq_true rfl) (Nat.le_of_ble_eq_true rfl) hb_rc44 hs_rs44 (by subst hF1_ hF3_; exact c44_0) k47_1

set_option maxRecDepth 100000 in
set_option maxHeartbeats 4000000 in
theorem s_P_initN_47 {l : Launch} {X : ev_X} {bc bs n : Nat} {F : ev_H} {Q : Option Value → Nat → ev_H → Prop} {r0 : Nat} {rs1 : Nat} {ir0_draftWords : Int32} {rc51 : Nat} {rs51 : Nat} {Q55 : Option Value → Nat → ev_H → Prop} {bc55 : Nat} {bs55 : Nat} {rc55 : Nat} {rs55 : Nat} (h_r0 : F r0 = some (.inr (0, [.ref (r0 + 1), .ref (r0 + 4), .int ir0_draftWords, .ref (r0 + 5), .null, .null, .null, .null, .null]))) (hb_rc51 : rc51 + 1 ≤ bc) (hs_rs51 : rs51 + 3 ≤ bs) (hb_rc55 : rc55 + bc55 ≤ rc51) (hs_rs55 : rs55 + bs55 ≤ rs51)
    (c55_0 : Cal l X M_Ma_init bc55 bs55 [.ref n] (n + 1) (ev_up (ev_up F r0 (.inr (0, [.ref (r0 + 1), .ref (r0 + 4), .int ir0_draftWords, .ref (r0 + 5), .ref rs1, .null, .null, .null, .null]))) n (.inr (4, [.int 0, .int 0, .int 0]))) Q55)
    (k58_1 : ∀ v2 n2 F2, Q55 v2 n2 F2 → Ev l X M_P_init rc55 rs55 58 [(0, .ref r0)] (v2.toList ++ [.ref n, .ref r0]) n2 F2 (ev_mq X Q)) :
    Ev l X M_P_init bc bs 47 [(0, .ref r0)] [.ref rs1, .ref r0] n F (ev_mq X Q) := by
  refine ev_putfield (pc := 47) 4 _ d_P_init_47 fl_P_34 h_r0 (ev_pfn (r0 := rC0) (ty := (.object "PostingShelf$Shelf")) rfl (Or.inr ⟨rfl, rfl, rfl⟩) (by decide +kernel)) rfl rfl (Nat.le_of_ble_eq_true rfl) (fun F1_ hF1_ => ?_)
  have g2_ : F1_ r0 = some (.inr (0, [.ref (r0 + 1), .ref (r0 + 4), .int ir0_draftWords, .ref (r0 + 5), .ref rs1, .null, .null, .null, .null])) := by rw [← hF1_]; exact ev_up_s
  refine ev_aload_n (pc := 50) d_P_init_50 rfl ?_
  refine ev_fresh fun fr51 => ?_
  refine ev_new (pc := 51) 4 [.int 0, .int 0, .int 0] d_P_init_51 ck_4 wd_114 wd_115 wd_8 (by decide +kernel) (bc2 := rc51) (bs2 := rs51) hb_rc51 hs_rs51 (fun F3_ hF3_ => ?_)
  have g4_ : F3_ r0 = some (.inr (0, [.ref (r0 + 1), .ref (r0 + 4), .int ir0_draftWords, .ref (r0 + 5), .ref rs1, .null, .null, .null, .null])) := by rw [← hF3_]; exact ev_up_k (ev_nf g2_ (fr51 _ (Nat.le_refl _))) g2_
  have g5_ : F3_ n = some (.inr (4, [.int 0, .int 0, .int 0])) := by rw [← hF3_]; exact ev_up_s
  refine ev_dup (pc := 54) d_P_init_54 rfl ?_
  exact ev_init (pc := 55) (As := []) (st := [.ref n, .ref r0]) (Q2 := Q55) M_Ma_init d_P_init_55 lc_P_40 rfl rfl wd_117 rfl rfl (Nat.le_of_ble_eq_true rfl) (Nat.le_of_ble_eq_true rfl) (Nat.le_of_ble_eq_true rfl) hb_rc55 hs_rs55 (by subst hF1_ hF3_; exact c55_0) k58_1

set_option maxRecDepth 100000 in
set_option maxHeartbeats 4000000 in
theorem s_P_initN_58 {l : Launch} {X : ev_X} {bc bs n : Nat} {F : ev_H} {Q : Option Value → Nat → ev_H → Prop} {r0 : Nat} {rs1 : Nat} {ir0_draftWords : Int32} {rc62 : Nat} {rs62 : Nat} {Q66 : Option Value → Nat → ev_H → Prop} {bc66 : Nat} {bs66 : Nat} {rc66 : Nat} {rs66 : Nat} (h_r0 : F r0 = some (.inr (0, [.ref (r0 + 1), .ref (r0 + 4), .int ir0_draftWords, .ref (r0 + 5), .ref (r0 + 7), .null, .null, .null, .null]))) (hb_rc62 : rc62 + 1 ≤ bc) (hs_rs62 : rs62 + 3 ≤ bs) (hb_rc66 : rc66 + bc66 ≤ rc62) (hs_rs66 : rs66 + bs66 ≤ rs62)
    (c66_0 : Cal l X M_Qs_init bc66 bs66 [.ref n] (n + 1) (ev_up (ev_up F r0 (.inr (0, [.ref (r0 + 1), .ref (r0 + 4), .int ir0_draftWords, .ref (r0 + 5), .ref (r0 + 7), .ref rs1, .null, .null, .null]))) n (.inr (5, [.null, .null, .int 0]))) Q66)
    (k69_1 : ∀ v2 n2 F2, Q66 v2 n2 F2 → Ev l X M_P_init rc66 rs66 69 [(0, .ref r0)] (v2.toList ++ [.ref n, .ref r0]) n2 F2 (ev_mq X Q)) :
    Ev l X M_P_init bc bs 58 [(0, .ref r0)] [.ref rs1, .ref r0] n F (ev_mq X Q) := by
  refine ev_putfield (pc := 58) 5 _ d_P_init_58 fl_P_41 h_r0 (ev_pfn (r0 := rC0) (ty := (.object "PostingShelf$Machine")) rfl (Or.inr ⟨rfl, rfl, rfl⟩) (by decide +kernel)) rfl rfl (Nat.le_of_ble_eq_true rfl) (fun F1_ hF1_ => ?_)
  have g2_ : F1_ r0 = some (.inr (0, [.ref (r0 + 1), .ref (r0 + 4), .int ir0_draftWords, .ref (r0 + 5), .ref (r0 + 7), .ref rs1, .null, .null, .null])) := by rw [← hF1_]; exact ev_up_s
  refine ev_aload_n (pc := 61) d_P_init_61 rfl ?_
  refine ev_fresh fun fr62 => ?_
  refine ev_new (pc := 62) 5 [.null, .null, .int 0] d_P_init_62 ck_5 wd_133 wd_134 wd_9 (by decide +kernel) (bc2 := rc62) (bs2 := rs62) hb_rc62 hs_rs62 (fun F3_ hF3_ => ?_)
  have g4_ : F3_ r0 = some (.inr (0, [.ref (r0 + 1), .ref (r0 + 4), .int ir0_draftWords, .ref (r0 + 5), .ref (r0 + 7), .ref rs1, .null, .null, .null])) := by rw [← hF3_]; exact ev_up_k (ev_nf g2_ (fr62 _ (Nat.le_refl _))) g2_
  have g5_ : F3_ n = some (.inr (5, [.null, .null, .int 0])) := by rw [← hF3_]; exact ev_up_s
  refine ev_dup (pc := 65) d_P_init_65 rfl ?_
  exact ev_init (pc := 66) (As := []) (st := [.ref n, .ref r0]) (Q2 := Q66) M_Qs_init d_P_init_66 lc_P_47 rfl rfl wd_136 rfl rfl (Nat.le_of_ble_eq_true rfl) (Nat.le_of_ble_eq_true rfl) (Nat.le_of_ble_eq_true rfl) hb_rc66 hs_rs66 (by subst hF1_ hF3_; exact c66_0) k69_1

set_option maxRecDepth 100000 in
set_option maxHeartbeats 4000000 in
theorem s_P_initN_69 {l : Launch} {X : ev_X} {bc bs n : Nat} {F : ev_H} {Q : Option Value → Nat → ev_H → Prop} {r0 : Nat} {rs1 : Nat} {ir0_draftWords : Int32} {rc73 : Nat} {rs73 : Nat} {Q77 : Option Value → Nat → ev_H → Prop} {bc77 : Nat} {bs77 : Nat} {rc77 : Nat} {rs77 : Nat} (h_r0 : F r0 = some (.inr (0, [.ref (r0 + 1), .ref (r0 + 4), .int ir0_draftWords, .ref (r0 + 5), .ref (r0 + 7), .ref (r0 + 10), .null, .null, .null]))) (hb_rc73 : rc73 + 1 ≤ bc) (hs_rs73 : rs73 + 4 ≤ bs) (hb_rc77 : rc77 + bc77 ≤ rc73) (hs_rs77 : rs77 + bs77 ≤ rs73)
    (c77_0 : Cal l X M_Ra_init bc77 bs77 [.ref n] (n + 1) (ev_up (ev_up F r0 (.inr (0, [.ref (r0 + 1), .ref (r0 + 4), .int ir0_draftWords, .ref (r0 + 5), .ref (r0 + 7), .ref (r0 + 10), .ref rs1, .null, .null]))) n (.inr (6, [.null, .null, .int 0, .int 0]))) Q77)
    (k80_1 : ∀ v2 n2 F2, Q77 v2 n2 F2 → Ev l X M_P_init rc77 rs77 80 [(0, .ref r0)] (v2.toList ++ [.ref n, .ref r0]) n2 F2 (ev_mq X Q)) :
    Ev l X M_P_init bc bs 69 [(0, .ref r0)] [.ref rs1, .ref r0] n F (ev_mq X Q) := by
  refine ev_putfield (pc := 69) 6 _ d_P_init_69 fl_P_48 h_r0 (ev_pfn (r0 := rC0) (ty := (.object "PostingShelf$QueryStack")) rfl (Or.inr ⟨rfl, rfl, rfl⟩) (by decide +kernel)) rfl rfl (Nat.le_of_ble_eq_true rfl) (fun F1_ hF1_ => ?_)
  have g2_ : F1_ r0 = some (.inr (0, [.ref (r0 + 1), .ref (r0 + 4), .int ir0_draftWords, .ref (r0 + 5), .ref (r0 + 7), .ref (r0 + 10), .ref rs1, .null, .null])) := by rw [← hF1_]; exact ev_up_s
  refine ev_aload_n (pc := 72) d_P_init_72 rfl ?_
  refine ev_fresh fun fr73 => ?_
  refine ev_new (pc := 73) 6 [.null, .null, .int 0, .int 0] d_P_init_73 ck_6 wd_154 wd_155 wd_10 (by decide +kernel) (bc2 := rc73) (bs2 := rs73) hb_rc73 hs_rs73 (fun F3_ hF3_ => ?_)
  have g4_ : F3_ r0 = some (.inr (0, [.ref (r0 + 1), .ref (r0 + 4), .int ir0_draftWords, .ref (r0 + 5), .ref (r0 + 7), .ref (r0 + 10), .ref rs1, .null, .null])) := by rw [← hF3_]; exact ev_up_k (ev_nf g2_ (fr73 _ (Nat.le_refl _))) g2_
  have g5_ : F3_ n = some (.inr (6, [.null, .null, .int 0, .int 0])) := by rw [← hF3_]; exact ev_up_s
  refine ev_dup (pc := 76) d_P_init_76 rfl ?_
  exact ev_init (pc := 77) (As := []) (st := [.ref n, .ref r0]) (Q2 := Q77) M_Ra_init d_P_init_77 lc_P_54 rfl rfl wd_157 rfl rfl (Nat.le_of_ble_eq_true rfl) (Nat.le_of_ble_eq_true rfl) (Nat.le_of_ble_eq_true rfl) hb_rc77 hs_rs77 (by subst hF1_ hF3_; exact c77_0) k80_1

set_option maxRecDepth 100000 in
set_option maxHeartbeats 4000000 in
theorem s_P_initN_80 {l : Launch} {X : ev_X} {bc bs n : Nat} {F : ev_H} {Q : Option Value → Nat → ev_H → Prop} {r0 : Nat} {rs1 : Nat} {ir0_draftWords : Int32} {rc84 : Nat} {rs84 : Nat} {Q88 : Option Value → Nat → ev_H → Prop} {bc88 : Nat} {bs88 : Nat} {rc88 : Nat} {rs88 : Nat} (h_r0 : F r0 = some (.inr (0, [.ref (r0 + 1), .ref (r0 + 4), .int ir0_draftWords, .ref (r0 + 5), .ref (r0 + 7), .ref (r0 + 10), .ref (r0 + 11), .null, .null]))) (hb_rc84 : rc84 + 1 ≤ bc) (hs_rs84 : rs84 + 3 ≤ bs) (hb_rc88 : rc88 + bc88 ≤ rc84) (hs_rs88 : rs88 + bs88 ≤ rs84)
    (c88_0 : Cal l X M_Re_init bc88 bs88 [.ref n] (n + 1) (ev_up (ev_up F r0 (.inr (0, [.ref (r0 + 1), .ref (r0 + 4), .int ir0_draftWords, .ref (r0 + 5), .ref (r0 + 7), .ref (r0 + 10), .ref (r0 + 11), .ref rs1, .null]))) n (.inr (7, [.null, .null, .int 0]))) Q88)
    (k91_1 : ∀ v2 n2 F2, Q88 v2 n2 F2 → Ev l X M_P_init rc88 rs88 91 [(0, .ref r0)] (v2.toList ++ [.ref n, .ref r0]) n2 F2 (ev_mq X Q)) :
    Ev l X M_P_init bc bs 80 [(0, .ref r0)] [.ref rs1, .ref r0] n F (ev_mq X Q) := by
  refine ev_putfield (pc := 80) 7 _ d_P_init_80 fl_P_55 h_r0 (ev_pfn (r0 := rC0) (ty := (.object "PostingShelf$Ranking")) rfl (Or.inr ⟨rfl, rfl, rfl⟩) (by decide +kernel)) rfl rfl (Nat.le_of_ble_eq_true rfl) (fun F1_ hF1_ => ?_)
  have g2_ : F1_ r0 = some (.inr (0, [.ref (r0 + 1), .ref (r0 + 4), .int ir0_draftWords, .ref (r0 + 5), .ref (r0 + 7), .ref (r0 + 10), .ref (r0 + 11), .ref rs1, .null])) := by rw [← hF1_]; exact ev_up_s
  refine ev_aload_n (pc := 83) d_P_init_83 rfl ?_
  refine ev_fresh fun fr84 => ?_
  refine ev_new (pc := 84) 7 [.null, .null, .int 0] d_P_init_84 ck_7 wd_176 wd_177 wd_11 (by decide +kernel) (bc2 := rc84) (bs2 := rs84) hb_rc84 hs_rs84 (fun F3_ hF3_ => ?_)
  have g4_ : F3_ r0 = some (.inr (0, [.ref (r0 + 1), .ref (r0 + 4), .int ir0_draftWords, .ref (r0 + 5), .ref (r0 + 7), .ref (r0 + 10), .ref (r0 + 11), .ref rs1, .null])) := by rw [← hF3_]; exact ev_up_k (ev_nf g2_ (fr84 _ (Nat.le_refl _))) g2_
  have g5_ : F3_ n = some (.inr (7, [.null, .null, .int 0])) := by rw [← hF3_]; exact ev_up_s
  refine ev_dup (pc := 87) d_P_init_87 rfl ?_
  exact ev_init (pc := 88) (As := []) (st := [.ref n, .ref r0]) (Q2 := Q88) M_Re_init d_P_init_88 lc_P_61 rfl rfl wd_179 rfl rfl (Nat.le_of_ble_eq_true rfl) (Nat.le_of_ble_eq_true rfl) (Nat.le_of_ble_eq_true rfl) hb_rc88 hs_rs88 (by subst hF1_ hF3_; exact c88_0) k91_1

set_option maxRecDepth 100000 in
set_option maxHeartbeats 4000000 in
theorem s_P_initN_91 {l : Launch} {X : ev_X} {bc bs n : Nat} {F : ev_H} {Q : Option Value → Nat → ev_H → Prop} {r0 : Nat} {rs1 : Nat} {ir0_draftWords : Int32} (h_r0 : F r0 = some (.inr (0, [.ref (r0 + 1), .ref (r0 + 4), .int ir0_draftWords, .ref (r0 + 5), .ref (r0 + 7), .ref (r0 + 10), .ref (r0 + 11), .ref (r0 + 14), .null])))
    (q94_0 : Q none n (ev_up F r0 (.inr (0, [.ref (r0 + 1), .ref (r0 + 4), .int ir0_draftWords, .ref (r0 + 5), .ref (r0 + 7), .ref (r0 + 10), .ref (r0 + 11), .ref (r0 + 14), .ref rs1])))) :
    Ev l X M_P_init bc bs 91 [(0, .ref r0)] [.ref rs1, .ref r0] n F (ev_mq X Q) := by
  refine ev_putfield (pc := 91) 8 _ d_P_init_91 fl_P_62 h_r0 (ev_pfn (r0 := rC0) (ty := (.object "PostingShelf$Results")) rfl (Or.inr ⟨rfl, rfl, rfl⟩) (by decide +kernel)) rfl rfl (Nat.le_of_ble_eq_true rfl) (fun F1_ hF1_ => ?_)
  have g2_ : F1_ r0 = some (.inr (0, [.ref (r0 + 1), .ref (r0 + 4), .int ir0_draftWords, .ref (r0 + 5), .ref (r0 + 7), .ref (r0 + 10), .ref (r0 + 11), .ref (r0 + 14), .ref rs1])) := by rw [← hF1_]; exact ev_up_s
  exact ev_return (pc := 94) d_P_init_94 rfl (by subst hF1_; exact q94_0)
set_option maxRecDepth 100000 in
set_option maxHeartbeats 4000000 in
theorem s_St_initN_0 {l : Launch} {X : ev_X} {bc bs n : Nat} {F : ev_H} {Q : Option Value → Nat → ev_H → Prop} {r0 : Nat} {rc7 : Nat} {rs7 : Nat} {ir0_length : Int32} {rc15 : Nat} {rs15 : Nat} (hb_rc7 : rc7 + 1 ≤ bc) (hs_rs7 : rs7 + 12 ≤ bs) (h_r0 : F r0 = some (.inr (1, [.null, .null, .int ir0_length]))) (hb_rc15 : rc15 + 1 ≤ rc7) (hs_rs15 : rs15 + 12 ≤ rs7)
    (q25_0 : Q none (n + 2) (ev_up (ev_up (ev_up (ev_up (ev_up F n (.inl (3, 12, .inl (fun _ => 0)))) r0 (.inr (1, [.ref n, .null, .int ir0_length]))) (n + 1) (.inl (2, 12, .inl (fun _ => 0)))) r0 (.inr (1, [.ref n, .ref (n + 1), .int ir0_length]))) r0 (.inr (1, [.ref n, .ref (n + 1), .int 0])))) :
    Ev l X M_St_init bc bs 0 [(0, .ref r0)] [] n F (ev_mq X Q) := by
  refine ev_aload_n (pc := 0) d_St_init_0 rfl ?_
  refine ev_objInit (pc := 1) d_St_init_1 wd_40 wd_33 wd_34 (Nat.le_of_ble_eq_true rfl) (Nat.le_of_ble_eq_true rfl) ?_
  refine ev_aload_n (pc := 4) d_St_init_4 rfl ?_
  refine ev_bipush (pc := 5) 12 d_St_init_5 (by decide) ?_
  refine ev_fresh fun fr7 => ?_
  refine ev_newarray (pc := 7) 3 12 (12, .inl (fun _ => 0)) d_St_init_7 wd_51 rfl rfl (fun _ _ h => h) (fun _ => rfl) (by decide) (by decide) (by decide) (bc2 := rc7) (bs2 := rs7) hb_rc7 hs_rs7 (fun F1_ hF1_ => ?_)
  have g2_ : F1_ n = some (.inl (3, 12, .inl (fun _ => 0))) := by rw [← hF1_]; exact ev_up_s
  have g3_ : F1_ r0 = some (.inr (1, [.null, .null, .int ir0_length])) := by rw [← hF1_]; exact ev_up_k (ev_nf h_r0 (fr7 _ (Nat.le_refl _))) h_r0
  refine ev_putfield (pc := 9) 0 _ d_St_init_9 fl_St_9 g3_ (ev_pfn (r0 := rC1) (ty := (.array .char)) rfl (Or.inr ⟨rfl, rfl, rfl⟩) (by decide +kernel)) rfl rfl (Nat.le_of_ble_eq_true rfl) (fun F4_ hF4_ => ?_)
  have g5_ : F4_ n = some (.inl (3, 12, .inl (fun _ => 0))) := by rw [← hF4_]; exact ev_up_k (ev_ne_ao g2_ g3_) g2_
  have g6_ : F4_ r0 = some (.inr (1, [.ref n, .null, .int ir0_length])) := by rw [← hF4_]; exact ev_up_s
  refine ev_aload_n (pc := 12) d_St_init_12 rfl ?_
  refine ev_bipush (pc := 13) 12 d_St_init_13 (by decide) ?_
  refine ev_fresh fun fr15 => ?_
  refine ev_newarray (pc := 15) 2 12 (12, .inl (fun _ => 0)) d_St_init_15 wd_52 rfl rfl (fun _ _ h => h) (fun _ => rfl) (by decide) (by decide) (by decide) (bc2 := rc15) (bs2 := rs15) hb_rc15 hs_rs15 (fun F7_ hF7_ => ?_)
  have g8_ : F7_ n = some (.inl (3, 12, .inl (fun _ => 0))) := by rw [← hF7_]; exact ev_up_k (ev_nf g5_ (fr15 _ (Nat.le_refl _))) g5_
  have g9_ : F7_ r0 = some (.inr (1, [.ref n, .null, .int ir0_length])) := by rw [← hF7_]; exact ev_up_k (ev_nf g6_ (fr15 _ (Nat.le_refl _))) g6_
  have g10_ : F7_ (n + 1) = some (.inl (2, 12, .inl (fun _ => 0))) := by rw [← hF7_]; exact ev_up_s
  refine ev_putfield (pc := 17) 1 _ d_St_init_17 fl_St_15 g9_ (ev_pfn (r0 := rC1) (ty := (.array .boolean)) rfl (Or.inr ⟨rfl, rfl, rfl⟩) (by decide +kernel)) rfl rfl (Nat.le_of_ble_eq_true rfl) (fun F11_ hF11_ => ?_)
  have g12_ : F11_ n = some (.inl (3, 12, .inl (fun _ => 0))) := by rw [← hF11_]; exact ev_up_k (ev_ne_ao g8_ g9_) g8_
  have g13_ : F11_ (n + 1) = some (.inl (2, 12, .inl (fun _ => 0))) := by rw [← hF11_]; exact ev_up_k (ev_ne_ao g10_ g9_) g10_
  have g14_ : F11_ r0 = some (.inr (1, [.ref n, .ref (n + 1), .int ir0_length])) := by rw [← hF11_]; exact ev_up_s
  refine ev_aload_n (pc := 20) d_St_init_20 rfl ?_
  refine ev_iconst (pc := 21) 0 d_St_init_21 (by decide) ?_
  refine ev_putfield (pc := 22) 2 _ d_St_init_22 fl_St_19 g14_ pf_1_length rfl rfl (Nat.le_of_ble_eq_true rfl) (fun F15_ hF15_ => ?_)
  have g16_ : F15_ n = some (.inl (3, 12, .inl (fun _ => 0))) := by rw [← hF15_]; exact ev_up_k (ev_ne_ao g12_ g14_) g12_
  have g17_ : F15_ (n + 1) = some (.inl (2, 12, .inl (fun _ => 0))) := by rw [← hF15_]; exact ev_up_k (ev_ne_ao g13_ g14_) g13_
  have g18_ : F15_ r0 = some (.inr (1, [.ref n, .ref (n + 1), .int 0])) := by rw [← hF15_]; exact ev_up_s
  exact ev_return (pc := 25) d_St_init_25 rfl (by subst hF1_ hF4_ hF7_ hF11_ hF15_; exact q25_0)
set_option maxRecDepth 100000 in
set_option maxHeartbeats 4000000 in
theorem s_Re_initN_0 {l : Launch} {X : ev_X} {bc bs n : Nat} {F : ev_H} {Q : Option Value → Nat → ev_H → Prop} {r0 : Nat} {rc7 : Nat} {rs7 : Nat} {ir0_count : Int32} {rc15 : Nat} {rs15 : Nat} (hb_rc7 : rc7 + 1 ≤ bc) (hs_rs7 : rs7 + 12 ≤ bs) (h_r0 : F r0 = some (.inr (7, [.null, .null, .int ir0_count]))) (hb_rc15 : rc15 + 1 ≤ rc7) (hs_rs15 : rs15 + 12 ≤ rs7)
    (q25_0 : Q none (n + 2) (ev_up (ev_up (ev_up (ev_up (ev_up F n (.inl (0, 12, .inl (fun _ => 0)))) r0 (.inr (7, [.ref n, .null, .int ir0_count]))) (n + 1) (.inl (0, 12, .inl (fun _ => 0)))) r0 (.inr (7, [.ref n, .ref (n + 1), .int ir0_count]))) r0 (.inr (7, [.ref n, .ref (n + 1), .int 0])))) :
    Ev l X M_Re_init bc bs 0 [(0, .ref r0)] [] n F (ev_mq X Q) := by
  refine ev_aload_n (pc := 0) d_Re_init_0 rfl ?_
  refine ev_objInit (pc := 1) d_Re_init_1 wd_181 wd_33 wd_34 (Nat.le_of_ble_eq_true rfl) (Nat.le_of_ble_eq_true rfl) ?_
  refine ev_aload_n (pc := 4) d_Re_init_4 rfl ?_
  refine ev_bipush (pc := 5) 12 d_Re_init_5 (by decide) ?_
  refine ev_fresh fun fr7 => ?_
  refine ev_newarray (pc := 7) 0 12 (12, .inl (fun _ => 0)) d_Re_init_7 wd_153 rfl rfl (fun _ _ h => h) (fun _ => rfl) (by decide) (by decide) (by decide) (bc2 := rc7) (bs2 := rs7) hb_rc7 hs_rs7 (fun F1_ hF1_ => ?_)
  have g2_ : F1_ n = some (.inl (0, 12, .inl (fun _ => 0))) := by rw [← hF1_]; exact ev_up_s
  have g3_ : F1_ r0 = some (.inr (7, [.null, .null, .int ir0_count])) := by rw [← hF1_]; exact ev_up_k (ev_nf h_r0 (fr7 _ (Nat.le_refl _))) h_r0
  refine ev_putfield (pc := 9) 0 _ d_Re_init_9 fl_Re_9 g3_ (ev_pfn (r0 := rC7) (ty := (.array .int)) rfl (Or.inr ⟨rfl, rfl, rfl⟩) (by decide +kernel)) rfl rfl (Nat.le_of_ble_eq_true rfl) (fun F4_ hF4_ => ?_)
  have g5_ : F4_ n = some (.inl (0, 12, .inl (fun _ => 0))) := by rw [← hF4_]; exact ev_up_k (ev_ne_ao g2_ g3_) g2_
  have g6_ : F4_ r0 = some (.inr (7, [.ref n, .null, .int ir0_count])) := by rw [← hF4_]; exact ev_up_s
  refine ev_aload_n (pc := 12) d_Re_init_12 rfl ?_
  refine ev_bipush (pc := 13) 12 d_Re_init_13 (by decide) ?_
  refine ev_fresh fun fr15 => ?_
  refine ev_newarray (pc := 15) 0 12 (12, .inl (fun _ => 0)) d_Re_init_15 wd_153 rfl rfl (fun _ _ h => h) (fun _ => rfl) (by decide) (by decide) (by decide) (bc2 := rc15) (bs2 := rs15) hb_rc15 hs_rs15 (fun F7_ hF7_ => ?_)
  have g8_ : F7_ n = some (.inl (0, 12, .inl (fun _ => 0))) := by rw [← hF7_]; exact ev_up_k (ev_nf g5_ (fr15 _ (Nat.le_refl _))) g5_
  have g9_ : F7_ r0 = some (.inr (7, [.ref n, .null, .int ir0_count])) := by rw [← hF7_]; exact ev_up_k (ev_nf g6_ (fr15 _ (Nat.le_refl _))) g6_
  have g10_ : F7_ (n + 1) = some (.inl (0, 12, .inl (fun _ => 0))) := by rw [← hF7_]; exact ev_up_s
  refine ev_putfield (pc := 17) 1 _ d_Re_init_17 fl_Re_15 g9_ (ev_pfn (r0 := rC7) (ty := (.array .int)) rfl (Or.inr ⟨rfl, rfl, rfl⟩) (by decide +kernel)) rfl rfl (Nat.le_of_ble_eq_true rfl) (fun F11_ hF11_ => ?_)
  have g12_ : F11_ n = some (.inl (0, 12, .inl (fun _ => 0))) := by rw [← hF11_]; exact ev_up_k (ev_ne_ao g8_ g9_) g8_
  have g13_ : F11_ (n + 1) = some (.inl (0, 12, .inl (fun _ => 0))) := by rw [← hF11_]; exact ev_up_k (ev_ne_ao g10_ g9_) g10_
  have g14_ : F11_ r0 = some (.inr (7, [.ref n, .ref (n + 1), .int ir0_count])) := by rw [← hF11_]; exact ev_up_s
  refine ev_aload_n (pc := 20) d_Re_init_20 rfl ?_
  refine ev_iconst (pc := 21) 0 d_Re_init_21 (by decide) ?_
  refine ev_putfield (pc := 22) 2 _ d_Re_init_22 fl_Re_18 g14_ pf_7_count rfl rfl (Nat.le_of_ble_eq_true rfl) (fun F15_ hF15_ => ?_)
  have g16_ : F15_ n = some (.inl (0, 12, .inl (fun _ => 0))) := by rw [← hF15_]; exact ev_up_k (ev_ne_ao g12_ g14_) g12_
  have g17_ : F15_ (n + 1) = some (.inl (0, 12, .inl (fun _ => 0))) := by rw [← hF15_]; exact ev_up_k (ev_ne_ao g13_ g14_) g13_
  have g18_ : F15_ r0 = some (.inr (7, [.ref n, .ref (n + 1), .int 0])) := by rw [← hF15_]; exact ev_up_s
  exact ev_return (pc := 25) d_Re_init_25 rfl (by subst hF1_ hF4_ hF7_ hF11_ hF15_; exact q25_0)
set_option maxRecDepth 100000 in
set_option maxHeartbeats 4000000 in
theorem s_Ma_initN_0 {l : Launch} {X : ev_X} {bc bs n : Nat} {F : ev_H} {Q : Option Value → Nat → ev_H → Prop} {r0 : Nat} {ir0_blocksWritten : Int32} {ir0_blocksToStop : Int32} {ir0_stopped : Int32} (h_r0 : F r0 = some (.inr (4, [.int ir0_blocksWritten, .int ir0_blocksToStop, .int ir0_stopped])))
    (q19_0 : Q none n (ev_up (ev_up (ev_up F r0 (.inr (4, [.int 0, .int ir0_blocksToStop, .int ir0_stopped]))) r0 (.inr (4, [.int 0, .int 0, .int ir0_stopped]))) r0 (.inr (4, [.int 0, .int 0, .int 0])))) :
    Ev l X M_Ma_init bc bs 0 [(0, .ref r0)] [] n F (ev_mq X Q) := by
  refine ev_aload_n (pc := 0) d_Ma_init_0 rfl ?_
  refine ev_objInit (pc := 1) d_Ma_init_1 wd_119 wd_33 wd_34 (Nat.le_of_ble_eq_true rfl) (Nat.le_of_ble_eq_true rfl) ?_
  refine ev_aload_n (pc := 4) d_Ma_init_4 rfl ?_
  refine ev_iconst (pc := 5) 0 d_Ma_init_5 (by decide) ?_
  refine ev_putfield (pc := 6) 0 _ d_Ma_init_6 fl_Ma_7 h_r0 pf_4_blocksWritten rfl rfl (Nat.le_of_ble_eq_true rfl) (fun F1_ hF1_ => ?_)
  have g2_ : F1_ r0 = some (.inr (4, [.int 0, .int ir0_blocksToStop, .int ir0_stopped])) := by rw [← hF1_]; exact ev_up_s
  refine ev_aload_n (pc := 9) d_Ma_init_9 rfl ?_
  refine ev_iconst (pc := 10) 0 d_Ma_init_10 (by decide) ?_
  refine ev_putfield (pc := 11) 1 _ d_Ma_init_11 fl_Ma_13 g2_ pf_4_blocksToStop rfl rfl (Nat.le_of_ble_eq_true rfl) (fun F3_ hF3_ => ?_)
  have g4_ : F3_ r0 = some (.inr (4, [.int 0, .int 0, .int ir0_stopped])) := by rw [← hF3_]; exact ev_up_s
  refine ev_aload_n (pc := 14) d_Ma_init_14 rfl ?_
  refine ev_iconst (pc := 15) 0 d_Ma_init_15 (by decide) ?_
  refine ev_putfield (pc := 16) 2 _ d_Ma_init_16 fl_Ma_16 g4_ pf_4_stopped rfl rfl (Nat.le_of_ble_eq_true rfl) (fun F5_ hF5_ => ?_)
  have g6_ : F5_ r0 = some (.inr (4, [.int 0, .int 0, .int 0])) := by rw [← hF5_]; exact ev_up_s
  exact ev_return (pc := 19) d_Ma_init_19 rfl (by subst hF1_ hF3_ hF5_; exact q19_0)
set_option maxRecDepth 100000 in
set_option maxHeartbeats 4000000 in
theorem s_Mo_initN_0 {l : Launch} {X : ev_X} {bc bs n : Nat} {F : ev_H} {Q : Option Value → Nat → ev_H → Prop} {r0 : Nat} {rc7 : Nat} {rs7 : Nat} {ir0_drafted : Int32} {ir0_rows : Int32} {ir0_segments : Int32} {ir0_stopped : Int32} {ir0_fuse : Int32} {ir0_written : Int32} {ir0_tokens : Int32} {ir0_height : Int32} {ir0_results : Int32} {ir0_weighed : Int32} {rc15 : Nat} {rs15 : Nat} {rc23 : Nat} {rs23 : Nat} {rc32 : Nat} {rs32 : Nat} {rc40 : Nat} {rs40 : Nat} {rc48 : Nat} {rs48 : Nat} {rc56 : Nat} {rs56 : Nat} {rc64 : Nat} {rs64 : Nat} {rc73 : Nat} {rs73 : Nat} {rc82 : Nat} {rs82 : Nat} {rc91 : Nat} {rs91 : Nat} {rc99 : Nat} {rs99 : Nat} {rc107 : Nat} {rs107 : Nat} {rc115 : Nat} {rs115 : Nat} {rc123 : Nat} {rs123 : Nat} {rc131 : Nat} {rs131 : Nat} {rc139 : Nat} {rs139 : Nat} {rc147 : Nat} {rs147 : Nat} {rc155 : Nat} {rs155 : Nat} (hb_rc7 : rc7 + 1 ≤ bc) (hs_rs7 : rs7 + 12 ≤ bs) (h_r0 : F r0 = some (.inr (11, [.null, .int ir0_drafted, .null, .null, .null, .int ir0_rows, .null, .null, .null, .null, .null, .int ir0_segments, .int ir0_stopped, .int ir0_fuse, .int ir0_written, .int ir0_tokens, .null, .null, .int ir0_height, .null, .null, .null, .int ir0_results, .null, .null, .int ir0_weighed, .null, .null, .null]))) (hb_rc15 : rc15 + 1 ≤ rc7) (hs_rs15 : rs15 + 12 ≤ rs7) (hb_rc23 : rc23 + 1 ≤ rc15) (hs_rs23 : rs23 + 12 ≤ rs15) (hb_rc32 : rc32 + 1 ≤ rc23) (hs_rs32 : rs32 + 144 ≤ rs23) (hb_rc40 : rc40 + 1 ≤ rc32) (hs_rs40 : rs40 + 80 ≤ rs32) (hb_rc48 : rc48 + 1 ≤ rc40) (hs_rs48 : rs48 + 80 ≤ rs40) (hb_rc56 : rc56 + 1 ≤ rc48) (hs_rs56 : rs56 + 80 ≤ rs48) (hb_rc64 : rc64 + 1 ≤ rc56) (hs_rs64 : rs64 + 80 ≤ rs56) (hb_rc73 : rc73 + 1 ≤ rc64) (hs_rs73 : rs73 + 960 ≤ rs64) (hb_rc82 : rc82 + 1 ≤ rc73) (hs_rs82 : rs82 + 520 ≤ rs73) (hb_rc91 : rc91 + 1 ≤ rc82) (hs_rs91 : rs91 + 520 ≤ rs82) (hb_rc99 : rc99 + 1 ≤ rc91) (hs_rs99 : rs99 + 8 ≤ rs91) (hb_rc107 : rc107 + 1 ≤ rc99) (hs_rs107 : rs107 + 8 ≤ rs99) (hb_rc115 : rc115 + 1 ≤ rc107) (hs_rs115 : rs115 + 8 ≤ rs107) (hb_rc123 : rc123 + 1 ≤ rc115) (hs_rs123 : rs123 + 12 ≤ rs115) (hb_rc131 : rc131 + 1 ≤ rc123) (hs_rs131 : rs131 + 12 ≤ rs123) (hb_rc139 : rc139 + 1 ≤ rc131) (hs_rs139 : rs139 + 12 ≤ rs131) (hb_rc147 : rc147 + 1 ≤ rc139) (hs_rs147 : rs147 + 12 ≤ rs139) (hb_rc155 : rc155 + 1 ≤ rc147) (hs_rs155 : rs155 + 12 ≤ rs147)
    (q160_0 : Q none (n + 19) (ev_up (ev_up (ev_up (ev_up (ev_up (ev_up (ev_up (ev_up (ev_up (ev_up (ev_up (ev_up (ev_up (ev_up (ev_up (ev_up (ev_up (ev_up (ev_up (ev_up (ev_up (ev_up (ev_up (ev_up (ev_up (ev_up (ev_up (ev_up (ev_up (ev_up (ev_up (ev_up (ev_up (ev_up (ev_up (ev_up (ev_up (ev_up F n (.inl (1, 12, .inr (.inl (fun _ => 0))))) r0 (.inr (11, [.ref n, .int ir0_drafted, .null, .null, .null, .int ir0_rows, .null, .null, .null, .null, .null, .int ir0_segments, .int ir0_stopped, .int ir0_fuse, .int ir0_written, .int ir0_tokens, .null, .null, .int ir0_height, .null, .null, .null, .int ir0_results, .null, .null, .int ir0_weighed, .null, .null, .null]))) (n + 1) (.inl (0, 12, .inl (fun _ => 0)))) r0 (.inr (11, [.ref n, .int ir0_drafted, .ref (n + 1), .null, .null, .int ir0_rows, .null, .null, .null, .null, .null, .int ir0_segments, .int ir0_stopped, .int ir0_fuse, .int ir0_written, .int ir0_tokens, .null, .null, .int ir0_height, .null, .null, .null, .int ir0_results, .null, .null, .int ir0_weighed, .null, .null, .null]))) (n + 2) (.inl (0, 12, .inl (fun _ => 0)))) r0 (.inr (11, [.ref n, .int ir0_drafted, .ref (n + 1), .ref (n + 2), .null, .int ir0_rows, .null, .null, .null, .null, .null, .int ir0_segments, .int ir0_stopped, .int ir0_fuse, .int ir0_written, .int ir0_tokens, .null, .null, .int ir0_height, .null, .null, .null, .int ir0_results, .null, .null, .int ir0_weighed, .null, .null, .null]))) (n + 3) (.inl (1, 144, .inr (.inl (fun _ => 0))))) r0 (.inr (11, [.ref n, .int ir0_drafted, .ref (n + 1), .ref (n + 2), .ref (n + 3), .int ir0_rows, .null, .null, .null, .null, .null, .int ir0_segments, .int ir0_stopped, .int ir0_fuse, .int ir0_written, .int ir0_tokens, .null, .null, .int ir0_height, .null, .null, .null, .int ir0_results, .null, .null, .int ir0_weighed, .null, .null, .null]))) (n + 4) (.inl (0, 80, .inl (fun _ => 0)))) r0 (.inr (11, [.ref n, .int ir0_drafted, .ref (n + 1), .ref (n + 2), .ref (n + 3), .int ir0_rows, .ref (n + 4), .null, .null, .null, .null, .int ir0_segments, .int ir0_stopped, .int ir0_fuse, .int ir0_written, .int ir0_tokens, .null, .null, .int ir0_height, .null, .null, .null, .int ir0_results, .null, .null, .int ir0_weighed, .null, .null, .null]))) (n + 5) (.inl (0, 80, .inl (fun _ => 0)))) r0 (.inr (11, [.ref n, .int ir0_drafted, .ref (n + 1), .ref (n + 2), .ref (n + 3), .int ir0_rows, .ref (n + 4), .ref (n + 5), .null, .null, .null, .int ir0_segments, .int ir0_stopped, .int ir0_fuse, .int ir0_written, .int ir0_tokens, .null, .null, .int ir0_height, .null, .null, .null, .int ir0_results, .null, .null, .int ir0_weighed, .null, .null, .null]))) (n + 6) (.inl (2, 80, .inl (fun _ => 0)))) r0 (.inr (11, [.ref n, .int ir0_drafted, .ref (n + 1), .ref (n + 2), .ref (n + 3), .int ir0_rows, .ref (n + 4), .ref (n + 5), .ref (n + 6), .null, .null, .int ir0_segments, .int ir0_stopped, .int ir0_fuse, .int ir0_written, .int ir0_tokens, .null, .null, .int ir0_height, .null, .null, .null, .int ir0_results, .null, .null, .int ir0_weighed, .null, .null, .null]))) (n + 7) (.inl (0, 80, .inl (fun _ => 0)))) r0 (.inr (11, [.ref n, .int ir0_drafted, .ref (n + 1), .ref (n + 2), .ref (n + 3), .int ir0_rows, .ref (n + 4), .ref (n + 5), .ref (n + 6), .ref (n + 7), .null, .int ir0_segments, .int ir0_stopped, .int ir0_fuse, .int ir0_written, .int ir0_tokens, .null, .null, .int ir0_height, .null, .null, .null, .int ir0_results, .null, .null, .int ir0_weighed, .null, .null, .null]))) (n + 8) (.inl (1, 960, .inr (.inl (fun _ => 0))))) r0 (.inr (11, [.ref n, .int ir0_drafted, .ref (n + 1), .ref (n + 2), .ref (n + 3), .int ir0_rows, .ref (n + 4), .ref (n + 5), .ref (n + 6), .ref (n + 7), .ref (n + 8), .int ir0_segments, .int ir0_stopped, .int ir0_fuse, .int ir0_written, .int ir0_tokens, .null, .null, .int ir0_height, .null, .null, .null, .int ir0_results, .null, .null, .int ir0_weighed, .null, .null, .null]))) (n + 9) (.inl (0, 520, .inl (fun _ => 0)))) r0 (.inr (11, [.ref n, .int ir0_drafted, .ref (n + 1), .ref (n + 2), .ref (n + 3), .int ir0_rows, .ref (n + 4), .ref (n + 5), .ref (n + 6), .ref (n + 7), .ref (n + 8), .int ir0_segments, .int ir0_stopped, .int ir0_fuse, .int ir0_written, .int ir0_tokens, .ref (n + 9), .null, .int ir0_height, .null, .null, .null, .int ir0_results, .null, .null, .int ir0_weighed, .null, .null, .null]))) (n + 10) (.inl (1, 520, .inr (.inl (fun _ => 0))))) r0 (.inr (11, [.ref n, .int ir0_drafted, .ref (n + 1), .ref (n + 2), .ref (n + 3), .int ir0_rows, .ref (n + 4), .ref (n + 5), .ref (n + 6), .ref (n + 7), .ref (n + 8), .int ir0_segments, .int ir0_stopped, .int ir0_fuse, .int ir0_written, .int ir0_tokens, .ref (n + 9), .ref (n + 10), .int ir0_height, .null, .null, .null, .int ir0_results, .null, .null, .int ir0_weighed, .null, .null, .null]))) (n + 11) (.inl (2, 8, .inl (fun _ => 0)))) r0 (.inr (11, [.ref n, .int ir0_drafted, .ref (n + 1), .ref (n + 2), .ref (n + 3), .int ir0_rows, .ref (n + 4), .ref (n + 5), .ref (n + 6), .ref (n + 7), .ref (n + 8), .int ir0_segments, .int ir0_stopped, .int ir0_fuse, .int ir0_written, .int ir0_tokens, .ref (n + 9), .ref (n + 10), .int ir0_height, .ref (n + 11), .null, .null, .int ir0_results, .null, .null, .int ir0_weighed, .null, .null, .null]))) (n + 12) (.inl (0, 8, .inl (fun _ => 0)))) r0 (.inr (11, [.ref n, .int ir0_drafted, .ref (n + 1), .ref (n + 2), .ref (n + 3), .int ir0_rows, .ref (n + 4), .ref (n + 5), .ref (n + 6), .ref (n + 7), .ref (n + 8), .int ir0_segments, .int ir0_stopped, .int ir0_fuse, .int ir0_written, .int ir0_tokens, .ref (n + 9), .ref (n + 10), .int ir0_height, .ref (n + 11), .ref (n + 12), .null, .int ir0_results, .null, .null, .int ir0_weighed, .null, .null, .null]))) (n + 13) (.inl (2, 8, .inl (fun _ => 0)))) r0 (.inr (11, [.ref n, .int ir0_drafted, .ref (n + 1), .ref (n + 2), .ref (n + 3), .int ir0_rows, .ref (n + 4), .ref (n + 5), .ref (n + 6), .ref (n + 7), .ref (n + 8), .int ir0_segments, .int ir0_stopped, .int ir0_fuse, .int ir0_written, .int ir0_tokens, .ref (n + 9), .ref (n + 10), .int ir0_height, .ref (n + 11), .ref (n + 12), .ref (n + 13), .int ir0_results, .null, .null, .int ir0_weighed, .null, .null, .null]))) (n + 14) (.inl (0, 12, .inl (fun _ => 0)))) r0 (.inr (11, [.ref n, .int ir0_drafted, .ref (n + 1), .ref (n + 2), .ref (n + 3), .int ir0_rows, .ref (n + 4), .ref (n + 5), .ref (n + 6), .ref (n + 7), .ref (n + 8), .int ir0_segments, .int ir0_stopped, .int ir0_fuse, .int ir0_written, .int ir0_tokens, .ref (n + 9), .ref (n + 10), .int ir0_height, .ref (n + 11), .ref (n + 12), .ref (n + 13), .int ir0_results, .ref (n + 14), .null, .int ir0_weighed, .null, .null, .null]))) (n + 15) (.inl (1, 12, .inr (.inl (fun _ => 0))))) r0 (.inr (11, [.ref n, .int ir0_drafted, .ref (n + 1), .ref (n + 2), .ref (n + 3), .int ir0_rows, .ref (n + 4), .ref (n + 5), .ref (n + 6), .ref (n + 7), .ref (n + 8), .int ir0_segments, .int ir0_stopped, .int ir0_fuse, .int ir0_written, .int ir0_tokens, .ref (n + 9), .ref (n + 10), .int ir0_height, .ref (n + 11), .ref (n + 12), .ref (n + 13), .int ir0_results, .ref (n + 14), .ref (n + 15), .int ir0_weighed, .null, .null, .null]))) (n + 16) (.inl (0, 12, .inl (fun _ => 0)))) r0 (.inr (11, [.ref n, .int ir0_drafted, .ref (n + 1), .ref (n + 2), .ref (n + 3), .int ir0_rows, .ref (n + 4), .ref (n + 5), .ref (n + 6), .ref (n + 7), .ref (n + 8), .int ir0_segments, .int ir0_stopped, .int ir0_fuse, .int ir0_written, .int ir0_tokens, .ref (n + 9), .ref (n + 10), .int ir0_height, .ref (n + 11), .ref (n + 12), .ref (n + 13), .int ir0_results, .ref (n + 14), .ref (n + 15), .int ir0_weighed, .ref (n + 16), .null, .null]))) (n + 17) (.inl (1, 12, .inr (.inl (fun _ => 0))))) r0 (.inr (11, [.ref n, .int ir0_drafted, .ref (n + 1), .ref (n + 2), .ref (n + 3), .int ir0_rows, .ref (n + 4), .ref (n + 5), .ref (n + 6), .ref (n + 7), .ref (n + 8), .int ir0_segments, .int ir0_stopped, .int ir0_fuse, .int ir0_written, .int ir0_tokens, .ref (n + 9), .ref (n + 10), .int ir0_height, .ref (n + 11), .ref (n + 12), .ref (n + 13), .int ir0_results, .ref (n + 14), .ref (n + 15), .int ir0_weighed, .ref (n + 16), .ref (n + 17), .null]))) (n + 18) (.inl (2, 12, .inl (fun _ => 0)))) r0 (.inr (11, [.ref n, .int ir0_drafted, .ref (n + 1), .ref (n + 2), .ref (n + 3), .int ir0_rows, .ref (n + 4), .ref (n + 5), .ref (n + 6), .ref (n + 7), .ref (n + 8), .int ir0_segments, .int ir0_stopped, .int ir0_fuse, .int ir0_written, .int ir0_tokens, .ref (n + 9), .ref (n + 10), .int ir0_height, .ref (n + 11), .ref (n + 12), .ref (n + 13), .int ir0_results, .ref (n + 14), .ref (n + 15), .int ir0_weighed, .ref (n + 16), .ref (n + 17), .ref (n + 18)])))) :
    Ev l X M_Mo_init bc bs 0 [(0, .ref r0)] [] n F (ev_mq X Q) := by
  refine ev_aload_n (pc := 0) d_Mo_init_0 rfl ?_
  refine ev_objInit (pc := 1) d_Mo_init_1 wd_895 wd_33 wd_34 (Nat.le_of_ble_eq_true rfl) (Nat.le_of_ble_eq_true rfl) ?_
  refine ev_aload_n (pc := 4) d_Mo_init_4 rfl ?_
  refine ev_bipush (pc := 5) 12 d_Mo_init_5 (by decide) ?_
  refine ev_fresh fun fr7 => ?_
  refine ev_newarray (pc := 7) 1 12 (12, .inr (.inl (fun _ => 0))) d_Mo_init_7 wd_85 rfl rfl (fun _ _ h => h) (fun _ => rfl) (by decide) (by decide) (by decide) (bc2 := rc7) (bs2 := rs7) hb_rc7 hs_rs7 (fun F1_ hF1_ => ?_)
  have g2_ : F1_ n = some (.inl (1, 12, .inr (.inl (fun _ => 0)))) := by rw [← hF1_]; exact ev_up_s
  have g3_ : F1_ r0 = some (.inr (11, [.null, .int ir0_drafted, .null, .null, .null, .int ir0_rows, .null, .null, .null, .null, .null, .int ir0_segments, .int ir0_stopped, .int ir0_fuse, .int ir0_written, .int ir0_tokens, .null, .null, .int ir0_height, .null, .null, .null, .int ir0_results, .null, .null, .int ir0_weighed, .null, .null, .null])) := by rw [← hF1_]; exact ev_up_k (ev_nf h_r0 (fr7 _ (Nat.le_refl _))) h_r0
  refine ev_putfield (pc := 9) 0 _ d_Mo_init_9 fl_Mo_7 g3_ (ev_pfn (r0 := rC11) (ty := (.array .long)) rfl (Or.inr ⟨rfl, rfl, rfl⟩) (by decide +kernel)) rfl rfl (Nat.le_of_ble_eq_true rfl) (fun F4_ hF4_ => ?_)
  have g5_ : F4_ n = some (.inl (1, 12, .inr (.inl (fun _ => 0)))) := by rw [← hF4_]; exact ev_up_k (ev_ne_ao g2_ g3_) g2_
  have g6_ : F4_ r0 = some (.inr (11, [.ref n, .int ir0_drafted, .null, .null, .null, .int ir0_rows, .null, .null, .null, .null, .null, .int ir0_segments, .int ir0_stopped, .int ir0_fuse, .int ir0_written, .int ir0_tokens, .null, .null, .int ir0_height, .null, .null, .null, .int ir0_results, .null, .null, .int ir0_weighed, .null, .null, .null])) := by rw [← hF4_]; exact ev_up_s
  refine ev_aload_n (pc := 12) d_Mo_init_12 rfl ?_
  refine ev_bipush (pc := 13) 12 d_Mo_init_13 (by decide) ?_
  refine ev_fresh fun fr15 => ?_
  refine ev_newarray (pc := 15) 0 12 (12, .inl (fun _ => 0)) d_Mo_init_15 wd_153 rfl rfl (fun _ _ h => h) (fun _ => rfl) (by decide) (by decide) (by decide) (bc2 := rc15) (bs2 := rs15) hb_rc15 hs_rs15 (fun F7_ hF7_ => ?_)
  have g8_ : F7_ n = some (.inl (1, 12, .inr (.inl (fun _ => 0)))) := by rw [← hF7_]; exact ev_up_k (ev_nf g5_ (fr15 _ (Nat.le_refl _))) g5_
  have g9_ : F7_ r0 = some (.inr (11, [.ref n, .int ir0_drafted, .null, .null, .null, .int ir0_rows, .null, .null, .null, .null, .null, .int ir0_segments, .int ir0_stopped, .int ir0_fuse, .int ir0_written, .int ir0_tokens, .null, .null, .int ir0_height, .null, .null, .null, .int ir0_results, .null, .null, .int ir0_weighed, .null, .null, .null])) := by rw [← hF7_]; exact ev_up_k (ev_nf g6_ (fr15 _ (Nat.le_refl _))) g6_
  have g10_ : F7_ (n + 1) = some (.inl (0, 12, .inl (fun _ => 0))) := by rw [← hF7_]; exact ev_up_s
  refine ev_putfield (pc := 17) 2 _ d_Mo_init_17 fl_Mo_13 g9_ (ev_pfn (r0 := rC11) (ty := (.array .int)) rfl (Or.inr ⟨rfl, rfl, rfl⟩) (by decide +kernel)) rfl rfl (Nat.le_of_ble_eq_true rfl) (fun F11_ hF11_ => ?_)
  have g12_ : F11_ n = some (.inl (1, 12, .inr (.inl (fun _ => 0)))) := by rw [← hF11_]; exact ev_up_k (ev_ne_ao g8_ g9_) g8_
  have g13_ : F11_ (n + 1) = some (.inl (0, 12, .inl (fun _ => 0))) := by rw [← hF11_]; exact ev_up_k (ev_ne_ao g10_ g9_) g10_
  have g14_ : F11_ r0 = some (.inr (11, [.ref n, .int ir0_drafted, .ref (n + 1), .null, .null, .int ir0_rows, .null, .null, .null, .null, .null, .int ir0_segments, .int ir0_stopped, .int ir0_fuse, .int ir0_written, .int ir0_tokens, .null, .null, .int ir0_height, .null, .null, .null, .int ir0_results, .null, .null, .int ir0_weighed, .null, .null, .null])) := by rw [← hF11_]; exact ev_up_s
  refine ev_aload_n (pc := 20) d_Mo_init_20 rfl ?_
  refine ev_bipush (pc := 21) 12 d_Mo_init_21 (by decide) ?_
  refine ev_fresh fun fr23 => ?_
  refine ev_newarray (pc := 23) 0 12 (12, .inl (fun _ => 0)) d_Mo_init_23 wd_153 rfl rfl (fun _ _ h => h) (fun _ => rfl) (by decide) (by decide) (by decide) (bc2 := rc23) (bs2 := rs23) hb_rc23 hs_rs23 (fun F15_ hF15_ => ?_)
  have g16_ : F15_ n = some (.inl (1, 12, .inr (.inl (fun _ => 0)))) := by rw [← hF15_]; exact ev_up_k (ev_nf g12_ (fr23 _ (Nat.le_refl _))) g12_
  have g17_ : F15_ (n + 1) = some (.inl (0, 12, .inl (fun _ => 0))) := by rw [← hF15_]; exact ev_up_k (ev_nf g13_ (fr23 _ (Nat.le_refl _))) g13_
  have g18_ : F15_ r0 = some (.inr (11, [.ref n, .int ir0_drafted, .ref (n + 1), .null, .null, .int ir0_rows, .null, .null, .null, .null, .null, .int ir0_segments, .int ir0_stopped, .int ir0_fuse, .int ir0_written, .int ir0_tokens, .null, .null, .int ir0_height, .null, .null, .null, .int ir0_results, .null, .null, .int ir0_weighed, .null, .null, .null])) := by rw [← hF15_]; exact ev_up_k (ev_nf g14_ (fr23 _ (Nat.le_refl _))) g14_
  have g19_ : F15_ (n + 2) = some (.inl (0, 12, .inl (fun _ => 0))) := by rw [← hF15_]; exact ev_up_s
  refine ev_putfield (pc := 25) 3 _ d_Mo_init_25 fl_Mo_17 g18_ (ev_pfn (r0 := rC11) (ty := (.array .int)) rfl (Or.inr ⟨rfl, rfl, rfl⟩) (by decide +kernel)) rfl rfl (Nat.le_of_ble_eq_true rfl) (fun F20_ hF20_ => ?_)
  have g21_ : F20_ n = some (.inl (1, 12, .inr (.inl (fun _ => 0)))) := by rw [← hF20_]; exact ev_up_k (ev_ne_ao g16_ g18_) g16_
  have g22_ : F20_ (n + 1) = some (.inl (0, 12, .inl (fun _ => 0))) := by rw [← hF20_]; exact ev_up_k (ev_ne_ao g17_ g18_) g17_
  have g23_ : F20_ (n + 2) = some (.inl (0, 12, .inl (fun _ => 0))) := by rw [← hF20_]; exact ev_up_k (ev_ne_ao g19_ g18_) g19_
  have g24_ : F20_ r0 = some (.inr (11, [.ref n, .int ir0_drafted, .ref (n + 1), .ref (n + 2), .null, .int ir0_rows, .null, .null, .null, .null, .null, .int ir0_segments, .int ir0_stopped, .int ir0_fuse, .int ir0_written, .int ir0_tokens, .null, .null, .int ir0_height, .null, .null, .null, .int ir0_results, .null, .null, .int ir0_weighed, .null, .null, .null])) := by rw [← hF20_]; exact ev_up_s
  refine ev_aload_n (pc := 28) d_Mo_init_28 rfl ?_
  refine ev_sipush (pc := 29) 144 d_Mo_init_29 (by decide) ?_
  refine ev_fresh fun fr32 => ?_
  refine ev_newarray (pc := 32) 1 144 (144, .inr (.inl (fun _ => 0))) d_Mo_init_32 wd_85 rfl rfl (fun _ _ h => h) (fun _ => rfl) (by decide) (by decide) (by decide) (bc2 := rc32) (bs2 := rs32) hb_rc32 hs_rs32 (fun F25_ hF25_ => ?_)
  have g26_ : F25_ n = some (.inl (1, 12, .inr (.inl (fun _ => 0)))) := by rw [← hF25_]; exact ev_up_k (ev_nf g21_ (fr32 _ (Nat.le_refl _))) g21_
  have g27_ : F25_ (n + 1) = some (.inl (0, 12, .inl (fun _ => 0))) := by rw [← hF25_]; exact ev_up_k (ev_nf g22_ (fr32 _ (Nat.le_refl _))) g22_
  have g28_ : F25_ (n + 2) = some (.inl (0, 12, .inl (fun _ => 0))) := by rw [← hF25_]; exact ev_up_k (ev_nf g23_ (fr32 _ (Nat.le_refl _))) g23_
  have g29_ : F25_ r0 = some (.inr (11, [.ref n, .int ir0_drafted, .ref (n + 1), .ref (n + 2), .null, .int ir0_rows, .null, .null, .null, .null, .null, .int ir0_segments, .int ir0_stopped, .int ir0_fuse, .int ir0_written, .int ir0_tokens, .null, .null, .int ir0_height, .null, .null, .null, .int ir0_results, .null, .null, .int ir0_weighed, .null, .null, .null])) := by rw [← hF25_]; exact ev_up_k (ev_nf g24_ (fr32 _ (Nat.le_refl _))) g24_
  have g30_ : F25_ (n + 3) = some (.inl (1, 144, .inr (.inl (fun _ => 0)))) := by rw [← hF25_]; exact ev_up_s
  refine ev_putfield (pc := 34) 4 _ d_Mo_init_34 fl_Mo_20 g29_ (ev_pfn (r0 := rC11) (ty := (.array .long)) rfl (Or.inr ⟨rfl, rfl, rfl⟩) (by decide +kernel)) rfl rfl (Nat.le_of_ble_eq_true rfl) (fun F31_ hF31_ => ?_)
  have g32_ : F31_ n = some (.inl (1, 12, .inr (.inl (fun _ => 0)))) := by rw [← hF31_]; exact ev_up_k (ev_ne_ao g26_ g29_) g26_
  have g33_ : F31_ (n + 1) = some (.inl (0, 12, .inl (fun _ => 0))) := by rw [← hF31_]; exact ev_up_k (ev_ne_ao g27_ g29_) g27_
  have g34_ : F31_ (n + 2) = some (.inl (0, 12, .inl (fun _ => 0))) := by rw [← hF31_]; exact ev_up_k (ev_ne_ao g28_ g29_) g28_
  have g35_ : F31_ (n + 3) = some (.inl (1, 144, .inr (.inl (fun _ => 0)))) := by rw [← hF31_]; exact ev_up_k (ev_ne_ao g30_ g29_) g30_
  have g36_ : F31_ r0 = some (.inr (11, [.ref n, .int ir0_drafted, .ref (n + 1), .ref (n + 2), .ref (n + 3), .int ir0_rows, .null, .null, .null, .null, .null, .int ir0_segments, .int ir0_stopped, .int ir0_fuse, .int ir0_written, .int ir0_tokens, .null, .null, .int ir0_height, .null, .null, .null, .int ir0_results, .null, .null, .int ir0_weighed, .null, .null, .null])) := by rw [← hF31_]; exact ev_up_s
  refine ev_aload_n (pc := 37) d_Mo_init_37 rfl ?_
  refine ev_bipush (pc := 38) 80 d_Mo_init_38 (by decide) ?_
  refine ev_fresh fun fr40 => ?_
  refine ev_newarray (pc := 40) 0 80 (80, .inl (fun _ => 0)) d_Mo_init_40 wd_153 rfl rfl (fun _ _ h => h) (fun _ => rfl) (by decide) (by decide) (by decide) (bc2 := rc40) (bs2 := rs40) hb_rc40 hs_rs40 (fun F37_ hF37_ => ?_)
  have g38_ : F37_ n = some (.inl (1, 12, .inr (.inl (fun _ => 0)))) := by rw [← hF37_]; exact ev_up_k (ev_nf g32_ (fr40 _ (Nat.le_refl _))) g32_
  have g39_ : F37_ (n + 1) = some (.inl (0, 12, .inl (fun _ => 0))) := by rw [← hF37_]; exact ev_up_k (ev_nf g33_ (fr40 _ (Nat.le_refl _))) g33_
  have g40_ : F37_ (n + 2) = some (.inl (0, 12, .inl (fun _ => 0))) := by rw [← hF37_]; exact ev_up_k (ev_nf g34_ (fr40 _ (Nat.le_refl _))) g34_
  have g41_ : F37_ (n + 3) = some (.inl (1, 144, .inr (.inl (fun _ => 0)))) := by rw [← hF37_]; exact ev_up_k (ev_nf g35_ (fr40 _ (Nat.le_refl _))) g35_
  have g42_ : F37_ r0 = some (.inr (11, [.ref n, .int ir0_drafted, .ref (n + 1), .ref (n + 2), .ref (n + 3), .int ir0_rows, .null, .null, .null, .null, .null, .int ir0_segments, .int ir0_stopped, .int ir0_fuse, .int ir0_written, .int ir0_tokens, .null, .null, .int ir0_height, .null, .null, .null, .int ir0_results, .null, .null, .int ir0_weighed, .null, .null, .null])) := by rw [← hF37_]; exact ev_up_k (ev_nf g36_ (fr40 _ (Nat.le_refl _))) g36_
  have g43_ : F37_ (n + 4) = some (.inl (0, 80, .inl (fun _ => 0))) := by rw [← hF37_]; exact ev_up_s
  refine ev_putfield (pc := 42) 6 _ d_Mo_init_42 fl_Mo_23 g42_ (ev_pfn (r0 := rC11) (ty := (.array .int)) rfl (Or.inr ⟨rfl, rfl, rfl⟩) (by decide +kernel)) rfl rfl (Nat.le_of_ble_eq_true rfl) (fun F44_ hF44_ => ?_)
  have g45_ : F44_ n = some (.inl (1, 12, .inr (.inl (fun _ => 0)))) := by rw [← hF44_]; exact ev_up_k (ev_ne_ao g38_ g42_) g38_
  have g46_ : F44_ (n + 1) = some (.inl (0, 12, .inl (fun _ => 0))) := by rw [← hF44_]; exact ev_up_k (ev_ne_ao g39_ g42_) g39_
  have g47_ : F44_ (n + 2) = some (.inl (0, 12, .inl (fun _ => 0))) := by rw [← hF44_]; exact ev_up_k (ev_ne_ao g40_ g42_) g40_
  have g48_ : F44_ (n + 3) = some (.inl (1, 144, .inr (.inl (fun _ => 0)))) := by rw [← hF44_]; exact ev_up_k (ev_ne_ao g41_ g42_) g41_
  have g49_ : F44_ (n + 4) = some (.inl (0, 80, .inl (fun _ => 0))) := by rw [← hF44_]; exact ev_up_k (ev_ne_ao g43_ g42_) g43_
  have g50_ : F44_ r0 = some (.inr (11, [.ref n, .int ir0_drafted, .ref (n + 1), .ref (n + 2), .ref (n + 3), .int ir0_rows, .ref (n + 4), .null, .null, .null, .null, .int ir0_segments, .int ir0_stopped, .int ir0_fuse, .int ir0_written, .int ir0_tokens, .null, .null, .int ir0_height, .null, .null, .null, .int ir0_results, .null, .null, .int ir0_weighed, .null, .null, .null])) := by rw [← hF44_]; exact ev_up_s
  refine ev_aload_n (pc := 45) d_Mo_init_45 rfl ?_
  refine ev_bipush (pc := 46) 80 d_Mo_init_46 (by decide) ?_
  refine ev_fresh fun fr48 => ?_
  refine ev_newarray (pc := 48) 0 80 (80, .inl (fun _ => 0)) d_Mo_init_48 wd_153 rfl rfl (fun _ _ h => h) (fun _ => rfl) (by decide) (by decide) (by decide) (bc2 := rc48) (bs2 := rs48) hb_rc48 hs_rs48 (fun F51_ hF51_ => ?_)
  have g52_ : F51_ n = some (.inl (1, 12, .inr (.inl (fun _ => 0)))) := by rw [← hF51_]; exact ev_up_k (ev_nf g45_ (fr48 _ (Nat.le_refl _))) g45_
  have g53_ : F51_ (n + 1) = some (.inl (0, 12, .inl (fun _ => 0))) := by rw [← hF51_]; exact ev_up_k (ev_nf g46_ (fr48 _ (Nat.le_refl _))) g46_
  have g54_ : F51_ (n + 2) = some (.inl (0, 12, .inl (fun _ => 0))) := by rw [← hF51_]; exact ev_up_k (ev_nf g47_ (fr48 _ (Nat.le_refl _))) g47_
  have g55_ : F51_ (n + 3) = some (.inl (1, 144, .inr (.inl (fun _ => 0)))) := by rw [← hF51_]; exact ev_up_k (ev_nf g48_ (fr48 _ (Nat.le_refl _))) g48_
  have g56_ : F51_ (n + 4) = some (.inl (0, 80, .inl (fun _ => 0))) := by rw [← hF51_]; exact ev_up_k (ev_nf g49_ (fr48 _ (Nat.le_refl _))) g49_
  have g57_ : F51_ r0 = some (.inr (11, [.ref n, .int ir0_drafted, .ref (n + 1), .ref (n + 2), .ref (n + 3), .int ir0_rows, .ref (n + 4), .null, .null, .null, .null, .int ir0_segments, .int ir0_stopped, .int ir0_fuse, .int ir0_written, .int ir0_tokens, .null, .null, .int ir0_height, .null, .null, .null, .int ir0_results, .null, .null, .int ir0_weighed, .null, .null, .null])) := by rw [← hF51_]; exact ev_up_k (ev_nf g50_ (fr48 _ (Nat.le_refl _))) g50_
  have g58_ : F51_ (n + 5) = some (.inl (0, 80, .inl (fun _ => 0))) := by rw [← hF51_]; exact ev_up_s
  refine ev_putfield (pc := 50) 7 _ d_Mo_init_50 fl_Mo_26 g57_ (ev_pfn (r0 := rC11) (ty := (.array .int)) rfl (Or.inr ⟨rfl, rfl, rfl⟩) (by decide +kernel)) rfl rfl (Nat.le_of_ble_eq_true rfl) (fun F59_ hF59_ => ?_)
  have g60_ : F59_ n = some (.inl (1, 12, .inr (.inl (fun _ => 0)))) := by rw [← hF59_]; exact ev_up_k (ev_ne_ao g52_ g57_) g52_
  have g61_ : F59_ (n + 1) = some (.inl (0, 12, .inl (fun _ => 0))) := by rw [← hF59_]; exact ev_up_k (ev_ne_ao g53_ g57_) g53_
  have g62_ : F59_ (n + 2) = some (.inl (0, 12, .inl (fun _ => 0))) := by rw [← hF59_]; exact ev_up_k (ev_ne_ao g54_ g57_) g54_
  have g63_ : F59_ (n + 3) = some (.inl (1, 144, .inr (.inl (fun _ => 0)))) := by rw [← hF59_]; exact ev_up_k (ev_ne_ao g55_ g57_) g55_
  have g64_ : F59_ (n + 4) = some (.inl (0, 80, .inl (fun _ => 0))) := by rw [← hF59_]; exact ev_up_k (ev_ne_ao g56_ g57_) g56_
  have g65_ : F59_ (n + 5) = some (.inl (0, 80, .inl (fun _ => 0))) := by rw [← hF59_]; exact ev_up_k (ev_ne_ao g58_ g57_) g58_
  have g66_ : F59_ r0 = some (.inr (11, [.ref n, .int ir0_drafted, .ref (n + 1), .ref (n + 2), .ref (n + 3), .int ir0_rows, .ref (n + 4), .ref (n + 5), .null, .null, .null, .int ir0_segments, .int ir0_stopped, .int ir0_fuse, .int ir0_written, .int ir0_tokens, .null, .null, .int ir0_height, .null, .null, .null, .int ir0_results, .null, .null, .int ir0_weighed, .null, .null, .null])) := by rw [← hF59_]; exact ev_up_s
  refine ev_aload_n (pc := 53) d_Mo_init_53 rfl ?_
  refine ev_bipush (pc := 54) 80 d_Mo_init_54 (by decide) ?_
  refine ev_fresh fun fr56 => ?_
  refine ev_newarray (pc := 56) 2 80 (80, .inl (fun _ => 0)) d_Mo_init_56 wd_52 rfl rfl (fun _ _ h => h) (fun _ => rfl) (by decide) (by decide) (by decide) (bc2 := rc56) (bs2 := rs56) hb_rc56 hs_rs56 (fun F67_ hF67_ => ?_)
  have g68_ : F67_ n = some (.inl (1, 12, .inr (.inl (fun _ => 0)))) := by rw [← hF67_]; exact ev_up_k (ev_nf g60_ (fr56 _ (Nat.le_refl _))) g60_
  have g69_ : F67_ (n + 1) = some (.inl (0, 12, .inl (fun _ => 0))) := by rw [← hF67_]; exact ev_up_k (ev_nf g61_ (fr56 _ (Nat.le_refl _))) g61_
  have g70_ : F67_ (n + 2) = some (.inl (0, 12, .inl (fun _ => 0))) := by rw [← hF67_]; exact ev_up_k (ev_nf g62_ (fr56 _ (Nat.le_refl _))) g62_
  have g71_ : F67_ (n + 3) = some (.inl (1, 144, .inr (.inl (fun _ => 0)))) := by rw [← hF67_]; exact ev_up_k (ev_nf g63_ (fr56 _ (Nat.le_refl _))) g63_
  have g72_ : F67_ (n + 4) = some (.inl (0, 80, .inl (fun _ => 0))) := by rw [← hF67_]; exact ev_up_k (ev_nf g64_ (fr56 _ (Nat.le_refl _))) g64_
  have g73_ : F67_ (n + 5) = some (.inl (0, 80, .inl (fun _ => 0))) := by rw [← hF67_]; exact ev_up_k (ev_nf g65_ (fr56 _ (Nat.le_refl _))) g65_
  have g74_ : F67_ r0 = some (.inr (11, [.ref n, .int ir0_drafted, .ref (n + 1), .ref (n + 2), .ref (n + 3), .int ir0_rows, .ref (n + 4), .ref (n + 5), .null, .null, .null, .int ir0_segments, .int ir0_stopped, .int ir0_fuse, .int ir0_written, .int ir0_tokens, .null, .null, .int ir0_height, .null, .null, .null, .int ir0_results, .null, .null, .int ir0_weighed, .null, .null, .null])) := by rw [← hF67_]; exact ev_up_k (ev_nf g66_ (fr56 _ (Nat.le_refl _))) g66_
  have g75_ : F67_ (n + 6) = some (.inl (2, 80, .inl (fun _ => 0))) := by rw [← hF67_]; exact ev_up_s
  refine ev_putfield (pc := 58) 8 _ d_Mo_init_58 fl_Mo_29 g74_ (ev_pfn (r0 := rC11) (ty := (.array .boolean)) rfl (Or.inr ⟨rfl, rfl, rfl⟩) (by decide +kernel)) rfl rfl (Nat.le_of_ble_eq_true rfl) (fun F76_ hF76_ => ?_)
  have g77_ : F76_ n = some (.inl (1, 12, .inr (.inl (fun _ => 0)))) := by rw [← hF76_]; exact ev_up_k (ev_ne_ao g68_ g74_) g68_
  have g78_ : F76_ (n + 1) = some (.inl (0, 12, .inl (fun _ => 0))) := by rw [← hF76_]; exact ev_up_k (ev_ne_ao g69_ g74_) g69_
  have g79_ : F76_ (n + 2) = some (.inl (0, 12, .inl (fun _ => 0))) := by rw [← hF76_]; exact ev_up_k (ev_ne_ao g70_ g74_) g70_
  have g80_ : F76_ (n + 3) = some (.inl (1, 144, .inr (.inl (fun _ => 0)))) := by rw [← hF76_]; exact ev_up_k (ev_ne_ao g71_ g74_) g71_
  have g81_ : F76_ (n + 4) = some (.inl (0, 80, .inl (fun _ => 0))) := by rw [← hF76_]; exact ev_up_k (ev_ne_ao g72_ g74_) g72_
  have g82_ : F76_ (n + 5) = some (.inl (0, 80, .inl (fun _ => 0))) := by rw [← hF76_]; exact ev_up_k (ev_ne_ao g73_ g74_) g73_
  have g83_ : F76_ (n + 6) = some (.inl (2, 80, .inl (fun _ => 0))) := by rw [← hF76_]; exact ev_up_k (ev_ne_ao g75_ g74_) g75_
  have g84_ : F76_ r0 = some (.inr (11, [.ref n, .int ir0_drafted, .ref (n + 1), .ref (n + 2), .ref (n + 3), .int ir0_rows, .ref (n + 4), .ref (n + 5), .ref (n + 6), .null, .null, .int ir0_segments, .int ir0_stopped, .int ir0_fuse, .int ir0_written, .int ir0_tokens, .null, .null, .int ir0_height, .null, .null, .null, .int ir0_results, .null, .null, .int ir0_weighed, .null, .null, .null])) := by rw [← hF76_]; exact ev_up_s
  refine ev_aload_n (pc := 61) d_Mo_init_61 rfl ?_
  refine ev_bipush (pc := 62) 80 d_Mo_init_62 (by decide) ?_
  refine ev_fresh fun fr64 => ?_
  refine ev_newarray (pc := 64) 0 80 (80, .inl (fun _ => 0)) d_Mo_init_64 wd_153 rfl rfl (fun _ _ h => h) (fun _ => rfl) (by decide) (by decide) (by decide) (bc2 := rc64) (bs2 := rs64) hb_rc64 hs_rs64 (fun F85_ hF85_ => ?_)
  have g86_ : F85_ n = some (.inl (1, 12, .inr (.inl (fun _ => 0)))) := by rw [← hF85_]; exact ev_up_k (ev_nf g77_ (fr64 _ (Nat.le_refl _))) g77_
  have g87_ : F85_ (n + 1) = some (.inl (0, 12, .inl (fun _ => 0))) := by rw [← hF85_]; exact ev_up_k (ev_nf g78_ (fr64 _ (Nat.le_refl _))) g78_
  have g88_ : F85_ (n + 2) = some (.inl (0, 12, .inl (fun _ => 0))) := by rw [← hF85_]; exact ev_up_k (ev_nf g79_ (fr64 _ (Nat.le_refl _))) g79_
  have g89_ : F85_ (n + 3) = some (.inl (1, 144, .inr (.inl (fun _ => 0)))) := by rw [← hF85_]; exact ev_up_k (ev_nf g80_ (fr64 _ (Nat.le_refl _))) g80_
  have g90_ : F85_ (n + 4) = some (.inl (0, 80, .inl (fun _ => 0))) := by rw [← hF85_]; exact ev_up_k (ev_nf g81_ (fr64 _ (Nat.le_refl _))) g81_
  have g91_ : F85_ (n + 5) = some (.inl (0, 80, .inl (fun _ => 0))) := by rw [← hF85_]; exact ev_up_k (ev_nf g82_ (fr64 _ (Nat.le_refl _))) g82_
  have g92_ : F85_ (n + 6) = some (.inl (2, 80, .inl (fun _ => 0))) := by rw [← hF85_]; exact ev_up_k (ev_nf g83_ (fr64 _ (Nat.le_refl _))) g83_
  have g93_ : F85_ r0 = some (.inr (11, [.ref n, .int ir0_drafted, .ref (n + 1), .ref (n + 2), .ref (n + 3), .int ir0_rows, .ref (n + 4), .ref (n + 5), .ref (n + 6), .null, .null, .int ir0_segments, .int ir0_stopped, .int ir0_fuse, .int ir0_written, .int ir0_tokens, .null, .null, .int ir0_height, .null, .null, .null, .int ir0_results, .null, .null, .int ir0_weighed, .null, .null, .null])) := by rw [← hF85_]; exact ev_up_k (ev_nf g84_ (fr64 _ (Nat.le_refl _))) g84_
  have g94_ : F85_ (n + 7) = some (.inl (0, 80, .inl (fun _ => 0))) := by rw [← hF85_]; exact ev_up_s
  refine ev_putfield (pc := 66) 9 _ d_Mo_init_66 fl_Mo_33 g93_ (ev_pfn (r0 := rC11) (ty := (.array .int)) rfl (Or.inr ⟨rfl, rfl, rfl⟩) (by decide +kernel)) rfl rfl (Nat.le_of_ble_eq_true rfl) (fun F95_ hF95_ => ?_)
  have g96_ : F95_ n = some (.inl (1, 12, .inr (.inl (fun _ => 0)))) := by rw [← hF95_]; exact ev_up_k (ev_ne_ao g86_ g93_) g86_
  have g97_ : F95_ (n + 1) = some (.inl (0, 12, .inl (fun _ => 0))) := by rw [← hF95_]; exact ev_up_k (ev_ne_ao g87_ g93_) g87_
  have g98_ : F95_ (n + 2) = some (.inl (0, 12, .inl (fun _ => 0))) := by rw [← hF95_]; exact ev_up_k (ev_ne_ao g88_ g93_) g88_
  have g99_ : F95_ (n + 3) = some (.inl (1, 144, .inr (.inl (fun _ => 0)))) := by rw [← hF95_]; exact ev_up_k (ev_ne_ao g89_ g93_) g89_
  have g100_ : F95_ (n + 4) = some (.inl (0, 80, .inl (fun _ => 0))) := by rw [← hF95_]; exact ev_up_k (ev_ne_ao g90_ g93_) g90_
  have g101_ : F95_ (n + 5) = some (.inl (0, 80, .inl (fun _ => 0))) := by rw [← hF95_]; exact ev_up_k (ev_ne_ao g91_ g93_) g91_
  have g102_ : F95_ (n + 6) = some (.inl (2, 80, .inl (fun _ => 0))) := by rw [← hF95_]; exact ev_up_k (ev_ne_ao g92_ g93_) g92_
  have g103_ : F95_ (n + 7) = some (.inl (0, 80, .inl (fun _ => 0))) := by rw [← hF95_]; exact ev_up_k (ev_ne_ao g94_ g93_) g94_
  have g104_ : F95_ r0 = some (.inr (11, [.ref n, .int ir0_drafted, .ref (n + 1), .ref (n + 2), .ref (n + 3), .int ir0_rows, .ref (n + 4), .ref (n + 5), .ref (n + 6), .ref (n + 7), .null, .int ir0_segments, .int ir0_stopped, .int ir0_fuse, .int ir0_written, .int ir0_tokens, .null, .null, .int ir0_height, .null, .null, .null, .int ir0_results, .null, .null, .int ir0_weighed, .null, .null, .null])) := by rw [← hF95_]; exact ev_up_s
  refine ev_aload_n (pc := 69) d_Mo_init_69 rfl ?_
  refine ev_sipush (pc := 70) 960 d_Mo_init_70 (by decide) ?_
  refine ev_fresh fun fr73 => ?_
  refine ev_newarray (pc := 73) 1 960 (960, .inr (.inl (fun _ => 0))) d_Mo_init_73 wd_85 rfl rfl (fun _ _ h => h) (fun _ => rfl) (by decide) (by decide) (by decide) (bc2 := rc73) (bs2 := rs73) hb_rc73 hs_rs73 (fun F105_ hF105_ => ?_)
  have g106_ : F105_ n = some (.inl (1, 12, .inr (.inl (fun _ => 0)))) := by rw [← hF105_]; exact ev_up_k (ev_nf g96_ (fr73 _ (Nat.le_refl _))) g96_
  have g107_ : F105_ (n + 1) = some (.inl (0, 12, .inl (fun _ => 0))) := by rw [← hF105_]; exact ev_up_k (ev_nf g97_ (fr73 _ (Nat.le_refl _))) g97_
  have g108_ : F105_ (n + 2) = some (.inl (0, 12, .inl (fun _ => 0))) := by rw [← hF105_]; exact ev_up_k (ev_nf g98_ (fr73 _ (Nat.le_refl _))) g98_
  have g109_ : F105_ (n + 3) = some (.inl (1, 144, .inr (.inl (fun _ => 0)))) := by rw [← hF105_]; exact ev_up_k (ev_nf g99_ (fr73 _ (Nat.le_refl _))) g99_
  have g110_ : F105_ (n + 4) = some (.inl (0, 80, .inl (fun _ => 0))) := by rw [← hF105_]; exact ev_up_k (ev_nf g100_ (fr73 _ (Nat.le_refl _))) g100_
  have g111_ : F105_ (n + 5) = some (.inl (0, 80, .inl (fun _ => 0))) := by rw [← hF105_]; exact ev_up_k (ev_nf g101_ (fr73 _ (Nat.le_refl _))) g101_
  have g112_ : F105_ (n + 6) = some (.inl (2, 80, .inl (fun _ => 0))) := by rw [← hF105_]; exact ev_up_k (ev_nf g102_ (fr73 _ (Nat.le_refl _))) g102_
  have g113_ : F105_ (n + 7) = some (.inl (0, 80, .inl (fun _ => 0))) := by rw [← hF105_]; exact ev_up_k (ev_nf g103_ (fr73 _ (Nat.le_refl _))) g103_
  have g114_ : F105_ r0 = some (.inr (11, [.ref n, .int ir0_drafted, .ref (n + 1), .ref (n + 2), .ref (n + 3), .int ir0_rows, .ref (n + 4), .ref (n + 5), .ref (n + 6), .ref (n + 7), .null, .int ir0_segments, .int ir0_stopped, .int ir0_fuse, .int ir0_written, .int ir0_tokens, .null, .null, .int ir0_height, .null, .null, .null, .int ir0_results, .null, .null, .int ir0_weighed, .null, .null, .null])) := by rw [← hF105_]; exact ev_up_k (ev_nf g104_ (fr73 _ (Nat.le_refl _))) g104_
  have g115_ : F105_ (n + 8) = some (.inl (1, 960, .inr (.inl (fun _ => 0)))) := by rw [← hF105_]; exact ev_up_s
  refine ev_putfield (pc := 75) 10 _ d_Mo_init_75 fl_Mo_36 g114_ (ev_pfn (r0 := rC11) (ty := (.array .long)) rfl (Or.inr ⟨rfl, rfl, rfl⟩) (by decide +kernel)) rfl rfl (Nat.le_of_ble_eq_true rfl) (fun F116_ hF116_ => ?_)
  have g117_ : F116_ n = some (.inl (1, 12, .inr (.inl (fun _ => 0)))) := by rw [← hF116_]; exact ev_up_k (ev_ne_ao g106_ g114_) g106_
  have g118_ : F116_ (n + 1) = some (.inl (0, 12, .inl (fun _ => 0))) := by rw [← hF116_]; exact ev_up_k (ev_ne_ao g107_ g114_) g107_
  have g119_ : F116_ (n + 2) = some (.inl (0, 12, .inl (fun _ => 0))) := by rw [← hF116_]; exact ev_up_k (ev_ne_ao g108_ g114_) g108_
  have g120_ : F116_ (n + 3) = some (.inl (1, 144, .inr (.inl (fun _ => 0)))) := by rw [← hF116_]; exact ev_up_k (ev_ne_ao g109_ g114_) g109_
  have g121_ : F116_ (n + 4) = some (.inl (0, 80, .inl (fun _ => 0))) := by rw [← hF116_]; exact ev_up_k (ev_ne_ao g110_ g114_) g110_
  have g122_ : F116_ (n + 5) = some (.inl (0, 80, .inl (fun _ => 0))) := by rw [← hF116_]; exact ev_up_k (ev_ne_ao g111_ g114_) g111_
  have g123_ : F116_ (n + 6) = some (.inl (2, 80, .inl (fun _ => 0))) := by rw [← hF116_]; exact ev_up_k (ev_ne_ao g112_ g114_) g112_
  have g124_ : F116_ (n + 7) = some (.inl (0, 80, .inl (fun _ => 0))) := by rw [← hF116_]; exact ev_up_k (ev_ne_ao g113_ g114_) g113_
  have g125_ : F116_ (n + 8) = some (.inl (1, 960, .inr (.inl (fun _ => 0)))) := by rw [← hF116_]; exact ev_up_k (ev_ne_ao g115_ g114_) g115_
  have g126_ : F116_ r0 = some (.inr (11, [.ref n, .int ir0_drafted, .ref (n + 1), .ref (n + 2), .ref (n + 3), .int ir0_rows, .ref (n + 4), .ref (n + 5), .ref (n + 6), .ref (n + 7), .ref (n + 8), .int ir0_segments, .int ir0_stopped, .int ir0_fuse, .int ir0_written, .int ir0_tokens, .null, .null, .int ir0_height, .null, .null, .null, .int ir0_results, .null, .null, .int ir0_weighed, .null, .null, .null])) := by rw [← hF116_]; exact ev_up_s
  refine ev_aload_n (pc := 78) d_Mo_init_78 rfl ?_
  refine ev_sipush (pc := 79) 520 d_Mo_init_79 (by decide) ?_
  refine ev_fresh fun fr82 => ?_
  refine ev_newarray (pc := 82) 0 520 (520, .inl (fun _ => 0)) d_Mo_init_82 wd_153 rfl rfl (fun _ _ h => h) (fun _ => rfl) (by decide) (by decide) (by decide) (bc2 := rc82) (bs2 := rs82) hb_rc82 hs_rs82 (fun F127_ hF127_ => ?_)
  have g128_ : F127_ n = some (.inl (1, 12, .inr (.inl (fun _ => 0)))) := by rw [← hF127_]; exact ev_up_k (ev_nf g117_ (fr82 _ (Nat.le_refl _))) g117_
  have g129_ : F127_ (n + 1) = some (.inl (0, 12, .inl (fun _ => 0))) := by rw [← hF127_]; exact ev_up_k (ev_nf g118_ (fr82 _ (Nat.le_refl _))) g118_
  have g130_ : F127_ (n + 2) = some (.inl (0, 12, .inl (fun _ => 0))) := by rw [← hF127_]; exact ev_up_k (ev_nf g119_ (fr82 _ (Nat.le_refl _))) g119_
  have g131_ : F127_ (n + 3) = some (.inl (1, 144, .inr (.inl (fun _ => 0)))) := by rw [← hF127_]; exact ev_up_k (ev_nf g120_ (fr82 _ (Nat.le_refl _))) g120_
  have g132_ : F127_ (n + 4) = some (.inl (0, 80, .inl (fun _ => 0))) := by rw [← hF127_]; exact ev_up_k (ev_nf g121_ (fr82 _ (Nat.le_refl _))) g121_
  have g133_ : F127_ (n + 5) = some (.inl (0, 80, .inl (fun _ => 0))) := by rw [← hF127_]; exact ev_up_k (ev_nf g122_ (fr82 _ (Nat.le_refl _))) g122_
  have g134_ : F127_ (n + 6) = some (.inl (2, 80, .inl (fun _ => 0))) := by rw [← hF127_]; exact ev_up_k (ev_nf g123_ (fr82 _ (Nat.le_refl _))) g123_
  have g135_ : F127_ (n + 7) = some (.inl (0, 80, .inl (fun _ => 0))) := by rw [← hF127_]; exact ev_up_k (ev_nf g124_ (fr82 _ (Nat.le_refl _))) g124_
  have g136_ : F127_ (n + 8) = some (.inl (1, 960, .inr (.inl (fun _ => 0)))) := by rw [← hF127_]; exact ev_up_k (ev_nf g125_ (fr82 _ (Nat.le_refl _))) g125_
  have g137_ : F127_ r0 = some (.inr (11, [.ref n, .int ir0_drafted, .ref (n + 1), .ref (n + 2), .ref (n + 3), .int ir0_rows, .ref (n + 4), .ref (n + 5), .ref (n + 6), .ref (n + 7), .ref (n + 8), .int ir0_segments, .int ir0_stopped, .int ir0_fuse, .int ir0_written, .int ir0_tokens, .null, .null, .int ir0_height, .null, .null, .null, .int ir0_results, .null, .null, .int ir0_weighed, .null, .null, .null])) := by rw [← hF127_]; exact ev_up_k (ev_nf g126_ (fr82 _ (Nat.le_refl _))) g126_
  have g138_ : F127_ (n + 9) = some (.inl (0, 520, .inl (fun _ => 0))) := by rw [← hF127_]; exact ev_up_s
  refine ev_putfield (pc := 84) 16 _ d_Mo_init_84 fl_Mo_39 g137_ (ev_pfn (r0 := rC11) (ty := (.array .int)) rfl (Or.inr ⟨rfl, rfl, rfl⟩) (by decide +kernel)) rfl rfl (Nat.le_of_ble_eq_true rfl) (fun F139_ hF139_ => ?_)
  have g140_ : F139_ n = some (.inl (1, 12, .inr (.inl (fun _ => 0)))) := by rw [← hF139_]; exact ev_up_k (ev_ne_ao g128_ g137_) g128_
  have g141_ : F139_ (n + 1) = some (.inl (0, 12, .inl (fun _ => 0))) := by rw [← hF139_]; exact ev_up_k (ev_ne_ao g129_ g137_) g129_
  have g142_ : F139_ (n + 2) = some (.inl (0, 12, .inl (fun _ => 0))) := by rw [← hF139_]; exact ev_up_k (ev_ne_ao g130_ g137_) g130_
  have g143_ : F139_ (n + 3) = some (.inl (1, 144, .inr (.inl (fun _ => 0)))) := by rw [← hF139_]; exact ev_up_k (ev_ne_ao g131_ g137_) g131_
  have g144_ : F139_ (n + 4) = some (.inl (0, 80, .inl (fun _ => 0))) := by rw [← hF139_]; exact ev_up_k (ev_ne_ao g132_ g137_) g132_
  have g145_ : F139_ (n + 5) = some (.inl (0, 80, .inl (fun _ => 0))) := by rw [← hF139_]; exact ev_up_k (ev_ne_ao g133_ g137_) g133_
  have g146_ : F139_ (n + 6) = some (.inl (2, 80, .inl (fun _ => 0))) := by rw [← hF139_]; exact ev_up_k (ev_ne_ao g134_ g137_) g134_
  have g147_ : F139_ (n + 7) = some (.inl (0, 80, .inl (fun _ => 0))) := by rw [← hF139_]; exact ev_up_k (ev_ne_ao g135_ g137_) g135_
  have g148_ : F139_ (n + 8) = some (.inl (1, 960, .inr (.inl (fun _ => 0)))) := by rw [← hF139_]; exact ev_up_k (ev_ne_ao g136_ g137_) g136_
  have g149_ : F139_ (n + 9) = some (.inl (0, 520, .inl (fun _ => 0))) := by rw [← hF139_]; exact ev_up_k (ev_ne_ao g138_ g137_) g138_
  have g150_ : F139_ r0 = some (.inr (11, [.ref n, .int ir0_drafted, .ref (n + 1), .ref (n + 2), .ref (n + 3), .int ir0_rows, .ref (n + 4), .ref (n + 5), .ref (n + 6), .ref (n + 7), .ref (n + 8), .int ir0_segments, .int ir0_stopped, .int ir0_fuse, .int ir0_written, .int ir0_tokens, .ref (n + 9), .null, .int ir0_height, .null, .null, .null, .int ir0_results, .null, .null, .int ir0_weighed, .null, .null, .null])) := by rw [← hF139_]; exact ev_up_s
  refine ev_aload_n (pc := 87) d_Mo_init_87 rfl ?_
  refine ev_sipush (pc := 88) 520 d_Mo_init_88 (by decide) ?_
  refine ev_fresh fun fr91 => ?_
  refine ev_newarray (pc := 91) 1 520 (520, .inr (.inl (fun _ => 0))) d_Mo_init_91 wd_85 rfl rfl (fun _ _ h => h) (fun _ => rfl) (by decide) (by decide) (by decide) (bc2 := rc91) (bs2 := rs91) hb_rc91 hs_rs91 (fun F151_ hF151_ => ?_)
  have g152_ : F151_ n = some (.inl (1, 12, .inr (.inl (fun _ => 0)))) := by rw [← hF151_]; exact ev_up_k (ev_nf g140_ (fr91 _ (Nat.le_refl _))) g140_
  have g153_ : F151_ (n + 1) = some (.inl (0, 12, .inl (fun _ => 0))) := by rw [← hF151_]; exact ev_up_k (ev_nf g141_ (fr91 _ (Nat.le_refl _))) g141_
  have g154_ : F151_ (n + 2) = some (.inl (0, 12, .inl (fun _ => 0))) := by rw [← hF151_]; exact ev_up_k (ev_nf g142_ (fr91 _ (Nat.le_refl _))) g142_
  have g155_ : F151_ (n + 3) = some (.inl (1, 144, .inr (.inl (fun _ => 0)))) := by rw [← hF151_]; exact ev_up_k (ev_nf g143_ (fr91 _ (Nat.le_refl _))) g143_
  have g156_ : F151_ (n + 4) = some (.inl (0, 80, .inl (fun _ => 0))) := by rw [← hF151_]; exact ev_up_k (ev_nf g144_ (fr91 _ (Nat.le_refl _))) g144_
  have g157_ : F151_ (n + 5) = some (.inl (0, 80, .inl (fun _ => 0))) := by rw [← hF151_]; exact ev_up_k (ev_nf g145_ (fr91 _ (Nat.le_refl _))) g145_
  have g158_ : F151_ (n + 6) = some (.inl (2, 80, .inl (fun _ => 0))) := by rw [← hF151_]; exact ev_up_k (ev_nf g146_ (fr91 _ (Nat.le_refl _))) g146_
  have g159_ : F151_ (n + 7) = some (.inl (0, 80, .inl (fun _ => 0))) := by rw [← hF151_]; exact ev_up_k (ev_nf g147_ (fr91 _ (Nat.le_refl _))) g147_
  have g160_ : F151_ (n + 8) = some (.inl (1, 960, .inr (.inl (fun _ => 0)))) := by rw [← hF151_]; exact ev_up_k (ev_nf g148_ (fr91 _ (Nat.le_refl _))) g148_
  have g161_ : F151_ (n + 9) = some (.inl (0, 520, .inl (fun _ => 0))) := by rw [← hF151_]; exact ev_up_k (ev_nf g149_ (fr91 _ (Nat.le_refl _))) g149_
  have g162_ : F151_ r0 = some (.inr (11, [.ref n, .int ir0_drafted, .ref (n + 1), .ref (n + 2), .ref (n + 3), .int ir0_rows, .ref (n + 4), .ref (n + 5), .ref (n + 6), .ref (n + 7), .ref (n + 8), .int ir0_segments, .int ir0_stopped, .int ir0_fuse, .int ir0_written, .int ir0_tokens, .ref (n + 9), .null, .int ir0_height, .null, .null, .null, .int ir0_results, .null, .null, .int ir0_weighed, .null, .null, .null])) := by rw [← hF151_]; exact ev_up_k (ev_nf g150_ (fr91 _ (Nat.le_refl _))) g150_
  have g163_ : F151_ (n + 10) = some (.inl (1, 520, .inr (.inl (fun _ => 0)))) := by rw [← hF151_]; exact ev_up_s
  refine ev_putfield (pc := 93) 17 _ d_Mo_init_93 fl_Mo_42 g162_ (ev_pfn (r0 := rC11) (ty := (.array .long)) rfl (Or.inr ⟨rfl, rfl, rfl⟩) (by decide +kernel)) rfl rfl (Nat.le_of_ble_eq_true rfl) (fun F164_ hF164_ => ?_)
  have g165_ : F164_ n = some (.inl (1, 12, .inr (.inl (fun _ => 0)))) := by rw [← hF164_]; exact ev_up_k (ev_ne_ao g152_ g162_) g152_
  have g166_ : F164_ (n + 1) = some (.inl (0, 12, .inl (fun _ => 0))) := by rw [← hF164_]; exact ev_up_k (ev_ne_ao g153_ g162_) g153_
  have g167_ : F164_ (n + 2) = some (.inl (0, 12, .inl (fun _ => 0))) := by rw [← hF164_]; exact ev_up_k (ev_ne_ao g154_ g162_) g154_
  have g168_ : F164_ (n + 3) = some (.inl (1, 144, .inr (.inl (fun _ => 0)))) := by rw [← hF164_]; exact ev_up_k (ev_ne_ao g155_ g162_) g155_
  have g169_ : F164_ (n + 4) = some (.inl (0, 80, .inl (fun _ => 0))) := by rw [← hF164_]; exact ev_up_k (ev_ne_ao g156_ g162_) g156_
  have g170_ : F164_ (n + 5) = some (.inl (0, 80, .inl (fun _ => 0))) := by rw [← hF164_]; exact ev_up_k (ev_ne_ao g157_ g162_) g157_
  have g171_ : F164_ (n + 6) = some (.inl (2, 80, .inl (fun _ => 0))) := by rw [← hF164_]; exact ev_up_k (ev_ne_ao g158_ g162_) g158_
  have g172_ : F164_ (n + 7) = some (.inl (0, 80, .inl (fun _ => 0))) := by rw [← hF164_]; exact ev_up_k (ev_ne_ao g159_ g162_) g159_
  have g173_ : F164_ (n + 8) = some (.inl (1, 960, .inr (.inl (fun _ => 0)))) := by rw [← hF164_]; exact ev_up_k (ev_ne_ao g160_ g162_) g160_
  have g174_ : F164_ (n + 9) = some (.inl (0, 520, .inl (fun _ => 0))) := by rw [← hF164_]; exact ev_up_k (ev_ne_ao g161_ g162_) g161_
  have g175_ : F164_ (n + 10) = some (.inl (1, 520, .inr (.inl (fun _ => 0)))) := by rw [← hF164_]; exact ev_up_k (ev_ne_ao g163_ g162_) g163_
  have g176_ : F164_ r0 = some (.inr (11, [.ref n, .int ir0_drafted, .ref (n + 1), .ref (n + 2), .ref (n + 3), .int ir0_rows, .ref (n + 4), .ref (n + 5), .ref (n + 6), .ref (n + 7), .ref (n + 8), .int ir0_segments, .int ir0_stopped, .int ir0_fuse, .int ir0_written, .int ir0_tokens, .ref (n + 9), .ref (n + 10), .int ir0_height, .null, .null, .null, .int ir0_results, .null, .null, .int ir0_weighed, .null, .null, .null])) := by rw [← hF164_]; exact ev_up_s
  refine ev_aload_n (pc := 96) d_Mo_init_96 rfl ?_
  refine ev_bipush (pc := 97) 8 d_Mo_init_97 (by decide) ?_
  refine ev_fresh fun fr99 => ?_
  refine ev_newarray (pc := 99) 2 8 (8, .inl (fun _ => 0)) d_Mo_init_99 wd_52 rfl rfl (fun _ _ h => h) (fun _ => rfl) (by decide) (by decide) (by decide) (bc2 := rc99) (bs2 := rs99) hb_rc99 hs_rs99 (fun F177_ hF177_ => ?_)
  have g178_ : F177_ n = some (.inl (1, 12, .inr (.inl (fun _ => 0)))) := by rw [← hF177_]; exact ev_up_k (ev_nf g165_ (fr99 _ (Nat.le_refl _))) g165_
  have g179_ : F177_ (n + 1) = some (.inl (0, 12, .inl (fun _ => 0))) := by rw [← hF177_]; exact ev_up_k (ev_nf g166_ (fr99 _ (Nat.le_refl _))) g166_
  have g180_ : F177_ (n + 2) = some (.inl (0, 12, .inl (fun _ => 0))) := by rw [← hF177_]; exact ev_up_k (ev_nf g167_ (fr99 _ (Nat.le_refl _))) g167_
  have g181_ : F177_ (n + 3) = some (.inl (1, 144, .inr (.inl (fun _ => 0)))) := by rw [← hF177_]; exact ev_up_k (ev_nf g168_ (fr99 _ (Nat.le_refl _))) g168_
  have g182_ : F177_ (n + 4) = some (.inl (0, 80, .inl (fun _ => 0))) := by rw [← hF177_]; exact ev_up_k (ev_nf g169_ (fr99 _ (Nat.le_refl _))) g169_
  have g183_ : F177_ (n + 5) = some (.inl (0, 80, .inl (fun _ => 0))) := by rw [← hF177_]; exact ev_up_k (ev_nf g170_ (fr99 _ (Nat.le_refl _))) g170_
  have g184_ : F177_ (n + 6) = some (.inl (2, 80, .inl (fun _ => 0))) := by rw [← hF177_]; exact ev_up_k (ev_nf g171_ (fr99 _ (Nat.le_refl _))) g171_
  have g185_ : F177_ (n + 7) = some (.inl (0, 80, .inl (fun _ => 0))) := by rw [← hF177_]; exact ev_up_k (ev_nf g172_ (fr99 _ (Nat.le_refl _))) g172_
  have g186_ : F177_ (n + 8) = some (.inl (1, 960, .inr (.inl (fun _ => 0)))) := by rw [← hF177_]; exact ev_up_k (ev_nf g173_ (fr99 _ (Nat.le_refl _))) g173_
  have g187_ : F177_ (n + 9) = some (.inl (0, 520, .inl (fun _ => 0))) := by rw [← hF177_]; exact ev_up_k (ev_nf g174_ (fr99 _ (Nat.le_refl _))) g174_
  have g188_ : F177_ (n + 10) = some (.inl (1, 520, .inr (.inl (fun _ => 0)))) := by rw [← hF177_]; exact ev_up_k (ev_nf g175_ (fr99 _ (Nat.le_refl _))) g175_
  have g189_ : F177_ r0 = some (.inr (11, [.ref n, .int ir0_drafted, .ref (n + 1), .ref (n + 2), .ref (n + 3), .int ir0_rows, .ref (n + 4), .ref (n + 5), .ref (n + 6), .ref (n + 7), .ref (n + 8), .int ir0_segments, .int ir0_stopped, .int ir0_fuse, .int ir0_written, .int ir0_tokens, .ref (n + 9), .ref (n + 10), .int ir0_height, .null, .null, .null, .int ir0_results, .null, .null, .int ir0_weighed, .null, .null, .null])) := by rw [← hF177_]; exact ev_up_k (ev_nf g176_ (fr99 _ (Nat.le_refl _))) g176_
  have g190_ : F177_ (n + 11) = some (.inl (2, 8, .inl (fun _ => 0))) := by rw [← hF177_]; exact ev_up_s
  refine ev_putfield (pc := 101) 19 _ d_Mo_init_101 fl_Mo_45 g189_ (ev_pfn (r0 := rC11) (ty := (.array .boolean)) rfl (Or.inr ⟨rfl, rfl, rfl⟩) (by decide +kernel)) rfl rfl (Nat.le_of_ble_eq_true rfl) (fun F191_ hF191_ => ?_)
  have g192_ : F191_ n = some (.inl (1, 12, .inr (.inl (fun _ => 0)))) := by rw [← hF191_]; exact ev_up_k (ev_ne_ao g178_ g189_) g178_
  have g193_ : F191_ (n + 1) = some (.inl (0, 12, .inl (fun _ => 0))) := by rw [← hF191_]; exact ev_up_k (ev_ne_ao g179_ g189_) g179_
  have g194_ : F191_ (n + 2) = some (.inl (0, 12, .inl (fun _ => 0))) := by rw [← hF191_]; exact ev_up_k (ev_ne_ao g180_ g189_) g180_
  have g195_ : F191_ (n + 3) = some (.inl (1, 144, .inr (.inl (fun _ => 0)))) := by rw [← hF191_]; exact ev_up_k (ev_ne_ao g181_ g189_) g181_
  have g196_ : F191_ (n + 4) = some (.inl (0, 80, .inl (fun _ => 0))) := by rw [← hF191_]; exact ev_up_k (ev_ne_ao g182_ g189_) g182_
  have g197_ : F191_ (n + 5) = some (.inl (0, 80, .inl (fun _ => 0))) := by rw [← hF191_]; exact ev_up_k (ev_ne_ao g183_ g189_) g183_
  have g198_ : F191_ (n + 6) = some (.inl (2, 80, .inl (fun _ => 0))) := by rw [← hF191_]; exact ev_up_k (ev_ne_ao g184_ g189_) g184_
  have g199_ : F191_ (n + 7) = some (.inl (0, 80, .inl (fun _ => 0))) := by rw [← hF191_]; exact ev_up_k (ev_ne_ao g185_ g189_) g185_
  have g200_ : F191_ (n + 8) = some (.inl (1, 960, .inr (.inl (fun _ => 0)))) := by rw [← hF191_]; exact ev_up_k (ev_ne_ao g186_ g189_) g186_
  have g201_ : F191_ (n + 9) = some (.inl (0, 520, .inl (fun _ => 0))) := by rw [← hF191_]; exact ev_up_k (ev_ne_ao g187_ g189_) g187_
  have g202_ : F191_ (n + 10) = some (.inl (1, 520, .inr (.inl (fun _ => 0)))) := by rw [← hF191_]; exact ev_up_k (ev_ne_ao g188_ g189_) g188_
  have g203_ : F191_ (n + 11) = some (.inl (2, 8, .inl (fun _ => 0))) := by rw [← hF191_]; exact ev_up_k (ev_ne_ao g190_ g189_) g190_
  have g204_ : F191_ r0 = some (.inr (11, [.ref n, .int ir0_drafted, .ref (n + 1), .ref (n + 2), .ref (n + 3), .int ir0_rows, .ref (n + 4), .ref (n + 5), .ref (n + 6), .ref (n + 7), .ref (n + 8), .int ir0_segments, .int ir0_stopped, .int ir0_fuse, .int ir0_written, .int ir0_tokens, .ref (n + 9), .ref (n + 10), .int ir0_height, .ref (n + 11), .null, .null, .int ir0_results, .null, .null, .int ir0_weighed, .null, .null, .null])) := by rw [← hF191_]; exact ev_up_s
  refine ev_aload_n (pc := 104) d_Mo_init_104 rfl ?_
  refine ev_bipush (pc := 105) 8 d_Mo_init_105 (by decide) ?_
  refine ev_fresh fun fr107 => ?_
  refine ev_newarray (pc := 107) 0 8 (8, .inl (fun _ => 0)) d_Mo_init_107 wd_153 rfl rfl (fun _ _ h => h) (fun _ => rfl) (by decide) (by decide) (by decide) (bc2 := rc107) (bs2 := rs107) hb_rc107 hs_rs107 (fun F205_ hF205_ => ?_)
  have g206_ : F205_ n = some (.inl (1, 12, .inr (.inl (fun _ => 0)))) := by rw [← hF205_]; exact ev_up_k (ev_nf g192_ (fr107 _ (Nat.le_refl _))) g192_
  have g207_ : F205_ (n + 1) = some (.inl (0, 12, .inl (fun _ => 0))) := by rw [← hF205_]; exact ev_up_k (ev_nf g193_ (fr107 _ (Nat.le_refl _))) g193_
  have g208_ : F205_ (n + 2) = some (.inl (0, 12, .inl (fun _ => 0))) := by rw [← hF205_]; exact ev_up_k (ev_nf g194_ (fr107 _ (Nat.le_refl _))) g194_
  have g209_ : F205_ (n + 3) = some (.inl (1, 144, .inr (.inl (fun _ => 0)))) := by rw [← hF205_]; exact ev_up_k (ev_nf g195_ (fr107 _ (Nat.le_refl _))) g195_
  have g210_ : F205_ (n + 4) = some (.inl (0, 80, .inl (fun _ => 0))) := by rw [← hF205_]; exact ev_up_k (ev_nf g196_ (fr107 _ (Nat.le_refl _))) g196_
  have g211_ : F205_ (n + 5) = some (.inl (0, 80, .inl (fun _ => 0))) := by rw [← hF205_]; exact ev_up_k (ev_nf g197_ (fr107 _ (Nat.le_refl _))) g197_
  have g212_ : F205_ (n + 6) = some (.inl (2, 80, .inl (fun _ => 0))) := by rw [← hF205_]; exact ev_up_k (ev_nf g198_ (fr107 _ (Nat.le_refl _))) g198_
  have g213_ : F205_ (n + 7) = some (.inl (0, 80, .inl (fun _ => 0))) := by rw [← hF205_]; exact ev_up_k (ev_nf g199_ (fr107 _ (Nat.le_refl _))) g199_
  have g214_ : F205_ (n + 8) = some (.inl (1, 960, .inr (.inl (fun _ => 0)))) := by rw [← hF205_]; exact ev_up_k (ev_nf g200_ (fr107 _ (Nat.le_refl _))) g200_
  have g215_ : F205_ (n + 9) = some (.inl (0, 520, .inl (fun _ => 0))) := by rw [← hF205_]; exact ev_up_k (ev_nf g201_ (fr107 _ (Nat.le_refl _))) g201_
  have g216_ : F205_ (n + 10) = some (.inl (1, 520, .inr (.inl (fun _ => 0)))) := by rw [← hF205_]; exact ev_up_k (ev_nf g202_ (fr107 _ (Nat.le_refl _))) g202_
  have g217_ : F205_ (n + 11) = some (.inl (2, 8, .inl (fun _ => 0))) := by rw [← hF205_]; exact ev_up_k (ev_nf g203_ (fr107 _ (Nat.le_refl _))) g203_
  have g218_ : F205_ r0 = some (.inr (11, [.ref n, .int ir0_drafted, .ref (n + 1), .ref (n + 2), .ref (n + 3), .int ir0_rows, .ref (n + 4), .ref (n + 5), .ref (n + 6), .ref (n + 7), .ref (n + 8), .int ir0_segments, .int ir0_stopped, .int ir0_fuse, .int ir0_written, .int ir0_tokens, .ref (n + 9), .ref (n + 10), .int ir0_height, .ref (n + 11), .null, .null, .int ir0_results, .null, .null, .int ir0_weighed, .null, .null, .null])) := by rw [← hF205_]; exact ev_up_k (ev_nf g204_ (fr107 _ (Nat.le_refl _))) g204_
  have g219_ : F205_ (n + 12) = some (.inl (0, 8, .inl (fun _ => 0))) := by rw [← hF205_]; exact ev_up_s
  refine ev_putfield (pc := 109) 20 _ d_Mo_init_109 fl_Mo_48 g218_ (ev_pfn (r0 := rC11) (ty := (.array .int)) rfl (Or.inr ⟨rfl, rfl, rfl⟩) (by decide +kernel)) rfl rfl (Nat.le_of_ble_eq_true rfl) (fun F220_ hF220_ => ?_)
  have g221_ : F220_ n = some (.inl (1, 12, .inr (.inl (fun _ => 0)))) := by rw [← hF220_]; exact ev_up_k (ev_ne_ao g206_ g218_) g206_
  have g222_ : F220_ (n + 1) = some (.inl (0, 12, .inl (fun _ => 0))) := by rw [← hF220_]; exact ev_up_k (ev_ne_ao g207_ g218_) g207_
  have g223_ : F220_ (n + 2) = some (.inl (0, 12, .inl (fun _ => 0))) := by rw [← hF220_]; exact ev_up_k (ev_ne_ao g208_ g218_) g208_
  have g224_ : F220_ (n + 3) = some (.inl (1, 144, .inr (.inl (fun _ => 0)))) := by rw [← hF220_]; exact ev_up_k (ev_ne_ao g209_ g218_) g209_
  have g225_ : F220_ (n + 4) = some (.inl (0, 80, .inl (fun _ => 0))) := by rw [← hF220_]; exact ev_up_k (ev_ne_ao g210_ g218_) g210_
  have g226_ : F220_ (n + 5) = some (.inl (0, 80, .inl (fun _ => 0))) := by rw [← hF220_]; exact ev_up_k (ev_ne_ao g211_ g218_) g211_
  have g227_ : F220_ (n + 6) = some (.inl (2, 80, .inl (fun _ => 0))) := by rw [← hF220_]; exact ev_up_k (ev_ne_ao g212_ g218_) g212_
  have g228_ : F220_ (n + 7) = some (.inl (0, 80, .inl (fun _ => 0))) := by rw [← hF220_]; exact ev_up_k (ev_ne_ao g213_ g218_) g213_
  have g229_ : F220_ (n + 8) = some (.inl (1, 960, .inr (.inl (fun _ => 0)))) := by rw [← hF220_]; exact ev_up_k (ev_ne_ao g214_ g218_) g214_
  have g230_ : F220_ (n + 9) = some (.inl (0, 520, .inl (fun _ => 0))) := by rw [← hF220_]; exact ev_up_k (ev_ne_ao g215_ g218_) g215_
  have g231_ : F220_ (n + 10) = some (.inl (1, 520, .inr (.inl (fun _ => 0)))) := by rw [← hF220_]; exact ev_up_k (ev_ne_ao g216_ g218_) g216_
  have g232_ : F220_ (n + 11) = some (.inl (2, 8, .inl (fun _ => 0))) := by rw [← hF220_]; exact ev_up_k (ev_ne_ao g217_ g218_) g217_
  have g233_ : F220_ (n + 12) = some (.inl (0, 8, .inl (fun _ => 0))) := by rw [← hF220_]; exact ev_up_k (ev_ne_ao g219_ g218_) g219_
  have g234_ : F220_ r0 = some (.inr (11, [.ref n, .int ir0_drafted, .ref (n + 1), .ref (n + 2), .ref (n + 3), .int ir0_rows, .ref (n + 4), .ref (n + 5), .ref (n + 6), .ref (n + 7), .ref (n + 8), .int ir0_segments, .int ir0_stopped, .int ir0_fuse, .int ir0_written, .int ir0_tokens, .ref (n + 9), .ref (n + 10), .int ir0_height, .ref (n + 11), .ref (n + 12), .null, .int ir0_results, .null, .null, .int ir0_weighed, .null, .null, .null])) := by rw [← hF220_]; exact ev_up_s
  refine ev_aload_n (pc := 112) d_Mo_init_112 rfl ?_
  refine ev_bipush (pc := 113) 8 d_Mo_init_113 (by decide) ?_
  refine ev_fresh fun fr115 => ?_
  refine ev_newarray (pc := 115) 2 8 (8, .inl (fun _ => 0)) d_Mo_init_115 wd_52 rfl rfl (fun _ _ h => h) (fun _ => rfl) (by decide) (by decide) (by decide) (bc2 := rc115) (bs2 := rs115) hb_rc115 hs_rs115 (fun F235_ hF235_ => ?_)
  have g236_ : F235_ n = some (.inl (1, 12, .inr (.inl (fun _ => 0)))) := by rw [← hF235_]; exact ev_up_k (ev_nf g221_ (fr115 _ (Nat.le_refl _))) g221_
  have g237_ : F235_ (n + 1) = some (.inl (0, 12, .inl (fun _ => 0))) := by rw [← hF235_]; exact ev_up_k (ev_nf g222_ (fr115 _ (Nat.le_refl _))) g222_
  have g238_ : F235_ (n + 2) = some (.inl (0, 12, .inl (fun _ => 0))) := by rw [← hF235_]; exact ev_up_k (ev_nf g223_ (fr115 _ (Nat.le_refl _))) g223_
  have g239_ : F235_ (n + 3) = some (.inl (1, 144, .inr (.inl (fun _ => 0)))) := by rw [← hF235_]; exact ev_up_k (ev_nf g224_ (fr115 _ (Nat.le_refl _))) g224_
  have g240_ : F235_ (n + 4) = some (.inl (0, 80, .inl (fun _ => 0))) := by rw [← hF235_]; exact ev_up_k (ev_nf g225_ (fr115 _ (Nat.le_refl _))) g225_
  have g241_ : F235_ (n + 5) = some (.inl (0, 80, .inl (fun _ => 0))) := by rw [← hF235_]; exact ev_up_k (ev_nf g226_ (fr115 _ (Nat.le_refl _))) g226_
  have g242_ : F235_ (n + 6) = some (.inl (2, 80, .inl (fun _ => 0))) := by rw [← hF235_]; exact ev_up_k (ev_nf g227_ (fr115 _ (Nat.le_refl _))) g227_
  have g243_ : F235_ (n + 7) = some (.inl (0, 80, .inl (fun _ => 0))) := by rw [← hF235_]; exact ev_up_k (ev_nf g228_ (fr115 _ (Nat.le_refl _))) g228_
  have g244_ : F235_ (n + 8) = some (.inl (1, 960, .inr (.inl (fun _ => 0)))) := by rw [← hF235_]; exact ev_up_k (ev_nf g229_ (fr115 _ (Nat.le_refl _))) g229_
  have g245_ : F235_ (n + 9) = some (.inl (0, 520, .inl (fun _ => 0))) := by rw [← hF235_]; exact ev_up_k (ev_nf g230_ (fr115 _ (Nat.le_refl _))) g230_
  have g246_ : F235_ (n + 10) = some (.inl (1, 520, .inr (.inl (fun _ => 0)))) := by rw [← hF235_]; exact ev_up_k (ev_nf g231_ (fr115 _ (Nat.le_refl _))) g231_
  have g247_ : F235_ (n + 11) = some (.inl (2, 8, .inl (fun _ => 0))) := by rw [← hF235_]; exact ev_up_k (ev_nf g232_ (fr115 _ (Nat.le_refl _))) g232_
  have g248_ : F235_ (n + 12) = some (.inl (0, 8, .inl (fun _ => 0))) := by rw [← hF235_]; exact ev_up_k (ev_nf g233_ (fr115 _ (Nat.le_refl _))) g233_
  have g249_ : F235_ r0 = some (.inr (11, [.ref n, .int ir0_drafted, .ref (n + 1), .ref (n + 2), .ref (n + 3), .int ir0_rows, .ref (n + 4), .ref (n + 5), .ref (n + 6), .ref (n + 7), .ref (n + 8), .int ir0_segments, .int ir0_stopped, .int ir0_fuse, .int ir0_written, .int ir0_tokens, .ref (n + 9), .ref (n + 10), .int ir0_height, .ref (n + 11), .ref (n + 12), .null, .int ir0_results, .null, .null, .int ir0_weighed, .null, .null, .null])) := by rw [← hF235_]; exact ev_up_k (ev_nf g234_ (fr115 _ (Nat.le_refl _))) g234_
  have g250_ : F235_ (n + 13) = some (.inl (2, 8, .inl (fun _ => 0))) := by rw [← hF235_]; exact ev_up_s
  refine ev_putfield (pc := 117) 21 _ d_Mo_init_117 fl_Mo_51 g249_ (ev_pfn (r0 := rC11) (ty := (.array .boolean)) rfl (Or.inr ⟨rfl, rfl, rfl⟩) (by decide +kernel)) rfl rfl (Nat.le_of_ble_eq_true rfl) (fun F251_ hF251_ => ?_)
  have g252_ : F251_ n = some (.inl (1, 12, .inr (.inl (fun _ => 0)))) := by rw [← hF251_]; exact ev_up_k (ev_ne_ao g236_ g249_) g236_
  have g253_ : F251_ (n + 1) = some (.inl (0, 12, .inl (fun _ => 0))) := by rw [← hF251_]; exact ev_up_k (ev_ne_ao g237_ g249_) g237_
  have g254_ : F251_ (n + 2) = some (.inl (0, 12, .inl (fun _ => 0))) := by rw [← hF251_]; exact ev_up_k (ev_ne_ao g238_ g249_) g238_
  have g255_ : F251_ (n + 3) = some (.inl (1, 144, .inr (.inl (fun _ => 0)))) := by rw [← hF251_]; exact ev_up_k (ev_ne_ao g239_ g249_) g239_
  have g256_ : F251_ (n + 4) = some (.inl (0, 80, .inl (fun _ => 0))) := by rw [← hF251_]; exact ev_up_k (ev_ne_ao g240_ g249_) g240_
  have g257_ : F251_ (n + 5) = some (.inl (0, 80, .inl (fun _ => 0))) := by rw [← hF251_]; exact ev_up_k (ev_ne_ao g241_ g249_) g241_
  have g258_ : F251_ (n + 6) = some (.inl (2, 80, .inl (fun _ => 0))) := by rw [← hF251_]; exact ev_up_k (ev_ne_ao g242_ g249_) g242_
  have g259_ : F251_ (n + 7) = some (.inl (0, 80, .inl (fun _ => 0))) := by rw [← hF251_]; exact ev_up_k (ev_ne_ao g243_ g249_) g243_
  have g260_ : F251_ (n + 8) = some (.inl (1, 960, .inr (.inl (fun _ => 0)))) := by rw [← hF251_]; exact ev_up_k (ev_ne_ao g244_ g249_) g244_
  have g261_ : F251_ (n + 9) = some (.inl (0, 520, .inl (fun _ => 0))) := by rw [← hF251_]; exact ev_up_k (ev_ne_ao g245_ g249_) g245_
  have g262_ : F251_ (n + 10) = some (.inl (1, 520, .inr (.inl (fun _ => 0)))) := by rw [← hF251_]; exact ev_up_k (ev_ne_ao g246_ g249_) g246_
  have g263_ : F251_ (n + 11) = some (.inl (2, 8, .inl (fun _ => 0))) := by rw [← hF251_]; exact ev_up_k (ev_ne_ao g247_ g249_) g247_
  have g264_ : F251_ (n + 12) = some (.inl (0, 8, .inl (fun _ => 0))) := by rw [← hF251_]; exact ev_up_k (ev_ne_ao g248_ g249_) g248_
  have g265_ : F251_ (n + 13) = some (.inl (2, 8, .inl (fun _ => 0))) := by rw [← hF251_]; exact ev_up_k (ev_ne_ao g250_ g249_) g250_
  have g266_ : F251_ r0 = some (.inr (11, [.ref n, .int ir0_drafted, .ref (n + 1), .ref (n + 2), .ref (n + 3), .int ir0_rows, .ref (n + 4), .ref (n + 5), .ref (n + 6), .ref (n + 7), .ref (n + 8), .int ir0_segments, .int ir0_stopped, .int ir0_fuse, .int ir0_written, .int ir0_tokens, .ref (n + 9), .ref (n + 10), .int ir0_height, .ref (n + 11), .ref (n + 12), .ref (n + 13), .int ir0_results, .null, .null, .int ir0_weighed, .null, .null, .null])) := by rw [← hF251_]; exact ev_up_s
  refine ev_aload_n (pc := 120) d_Mo_init_120 rfl ?_
  refine ev_bipush (pc := 121) 12 d_Mo_init_121 (by decide) ?_
  refine ev_fresh fun fr123 => ?_
  refine ev_newarray (pc := 123) 0 12 (12, .inl (fun _ => 0)) d_Mo_init_123 wd_153 rfl rfl (fun _ _ h => h) (fun _ => rfl) (by decide) (by decide) (by decide) (bc2 := rc123) (bs2 := rs123) hb_rc123 hs_rs123 (fun F267_ hF267_ => ?_)
  have g268_ : F267_ n = some (.inl (1, 12, .inr (.inl (fun _ => 0)))) := by rw [← hF267_]; exact ev_up_k (ev_nf g252_ (fr123 _ (Nat.le_refl _))) g252_
  have g269_ : F267_ (n + 1) = some (.inl (0, 12, .inl (fun _ => 0))) := by rw [← hF267_]; exact ev_up_k (ev_nf g253_ (fr123 _ (Nat.le_refl _))) g253_
  have g270_ : F267_ (n + 2) = some (.inl (0, 12, .inl (fun _ => 0))) := by rw [← hF267_]; exact ev_up_k (ev_nf g254_ (fr123 _ (Nat.le_refl _))) g254_
  have g271_ : F267_ (n + 3) = some (.inl (1, 144, .inr (.inl (fun _ => 0)))) := by rw [← hF267_]; exact ev_up_k (ev_nf g255_ (fr123 _ (Nat.le_refl _))) g255_
  have g272_ : F267_ (n + 4) = some (.inl (0, 80, .inl (fun _ => 0))) := by rw [← hF267_]; exact ev_up_k (ev_nf g256_ (fr123 _ (Nat.le_refl _))) g256_
  have g273_ : F267_ (n + 5) = some (.inl (0, 80, .inl (fun _ => 0))) := by rw [← hF267_]; exact ev_up_k (ev_nf g257_ (fr123 _ (Nat.le_refl _))) g257_
  have g274_ : F267_ (n + 6) = some (.inl (2, 80, .inl (fun _ => 0))) := by rw [← hF267_]; exact ev_up_k (ev_nf g258_ (fr123 _ (Nat.le_refl _))) g258_
  have g275_ : F267_ (n + 7) = some (.inl (0, 80, .inl (fun _ => 0))) := by rw [← hF267_]; exact ev_up_k (ev_nf g259_ (fr123 _ (Nat.le_refl _))) g259_
  have g276_ : F267_ (n + 8) = some (.inl (1, 960, .inr (.inl (fun _ => 0)))) := by rw [← hF267_]; exact ev_up_k (ev_nf g260_ (fr123 _ (Nat.le_refl _))) g260_
  have g277_ : F267_ (n + 9) = some (.inl (0, 520, .inl (fun _ => 0))) := by rw [← hF267_]; exact ev_up_k (ev_nf g261_ (fr123 _ (Nat.le_refl _))) g261_
  have g278_ : F267_ (n + 10) = some (.inl (1, 520, .inr (.inl (fun _ => 0)))) := by rw [← hF267_]; exact ev_up_k (ev_nf g262_ (fr123 _ (Nat.le_refl _))) g262_
  have g279_ : F267_ (n + 11) = some (.inl (2, 8, .inl (fun _ => 0))) := by rw [← hF267_]; exact ev_up_k (ev_nf g263_ (fr123 _ (Nat.le_refl _))) g263_
  have g280_ : F267_ (n + 12) = some (.inl (0, 8, .inl (fun _ => 0))) := by rw [← hF267_]; exact ev_up_k (ev_nf g264_ (fr123 _ (Nat.le_refl _))) g264_
  have g281_ : F267_ (n + 13) = some (.inl (2, 8, .inl (fun _ => 0))) := by rw [← hF267_]; exact ev_up_k (ev_nf g265_ (fr123 _ (Nat.le_refl _))) g265_
  have g282_ : F267_ r0 = some (.inr (11, [.ref n, .int ir0_drafted, .ref (n + 1), .ref (n + 2), .ref (n + 3), .int ir0_rows, .ref (n + 4), .ref (n + 5), .ref (n + 6), .ref (n + 7), .ref (n + 8), .int ir0_segments, .int ir0_stopped, .int ir0_fuse, .int ir0_written, .int ir0_tokens, .ref (n + 9), .ref (n + 10), .int ir0_height, .ref (n + 11), .ref (n + 12), .ref (n + 13), .int ir0_results, .null, .null, .int ir0_weighed, .null, .null, .null])) := by rw [← hF267_]; exact ev_up_k (ev_nf g266_ (fr123 _ (Nat.le_refl _))) g266_
  have g283_ : F267_ (n + 14) = some (.inl (0, 12, .inl (fun _ => 0))) := by rw [← hF267_]; exact ev_up_s
  refine ev_putfield (pc := 125) 23 _ d_Mo_init_125 fl_Mo_54 g282_ (ev_pfn (r0 := rC11) (ty := (.array .int)) rfl (Or.inr ⟨rfl, rfl, rfl⟩) (by decide +kernel)) rfl rfl (Nat.le_of_ble_eq_true rfl) (fun F284_ hF284_ => ?_)
  have g285_ : F284_ n = some (.inl (1, 12, .inr (.inl (fun _ => 0)))) := by rw [← hF284_]; exact ev_up_k (ev_ne_ao g268_ g282_) g268_
  have g286_ : F284_ (n + 1) = some (.inl (0, 12, .inl (fun _ => 0))) := by rw [← hF284_]; exact ev_up_k (ev_ne_ao g269_ g282_) g269_
  have g287_ : F284_ (n + 2) = some (.inl (0, 12, .inl (fun _ => 0))) := by rw [← hF284_]; exact ev_up_k (ev_ne_ao g270_ g282_) g270_
  have g288_ : F284_ (n + 3) = some (.inl (1, 144, .inr (.inl (fun _ => 0)))) := by rw [← hF284_]; exact ev_up_k (ev_ne_ao g271_ g282_) g271_
  have g289_ : F284_ (n + 4) = some (.inl (0, 80, .inl (fun _ => 0))) := by rw [← hF284_]; exact ev_up_k (ev_ne_ao g272_ g282_) g272_
  have g290_ : F284_ (n + 5) = some (.inl (0, 80, .inl (fun _ => 0))) := by rw [← hF284_]; exact ev_up_k (ev_ne_ao g273_ g282_) g273_
  have g291_ : F284_ (n + 6) = some (.inl (2, 80, .inl (fun _ => 0))) := by rw [← hF284_]; exact ev_up_k (ev_ne_ao g274_ g282_) g274_
  have g292_ : F284_ (n + 7) = some (.inl (0, 80, .inl (fun _ => 0))) := by rw [← hF284_]; exact ev_up_k (ev_ne_ao g275_ g282_) g275_
  have g293_ : F284_ (n + 8) = some (.inl (1, 960, .inr (.inl (fun _ => 0)))) := by rw [← hF284_]; exact ev_up_k (ev_ne_ao g276_ g282_) g276_
  have g294_ : F284_ (n + 9) = some (.inl (0, 520, .inl (fun _ => 0))) := by rw [← hF284_]; exact ev_up_k (ev_ne_ao g277_ g282_) g277_
  have g295_ : F284_ (n + 10) = some (.inl (1, 520, .inr (.inl (fun _ => 0)))) := by rw [← hF284_]; exact ev_up_k (ev_ne_ao g278_ g282_) g278_
  have g296_ : F284_ (n + 11) = some (.inl (2, 8, .inl (fun _ => 0))) := by rw [← hF284_]; exact ev_up_k (ev_ne_ao g279_ g282_) g279_
  have g297_ : F284_ (n + 12) = some (.inl (0, 8, .inl (fun _ => 0))) := by rw [← hF284_]; exact ev_up_k (ev_ne_ao g280_ g282_) g280_
  have g298_ : F284_ (n + 13) = some (.inl (2, 8, .inl (fun _ => 0))) := by rw [← hF284_]; exact ev_up_k (ev_ne_ao g281_ g282_) g281_
  have g299_ : F284_ (n + 14) = some (.inl (0, 12, .inl (fun _ => 0))) := by rw [← hF284_]; exact ev_up_k (ev_ne_ao g283_ g282_) g283_
  have g300_ : F284_ r0 = some (.inr (11, [.ref n, .int ir0_drafted, .ref (n + 1), .ref (n + 2), .ref (n + 3), .int ir0_rows, .ref (n + 4), .ref (n + 5), .ref (n + 6), .ref (n + 7), .ref (n + 8), .int ir0_segments, .int ir0_stopped, .int ir0_fuse, .int ir0_written, .int ir0_tokens, .ref (n + 9), .ref (n + 10), .int ir0_height, .ref (n + 11), .ref (n + 12), .ref (n + 13), .int ir0_results, .ref (n + 14), .null, .int ir0_weighed, .null, .null, .null])) := by rw [← hF284_]; exact ev_up_s
  refine ev_aload_n (pc := 128) d_Mo_init_128 rfl ?_
  refine ev_bipush (pc := 129) 12 d_Mo_init_129 (by decide) ?_
  refine ev_fresh fun fr131 => ?_
  refine ev_newarray (pc := 131) 1 12 (12, .inr (.inl (fun _ => 0))) d_Mo_init_131 wd_85 rfl rfl (fun _ _ h => h) (fun _ => rfl) (by decide) (by decide) (by decide) (bc2 := rc131) (bs2 := rs131) hb_rc131 hs_rs131 (fun F301_ hF301_ => ?_)
  have g302_ : F301_ n = some (.inl (1, 12, .inr (.inl (fun _ => 0)))) := by rw [← hF301_]; exact ev_up_k (ev_nf g285_ (fr131 _ (Nat.le_refl _))) g285_
  have g303_ : F301_ (n + 1) = some (.inl (0, 12, .inl (fun _ => 0))) := by rw [← hF301_]; exact ev_up_k (ev_nf g286_ (fr131 _ (Nat.le_refl _))) g286_
  have g304_ : F301_ (n + 2) = some (.inl (0, 12, .inl (fun _ => 0))) := by rw [← hF301_]; exact ev_up_k (ev_nf g287_ (fr131 _ (Nat.le_refl _))) g287_
  have g305_ : F301_ (n + 3) = some (.inl (1, 144, .inr (.inl (fun _ => 0)))) := by rw [← hF301_]; exact ev_up_k (ev_nf g288_ (fr131 _ (Nat.le_refl _))) g288_
  have g306_ : F301_ (n + 4) = some (.inl (0, 80, .inl (fun _ => 0))) := by rw [← hF301_]; exact ev_up_k (ev_nf g289_ (fr131 _ (Nat.le_refl _))) g289_
  have g307_ : F301_ (n + 5) = some (.inl (0, 80, .inl (fun _ => 0))) := by rw [← hF301_]; exact ev_up_k (ev_nf g290_ (fr131 _ (Nat.le_refl _))) g290_
  have g308_ : F301_ (n + 6) = some (.inl (2, 80, .inl (fun _ => 0))) := by rw [← hF301_]; exact ev_up_k (ev_nf g291_ (fr131 _ (Nat.le_refl _))) g291_
  have g309_ : F301_ (n + 7) = some (.inl (0, 80, .inl (fun _ => 0))) := by rw [← hF301_]; exact ev_up_k (ev_nf g292_ (fr131 _ (Nat.le_refl _))) g292_
  have g310_ : F301_ (n + 8) = some (.inl (1, 960, .inr (.inl (fun _ => 0)))) := by rw [← hF301_]; exact ev_up_k (ev_nf g293_ (fr131 _ (Nat.le_refl _))) g293_
  have g311_ : F301_ (n + 9) = some (.inl (0, 520, .inl (fun _ => 0))) := by rw [← hF301_]; exact ev_up_k (ev_nf g294_ (fr131 _ (Nat.le_refl _))) g294_
  have g312_ : F301_ (n + 10) = some (.inl (1, 520, .inr (.inl (fun _ => 0)))) := by rw [← hF301_]; exact ev_up_k (ev_nf g295_ (fr131 _ (Nat.le_refl _))) g295_
  have g313_ : F301_ (n + 11) = some (.inl (2, 8, .inl (fun _ => 0))) := by rw [← hF301_]; exact ev_up_k (ev_nf g296_ (fr131 _ (Nat.le_refl _))) g296_
  have g314_ : F301_ (n + 12) = some (.inl (0, 8, .inl (fun _ => 0))) := by rw [← hF301_]; exact ev_up_k (ev_nf g297_ (fr131 _ (Nat.le_refl _))) g297_
  have g315_ : F301_ (n + 13) = some (.inl (2, 8, .inl (fun _ => 0))) := by rw [← hF301_]; exact ev_up_k (ev_nf g298_ (fr131 _ (Nat.le_refl _))) g298_
  have g316_ : F301_ (n + 14) = some (.inl (0, 12, .inl (fun _ => 0))) := by rw [← hF301_]; exact ev_up_k (ev_nf g299_ (fr131 _ (Nat.le_refl _))) g299_
  have g317_ : F301_ r0 = some (.inr (11, [.ref n, .int ir0_drafted, .ref (n + 1), .ref (n + 2), .ref (n + 3), .int ir0_rows, .ref (n + 4), .ref (n + 5), .ref (n + 6), .ref (n + 7), .ref (n + 8), .int ir0_segments, .int ir0_stopped, .int ir0_fuse, .int ir0_written, .int ir0_tokens, .ref (n + 9), .ref (n + 10), .int ir0_height, .ref (n + 11), .ref (n + 12), .ref (n + 13), .int ir0_results, .ref (n + 14), .null, .int ir0_weighed, .null, .null, .null])) := by rw [← hF301_]; exact ev_up_k (ev_nf g300_ (fr131 _ (Nat.le_refl _))) g300_
  have g318_ : F301_ (n + 15) = some (.inl (1, 12, .inr (.inl (fun _ => 0)))) := by rw [← hF301_]; exact ev_up_s
  refine ev_putfield (pc := 133) 24 _ d_Mo_init_133 fl_Mo_57 g317_ (ev_pfn (r0 := rC11) (ty := (.array .long)) rfl (Or.inr ⟨rfl, rfl, rfl⟩) (by decide +kernel)) rfl rfl (Nat.le_of_ble_eq_true rfl) (fun F319_ hF319_ => ?_)
  have g320_ : F319_ n = some (.inl (1, 12, .inr (.inl (fun _ => 0)))) := by rw [← hF319_]; exact ev_up_k (ev_ne_ao g302_ g317_) g302_
  have g321_ : F319_ (n + 1) = some (.inl (0, 12, .inl (fun _ => 0))) := by rw [← hF319_]; exact ev_up_k (ev_ne_ao g303_ g317_) g303_
  have g322_ : F319_ (n + 2) = some (.inl (0, 12, .inl (fun _ => 0))) := by rw [← hF319_]; exact ev_up_k (ev_ne_ao g304_ g317_) g304_
  have g323_ : F319_ (n + 3) = some (.inl (1, 144, .inr (.inl (fun _ => 0)))) := by rw [← hF319_]; exact ev_up_k (ev_ne_ao g305_ g317_) g305_
  have g324_ : F319_ (n + 4) = some (.inl (0, 80, .inl (fun _ => 0))) := by rw [← hF319_]; exact ev_up_k (ev_ne_ao g306_ g317_) g306_
  have g325_ : F319_ (n + 5) = some (.inl (0, 80, .inl (fun _ => 0))) := by rw [← hF319_]; exact ev_up_k (ev_ne_ao g307_ g317_) g307_
  have g326_ : F319_ (n + 6) = some (.inl (2, 80, .inl (fun _ => 0))) := by rw [← hF319_]; exact ev_up_k (ev_ne_ao g308_ g317_) g308_
  have g327_ : F319_ (n + 7) = some (.inl (0, 80, .inl (fun _ => 0))) := by rw [← hF319_]; exact ev_up_k (ev_ne_ao g309_ g317_) g309_
  have g328_ : F319_ (n + 8) = some (.inl (1, 960, .inr (.inl (fun _ => 0)))) := by rw [← hF319_]; exact ev_up_k (ev_ne_ao g310_ g317_) g310_
  have g329_ : F319_ (n + 9) = some (.inl (0, 520, .inl (fun _ => 0))) := by rw [← hF319_]; exact ev_up_k (ev_ne_ao g311_ g317_) g311_
  have g330_ : F319_ (n + 10) = some (.inl (1, 520, .inr (.inl (fun _ => 0)))) := by rw [← hF319_]; exact ev_up_k (ev_ne_ao g312_ g317_) g312_
  have g331_ : F319_ (n + 11) = some (.inl (2, 8, .inl (fun _ => 0))) := by rw [← hF319_]; exact ev_up_k (ev_ne_ao g313_ g317_) g313_
  have g332_ : F319_ (n + 12) = some (.inl (0, 8, .inl (fun _ => 0))) := by rw [← hF319_]; exact ev_up_k (ev_ne_ao g314_ g317_) g314_
  have g333_ : F319_ (n + 13) = some (.inl (2, 8, .inl (fun _ => 0))) := by rw [← hF319_]; exact ev_up_k (ev_ne_ao g315_ g317_) g315_
  have g334_ : F319_ (n + 14) = some (.inl (0, 12, .inl (fun _ => 0))) := by rw [← hF319_]; exact ev_up_k (ev_ne_ao g316_ g317_) g316_
  have g335_ : F319_ (n + 15) = some (.inl (1, 12, .inr (.inl (fun _ => 0)))) := by rw [← hF319_]; exact ev_up_k (ev_ne_ao g318_ g317_) g318_
  have g336_ : F319_ r0 = some (.inr (11, [.ref n, .int ir0_drafted, .ref (n + 1), .ref (n + 2), .ref (n + 3), .int ir0_rows, .ref (n + 4), .ref (n + 5), .ref (n + 6), .ref (n + 7), .ref (n + 8), .int ir0_segments, .int ir0_stopped, .int ir0_fuse, .int ir0_written, .int ir0_tokens, .ref (n + 9), .ref (n + 10), .int ir0_height, .ref (n + 11), .ref (n + 12), .ref (n + 13), .int ir0_results, .ref (n + 14), .ref (n + 15), .int ir0_weighed, .null, .null, .null])) := by rw [← hF319_]; exact ev_up_s
  refine ev_aload_n (pc := 136) d_Mo_init_136 rfl ?_
  refine ev_bipush (pc := 137) 12 d_Mo_init_137 (by decide) ?_
  refine ev_fresh fun fr139 => ?_
  refine ev_newarray (pc := 139) 0 12 (12, .inl (fun _ => 0)) d_Mo_init_139 wd_153 rfl rfl (fun _ _ h => h) (fun _ => rfl) (by decide) (by decide) (by decide) (bc2 := rc139) (bs2 := rs139) hb_rc139 hs_rs139 (fun F337_ hF337_ => ?_)
  have g338_ : F337_ n = some (.inl (1, 12, .inr (.inl (fun _ => 0)))) := by rw [← hF337_]; exact ev_up_k (ev_nf g320_ (fr139 _ (Nat.le_refl _))) g320_
  have g339_ : F337_ (n + 1) = some (.inl (0, 12, .inl (fun _ => 0))) := by rw [← hF337_]; exact ev_up_k (ev_nf g321_ (fr139 _ (Nat.le_refl _))) g321_
  have g340_ : F337_ (n + 2) = some (.inl (0, 12, .inl (fun _ => 0))) := by rw [← hF337_]; exact ev_up_k (ev_nf g322_ (fr139 _ (Nat.le_refl _))) g322_
  have g341_ : F337_ (n + 3) = some (.inl (1, 144, .inr (.inl (fun _ => 0)))) := by rw [← hF337_]; exact ev_up_k (ev_nf g323_ (fr139 _ (Nat.le_refl _))) g323_
  have g342_ : F337_ (n + 4) = some (.inl (0, 80, .inl (fun _ => 0))) := by rw [← hF337_]; exact ev_up_k (ev_nf g324_ (fr139 _ (Nat.le_refl _))) g324_
  have g343_ : F337_ (n + 5) = some (.inl (0, 80, .inl (fun _ => 0))) := by rw [← hF337_]; exact ev_up_k (ev_nf g325_ (fr139 _ (Nat.le_refl _))) g325_
  have g344_ : F337_ (n + 6) = some (.inl (2, 80, .inl (fun _ => 0))) := by rw [← hF337_]; exact ev_up_k (ev_nf g326_ (fr139 _ (Nat.le_refl _))) g326_
  have g345_ : F337_ (n + 7) = some (.inl (0, 80, .inl (fun _ => 0))) := by rw [← hF337_]; exact ev_up_k (ev_nf g327_ (fr139 _ (Nat.le_refl _))) g327_
  have g346_ : F337_ (n + 8) = some (.inl (1, 960, .inr (.inl (fun _ => 0)))) := by rw [← hF337_]; exact ev_up_k (ev_nf g328_ (fr139 _ (Nat.le_refl _))) g328_
  have g347_ : F337_ (n + 9) = some (.inl (0, 520, .inl (fun _ => 0))) := by rw [← hF337_]; exact ev_up_k (ev_nf g329_ (fr139 _ (Nat.le_refl _))) g329_
  have g348_ : F337_ (n + 10) = some (.inl (1, 520, .inr (.inl (fun _ => 0)))) := by rw [← hF337_]; exact ev_up_k (ev_nf g330_ (fr139 _ (Nat.le_refl _))) g330_
  have g349_ : F337_ (n + 11) = some (.inl (2, 8, .inl (fun _ => 0))) := by rw [← hF337_]; exact ev_up_k (ev_nf g331_ (fr139 _ (Nat.le_refl _))) g331_
  have g350_ : F337_ (n + 12) = some (.inl (0, 8, .inl (fun _ => 0))) := by rw [← hF337_]; exact ev_up_k (ev_nf g332_ (fr139 _ (Nat.le_refl _))) g332_
  have g351_ : F337_ (n + 13) = some (.inl (2, 8, .inl (fun _ => 0))) := by rw [← hF337_]; exact ev_up_k (ev_nf g333_ (fr139 _ (Nat.le_refl _))) g333_
  have g352_ : F337_ (n + 14) = some (.inl (0, 12, .inl (fun _ => 0))) := by rw [← hF337_]; exact ev_up_k (ev_nf g334_ (fr139 _ (Nat.le_refl _))) g334_
  have g353_ : F337_ (n + 15) = some (.inl (1, 12, .inr (.inl (fun _ => 0)))) := by rw [← hF337_]; exact ev_up_k (ev_nf g335_ (fr139 _ (Nat.le_refl _))) g335_
  have g354_ : F337_ r0 = some (.inr (11, [.ref n, .int ir0_drafted, .ref (n + 1), .ref (n + 2), .ref (n + 3), .int ir0_rows, .ref (n + 4), .ref (n + 5), .ref (n + 6), .ref (n + 7), .ref (n + 8), .int ir0_segments, .int ir0_stopped, .int ir0_fuse, .int ir0_written, .int ir0_tokens, .ref (n + 9), .ref (n + 10), .int ir0_height, .ref (n + 11), .ref (n + 12), .ref (n + 13), .int ir0_results, .ref (n + 14), .ref (n + 15), .int ir0_weighed, .null, .null, .null])) := by rw [← hF337_]; exact ev_up_k (ev_nf g336_ (fr139 _ (Nat.le_refl _))) g336_
  have g355_ : F337_ (n + 16) = some (.inl (0, 12, .inl (fun _ => 0))) := by rw [← hF337_]; exact ev_up_s
  refine ev_putfield (pc := 141) 26 _ d_Mo_init_141 fl_Mo_60 g354_ (ev_pfn (r0 := rC11) (ty := (.array .int)) rfl (Or.inr ⟨rfl, rfl, rfl⟩) (by decide +kernel)) rfl rfl (Nat.le_of_ble_eq_true rfl) (fun F356_ hF356_ => ?_)
  have g357_ : F356_ n = some (.inl (1, 12, .inr (.inl (fun _ => 0)))) := by rw [← hF356_]; exact ev_up_k (ev_ne_ao g338_ g354_) g338_
  have g358_ : F356_ (n + 1) = some (.inl (0, 12, .inl (fun _ => 0))) := by rw [← hF356_]; exact ev_up_k (ev_ne_ao g339_ g354_) g339_
  have g359_ : F356_ (n + 2) = some (.inl (0, 12, .inl (fun _ => 0))) := by rw [← hF356_]; exact ev_up_k (ev_ne_ao g340_ g354_) g340_
  have g360_ : F356_ (n + 3) = some (.inl (1, 144, .inr (.inl (fun _ => 0)))) := by rw [← hF356_]; exact ev_up_k (ev_ne_ao g341_ g354_) g341_
  have g361_ : F356_ (n + 4) = some (.inl (0, 80, .inl (fun _ => 0))) := by rw [← hF356_]; exact ev_up_k (ev_ne_ao g342_ g354_) g342_
  have g362_ : F356_ (n + 5) = some (.inl (0, 80, .inl (fun _ => 0))) := by rw [← hF356_]; exact ev_up_k (ev_ne_ao g343_ g354_) g343_
  have g363_ : F356_ (n + 6) = some (.inl (2, 80, .inl (fun _ => 0))) := by rw [← hF356_]; exact ev_up_k (ev_ne_ao g344_ g354_) g344_
  have g364_ : F356_ (n + 7) = some (.inl (0, 80, .inl (fun _ => 0))) := by rw [← hF356_]; exact ev_up_k (ev_ne_ao g345_ g354_) g345_
  have g365_ : F356_ (n + 8) = some (.inl (1, 960, .inr (.inl (fun _ => 0)))) := by rw [← hF356_]; exact ev_up_k (ev_ne_ao g346_ g354_) g346_
  have g366_ : F356_ (n + 9) = some (.inl (0, 520, .inl (fun _ => 0))) := by rw [← hF356_]; exact ev_up_k (ev_ne_ao g347_ g354_) g347_
  have g367_ : F356_ (n + 10) = some (.inl (1, 520, .inr (.inl (fun _ => 0)))) := by rw [← hF356_]; exact ev_up_k (ev_ne_ao g348_ g354_) g348_
  have g368_ : F356_ (n + 11) = some (.inl (2, 8, .inl (fun _ => 0))) := by rw [← hF356_]; exact ev_up_k (ev_ne_ao g349_ g354_) g349_
  have g369_ : F356_ (n + 12) = some (.inl (0, 8, .inl (fun _ => 0))) := by rw [← hF356_]; exact ev_up_k (ev_ne_ao g350_ g354_) g350_
  have g370_ : F356_ (n + 13) = some (.inl (2, 8, .inl (fun _ => 0))) := by rw [← hF356_]; exact ev_up_k (ev_ne_ao g351_ g354_) g351_
  have g371_ : F356_ (n + 14) = some (.inl (0, 12, .inl (fun _ => 0))) := by rw [← hF356_]; exact ev_up_k (ev_ne_ao g352_ g354_) g352_
  have g372_ : F356_ (n + 15) = some (.inl (1, 12, .inr (.inl (fun _ => 0)))) := by rw [← hF356_]; exact ev_up_k (ev_ne_ao g353_ g354_) g353_
  have g373_ : F356_ (n + 16) = some (.inl (0, 12, .inl (fun _ => 0))) := by rw [← hF356_]; exact ev_up_k (ev_ne_ao g355_ g354_) g355_
  have g374_ : F356_ r0 = some (.inr (11, [.ref n, .int ir0_drafted, .ref (n + 1), .ref (n + 2), .ref (n + 3), .int ir0_rows, .ref (n + 4), .ref (n + 5), .ref (n + 6), .ref (n + 7), .ref (n + 8), .int ir0_segments, .int ir0_stopped, .int ir0_fuse, .int ir0_written, .int ir0_tokens, .ref (n + 9), .ref (n + 10), .int ir0_height, .ref (n + 11), .ref (n + 12), .ref (n + 13), .int ir0_results, .ref (n + 14), .ref (n + 15), .int ir0_weighed, .ref (n + 16), .null, .null])) := by rw [← hF356_]; exact ev_up_s
  refine ev_aload_n (pc := 144) d_Mo_init_144 rfl ?_
  refine ev_bipush (pc := 145) 12 d_Mo_init_145 (by decide) ?_
  refine ev_fresh fun fr147 => ?_
  refine ev_newarray (pc := 147) 1 12 (12, .inr (.inl (fun _ => 0))) d_Mo_init_147 wd_85 rfl rfl (fun _ _ h => h) (fun _ => rfl) (by decide) (by decide) (by decide) (bc2 := rc147) (bs2 := rs147) hb_rc147 hs_rs147 (fun F375_ hF375_ => ?_)
  have g376_ : F375_ n = some (.inl (1, 12, .inr (.inl (fun _ => 0)))) := by rw [← hF375_]; exact ev_up_k (ev_nf g357_ (fr147 _ (Nat.le_refl _))) g357_
  have g377_ : F375_ (n + 1) = some (.inl (0, 12, .inl (fun _ => 0))) := by rw [← hF375_]; exact ev_up_k (ev_nf g358_ (fr147 _ (Nat.le_refl _))) g358_
  have g378_ : F375_ (n + 2) = some (.inl (0, 12, .inl (fun _ => 0))) := by rw [← hF375_]; exact ev_up_k (ev_nf g359_ (fr147 _ (Nat.le_refl _))) g359_
  have g379_ : F375_ (n + 3) = some (.inl (1, 144, .inr (.inl (fun _ => 0)))) := by rw [← hF375_]; exact ev_up_k (ev_nf g360_ (fr147 _ (Nat.le_refl _))) g360_
  have g380_ : F375_ (n + 4) = some (.inl (0, 80, .inl (fun _ => 0))) := by rw [← hF375_]; exact ev_up_k (ev_nf g361_ (fr147 _ (Nat.le_refl _))) g361_
  have g381_ : F375_ (n + 5) = some (.inl (0, 80, .inl (fun _ => 0))) := by rw [← hF375_]; exact ev_up_k (ev_nf g362_ (fr147 _ (Nat.le_refl _))) g362_
  have g382_ : F375_ (n + 6) = some (.inl (2, 80, .inl (fun _ => 0))) := by rw [← hF375_]; exact ev_up_k (ev_nf g363_ (fr147 _ (Nat.le_refl _))) g363_
  have g383_ : F375_ (n + 7) = some (.inl (0, 80, .inl (fun _ => 0))) := by rw [← hF375_]; exact ev_up_k (ev_nf g364_ (fr147 _ (Nat.le_refl _))) g364_
  have g384_ : F375_ (n + 8) = some (.inl (1, 960, .inr (.inl (fun _ => 0)))) := by rw [← hF375_]; exact ev_up_k (ev_nf g365_ (fr147 _ (Nat.le_refl _))) g365_
  have g385_ : F375_ (n + 9) = some (.inl (0, 520, .inl (fun _ => 0))) := by rw [← hF375_]; exact ev_up_k (ev_nf g366_ (fr147 _ (Nat.le_refl _))) g366_
  have g386_ : F375_ (n + 10) = some (.inl (1, 520, .inr (.inl (fun _ => 0)))) := by rw [← hF375_]; exact ev_up_k (ev_nf g367_ (fr147 _ (Nat.le_refl _))) g367_
  have g387_ : F375_ (n + 11) = some (.inl (2, 8, .inl (fun _ => 0))) := by rw [← hF375_]; exact ev_up_k (ev_nf g368_ (fr147 _ (Nat.le_refl _))) g368_
  have g388_ : F375_ (n + 12) = some (.inl (0, 8, .inl (fun _ => 0))) := by rw [← hF375_]; exact ev_up_k (ev_nf g369_ (fr147 _ (Nat.le_refl _))) g369_
  have g389_ : F375_ (n + 13) = some (.inl (2, 8, .inl (fun _ => 0))) := by rw [← hF375_]; exact ev_up_k (ev_nf g370_ (fr147 _ (Nat.le_refl _))) g370_
  have g390_ : F375_ (n + 14) = some (.inl (0, 12, .inl (fun _ => 0))) := by rw [← hF375_]; exact ev_up_k (ev_nf g371_ (fr147 _ (Nat.le_refl _))) g371_
  have g391_ : F375_ (n + 15) = some (.inl (1, 12, .inr (.inl (fun _ => 0)))) := by rw [← hF375_]; exact ev_up_k (ev_nf g372_ (fr147 _ (Nat.le_refl _))) g372_
  have g392_ : F375_ (n + 16) = some (.inl (0, 12, .inl (fun _ => 0))) := by rw [← hF375_]; exact ev_up_k (ev_nf g373_ (fr147 _ (Nat.le_refl _))) g373_
  have g393_ : F375_ r0 = some (.inr (11, [.ref n, .int ir0_drafted, .ref (n + 1), .ref (n + 2), .ref (n + 3), .int ir0_rows, .ref (n + 4), .ref (n + 5), .ref (n + 6), .ref (n + 7), .ref (n + 8), .int ir0_segments, .int ir0_stopped, .int ir0_fuse, .int ir0_written, .int ir0_tokens, .ref (n + 9), .ref (n + 10), .int ir0_height, .ref (n + 11), .ref (n + 12), .ref (n + 13), .int ir0_results, .ref (n + 14), .ref (n + 15), .int ir0_weighed, .ref (n + 16), .null, .null])) := by rw [← hF375_]; exact ev_up_k (ev_nf g374_ (fr147 _ (Nat.le_refl _))) g374_
  have g394_ : F375_ (n + 17) = some (.inl (1, 12, .inr (.inl (fun _ => 0)))) := by rw [← hF375_]; exact ev_up_s
  refine ev_putfield (pc := 149) 27 _ d_Mo_init_149 fl_Mo_63 g393_ (ev_pfn (r0 := rC11) (ty := (.array .long)) rfl (Or.inr ⟨rfl, rfl, rfl⟩) (by decide +kernel)) rfl rfl (Nat.le_of_ble_eq_true rfl) (fun F395_ hF395_ => ?_)
  have g396_ : F395_ n = some (.inl (1, 12, .inr (.inl (fun _ => 0)))) := by rw [← hF395_]; exact ev_up_k (ev_ne_ao g376_ g393_) g376_
  have g397_ : F395_ (n + 1) = some (.inl (0, 12, .inl (fun _ => 0))) := by rw [← hF395_]; exact ev_up_k (ev_ne_ao g377_ g393_) g377_
  have g398_ : F395_ (n + 2) = some (.inl (0, 12, .inl (fun _ => 0))) := by rw [← hF395_]; exact ev_up_k (ev_ne_ao g378_ g393_) g378_
  have g399_ : F395_ (n + 3) = some (.inl (1, 144, .inr (.inl (fun _ => 0)))) := by rw [← hF395_]; exact ev_up_k (ev_ne_ao g379_ g393_) g379_
  have g400_ : F395_ (n + 4) = some (.inl (0, 80, .inl (fun _ => 0))) := by rw [← hF395_]; exact ev_up_k (ev_ne_ao g380_ g393_) g380_
  have g401_ : F395_ (n + 5) = some (.inl (0, 80, .inl (fun _ => 0))) := by rw [← hF395_]; exact ev_up_k (ev_ne_ao g381_ g393_) g381_
  have g402_ : F395_ (n + 6) = some (.inl (2, 80, .inl (fun _ => 0))) := by rw [← hF395_]; exact ev_up_k (ev_ne_ao g382_ g393_) g382_
  have g403_ : F395_ (n + 7) = some (.inl (0, 80, .inl (fun _ => 0))) := by rw [← hF395_]; exact ev_up_k (ev_ne_ao g383_ g393_) g383_
  have g404_ : F395_ (n + 8) = some (.inl (1, 960, .inr (.inl (fun _ => 0)))) := by rw [← hF395_]; exact ev_up_k (ev_ne_ao g384_ g393_) g384_
  have g405_ : F395_ (n + 9) = some (.inl (0, 520, .inl (fun _ => 0))) := by rw [← hF395_]; exact ev_up_k (ev_ne_ao g385_ g393_) g385_
  have g406_ : F395_ (n + 10) = some (.inl (1, 520, .inr (.inl (fun _ => 0)))) := by rw [← hF395_]; exact ev_up_k (ev_ne_ao g386_ g393_) g386_
  have g407_ : F395_ (n + 11) = some (.inl (2, 8, .inl (fun _ => 0))) := by rw [← hF395_]; exact ev_up_k (ev_ne_ao g387_ g393_) g387_
  have g408_ : F395_ (n + 12) = some (.inl (0, 8, .inl (fun _ => 0))) := by rw [← hF395_]; exact ev_up_k (ev_ne_ao g388_ g393_) g388_
  have g409_ : F395_ (n + 13) = some (.inl (2, 8, .inl (fun _ => 0))) := by rw [← hF395_]; exact ev_up_k (ev_ne_ao g389_ g393_) g389_
  have g410_ : F395_ (n + 14) = some (.inl (0, 12, .inl (fun _ => 0))) := by rw [← hF395_]; exact ev_up_k (ev_ne_ao g390_ g393_) g390_
  have g411_ : F395_ (n + 15) = some (.inl (1, 12, .inr (.inl (fun _ => 0)))) := by rw [← hF395_]; exact ev_up_k (ev_ne_ao g391_ g393_) g391_
  have g412_ : F395_ (n + 16) = some (.inl (0, 12, .inl (fun _ => 0))) := by rw [← hF395_]; exact ev_up_k (ev_ne_ao g392_ g393_) g392_
  have g413_ : F395_ (n + 17) = some (.inl (1, 12, .inr (.inl (fun _ => 0)))) := by rw [← hF395_]; exact ev_up_k (ev_ne_ao g394_ g393_) g394_
  have g414_ : F395_ r0 = some (.inr (11, [.ref n, .int ir0_drafted, .ref (n + 1), .ref (n + 2), .ref (n + 3), .int ir0_rows, .ref (n + 4), .ref (n + 5), .ref (n + 6), .ref (n + 7), .ref (n + 8), .int ir0_segments, .int ir0_stopped, .int ir0_fuse, .int ir0_written, .int ir0_tokens, .ref (n + 9), .ref (n + 10), .int ir0_height, .ref (n + 11), .ref (n + 12), .ref (n + 13), .int ir0_results, .ref (n + 14), .ref (n + 15), .int ir0_weighed, .ref (n + 16), .ref (n + 17), .null])) := by rw [← hF395_]; exact ev_up_s
  refine ev_aload_n (pc := 152) d_Mo_init_152 rfl ?_
  refine ev_bipush (pc := 153) 12 d_Mo_init_153 (by decide) ?_
  refine ev_fresh fun fr155 => ?_
  refine ev_newarray (pc := 155) 2 12 (12, .inl (fun _ => 0)) d_Mo_init_155 wd_52 rfl rfl (fun _ _ h => h) (fun _ => rfl) (by decide) (by decide) (by decide) (bc2 := rc155) (bs2 := rs155) hb_rc155 hs_rs155 (fun F415_ hF415_ => ?_)
  have g416_ : F415_ n = some (.inl (1, 12, .inr (.inl (fun _ => 0)))) := by rw [← hF415_]; exact ev_up_k (ev_nf g396_ (fr155 _ (Nat.le_refl _))) g396_
  have g417_ : F415_ (n + 1) = some (.inl (0, 12, .inl (fun _ => 0))) := by rw [← hF415_]; exact ev_up_k (ev_nf g397_ (fr155 _ (Nat.le_refl _))) g397_
  have g418_ : F415_ (n + 2) = some (.inl (0, 12, .inl (fun _ => 0))) := by rw [← hF415_]; exact ev_up_k (ev_nf g398_ (fr155 _ (Nat.le_refl _))) g398_
  have g419_ : F415_ (n + 3) = some (.inl (1, 144, .inr (.inl (fun _ => 0)))) := by rw [← hF415_]; exact ev_up_k (ev_nf g399_ (fr155 _ (Nat.le_refl _))) g399_
  have g420_ : F415_ (n + 4) = some (.inl (0, 80, .inl (fun _ => 0))) := by rw [← hF415_]; exact ev_up_k (ev_nf g400_ (fr155 _ (Nat.le_refl _))) g400_
  have g421_ : F415_ (n + 5) = some (.inl (0, 80, .inl (fun _ => 0))) := by rw [← hF415_]; exact ev_up_k (ev_nf g401_ (fr155 _ (Nat.le_refl _))) g401_
  have g422_ : F415_ (n + 6) = some (.inl (2, 80, .inl (fun _ => 0))) := by rw [← hF415_]; exact ev_up_k (ev_nf g402_ (fr155 _ (Nat.le_refl _))) g402_
  have g423_ : F415_ (n + 7) = some (.inl (0, 80, .inl (fun _ => 0))) := by rw [← hF415_]; exact ev_up_k (ev_nf g403_ (fr155 _ (Nat.le_refl _))) g403_
  have g424_ : F415_ (n + 8) = some (.inl (1, 960, .inr (.inl (fun _ => 0)))) := by rw [← hF415_]; exact ev_up_k (ev_nf g404_ (fr155 _ (Nat.le_refl _))) g404_
  have g425_ : F415_ (n + 9) = some (.inl (0, 520, .inl (fun _ => 0))) := by rw [← hF415_]; exact ev_up_k (ev_nf g405_ (fr155 _ (Nat.le_refl _))) g405_
  have g426_ : F415_ (n + 10) = some (.inl (1, 520, .inr (.inl (fun _ => 0)))) := by rw [← hF415_]; exact ev_up_k (ev_nf g406_ (fr155 _ (Nat.le_refl _))) g406_
  have g427_ : F415_ (n + 11) = some (.inl (2, 8, .inl (fun _ => 0))) := by rw [← hF415_]; exact ev_up_k (ev_nf g407_ (fr155 _ (Nat.le_refl _))) g407_
  have g428_ : F415_ (n + 12) = some (.inl (0, 8, .inl (fun _ => 0))) := by rw [← hF415_]; exact ev_up_k (ev_nf g408_ (fr155 _ (Nat.le_refl _))) g408_
  have g429_ : F415_ (n + 13) = some (.inl (2, 8, .inl (fun _ => 0))) := by rw [← hF415_]; exact ev_up_k (ev_nf g409_ (fr155 _ (Nat.le_refl _))) g409_
  have g430_ : F415_ (n + 14) = some (.inl (0, 12, .inl (fun _ => 0))) := by rw [← hF415_]; exact ev_up_k (ev_nf g410_ (fr155 _ (Nat.le_refl _))) g410_
  have g431_ : F415_ (n + 15) = some (.inl (1, 12, .inr (.inl (fun _ => 0)))) := by rw [← hF415_]; exact ev_up_k (ev_nf g411_ (fr155 _ (Nat.le_refl _))) g411_
  have g432_ : F415_ (n + 16) = some (.inl (0, 12, .inl (fun _ => 0))) := by rw [← hF415_]; exact ev_up_k (ev_nf g412_ (fr155 _ (Nat.le_refl _))) g412_
  have g433_ : F415_ (n + 17) = some (.inl (1, 12, .inr (.inl (fun _ => 0)))) := by rw [← hF415_]; exact ev_up_k (ev_nf g413_ (fr155 _ (Nat.le_refl _))) g413_
  have g434_ : F415_ r0 = some (.inr (11, [.ref n, .int ir0_drafted, .ref (n + 1), .ref (n + 2), .ref (n + 3), .int ir0_rows, .ref (n + 4), .ref (n + 5), .ref (n + 6), .ref (n + 7), .ref (n + 8), .int ir0_segments, .int ir0_stopped, .int ir0_fuse, .int ir0_written, .int ir0_tokens, .ref (n + 9), .ref (n + 10), .int ir0_height, .ref (n + 11), .ref (n + 12), .ref (n + 13), .int ir0_results, .ref (n + 14), .ref (n + 15), .int ir0_weighed, .ref (n + 16), .ref (n + 17), .null])) := by rw [← hF415_]; exact ev_up_k (ev_nf g414_ (fr155 _ (Nat.le_refl _))) g414_
  have g435_ : F415_ (n + 18) = some (.inl (2, 12, .inl (fun _ => 0))) := by rw [← hF415_]; exact ev_up_s
  refine ev_putfield (pc := 157) 28 _ d_Mo_init_157 fl_Mo_66 g434_ (ev_pfn (r0 := rC11) (ty := (.array .boolean)) rfl (Or.inr ⟨rfl, rfl, rfl⟩) (by decide +kernel)) rfl rfl (Nat.le_of_ble_eq_true rfl) (fun F436_ hF436_ => ?_)
  have g437_ : F436_ n = some (.inl (1, 12, .inr (.inl (fun _ => 0)))) := by rw [← hF436_]; exact ev_up_k (ev_ne_ao g416_ g434_) g416_
  have g438_ : F436_ (n + 1) = some (.inl (0, 12, .inl (fun _ => 0))) := by rw [← hF436_]; exact ev_up_k (ev_ne_ao g417_ g434_) g417_
  have g439_ : F436_ (n + 2) = some (.inl (0, 12, .inl (fun _ => 0))) := by rw [← hF436_]; exact ev_up_k (ev_ne_ao g418_ g434_) g418_
  have g440_ : F436_ (n + 3) = some (.inl (1, 144, .inr (.inl (fun _ => 0)))) := by rw [← hF436_]; exact ev_up_k (ev_ne_ao g419_ g434_) g419_
  have g441_ : F436_ (n + 4) = some (.inl (0, 80, .inl (fun _ => 0))) := by rw [← hF436_]; exact ev_up_k (ev_ne_ao g420_ g434_) g420_
  have g442_ : F436_ (n + 5) = some (.inl (0, 80, .inl (fun _ => 0))) := by rw [← hF436_]; exact ev_up_k (ev_ne_ao g421_ g434_) g421_
  have g443_ : F436_ (n + 6) = some (.inl (2, 80, .inl (fun _ => 0))) := by rw [← hF436_]; exact ev_up_k (ev_ne_ao g422_ g434_) g422_
  have g444_ : F436_ (n + 7) = some (.inl (0, 80, .inl (fun _ => 0))) := by rw [← hF436_]; exact ev_up_k (ev_ne_ao g423_ g434_) g423_
  have g445_ : F436_ (n + 8) = some (.inl (1, 960, .inr (.inl (fun _ => 0)))) := by rw [← hF436_]; exact ev_up_k (ev_ne_ao g424_ g434_) g424_
  have g446_ : F436_ (n + 9) = some (.inl (0, 520, .inl (fun _ => 0))) := by rw [← hF436_]; exact ev_up_k (ev_ne_ao g425_ g434_) g425_
  have g447_ : F436_ (n + 10) = some (.inl (1, 520, .inr (.inl (fun _ => 0)))) := by rw [← hF436_]; exact ev_up_k (ev_ne_ao g426_ g434_) g426_
  have g448_ : F436_ (n + 11) = some (.inl (2, 8, .inl (fun _ => 0))) := by rw [← hF436_]; exact ev_up_k (ev_ne_ao g427_ g434_) g427_
  have g449_ : F436_ (n + 12) = some (.inl (0, 8, .inl (fun _ => 0))) := by rw [← hF436_]; exact ev_up_k (ev_ne_ao g428_ g434_) g428_
  have g450_ : F436_ (n + 13) = some (.inl (2, 8, .inl (fun _ => 0))) := by rw [← hF436_]; exact ev_up_k (ev_ne_ao g429_ g434_) g429_
  have g451_ : F436_ (n + 14) = some (.inl (0, 12, .inl (fun _ => 0))) := by rw [← hF436_]; exact ev_up_k (ev_ne_ao g430_ g434_) g430_
  have g452_ : F436_ (n + 15) = some (.inl (1, 12, .inr (.inl (fun _ => 0)))) := by rw [← hF436_]; exact ev_up_k (ev_ne_ao g431_ g434_) g431_
  have g453_ : F436_ (n + 16) = some (.inl (0, 12, .inl (fun _ => 0))) := by rw [← hF436_]; exact ev_up_k (ev_ne_ao g432_ g434_) g432_
  have g454_ : F436_ (n + 17) = some (.inl (1, 12, .inr (.inl (fun _ => 0)))) := by rw [← hF436_]; exact ev_up_k (ev_ne_ao g433_ g434_) g433_
  have g455_ : F436_ (n + 18) = some (.inl (2, 12, .inl (fun _ => 0))) := by rw [← hF436_]; exact ev_up_k (ev_ne_ao g435_ g434_) g435_
  have g456_ : F436_ r0 = some (.inr (11, [.ref n, .int ir0_drafted, .ref (n + 1), .ref (n + 2), .ref (n + 3), .int ir0_rows, .ref (n + 4), .ref (n + 5), .ref (n + 6), .ref (n + 7), .ref (n + 8), .int ir0_segments, .int ir0_stopped, .int ir0_fuse, .int ir0_written, .int ir0_tokens, .ref (n + 9), .ref (n + 10), .int ir0_height, .ref (n + 11), .ref (n + 12), .ref (n + 13), .int ir0_results, .ref (n + 14), .ref (n + 15), .int ir0_weighed, .ref (n + 16), .ref (n + 17), .ref (n + 18)])) := by rw [← hF436_]; exact ev_up_s
  exact ev_return (pc := 160) d_Mo_init_160 rfl (by subst hF1_ hF4_ hF7_ hF11_ hF15_ hF20_ hF25_ hF31_ hF37_ hF44_ hF51_ hF59_ hF67_ hF76_ hF85_ hF95_ hF105_ hF116_ hF127_ hF139_ hF151_ hF164_ hF177_ hF191_ hF205_ hF220_ hF235_ hF251_ hF267_ hF284_ hF301_ hF319_ hF337_ hF356_ hF375_ hF395_ hF415_ hF436_; exact q160_0)
set_option maxRecDepth 100000 in
set_option maxHeartbeats 4000000 in
theorem s_Ra_weighTermN_132 {l : Launch} {X : ev_X} {bc bs n : Nat} {F : ev_H} {Q : Option Value → Nat → ev_H → Prop} {r0 : Nat} {i1 : Int32} {j2 : Int64} {r4 : Nat} {i5 : Int32} {i6 : Int32} {i7 : Int32} {r8 : Nat} {i9 : Int32} {i10 : Int32} {rs0 : Nat} {is1 : Int32} {is2 : Int32} {rs0_n : Nat} {rs0_f : Nat → Int32} {ir0_termCount : Int32} {ir0_weighedCount : Int32} {r0p10_f : Nat → Int32} {r0p1_f : Nat → Option Nat} (h_rs0 : F rs0 = some (.inl (0, rs0_n, .inl rs0_f))) (h_r0 : F r0 = some (.inr (6, [.ref (r0 + 1), .ref (r0 + 10), .int ir0_termCount, .int ir0_weighedCount]))) (h_r0p10 : F (r0 + 10) = some (.inl (0, 8, .inl r0p10_f))) (ne_r0p10_rs0 : (r0 + 10) ≠ rs0) (h_r0p1 : F (r0 + 1) = some (.inl (6, 8, .inr (.inr (.inr (.inr r0p1_f)))))) (ne_rs0_r0p10 : rs0 ≠ (r0 + 10))
    (in132_0 : vp_in is1 rs0_n)
    (in143_1 : vp_in i1 8)
    (in149_2 : vp_in i1 8)
    (e149_3 : r0p1_f i1.toNatClampNeg = some rs0)
    (in152_4 : vp_in i7 rs0_n)
    (in156_5 : vp_in i1 8)
    (k26_6 : Ev l X M_Ra_weighTerm bc bs 26 [(0, .ref r0), (1, .int i1), (2, .long j2), (4, .ref r4), (5, .int i5), (6, .int i6), (7, .int (i7 + 1))] [] n (ev_up (ev_up F rs0 (.inl (0, rs0_n, .inl (upd rs0_f is1.toNatClampNeg is2)))) (r0 + 10) (.inl (0, 8, .inl (upd r0p10_f i1.toNatClampNeg (if (r0p10_f i1.toNatClampNeg) < ((upd rs0_f is1.toNatClampNeg is2) i7.toNatClampNeg) then (upd rs0_f is1.toNatClampNeg is2) i7.toNatClampNeg else r0p10_f i1.toNatClampNeg))))) (ev_mq X Q)) :
    Ev l X M_Ra_weighTerm bc bs 132 [(0, .ref r0), (1, .int i1), (2, .long j2), (4, .ref r4), (5, .int i5), (6, .int i6), (7, .int i7), (8, .ref r8), (9, .int i9), (10, .int i10)] [.int is2, .int is1, .ref rs0] n F (ev_mq X Q) := by
  refine ev_iastore (pc := 132) d_Ra_weighTerm_132 h_rs0 rfl in132_0 (fun F1_ hF1_ => ?_)
  have g2_ : F1_ rs0 = some (.inl (0, rs0_n, .inl (upd rs0_f is1.toNatClampNeg is2))) := by rw [← hF1_]; exact ev_up_s
  refine ev_aload_n (pc := 133) d_Ra_weighTerm_133 rfl ?_
  have g3_ : F1_ r0 = some (.inr (6, [.ref (r0 + 1), .ref (r0 + 10), .int ir0_termCount, .int ir0_weighedCount])) := by rw [← hF1_]; exact ev_up_k (ev_ne_oa h_r0 h_rs0) h_r0
  refine ev_getfield (pc := 134) 1 d_Ra_weighTerm_134 fl_Ra_16 g3_ rfl ?_
  refine ev_iload_n (pc := 137) d_Ra_weighTerm_137 rfl ?_
  refine ev_aload_n (pc := 138) d_Ra_weighTerm_138 rfl ?_
  refine ev_getfield (pc := 139) 1 d_Ra_weighTerm_139 fl_Ra_16 g3_ rfl ?_
  refine ev_iload_n (pc := 142) d_Ra_weighTerm_142 rfl ?_
  have g4_ : F1_ (r0 + 10) = some (.inl (0, 8, .inl r0p10_f)) := by rw [← hF1_]; exact ev_up_k ne_r0p10_rs0 h_r0p10
  refine ev_iaload (pc := 143) d_Ra_weighTerm_143 g4_ rfl in143_1 ?_
  refine ev_aload_n (pc := 144) d_Ra_weighTerm_144 rfl ?_
  refine ev_getfield (pc := 145) 0 d_Ra_weighTerm_145 fl_Ra_11 g3_ rfl ?_
  refine ev_iload_n (pc := 148) d_Ra_weighTerm_148 rfl ?_
  have g5_ : F1_ (r0 + 1) = some (.inl (6, 8, .inr (.inr (.inr (.inr r0p1_f))))) := by rw [← hF1_]; exact ev_up_k (ev_ne_aa h_r0p1 h_rs0 rfl) h_r0p1
  refine ev_aaload (pc := 149) d_Ra_weighTerm_149 g5_ rfl rfl in149_2 ?_
  refine ev_rf e149_3 ?_
  refine ev_iload (pc := 150) d_Ra_weighTerm_150 rfl ?_
  refine ev_iaload (pc := 152) d_Ra_weighTerm_152 g2_ rfl in152_4 ?_
  refine ev_mmax (pc := 153) d_Ra_weighTerm_153 wd_827 wd_275 wd_15 wd_276 (Nat.le_of_ble_eq_true rfl) (Nat.le_of_ble_eq_true rfl) ?_
  refine ev_iastore (pc := 156) d_Ra_weighTerm_156 g4_ rfl in156_5 (fun F6_ hF6_ => ?_)
  have g7_ : F6_ rs0 = some (.inl (0, rs0_n, .inl (upd rs0_f is1.toNatClampNeg is2))) := by rw [← hF6_]; exact ev_up_k ne_rs0_r0p10 g2_
  have g8_ : F6_ r0 = some (.inr (6, [.ref (r0 + 1), .ref (r0 + 10), .int ir0_termCount, .int ir0_weighedCount])) := by rw [← hF6_]; exact ev_up_k (ev_ne_oa g3_ g4_) g3_
  have g9_ : F6_ (r0 + 1) = some (.inl (6, 8, .inr (.inr (.inr (.inr r0p1_f))))) := by rw [← hF6_]; exact ev_up_k (ev_ne_aa g5_ g4_ rfl) g5_
  have g10_ : F6_ (r0 + 10) = some (.inl (0, 8, .inl (upd r0p10_f i1.toNatClampNeg (if (r0p10_f i1.toNatClampNeg) < ((upd rs0_f is1.toNatClampNeg is2) i7.toNatClampNeg) then (upd rs0_f is1.toNatClampNeg is2) i7.toNatClampNeg else r0p10_f i1.toNatClampNeg)))) := by rw [← hF6_]; exact ev_up_s
  refine ev_iinc (pc := 157) 6 1 d_Ra_weighTerm_157 rfl (by decide) (Nat.le_of_ble_eq_true rfl) [1, 2, 3, 4, 5, 6, 0, 7, 8, 9] rfl ?_
  refine ev_goto (pc := 160) 26 d_Ra_weighTerm_160 (by decide) ?_
  exact Ev.sub [0, 1, 2, 3, 4, 5, 6] rfl (by subst hF1_ hF6_; exact k26_6)

